/-! a part of the text, read by the model -/
theorem frS_bit (D m c i : Nat) : (frS D m c).testBit i = (decide (i < D) && !m.testBit i && !decide (c = i)) := by
  unfold frS
  rw [clrB_bit, dif_bit, Nat.testBit_two_pow_sub_one]
theorem or_full {D m c : Nat} (hm : m < 2 ^ D) (hc : c < D) : m ||| 2 ^ c = 2 ^ D - 1 ↔ frS D m c = 0 := by
  constructor
  · intro h
    apply Nat.eq_of_testBit_eq
    intro i
    rw [frS_bit, Nat.zero_testBit]
    by_cases hi : i < D
    · have := congrArg (fun x => Nat.testBit x i) h
      simp only [Nat.testBit_or, Nat.testBit_two_pow_sub_one, Nat.testBit_two_pow] at this
      rw [decide_eq_true hi] at this
      by_cases e : c = i
      · simp [e]
      · simp [e] at this
        simp [this]
    · simp [hi]
  · intro h
    apply Nat.eq_of_testBit_eq
    intro i
    have := congrArg (fun x => Nat.testBit x i) h
    simp only [frS_bit, Nat.zero_testBit] at this
    rw [Nat.testBit_or, Nat.testBit_two_pow_sub_one, Nat.testBit_two_pow]
    by_cases hi : i < D
    · simp [hi] at this
      by_cases e : c = i
      · simp [e, hi]
      · have : m.testBit i = true := by
          cases hb : m.testBit i
          · exact absurd (this hb) e
          · rfl
        simp [this, hi]
    · have h1 : m.testBit i = false := Nat.testBit_lt_two_pow (Nat.lt_of_lt_of_le hm (Nat.pow_le_pow_right (by decide) (by omega)))
      have h2 : c ≠ i := by omega
      simp [h1, h2, hi]
theorem ex_bit {s : Nat} (h : s ≠ 0) : ∃ i, s.testBit i = true := by
  refine Classical.byContradiction fun hn => h ?_
  apply Nat.eq_of_testBit_eq
  intro i
  rw [Nat.zero_testBit]
  cases hb : s.testBit i
  · rfl
  · exact absurd ⟨i, hb⟩ hn
def RTV (σ : ZS) (T : TD) : Prop := zI σ 56 4 = nI (tD T) ∧ tD T ≤ 12 ∧ zI σ 56 5 = nI (tS T) ∧ tS T ≤ 4 ∧ (∀ k, k < tD T → zI σ 57 k = nI (tN T k)) ∧ (∀ k, k < tD T → zI σ 58 k = nI (tE T k) ∧ tE T k < 2 ^ tD T) ∧ (∀ k, k < tS T → zI σ 60 k = nI (tL T k) ∧ tL T k ≤ 6) ∧ (∀ k i, k < tS T → i < tL T k → zI σ 59 (6 * k + i) = nI (tG T (6 * k + i)))
theorem room_fs {T : TD} (h : ∀ k, k < tD T → tE T k < 2 ^ tD T) : fsS (tD T) (tE T) = 0 ↔ roomS T = false := by
  unfold roomS
  have e : anyB (fun a => decide (tE T a ||| 2 ^ a ≠ 2 ^ tD T - 1)) (tD T) = false ↔ ¬ ∃ k, k < tD T ∧ decide (tE T k ||| 2 ^ k ≠ 2 ^ tD T - 1) = true := by
    rw [← anyB_iff]
    simp
  rw [e]
  constructor
  · rintro h0 ⟨k, hk, h2⟩
    have := congrArg (fun x => Nat.testBit x k) h0
    simp only [fsS, stS_bit, Nat.zero_testBit] at this
    have h3 : tE T k ||| 2 ^ k ≠ 2 ^ tD T - 1 := of_decide_eq_true h2
    rw [Ne, or_full (h k hk) hk] at h3
    simp [hk, h3] at this
  · intro hn
    refine Classical.byContradiction fun h0 => hn ?_
    obtain ⟨k, hk⟩ := ex_bit h0
    simp only [fsS, stS_bit] at hk
    rw [Bool.and_eq_true, decide_eq_true_iff, decide_eq_true_iff] at hk
    refine ⟨k, hk.1, decide_eq_true ?_⟩
    rw [Ne, or_full (h k hk.1) hk.1]
    exact hk.2
def RQ (σ τ : ZS) : Prop := zd τ = zd σ ∧ zR τ = zR σ ∧ zJ τ = zJ σ ∧ (∀ i : Nat, (i < 56 ∨ 61 ≤ i) → zI τ i = zI σ i) ∧ (∀ j, j ≠ 4 → j ≠ 5 → j ≠ 14 → j ≠ 15 → zI τ 56 j = zI σ 56 j)
theorem RQ.refl (σ : ZS) : RQ σ σ := ⟨rfl, rfl, rfl, fun _ _ => rfl, fun _ _ _ _ _ => rfl⟩
theorem RQ.trans {σ σ1 σ2 : ZS} (h : RQ σ σ1) (g : RQ σ1 σ2) : RQ σ σ2 := ⟨g.1.trans h.1, g.2.1.trans h.2.1, g.2.2.1.trans h.2.2.1, fun i hi => (g.2.2.2.1 i hi).trans (h.2.2.2.1 i hi), fun j a b c d => (g.2.2.2.2 j a b c d).trans (h.2.2.2.2 j a b c d)⟩
theorem RQ.m {σ τ : ZS} (h : RQ σ τ) : MoQ σ τ := ⟨h.1, h.2.1, h.2.2.2.2, fun i hi => h.2.2.2.1 i (by omega), fun i _ => by rw [h.2.2.1]⟩
theorem rq_56 {σ : ZS} {j : Nat} {v : Int32} (hj : j = 4 ∨ j = 5 ∨ j = 14 ∨ j = 15) : RQ σ (sI σ 56 j v) := ⟨rfl, rfl, rfl, fun i hi => zI_off _ _ _ (by omega), fun k a b c d => by rw [zI_at, if_neg (by omega)]⟩
theorem rq_row {σ : ZS} {i j : Nat} {v : Int32} (hi : 57 ≤ i ∧ i ≤ 60) : RQ σ (sI σ i j v) := ⟨rfl, rfl, rfl, fun k hk => zI_off _ _ _ (by omega), fun k a b c d => by rw [zI_off _ _ _ (by omega)]⟩
theorem RC.q {σ τ : ZS} {n pl pl' : Nat} {bt : Nat → Nat} {fo fo' : Option Nat} (h : RC σ n bt pl fo) (hq : RQ σ τ) (h14 : zI τ 56 14 = nI pl') (hpl : pl' ≤ n) (h15 : zI τ 56 15 = i2 fo') (hfo : ∀ p, fo' = some p → p ≤ 96) : RC τ n bt pl' fo' :=
  ⟨h.1.of hq.1 hq.2.1, h.2.1.of (hq.2.2.2.2 13 (by decide) (by decide) (by decide) (by decide)) (hq.2.2.2.1 65 (by decide)), h.2.2.1, h.2.2.2.1, h14, hpl, h15, hfo⟩
theorem RC.next {σ : ZS} {n pl : Nat} {bt : Nat → Nat} {fo : Option Nat} (h : RC σ n bt pl fo) (hpl : pl < n) : RC (sI σ 56 14 (nI (pl + 1))) n bt (pl + 1) fo :=
  RC.q h (rq_56 (by omega)) (by rw [zI_at, if_pos rfl]) (by omega) (by rw [zI_at, if_neg (by decide)]; exact h.2.2.2.2.2.2.1) h.2.2.2.2.2.2.2
theorem RC.fail {σ : ZS} {n pl : Nat} {bt : Nat → Nat} (h : RC σ n bt pl none) : RC (sI σ 56 15 (i2 (some pl))) n bt pl (some pl) :=
  RC.q h (rq_56 (by omega)) (by rw [zI_at, if_neg (by decide)]; exact h.2.2.2.2.1) h.2.2.2.2.2.1 (by rw [zI_at, if_pos rfl]) (fun p e => by cases e; have := h.2.2.2.2.2.1; have := h.2.2.1; omega)
theorem RTV.f {σ : ZS} {T : TD} {j : Nat} {v : Int32} (h : RTV σ T) (hj : j = 14 ∨ j = 15) : RTV (sI σ 56 j v) T := by
  unfold RTV at *
  rw [zI_at, if_neg (by omega), zI_at, if_neg (by omega), zI_off _ _ _ (by decide), zI_off _ _ _ (by decide), zI_off _ _ _ (by decide), zI_off _ _ _ (by decide)]
  exact h
theorem dr_dw {n pl D v : Nat} {bt : Nat → Nat} : drO n bt pl D = some v ↔ dwO (bhO n bt pl) = some v ∧ v < D := by
  unfold drO dwO
  cases bhO n bt pl with
  | none => simp
  | some b =>
    simp only
    cases dvO b with
    | none => simp
    | some w =>
      simp only
      by_cases h : w < D
      · rw [if_pos h]; simp; intro e; omega
      · rw [if_neg h]; simp; intro e; omega
theorem sg_cases (n : Nat) (bt : Nat → Nat) (p : Nat) : (bhO n bt p = some 46 ∧ sgO n bt p = some 8) ∨ (∃ b, bhO n bt p = some b ∧ 97 ≤ b ∧ b ≤ 103 ∧ sgO n bt p = some (b - 97)) ∨ (sgO n bt p = none ∧ bhO n bt p ≠ some 46 ∧ ¬ ∃ b, bhO n bt p = some b ∧ 97 ≤ b ∧ b ≤ 103) := by
  by_cases h : bhO n bt p = some 46
  · exact Or.inl ⟨h, by unfold sgO; rw [if_pos h]⟩
  · unfold sgO
    rw [if_neg h]
    unfold ltO
    cases hb : bhO n bt p with
    | none => exact Or.inr (Or.inr ⟨rfl, by simp, by simp⟩)
    | some b =>
      by_cases h2 : 97 ≤ b ∧ b < 104
      · exact Or.inr (Or.inl ⟨b, rfl, h2.1, by omega, by simp only; rw [if_pos h2]⟩)
      · refine Or.inr (Or.inr ⟨by simp only; rw [if_neg h2], fun e => h (by rw [hb, e]), ?_⟩)
        rintro ⟨b', e, q1, q2⟩
        cases e
        omega
theorem hI_eq {o : Option Nat} (h : ∀ b, o = some b → b < 256) {c : Nat} (hc : c < 256) : (hI o = nI c) = (o = some c) := by
  apply propext
  cases o with
  | none =>
    constructor
    · intro q
      have q : (-1 : Int32) = nI c := q
      have := congrArg Int32.toInt q
      rw [nI_toInt (by omega)] at this
      have e : (-1 : Int32).toInt = -1 := by decide
      omega
    · intro q; cases q
  | some b =>
    have := h b rfl
    show nI b = nI c ↔ _
    rw [nI_eq (by omega) (by omega)]
    exact ⟨fun e => by rw [e], fun e => Option.some.inj e⟩
