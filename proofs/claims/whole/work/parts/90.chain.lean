/-- the way that the search finds, place by place -/
def chS (B : BQ) (e j : Nat) : Nat := (ancS B e (stpR B e - j)).getD 0
theorem ch_ok {T : TD} {k : Nat} {B : BQ} {e : Nat} (hI : bfI T k B e 0) (he : e < bN B) : (∀ j, j ≤ stpR B e → chS B e j < bN B ∧ chS B e j ≤ e ∧ ancS B e (stpR B e - j) = some (chS B e j)) ∧ (∀ j, j < stpR B e → bB B (chS B e (j + 1)) = some (chS B e j)) ∧ chS B e 0 = 0 ∧ chS B e (stpR B e) = e := by
  have hC : bqC B := fun i hi j hj => (hI.2.2.2.2.2.1 i j hi hj).1
  have hN := hI.1
  have h0 : ∀ j, j ≤ stpR B e → ∃ i, ancS B e (stpR B e - j) = some i ∧ i < bN B ∧ stpR B i + (stpR B e - j) = stpR B e ∧ chS B e j = i := by
    intro j hj
    obtain ⟨i, a1, a2, a3⟩ := ancS_ok B hC hN he (stpR B e - j) (by omega)
    exact ⟨i, a1, a2, a3, by unfold chS; rw [a1]; rfl⟩
  have hpar : ∀ j, j < stpR B e → bB B (chS B e (j + 1)) = some (chS B e j) := by
    intro j hj
    obtain ⟨i, a1, a2, a3, a4⟩ := h0 j (by omega)
    obtain ⟨i', b1, b2, b3, b4⟩ := h0 (j + 1) (by omega)
    rw [show stpR B e - j = (stpR B e - (j + 1)) + 1 by omega, ancS, b1] at a1
    rw [a4, b4]
    exact a1
  have hle : ∀ n, n ≤ stpR B e → chS B e (stpR B e - n) ≤ e := by
    intro n
    induction n with
    | zero =>
      intro _
      unfold chS
      rw [show stpR B e - (stpR B e - 0) = 0 by omega]
      exact Nat.le_refl _
    | succ n ih =>
      intro hn
      have h1 := ih (by omega)
      have h2 := hpar (stpR B e - (n + 1)) (by omega)
      rw [show stpR B e - (n + 1) + 1 = stpR B e - n by omega] at h2
      obtain ⟨i, a1, a2, a3, a4⟩ := h0 (stpR B e - n) (by omega)
      have := hC _ (by rw [a4]; exact a2) _ h2
      omega
  refine ⟨fun j hj => ?_, hpar, ?_, ?_⟩
  · obtain ⟨i, a1, a2, a3, a4⟩ := h0 j hj
    have := hle (stpR B e - j) (by omega)
    rw [show stpR B e - (stpR B e - j) = j by omega] at this
    exact ⟨by rw [a4]; exact a2, this, by rw [a4]; exact a1⟩
  · obtain ⟨i, a1, a2, a3, a4⟩ := h0 0 (by omega)
    rw [a4]
    have h1 : stpR B i = 0 := by omega
    rw [stpR_eq B hC a2 hN] at h1
    cases hb : bB B i with
    | none => exact hI.2.2.2.2.1 i a2 hb
    | some j => rw [hb] at h1; cases h1
  · unfold chS
    rw [Nat.sub_self]
    rfl
theorem ch_adv {T : TD} {k : Nat} {B : BQ} {e : Nat} (hI : bfI T k B e 0) (he : e < bN B) {i j o r : Nat} (hj : j < stpR B e) (hi : i < chS B e j) (ho : o < tD T) (hs : sucS T k (bQ B i) o = some r) : ∃ a, a < bN B ∧ bQ B a = r ∧ a < chS B e (j + 1) := by
  obtain ⟨c1, c2, c3, c4⟩ := ch_ok hI he
  have a1 := c1 j (by omega)
  have a2 := c1 (j + 1) (by omega)
  have a3 := c2 j hj
  obtain ⟨a, ha, hr, hq⟩ := hI.2.2.2.2.2.2.2 i o r (by omega) (by omega) ho hs
  refine ⟨a, ha, hr, ?_⟩
  have a4 := (hI.2.2.2.2.2.1 _ _ a2.1 a3).1
  cases hb : bB B a with
  | none => have := hI.2.2.2.2.1 a ha hb; omega
  | some q =>
    have h1 := hq q hb
    rcases Nat.lt_trichotomy a (chS B e (j + 1)) with h | h | h
    · exact h
    · rw [h, a3] at hb
      cases hb
      omega
    · have := (hI.2.2.2.2.2.2.1 _ _ _ _ h ha a3 hb).1
      omega
theorem ch_adv2 {T : TD} {k : Nat} {B : BQ} {e : Nat} (h1 : 1 ≤ tL T k) (h6 : tL T k ≤ 6) (hD : tD T ≤ 12) (hI : bfI T k B e 0) (he : e < bN B) {j o r : Nat} (hj : j < stpR B e) (ho : o < tD T) (hs : sucS T k (bQ B (chS B e j)) o = some r) (hlt : o < bQ B (chS B e (j + 1)) / 32) : ∃ a, a < bN B ∧ bQ B a = r ∧ a < chS B e (j + 1) := by
  obtain ⟨c1, c2, c3, c4⟩ := ch_ok hI he
  have a1 := c1 j (by omega)
  have a2 := c1 (j + 1) (by omega)
  have a3 := c2 j hj
  have a4 := (hI.2.2.2.2.2.1 _ _ a2.1 a3).1
  have hrd := (suc_ok h1 h6 (by omega) hs).2.1
  obtain ⟨a, ha, hr, hq⟩ := hI.2.2.2.2.2.2.2 (chS B e j) o r a1.1 (by omega) ho hs
  refine ⟨a, ha, hr, ?_⟩
  cases hb : bB B a with
  | none => have := hI.2.2.2.2.1 a ha hb; omega
  | some q =>
    have g1 := hq q hb
    rcases Nat.lt_trichotomy a (chS B e (j + 1)) with h | h | h
    · exact h
    · rw [h] at hr
      rw [hr, hrd] at hlt
      omega
    · have g2 := hI.2.2.2.2.2.2.1 _ _ _ _ h ha a3 hb
      have g3 := g2.2 (by omega)
      rw [hr, hrd] at g3
      omega
theorem ch_far {T : TD} {k to : Nat} {B : BQ} {e : Nat} (hI : bfI T k B e 0) (he : e < bN B) (hno : ∀ p, p < e → bQ B p / 32 ≠ to) : ∀ l j i, i < chS B e j → j + l ≤ stpR B e → ¬ wkP T k to l (bQ B i)
  | 0, j, i, hi, hj, hw => by
    have := ((ch_ok hI he).1 j (by omega)).2.1
    exact hno i (by omega) hw
  | l + 1, j, i, hi, hj, hw => by
    obtain ⟨o, r, ho, hs, hw⟩ := hw
    obtain ⟨a, ha, hr, hlt⟩ := ch_adv hI he (by omega) hi ho hs
    rw [← hr] at hw
    exact ch_far hI he hno l (j + 1) a hlt (by omega) hw
/-- how far it is from each place of the way, and that no lesser door goes on as well -/
theorem ch_dist {T : TD} {k to : Nat} {B : BQ} {e : Nat} (h1 : 1 ≤ tL T k) (h6 : tL T k ≤ 6) (hD : tD T ≤ 12) (hI : bfI T k B e 0) (he : e < bN B) (hto : bQ B e / 32 = to) (htD : to < tD T) (hno : ∀ p, p < e → bQ B p / 32 ≠ to) : (∀ j, j ≤ stpR B e → wkP T k to (stpR B e - j) (bQ B (chS B e j)) ∧ (∀ l, l < stpR B e - j → ¬ wkP T k to l (bQ B (chS B e j))) ∧ bQ B (chS B e j) < 384) ∧ (∀ j, j < stpR B e → sucS T k (bQ B (chS B e j)) (bQ B (chS B e (j + 1)) / 32) = some (bQ B (chS B e (j + 1))) ∧ bQ B (chS B e (j + 1)) / 32 < tD T ∧ ∀ o r, o < bQ B (chS B e (j + 1)) / 32 → sucS T k (bQ B (chS B e j)) o = some r → ¬ wkP T k to (stpR B e - (j + 1)) r) := by
  obtain ⟨c1, c2, c3, c4⟩ := ch_ok hI he
  have hsuc : ∀ j, j < stpR B e → sucS T k (bQ B (chS B e j)) (bQ B (chS B e (j + 1)) / 32) = some (bQ B (chS B e (j + 1))) := fun j hj => (hI.2.2.2.2.2.1 _ _ (c1 (j + 1) (by omega)).1 (c2 j hj)).2.2
  have hd : ∀ j, j ≤ stpR B e → bQ B (chS B e j) < 384 ∧ bQ B (chS B e j) / 32 < tD T := fun j hj => hI.2.1 _ (c1 j hj).1
  have hup : ∀ n, n ≤ stpR B e → wkP T k to n (bQ B (chS B e (stpR B e - n))) := by
    intro n
    induction n with
    | zero => intro _; rw [Nat.sub_zero, c4]; exact hto
    | succ n ih =>
      intro hn
      have h := hsuc (stpR B e - (n + 1)) (by omega)
      rw [show stpR B e - (n + 1) + 1 = stpR B e - n by omega] at h
      exact ⟨_, _, (hd _ (by omega)).2, h, ih (by omega)⟩
  refine ⟨fun j hj => ⟨?_, fun l hl hw => ?_, (hd j hj).1⟩, fun j hj => ⟨hsuc j hj, (hd _ (by omega)).2, fun o r ho hs hw => ?_⟩⟩
  · have := hup (stpR B e - j) (by omega)
    rw [show stpR B e - (stpR B e - j) = j by omega] at this
    exact this
  · have h2 := (hI.2.2.2.2.2.1 _ _ (c1 (j + 1) (by omega)).1 (c2 j (by omega))).1
    exact ch_far hI he hno l (j + 1) (chS B e j) h2 (by omega) hw
  · have := (hd (j + 1) (by omega)).2
    obtain ⟨a, ha, hr, hlt⟩ := ch_adv2 h1 h6 hD hI he hj (by omega) hs ho
    rw [← hr] at hw
    exact ch_far hI he hno _ (j + 1) a hlt (by omega) hw
/-- no way at all -/
theorem no_way {T : TD} {k to : Nat} {B : BQ} {i : Nat} (hI : bfI T k B i 0) (hi : bN B ≤ i) (hno : ∀ p, p < bN B → bQ B p / 32 ≠ to) : ∀ l p, p < bN B → ¬ wkP T k to l (bQ B p)
  | 0, p, hp, hw => hno p hp hw
  | l + 1, p, hp, hw => by
    obtain ⟨o, r, ho, hs, hw⟩ := hw
    obtain ⟨a, ha, hr, -⟩ := hI.2.2.2.2.2.2.2 p o r hp (by omega) ho hs
    rw [← hr] at hw
    exact no_way hI hi hno l a ha hw
/-- what the rows of "left" say when they are laid -/
def LfOk (T : TD) (k to : Nat) (lf : Nat → Nat) : Prop := ∀ q, q < 64 * tD T → (lf q < 9999 → wkP T k to (lf q) (q / 2)) ∧ ∀ l, wkP T k to l (q / 2) → lf q ≤ l
/-- both sides of a round -/
theorem rd_ok {T : TD} {k fr to : Nat} {lf : Nat → Nat} (hD : tD T ≤ 12) (h1 : 1 ≤ tL T k) (h6 : tL T k ≤ 6) (hfr : fr < tD T) (hto : to < tD T) (hl : LfOk T k to lf) : ((beN T k 0 fr = 64 ∨ 9999 ≤ lf (64 * fr + beN T k 0 fr)) ∧ (fwR T k fr to).1 = none) ∨ (beN T k 0 fr ≠ 64 ∧ ∃ e, (fwR T k fr to).1 = some e ∧ lf (64 * fr + beN T k 0 fr) = stpR (fwR T k fr to).2 e ∧ stpR (fwR T k fr to).2 e < 384 ∧ ∃ s : Nat → Nat, (∀ j, j ≤ stpR (fwR T k fr to).2 e → s j < 384 ∧ s j / 32 < tD T ∧ lf (2 * s j) = stpR (fwR T k fr to).2 e - j ∧ dowS (fwR T k fr to).2 (some e) j = some (s j / 32)) ∧ 2 * s 0 = 64 * fr + beN T k 0 fr ∧ (∀ j, j < stpR (fwR T k fr to).2 e → sucS T k (s j) (s (j + 1) / 32) = some (s (j + 1)) ∧ ∀ o r, o < s (j + 1) / 32 → sucS T k (s j) o = some r → lf (2 * r) ≠ stpR (fwR T k fr to).2 e - (j + 1))) := by
  rcases be_st (T := T) (k := k) (s := 0) (d := fr) h1 h6 with ⟨e1, e2⟩ | ⟨s0, e1, e2, e3⟩
  · left
    refine ⟨Or.inl e2, ?_⟩
    unfold fwR
    rw [e1]
    rfl
  · obtain ⟨hE, hn1, hq0⟩ := fwR_E (to := to) h1 h6 hD hfr e1
    generalize hR : fwR T k fr to = R at *
    obtain ⟨ro, B⟩ := R
    have hE : bfE T k to (ro, B) := hE
    have hn1 : 1 ≤ bN B := hn1
    have hq0 : bQ B 0 = s0 := hq0
    have hs0 := stO_lt h1 h6 (by omega) e1
    have hs0d := (stO_div h1 h6 e1).1
    cases ro with
    | none =>
      left
      obtain ⟨i, hI, hi, hno⟩ := hE.2 rfl
      refine ⟨Or.inr ?_, rfl⟩
      refine Classical.byContradiction fun hc => ?_
      have h := (hl (64 * fr + beN T k 0 fr) (by omega)).1 (by omega)
      rw [e3, show 2 * s0 / 2 = s0 by omega, ← hq0] at h
      exact no_way hI hi hno _ 0 (by omega) h
    | some e =>
      right
      obtain ⟨hI, he, hte, hno⟩ := hE.1 e rfl
      have hI : bfI T k B e 0 := hI
      have he : e < bN B := he
      obtain ⟨d1, d2⟩ := ch_dist h1 h6 hD hI he hte hto hno
      obtain ⟨c1, c2, c3, c4⟩ := ch_ok hI he
      have hC : bqC B := fun i hi j hj => (hI.2.2.2.2.2.1 i j hi hj).1
      have hst : stpR B e < 384 := by
        have := stpS_le B hC 384 e he
        have := hI.1
        unfold stpR
        omega
      have hlf : ∀ j, j ≤ stpR B e → lf (2 * bQ B (chS B e j)) = stpR B e - j := by
        intro j hj
        obtain ⟨w1, w2, w3⟩ := d1 j hj
        have hdj := (hI.2.1 _ (c1 j hj).1).2
        have h := hl (2 * bQ B (chS B e j)) (by omega)
        rw [show 2 * bQ B (chS B e j) / 2 = bQ B (chS B e j) by omega] at h
        have g1 := h.2 _ w1
        have g2 := h.1 (by omega)
        refine Classical.byContradiction fun hc => ?_
        exact w2 _ (by omega) g2
      have h00 : bQ B (chS B e 0) = s0 := by rw [c3]; exact hq0
      refine ⟨by omega, e, rfl, ?_, hst, fun j => bQ B (chS B e j), fun j hj => ⟨(d1 j hj).2.2, (hI.2.1 _ (c1 j hj).1).2, hlf j hj, ?_⟩, ?_, fun j hj => ⟨(d2 j hj).1, fun o r ho hs hlr => ?_⟩⟩
      · have := hlf 0 (Nat.zero_le _)
        rw [h00] at this
        rw [e3]
        exact this
      · unfold dowS
        have hj : j ≤ stpR B e := hj
        rw [show (none : Option Nat) = none from rfl]
        show (if j ≤ stpR B e then (ancS B e (stpR B e - j)).map (fun i => bQ B i / 32) else none) = _
        rw [if_pos hj, (c1 j hj).2.2]
        rfl
      · show 2 * bQ B (chS B e 0) = _
        rw [h00]; exact e3.symm
      · have ho : o < bQ B (chS B e (j + 1)) / 32 := ho
        have hj : j < stpR B e := hj
        have hlr : lf (2 * r) = stpR B e - (j + 1) := hlr
        have hdj := (hI.2.1 _ (c1 (j + 1) (by omega)).1).2
        have hr := suc_ok h1 h6 (by omega) hs
        have h := (hl (2 * r) (by omega)).1 (by omega)
        rw [hlr, show 2 * r / 2 = r by omega] at h
        exact (d2 j hj).2.2 o r ho hs h
