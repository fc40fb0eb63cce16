/-! PURE: the search, and the ways -/
theorem pg_le : ∀ (m n : Nat) (f : Nat → Nat), (∀ a, a < n → f a < m) → (∀ a b, a < n → b < n → f a = f b → a = b) → n ≤ m
  | 0, n, f, h, _ => by
    cases n with
    | zero => exact Nat.le_refl _
    | succ n => exact absurd (h 0 (by omega)) (Nat.not_lt_zero _)
  | m + 1, n, f, h, hi => by
    by_cases hx : ∃ a, a < n ∧ f a = m
    · obtain ⟨a0, ha, hfa⟩ := hx
      have := pg_le m (n - 1) (fun x => if x = a0 then f (n - 1) else f x) (fun x hx => ?_) (fun x y hx hy => ?_)
      · omega
      · show (if x = a0 then f (n - 1) else f x) < m
        split
        next e =>
          have h1 := h (n - 1) (by omega)
          have h2 : f (n - 1) ≠ m := fun q => by have := hi (n - 1) a0 (by omega) ha (q.trans hfa.symm); omega
          omega
        next e =>
          have h1 := h x (by omega)
          have h2 : f x ≠ m := fun q => e (hi x a0 (by omega) ha (q.trans hfa.symm))
          omega
      · show (if x = a0 then f (n - 1) else f x) = (if y = a0 then f (n - 1) else f y) → x = y
        intro q
        by_cases e1 : x = a0
        · rw [if_pos e1] at q
          by_cases e2 : y = a0
          · omega
          · rw [if_neg e2] at q
            have := hi (n - 1) y (by omega) (by omega) q
            omega
        · rw [if_neg e1] at q
          by_cases e2 : y = a0
          · rw [if_pos e2] at q
            have := hi x (n - 1) (by omega) (by omega) q
            omega
          · rw [if_neg e2] at q
            exact hi x y (by omega) (by omega) q
    · have := pg_le m n f (fun a ha => ?_) hi
      · omega
      · have h1 := h a ha
        have h2 : f a ≠ m := fun q => hx ⟨a, ha, q⟩
        omega
theorem up_at {α : Type} (f : Nat → α) (n : Nat) (v : α) : va_up f n v n = v := if_pos rfl
theorem up_off {α : Type} (f : Nat → α) {n j : Nat} (v : α) (h : j ≠ n) : va_up f n v j = f j := if_neg h
theorem pg_sur {n : Nat} {f : Nat → Nat} (h : ∀ a, a < n → f a < n) (hi : ∀ a b, a < n → b < n → f a = f b → a = b) {s : Nat} (hs : s < n) : ∃ a, a < n ∧ f a = s := by
  refine Classical.byContradiction fun hc => ?_
  have hne : ∀ a, a < n → f a ≠ s := fun a ha q => hc ⟨a, ha, q⟩
  have := pg_le n (n + 1) (va_up f n s) (fun a ha => ?_) (fun a b ha hb q => ?_)
  · omega
  · by_cases e : a = n
    · rw [e, up_at]; exact hs
    · rw [up_off _ _ e]; exact h a (by omega)
  · by_cases e1 : a = n
    · by_cases e2 : b = n
      · omega
      · rw [e1, up_at, up_off _ _ e2] at q
        exact absurd q.symm (hne b (by omega))
    · by_cases e2 : b = n
      · rw [e2, up_at, up_off _ _ e1] at q
        exact absurd q (hne a (by omega))
      · rw [up_off _ _ e1, up_off _ _ e2] at q
        exact hi a b (by omega) (by omega) q
def sucS (T : TD) (k s o : Nat) : Option Nat := if (tE T (s / 32)).testBit o then stO T k (s % 32) o else none
def wkP (T : TD) (k to : Nat) : Nat → Nat → Prop
  | 0, s => s / 32 = to
  | l + 1, s => ∃ o r, o < tD T ∧ sucS T k s o = some r ∧ wkP T k to l r
def bfI (T : TD) (k : Nat) (B : BQ) (i d : Nat) : Prop :=
  bN B ≤ 384 ∧ (∀ a, a < bN B → bQ B a < 384 ∧ bQ B a / 32 < tD T) ∧ (∀ a b, a < bN B → b < bN B → bQ B a = bQ B b → a = b) ∧
  (∀ s, s < 384 → ((bS B (s / 32)).testBit (s % 32) = true ↔ ∃ a, a < bN B ∧ bQ B a = s)) ∧
  (∀ a, a < bN B → bB B a = none → a = 0) ∧
  (∀ a p, a < bN B → bB B a = some p → p < a ∧ (p < i ∨ (p = i ∧ bQ B a / 32 < d)) ∧ sucS T k (bQ B p) (bQ B a / 32) = some (bQ B a)) ∧
  (∀ a b p q, a < b → b < bN B → bB B a = some p → bB B b = some q → p ≤ q ∧ (p = q → bQ B a / 32 < bQ B b / 32)) ∧
  (∀ p o r, p < bN B → (p < i ∨ (p = i ∧ o < d)) → o < tD T → sucS T k (bQ B p) o = some r → ∃ a, a < bN B ∧ bQ B a = r ∧ ∀ q, bB B a = some q → q ≤ p)
theorem suc_ok {T : TD} {k s o r : Nat} (h1 : 1 ≤ tL T k) (h6 : tL T k ≤ 6) (ho : o < 12) (h : sucS T k s o = some r) : r < 384 ∧ r / 32 = o ∧ r % 32 = goS T k (s % 32) o ∧ (tE T (s / 32)).testBit o = true := by
  unfold sucS at h
  split at h
  next hb => exact ⟨stO_lt h1 h6 ho h, (stO_div h1 h6 h).1, (stO_div h1 h6 h).2, hb⟩
  · cases h
theorem bfI_same {T : TD} {k : Nat} {B : BQ} {i d : Nat} (hI : bfI T k B i d) (hn : ∀ r, sucS T k (bQ B i) d = some r → ∃ a, a < bN B ∧ bQ B a = r) : bfI T k B i (d + 1) := by
  obtain ⟨i1, i2, i3, i4, i5, i6, i7, i8⟩ := hI
  refine ⟨i1, i2, i3, i4, i5, fun a p ha hp => ?_, i7, fun p o r hp hpo ho hs => ?_⟩
  · obtain ⟨e1, e2, e3⟩ := i6 a p ha hp
    exact ⟨e1, by omega, e3⟩
  · by_cases e : p = i ∧ o = d
    · obtain ⟨rfl, rfl⟩ := e
      obtain ⟨a, ha, hr⟩ := hn r hs
      refine ⟨a, ha, hr, fun q hq => ?_⟩
      have := (i6 a q ha hq).2.1
      omega
    · exact i8 p o r hp (by omega) ho hs
theorem bfI_enq {T : TD} {k : Nat} {B : BQ} {i d : Nat} (h1 : 1 ≤ tL T k) (h6 : tL T k ≤ 6) (hD : tD T ≤ 12) (hI : bfI T k B i d) (hi : i < bN B) (hd : d < tD T) : bfI T k (enqB B (sucS T k (bQ B i) d) (some i)) i (d + 1) := by
  cases hs : sucS T k (bQ B i) d with
  | none =>
    show bfI T k B i (d + 1)
    exact bfI_same hI (fun r hr => by rw [hs] at hr; cases hr)
  | some s =>
    obtain ⟨s384, sd, -, -⟩ := suc_ok h1 h6 (by omega) hs
    rw [enqB]
    by_cases hc : 384 ≤ bN B ∨ (bS B (s / 32)).testBit (s % 32) = true
    · rw [if_pos hc]
      refine bfI_same hI (fun r hr => ?_)
      rw [hs] at hr
      cases hr
      rcases hc with hc | hc
      · have e : bN B = 384 := by have := hI.1; omega
        have := pg_sur (n := 384) (f := bQ B) (fun a ha => (hI.2.1 a (by omega)).1) (fun a b ha hb => hI.2.2.1 a b (by omega) (by omega)) s384
        rw [e]
        exact this
      · exact (hI.2.2.2.1 s s384).mp hc
    · rw [if_neg hc]
      obtain ⟨i1, i2, i3, i4, i5, i6, i7, i8⟩ := hI
      have hsn : ∀ a, a < bN B → bQ B a ≠ s := fun a ha e => hc (Or.inr ((i4 s s384).mpr ⟨a, ha, e⟩))
      generalize hB' : ((bN B + 1, va_up (bQ B) (bN B) s, va_up (bB B) (bN B) (some i), va_up (bS B) (s / 32) (bS B (s / 32) ||| 2 ^ (s % 32))) : BQ) = B'
      have n' : bN B' = bN B + 1 := by rw [← hB']; rfl
      have qo : ∀ a, a < bN B → bQ B' a = bQ B a := fun a ha => by rw [← hB']; exact up_off _ _ (by omega)
      have qn : bQ B' (bN B) = s := by rw [← hB']; exact up_at _ _ _
      have bo : ∀ a, a < bN B → bB B' a = bB B a := fun a ha => by rw [← hB']; exact up_off _ _ (by omega)
      have bn : bB B' (bN B) = some i := by rw [← hB']; exact up_at _ _ _
      have so : ∀ e, bS B' e = if e = s / 32 then bS B (s / 32) ||| 2 ^ (s % 32) else bS B e := fun e => by rw [← hB']; rfl
      refine ⟨by omega, fun a ha => ?_, fun a b ha hb q => ?_, fun s' hs' => ?_, fun a ha hn => ?_, fun a p ha hp => ?_, fun a b p q hab hb hp hq => ?_, fun p o r hp hpo ho hsr => ?_⟩
      · by_cases e : a = bN B
        · rw [e, qn]; exact ⟨s384, by omega⟩
        · rw [qo a (by omega)]; exact i2 a (by omega)
      · by_cases e1 : a = bN B
        · by_cases e2 : b = bN B
          · omega
          · rw [e1, qn, qo b (by omega)] at q
            exact absurd q.symm (hsn b (by omega))
        · by_cases e2 : b = bN B
          · rw [e2, qn, qo a (by omega)] at q
            exact absurd q (hsn a (by omega))
          · rw [qo a (by omega), qo b (by omega)] at q
            exact i3 a b (by omega) (by omega) q
      · have key : ((bS B' (s' / 32)).testBit (s' % 32) = true) ↔ ((bS B (s' / 32)).testBit (s' % 32) = true ∨ s' = s) := by
          rw [so]
          by_cases e : s' / 32 = s / 32
          · rw [if_pos e, Nat.testBit_or, Nat.testBit_two_pow, Bool.or_eq_true, decide_eq_true_eq, e]
            constructor
            · rintro (h | h)
              · exact Or.inl h
              · exact Or.inr (by omega)
            · rintro (h | h)
              · exact Or.inl h
              · exact Or.inr (by omega)
          · rw [if_neg e]
            constructor
            · exact Or.inl
            · rintro (h | h)
              · exact h
              · exact absurd (by rw [h]) e
        rw [key, i4 s' hs']
        constructor
        · rintro (⟨a, ha, h⟩ | h)
          · exact ⟨a, by omega, by rw [qo a ha]; exact h⟩
          · exact ⟨bN B, by omega, by rw [qn]; exact h.symm⟩
        · rintro ⟨a, ha, h⟩
          by_cases e : a = bN B
          · rw [e, qn] at h; exact Or.inr h.symm
          · rw [qo a (by omega)] at h; exact Or.inl ⟨a, by omega, h⟩
      · by_cases e : a = bN B
        · rw [e, bn] at hn; cases hn
        · rw [bo a (by omega)] at hn; exact i5 a (by omega) hn
      · by_cases e : a = bN B
        · rw [e, bn] at hp
          cases hp
          rw [e, qn, qo i hi, sd]
          exact ⟨hi, Or.inr ⟨rfl, by omega⟩, hs⟩
        · rw [bo a (by omega)] at hp
          obtain ⟨e1, e2, e3⟩ := i6 a p (by omega) hp
          rw [qo a (by omega), qo p (by omega)]
          exact ⟨e1, by omega, e3⟩
      · rw [bo a (by omega)] at hp
        rw [qo a (by omega)]
        by_cases e : b = bN B
        · rw [e, bn] at hq
          cases hq
          rw [e, qn]
          have := (i6 a p (by omega) hp).2.1
          exact ⟨by omega, fun e => by omega⟩
        · rw [bo b (by omega)] at hq
          rw [qo b (by omega)]
          exact i7 a b p q hab (by omega) hp hq
      · have hpn : p < bN B := by omega
        rw [qo p hpn] at hsr
        by_cases e : p = i ∧ o = d
        · obtain ⟨rfl, rfl⟩ := e
          rw [hs] at hsr
          cases hsr
          exact ⟨bN B, by omega, qn, fun q hq => by rw [bn] at hq; cases hq; exact Nat.le_refl _⟩
        · obtain ⟨a, ha, hr, hq⟩ := i8 p o r hpn (by omega) ho hsr
          exact ⟨a, by omega, by rw [qo a ha]; exact hr, fun q h => hq q (by rw [bo a ha] at h; exact h)⟩
theorem enA_suc {T : TD} {k : Nat} {B : BQ} {i d : Nat} : enA T k B i (d + 1) = enqB (enA T k B i d) (sucS T k (bQ B i) d) (some i) := by
  rw [enA]
  unfold sucS
  split <;> rfl
theorem bfI_enA {T : TD} {k : Nat} {B : BQ} {i : Nat} (h1 : 1 ≤ tL T k) (h6 : tL T k ≤ 6) (hD : tD T ≤ 12) (hI : bfI T k B i 0) (hi : i < bN B) : ∀ d, d ≤ tD T → bfI T k (enA T k B i d) i d
  | 0, _ => hI
  | d + 1, hd => by
    have ih := bfI_enA h1 h6 hD hI hi d (by omega)
    have hk := enA_keep (T := T) (k := k) (B := B) (i := i) d
    rw [enA_suc, ← (hk.2 i hi).1]
    exact bfI_enq h1 h6 hD ih (Nat.lt_of_lt_of_le hi hk.1) hd
theorem bfI_next {T : TD} {k : Nat} {B : BQ} {i : Nat} (hI : bfI T k B i (tD T)) : bfI T k B (i + 1) 0 := by
  obtain ⟨i1, i2, i3, i4, i5, i6, i7, i8⟩ := hI
  refine ⟨i1, i2, i3, i4, i5, fun a p ha hp => ?_, i7, fun p o r hp hpo ho hs => ?_⟩
  · obtain ⟨e1, e2, e3⟩ := i6 a p ha hp
    exact ⟨e1, by omega, e3⟩
  · exact i8 p o r hp (by omega) ho hs
/-- what the search ends with -/
def bfE (T : TD) (k to : Nat) (R : Option Nat × BQ) : Prop := (∀ e, R.1 = some e → bfI T k R.2 e 0 ∧ e < bN R.2 ∧ bQ R.2 e / 32 = to ∧ ∀ p, p < e → bQ R.2 p / 32 ≠ to) ∧ (R.1 = none → ∃ i, bfI T k R.2 i 0 ∧ bN R.2 ≤ i ∧ ∀ p, p < bN R.2 → bQ R.2 p / 32 ≠ to)
theorem fwS_E {T : TD} {k to : Nat} (h1 : 1 ≤ tL T k) (h6 : tL T k ≤ 6) (hD : tD T ≤ 12) : ∀ f i B, i + f = 384 → bfI T k B i 0 → (∀ p, p < i → p < bN B → bQ B p / 32 ≠ to) → bfE T k to (fwS T k to f i B)
  | 0, i, B, hf, hI, hp => by
    rw [fwS]
    have := hI.1
    exact ⟨fun e h => (by cases h), fun _ => ⟨i, hI, by show bN B ≤ i; omega, fun p h => hp p (by have h : p < bN B := h; omega) h⟩⟩
  | f + 1, i, B, hf, hI, hp => by
    rw [fwS]
    by_cases c1 : bN B ≤ i
    · rw [if_pos c1]
      exact ⟨fun e h => (by cases h), fun _ => ⟨i, hI, c1, fun p h => hp p (by have h : p < bN B := h; omega) h⟩⟩
    · rw [if_neg c1]
      by_cases c2 : bQ B i / 32 = to
      · rw [if_pos c2]
        exact ⟨fun e h => (by cases h; exact ⟨hI, by show i < bN B; omega, c2, fun p h => hp p h (by omega)⟩), fun h => by cases h⟩
      · rw [if_neg c2]
        have hk := enA_keep (T := T) (k := k) (B := B) (i := i) (tD T)
        refine fwS_E h1 h6 hD f (i + 1) _ (by omega) (bfI_next (bfI_enA h1 h6 hD hI (by omega) _ (Nat.le_refl _))) (fun p hpi hpn => ?_)
        rw [(hk.2 p (by omega)).1]
        by_cases e : p = i
        · rw [e]; exact c2
        · exact hp p (by omega) (by omega)
theorem fwR_E {T : TD} {k fr to s0 : Nat} (h1 : 1 ≤ tL T k) (h6 : tL T k ≤ 6) (hD : tD T ≤ 12) (hfr : fr < tD T) (hs : stO T k 0 fr = some s0) : bfE T k to (fwR T k fr to) ∧ 1 ≤ bN (fwR T k fr to).2 ∧ bQ (fwR T k fr to).2 0 = s0 := by
  unfold fwR
  have s384 := stO_lt h1 h6 (by omega) hs
  have hs0 := hs
  have e : enqB bq0 (stO T k 0 fr) none = (1, va_up (fun _ => 0) 0 s0, va_up (fun _ => none) 0 none, va_up (fun _ => 0) (s0 / 32) (0 ||| 2 ^ (s0 % 32))) := by
    rw [hs, enqB, if_neg]
    · rfl
    · rintro (h | h)
      · have : ¬ 384 ≤ bN bq0 := by decide
        exact this h
      · have : bS bq0 (s0 / 32) = 0 := rfl
        rw [this, Nat.zero_testBit] at h
        cases h
  rw [e]
  generalize hB : ((1, va_up (fun _ => 0) 0 s0, va_up (fun _ => none) 0 none, va_up (fun _ => 0) (s0 / 32) (0 ||| 2 ^ (s0 % 32))) : BQ) = B
  have n1 : bN B = 1 := by rw [← hB]; rfl
  have q0 : bQ B 0 = s0 := by rw [← hB]; rfl
  have b0 : bB B 0 = none := by rw [← hB]; rfl
  have so : ∀ e, bS B e = if e = s0 / 32 then 2 ^ (s0 % 32) else 0 := fun e => by rw [← hB]; show va_up (fun _ => 0) (s0 / 32) (0 ||| 2 ^ (s0 % 32)) e = _; unfold va_up; rw [Nat.zero_or]
  have hI : bfI T k B 0 0 := by
    refine ⟨by omega, fun a ha => ?_, fun a b ha hb _ => by omega, fun s hs => ?_, fun a ha _ => by omega, fun a p ha hp => ?_, fun a b p q hab hb => by omega, fun p o r hp hpo => by omega⟩
    · rw [show a = 0 by omega, q0]; exact ⟨s384, by rw [(stO_div h1 h6 hs0).1]; exact hfr⟩
    · rw [so]
      constructor
      · intro h
        split at h
        next e =>
          rw [Nat.testBit_two_pow, decide_eq_true_eq] at h
          exact ⟨0, by omega, by rw [q0]; omega⟩
        · rw [Nat.zero_testBit] at h; cases h
      · rintro ⟨a, ha, h⟩
        rw [show a = 0 by omega, q0] at h
        rw [h, if_pos rfl, Nat.testBit_two_pow]
        simp
    · rw [show a = 0 by omega, b0] at hp; cases hp
  have hkeep : ∀ f i B, 1 ≤ bN B → 1 ≤ bN (fwS T k to f i B).2 ∧ bQ (fwS T k to f i B).2 0 = bQ B 0 := by
    intro f
    induction f with
    | zero => intro i B h; exact ⟨h, rfl⟩
    | succ f ih =>
      intro i B h
      rw [fwS]
      split
      · exact ⟨h, rfl⟩
      · split
        · exact ⟨h, rfl⟩
        · have hk := enA_keep (T := T) (k := k) (B := B) (i := i) (tD T)
          have := ih (i + 1) (enA T k B i (tD T)) (by omega)
          rw [(hk.2 0 (by omega)).1] at this
          exact this
  have := hkeep 384 0 B (by omega)
  rw [q0] at this
  exact ⟨fwS_E h1 h6 hD 384 0 B (by omega) hI (fun p hp => absurd hp (Nat.not_lt_zero p)), this⟩
