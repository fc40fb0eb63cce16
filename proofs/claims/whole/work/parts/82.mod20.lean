/-! parting: both ends -/
def gsF (T : TD) (F : Nat → Nat) (P : Nat → Bool) : Nat → Nat × Bool
  | 0 => (2 ^ tD T - 1, true)
  | i + 1 => if P i then ((if (gsF T F P i).2 then (gsF T F P i).1 else arS T (gsF T F P i).1) &&& F i, false) else gsF T F P i
def chB (T : TD) (F : Nat → Nat) (P : Nat → Bool) : Nat → Nat → Bool
  | 0, _ => true
  | j + 1, s => if P j then decide (s &&& F j ≠ 0) && chB T F P j (arS T (s &&& F j)) else chB T F P j s
theorem and_nz {a b : Nat} : a &&& b ≠ 0 ↔ ∃ i, a.testBit i = true ∧ b.testBit i = true := by
  constructor
  · intro h
    obtain ⟨i, hi⟩ := ex_bit h
    rw [Nat.testBit_and, Bool.and_eq_true] at hi
    exact ⟨i, hi⟩
  · rintro ⟨i, h1, h2⟩ h0
    have := congrArg (fun x => Nat.testBit x i) h0
    simp only [Nat.testBit_and, h1, h2, Nat.zero_testBit] at this
    cases this
theorem lt_bit {s n i : Nat} (h : s < 2 ^ n) (hb : s.testBit i = true) : i < n := z_bit_lt h hb
/-- one step either way -/
theorem ar_sym {T : TD} (hT : TdOk T) {a b : Nat} (ha : a < 2 ^ tD T) (hb : b < 2 ^ tD T) : arS T a &&& b ≠ 0 ↔ a &&& arS T b ≠ 0 := by
  rw [and_nz, and_nz]
  constructor
  · rintro ⟨i, h1, h2⟩
    obtain ⟨j, hj, h3, h4⟩ := (arS_bit T a i).mp h1
    refine ⟨j, h3, (arS_bit T b j).mpr ⟨i, lt_bit hb h2, h2, ?_⟩⟩
    rw [hT.2.2.2.2.1 i j (lt_bit hb h2) hj]; exact h4
  · rintro ⟨i, h1, h2⟩
    obtain ⟨j, hj, h3, h4⟩ := (arS_bit T b i).mp h2
    refine ⟨j, (arS_bit T a j).mpr ⟨i, lt_bit ha h1, h1, ?_⟩, h3⟩
    rw [hT.2.2.2.2.1 i j (lt_bit ha h1) hj]; exact h4
theorem arS_lt2 {T : TD} (hT : TdOk T) (s : Nat) : arS T s < 2 ^ tD T := orS_lt _ fun j hj => (hT.2.2.2.1 j hj).2.1
theorem gsF_lt {T : TD} (hT : TdOk T) {F : Nat → Nat} (hF : ∀ i, F i < 2 ^ tD T) (P : Nat → Bool) : ∀ i, (gsF T F P i).1 < 2 ^ tD T
  | 0 => by show 2 ^ tD T - 1 < 2 ^ tD T; have := Nat.two_pow_pos (tD T); omega
  | i + 1 => by
    rw [gsF]
    split
    · exact Nat.lt_of_le_of_lt Nat.and_le_right (hF i)
    · exact gsF_lt hT hF P i
theorem ch_gs {T : TD} (hT : TdOk T) {F : Nat → Nat} (hF : ∀ i, F i < 2 ^ tD T) (P : Nat → Bool) : ∀ j s, s < 2 ^ tD T → (chB T F P j s = true ↔ ((gsF T F P j).2 = true ∨ s &&& (gsF T F P j).1 ≠ 0))
  | 0, s, _ => by simp [chB, gsF]
  | j + 1, s, hs => by
    rw [chB, gsF]
    by_cases hp : P j = true
    · rw [if_pos hp, if_pos hp, Bool.and_eq_true, decide_eq_true_iff, ch_gs hT hF P j _ (arS_lt2 hT _)]
      by_cases hf : (gsF T F P j).2 = true
      · rw [hf]
        simp only [true_or, and_true, ↓reduceIte, Bool.false_eq_true, false_or]
        by_cases h0 : ∀ i, i < j → P i = false
        · have : gsF T F P j = (2 ^ tD T - 1, true) := by
            clear hp hf
            induction j with
            | zero => rfl
            | succ j ih => rw [gsF, if_neg (by rw [h0 j (by omega)]; simp)]; exact ih (fun i hi => h0 i (by omega))
          rw [this, and_nz, and_nz]
          constructor
          · rintro ⟨i, h1, h2⟩
            refine ⟨i, h1, ?_⟩
            rw [Nat.testBit_and, h2, Nat.testBit_two_pow_sub_one, decide_eq_true (lt_bit (hF j) h2)]
            rfl
          · rintro ⟨i, h1, h2⟩
            rw [Nat.testBit_and, Bool.and_eq_true] at h2
            exact ⟨i, h1, h2.2⟩
        · exfalso
          refine h0 ?_
          intro i hi
          cases hc : P i with
          | false => rfl
          | true =>
            have : ∀ m, i < m → (gsF T F P m).2 = false := by
              intro m hm
              induction m with
              | zero => omega
              | succ m ih =>
                rw [gsF]
                by_cases e : P m = true
                · rw [if_pos e]
                · rw [if_neg e]
                  by_cases e2 : i = m
                  · subst e2; exact absurd hc e
                  · exact ih (by omega)
            rw [this j hi] at hf
            cases hf
      · have hf : (gsF T F P j).2 = false := by simpa using hf
        rw [hf]
        simp only [Bool.false_eq_true, false_or, ↓reduceIte]
        have hsF : s &&& F j < 2 ^ tD T := Nat.lt_of_le_of_lt Nat.and_le_left hs
        rw [ar_sym hT hsF (gsF_lt hT hF P j)]
        have e : s &&& (arS T (gsF T F P j).1 &&& F j) = s &&& F j &&& arS T (gsF T F P j).1 := by
          rw [Nat.and_assoc, Nat.and_comm (F j)]
        rw [e]
        constructor
        · exact fun h => h.2
        · intro h
          refine ⟨fun h0 => h ?_, h⟩
          rw [h0, Nat.zero_and]
    · rw [if_neg hp, if_neg hp]
      exact ch_gs hT hF P j s hs
/-- a way of parting -/
def ptB (T : TD) (F : Nat → Nat) (x : Nat) : Nat → Nat → Nat → Bool
  | 0, _, _ => true
  | j + 1, a, b => if x.testBit j then decide (b &&& F j ≠ 0) && ptB T F x j a (arS T (b &&& F j)) else decide (a &&& F j ≠ 0) && ptB T F x j (arS T (a &&& F j)) b
theorem ptB_ch (T : TD) (F : Nat → Nat) (x : Nat) : ∀ j a b, ptB T F x j a b = (chB T F (fun i => !x.testBit i) j a && chB T F x.testBit j b)
  | 0, _, _ => rfl
  | j + 1, a, b => by
    rw [ptB, chB, chB]
    by_cases h : x.testBit j = true
    · rw [if_pos h, if_pos h, h, ptB_ch T F x j]
      simp only [Bool.not_true, Bool.false_eq_true, ↓reduceIte]
      cases decide (b &&& F j ≠ 0) <;> simp
    · have h : x.testBit j = false := by simpa using h
      rw [h]
      simp only [ptB_ch T F x j, Bool.false_eq_true, ↓reduceIte, Bool.not_false]
      cases decide (a &&& F j ≠ 0) <;> simp
theorem ptB_congr {T : TD} {F : Nat → Nat} {x y : Nat} : ∀ j a b, (∀ i, i < j → x.testBit i = y.testBit i) → ptB T F x j a b = ptB T F y j a b
  | 0, _, _, _ => rfl
  | j + 1, a, b, h => by
    rw [ptB, ptB, h j (by omega)]
    rw [ptB_congr j _ _ (fun i hi => h i (by omega)), ptB_congr j _ _ (fun i hi => h i (by omega))]
theorem cntB_add (p : Nat → Bool) (m : Nat) : ∀ n, cntB p (m + n) = cntB p m + cntB (fun i => p (m + i)) n
  | 0 => rfl
  | n + 1 => by
    show cntB p (m + n) + (if p (m + n) = true then 1 else 0) = _
    rw [cntB_add p m n, cntB]
    omega
theorem cntB_false : ∀ n, cntB (fun _ => false) n = 0
  | 0 => rfl
  | n + 1 => by rw [cntB, cntB_false n]; rfl
theorem bit_hi {j x : Nat} (hx : x < 2 ^ j) : (2 ^ j + x).testBit j = true ∧ ∀ i, i < j → (2 ^ j + x).testBit i = x.testBit i := by
  constructor
  · rw [Nat.testBit_two_pow_add_eq, Nat.testBit_lt_two_pow hx]; rfl
  · intro i hi
    rw [Nat.testBit_two_pow_add_gt hi]
theorem bit_lo {j x : Nat} (hx : x < 2 ^ j) : x.testBit j = false := Nat.testBit_lt_two_pow hx
theorem pt_cnt (T : TD) (F : Nat → Nat) : ∀ j a b, ptC T F j a b = cntB (fun x => ptB T F x j a b) (2 ^ j)
  | 0, _, _ => rfl
  | j + 1, a, b => by
    rw [ptC, Nat.pow_succ, Nat.mul_two, cntB_add]
    have h1 : cntB (fun x => ptB T F x (j + 1) a b) (2 ^ j) = if a &&& F j = 0 then 0 else ptC T F j (arS T (a &&& F j)) b := by
      rw [cntB_congr (q := fun x => decide (a &&& F j ≠ 0) && ptB T F x j (arS T (a &&& F j)) b) _ (fun x hx => by rw [ptB, bit_lo hx]; simp)]
      by_cases h : a &&& F j = 0
      · rw [if_pos h, cntB_congr (q := fun _ => false) _ (fun x _ => by simp [h]), cntB_false]
      · rw [if_neg h, pt_cnt T F j]
        exact cntB_congr _ (fun x _ => by simp [h])
    have h2 : cntB (fun x => ptB T F (2 ^ j + x) (j + 1) a b) (2 ^ j) = if b &&& F j = 0 then 0 else ptC T F j a (arS T (b &&& F j)) := by
      rw [cntB_congr (q := fun x => decide (b &&& F j ≠ 0) && ptB T F x j a (arS T (b &&& F j))) _ (fun x hx => by rw [ptB, (bit_hi hx).1, if_pos rfl, ptB_congr j _ _ (bit_hi hx).2])]
      by_cases h : b &&& F j = 0
      · rw [if_pos h, cntB_congr (q := fun _ => false) _ (fun x _ => by simp [h]), cntB_false]
      · rw [if_neg h, pt_cnt T F j]
        exact cntB_congr _ (fun x _ => by simp [h])
    rw [h1, h2]
/-- the least of them -/
theorem pt_fst (T : TD) (F : Nat → Nat) : ∀ j a b, (∀ x, ptL T F j a b = some x → x < 2 ^ j ∧ ptB T F x j a b = true ∧ ∀ y, y < x → ptB T F y j a b = false) ∧ (ptL T F j a b = none → ∀ x, x < 2 ^ j → ptB T F x j a b = false)
  | 0, _, _ => by
    refine ⟨fun x h => ?_, fun h => by cases h⟩
    cases h
    exact ⟨by decide, rfl, fun y hy => by omega⟩
  | j + 1, a, b => by
    have pp : 2 ^ (j + 1) = 2 ^ j + 2 ^ j := by rw [Nat.pow_succ]; omega
    have lo : ∀ x, x < 2 ^ j → ptB T F x (j + 1) a b = (decide (a &&& F j ≠ 0) && ptB T F x j (arS T (a &&& F j)) b) := fun x hx => by rw [ptB, bit_lo hx]; simp
    have hi : ∀ x, x < 2 ^ j → ptB T F (2 ^ j + x) (j + 1) a b = (decide (b &&& F j ≠ 0) && ptB T F x j a (arS T (b &&& F j))) := fun x hx => by rw [ptB, (bit_hi hx).1, if_pos rfl, ptB_congr j _ _ (bit_hi hx).2]
    have ha := pt_fst T F j (arS T (a &&& F j)) b
    have hb := pt_fst T F j a (arS T (b &&& F j))
    rw [ptL]
    cases h1 : (if a &&& F j = 0 then none else ptL T F j (arS T (a &&& F j)) b) with
    | some r =>
      simp only
      refine ⟨fun x hx => ?_, fun h => by cases h⟩
      cases hx
      split at h1
      · cases h1
      next hne =>
        have := ha.1 r h1
        refine ⟨by omega, ?_, fun y hy => ?_⟩
        · rw [lo r this.1, this.2.1]; simp [hne]
        · rw [lo y (by omega), this.2.2 y hy]; simp
    | none =>
      have hlo : ∀ x, x < 2 ^ j → ptB T F x (j + 1) a b = false := by
        intro x hx
        rw [lo x hx]
        split at h1
        next he => simp [he]
        next hne => rw [ha.2 h1 x hx]; simp
      simp only
      by_cases h2 : b &&& F j = 0
      · rw [if_pos h2]
        refine ⟨fun x h => (by cases h), fun _ x hx => ?_⟩
        by_cases hc : x < 2 ^ j
        · exact hlo x hc
        · have := hi (x - 2 ^ j) (by omega)
          rw [show 2 ^ j + (x - 2 ^ j) = x by omega] at this
          rw [this]; simp [h2]
      · rw [if_neg h2]
        cases h3 : ptL T F j a (arS T (b &&& F j)) with
        | none =>
          refine ⟨fun x h => (by cases h), fun _ x hx => ?_⟩
          by_cases hc : x < 2 ^ j
          · exact hlo x hc
          · have := hi (x - 2 ^ j) (by omega)
            rw [show 2 ^ j + (x - 2 ^ j) = x by omega] at this
            rw [this, hb.2 h3 _ (by omega)]; simp
        | some r =>
          have hr := hb.1 r h3
          have e : r ||| 2 ^ j = 2 ^ j + r := by rw [Nat.or_comm]; exact (Nat.two_pow_add_eq_or_of_lt hr.1 1 |> fun h => by simpa using h.symm)
          refine ⟨fun x h => ?_, fun h => by cases h⟩
          have h : r ||| 2 ^ j = x := Option.some.inj h
          rw [e] at h
          subst h
          refine ⟨by omega, ?_, fun y hy => ?_⟩
          · rw [hi r hr.1, hr.2.1]; simp [h2]
          · by_cases hc : y < 2 ^ j
            · exact hlo y hc
            · have := hi (y - 2 ^ j) (by omega)
              rw [show 2 ^ j + (y - 2 ^ j) = y by omega] at this
              rw [this, hr.2.2 _ (by omega)]; simp
