/-! NUMBERS -/
theorem z_lit (n : Nat) : (OfNat.ofNat n : Int32) = nI n := rfl
theorem z_l0 : (0 : Int32) = nI 0 := rfl
theorem z_l1 : (1 : Int32) = nI 1 := rfl
theorem z_l2 : (2 : Int32) = nI 2 := rfl
theorem z_l3 : (3 : Int32) = nI 3 := rfl
theorem z_l4 : (4 : Int32) = nI 4 := rfl
theorem z_l5 : (5 : Int32) = nI 5 := rfl
theorem z_l6 : (6 : Int32) = nI 6 := rfl
theorem z_l7 : (7 : Int32) = nI 7 := rfl
theorem z_l8 : (8 : Int32) = nI 8 := rfl
theorem z_l9 : (9 : Int32) = nI 9 := rfl
theorem z_l10 : (10 : Int32) = nI 10 := rfl
theorem z_l11 : (11 : Int32) = nI 11 := rfl
theorem z_l12 : (12 : Int32) = nI 12 := rfl
theorem z_l13 : (13 : Int32) = nI 13 := rfl
theorem z_l16 : (16 : Int32) = nI 16 := rfl
theorem z_l23 : (23 : Int32) = nI 23 := rfl
theorem z_l24 : (24 : Int32) = nI 24 := rfl
theorem z_l31 : (31 : Int32) = nI 31 := rfl
theorem z_l32 : (32 : Int32) = nI 32 := rfl
theorem z_l33 : (33 : Int32) = nI 33 := rfl
theorem z_l46 : (46 : Int32) = nI 46 := rfl
theorem z_l47 : (47 : Int32) = nI 47 := rfl
theorem z_l48 : (48 : Int32) = nI 48 := rfl
theorem z_l57 : (57 : Int32) = nI 57 := rfl
theorem z_l63 : (63 : Int32) = nI 63 := rfl
theorem z_l64 : (64 : Int32) = nI 64 := rfl
theorem z_l68 : (68 : Int32) = nI 68 := rfl
theorem z_l83 : (83 : Int32) = nI 83 := rfl
theorem z_l84 : (84 : Int32) = nI 84 := rfl
theorem z_l87 : (87 : Int32) = nI 87 := rfl
theorem z_l96 : (96 : Int32) = nI 96 := rfl
theorem z_l97 : (97 : Int32) = nI 97 := rfl
theorem z_l98 : (98 : Int32) = nI 98 := rfl
theorem z_l99 : (99 : Int32) = nI 99 := rfl
theorem z_l103 : (103 : Int32) = nI 103 := rfl
theorem z_l255 : (255 : Int32) = nI 255 := rfl
theorem z_l256 : (256 : Int32) = nI 256 := rfl
theorem z_l768 : (768 : Int32) = nI 768 := rfl
theorem z_l1088 : (1088 : Int32) = nI 1088 := rfl
theorem z_l1089 : (1089 : Int32) = nI 1089 := rfl
theorem z_l4096 : (4096 : Int32) = nI 4096 := rfl
theorem z_l9999 : (9999 : Int32) = nI 9999 := rfl
theorem z_l13068 : (13068 : Int32) = nI 13068 := rfl
theorem z_l65536 : (65536 : Int32) = nI 65536 := rfl
theorem z_litL (n : Nat) : (OfNat.ofNat n : Int64) = lN n := rfl
theorem z_m9 : ∀ {a : Nat}, a < 2 ^ 31 → ¬ nI a = -9 := by
  intro a h e
  have h1 := nI_toInt h
  rw [e] at h1
  have h2 : (-9 : Int32).toInt = -9 := by decide
  omega
theorem z_and (a b : Nat) : nI a &&& nI b = nI (a &&& b) := by
  apply Int32.toBitVec_inj.1
  show BitVec.ofNat 32 a &&& BitVec.ofNat 32 b = BitVec.ofNat 32 (a &&& b)
  apply BitVec.eq_of_getLsbD_eq
  intro i hi
  simp [hi]
theorem z_or (a b : Nat) : nI a ||| nI b = nI (a ||| b) := by
  apply Int32.toBitVec_inj.1
  show BitVec.ofNat 32 a ||| BitVec.ofNat 32 b = BitVec.ofNat 32 (a ||| b)
  apply BitVec.eq_of_getLsbD_eq
  intro i hi
  simp [hi]
theorem z_xor (a b : Nat) : nI a ^^^ nI b = nI (a ^^^ b) := by
  apply Int32.toBitVec_inj.1
  show BitVec.ofNat 32 a ^^^ BitVec.ofNat 32 b = BitVec.ofNat 32 (a ^^^ b)
  apply BitVec.eq_of_getLsbD_eq
  intro i hi
  simp [hi]
theorem z_sm : ∀ k, k < 32 → ((nI k &&& 31).toBitVec.smod 32).toNat = k := by decide +kernel
theorem z_shr {a k : Nat} (ha : a < 2 ^ 31) (hk : k < 32) : nI a >>> (nI k &&& nI 31) = nI (a >>> k) := by
  rw [show nI 31 = 31 from rfl, pk_shrN ha _ k (z_sm k hk), Nat.shiftRight_eq_div_pow]
theorem z_shl {a k : Nat} (hk : k < 32) (h : a * 2 ^ k < 2 ^ 32) : nI a <<< (nI k &&& nI 31) = nI (a <<< k) := by
  rw [show nI 31 = 31 from rfl, pk_shlN _ k (z_sm k hk) h, Nat.shiftLeft_eq]
theorem z_p2 : ∀ k, k < 32 → nI 1 <<< (nI k &&& nI 31) = nI (2 ^ k) := by
  intro k hk
  rw [z_shl hk (by rw [Nat.one_mul]; exact Nat.pow_lt_pow_right (by decide) hk), Nat.shiftLeft_eq, Nat.one_mul]
theorem z_p2m : ∀ k, k < 31 → nI (2 ^ k) - nI 1 = nI (2 ^ k - 1) := by
  intro k hk
  exact pk_sub (Nat.two_pow_pos k)
theorem z_bit1 {a k : Nat} : (a >>> k) &&& 1 = if a.testBit k then 1 else 0 := by
  rw [Nat.testBit, Nat.and_comm]
  have : 1 &&& a >>> k < 2 := Nat.lt_succ_of_le (Nat.and_le_left)
  by_cases h : (1 &&& a >>> k) = 0
  · simp [h]
  · have : (1 &&& a >>> k) = 1 := by omega
    simp [this]
/-- a truth as an int -/
def b2i (c : Prop) [Decidable c] : Int32 := if c then 1 else 0
theorem b2i_01 (c : Prop) [Decidable c] : (b2i c = 0 ∨ b2i c = 1) = True := by unfold b2i; split <;> simp
theorem b2i_0 (c : Prop) [Decidable c] : (b2i c = 0) = ¬ c := by unfold b2i; split <;> simp_all
theorem b2i_n0 (c : Prop) [Decidable c] : (¬ b2i c = 0) = c := by unfold b2i; split <;> simp_all
theorem b2i_t {c : Prop} [Decidable c] (h : c) : b2i c = 1 := if_pos h
theorem b2i_f {c : Prop} [Decidable c] (h : ¬ c) : b2i c = 0 := if_neg h
theorem b2i_nI (c : Prop) [Decidable c] : b2i c = nI (if c then 1 else 0) := by unfold b2i; split <;> rfl
theorem z_lt0 {a : Nat} (h : a < 2 ^ 31) : (nI a < nI 0) = False := eq_false (nI_pos h)
theorem z_inI {k n : Nat} (h : k < n) (hn : n < 2 ^ 31) : vp_in (nI k) n := vp_in_nI h hn
theorem z_ge0 (d : Int32) : (¬ d < nI 0) → ∃ k : Nat, k < 2 ^ 31 ∧ d = nI k := fun h => nI_of (by rw [show nI 0 = 0 from rfl] at h; exact h)
/-- an int that is an index below n, or not -/
theorem z_ix (d : Int32) {n : Nat} (hn : n < 2 ^ 31) : (∃ k : Nat, k < n ∧ d = nI k) ∨ (d < nI 0 ∨ (nI 0 ≤ d ∧ nI n ≤ d)) := by
  rcases pk_ix d hn with h | h | h
  · exact Or.inr (Or.inl h)
  · by_cases h0 : d < nI 0
    · exact Or.inr (Or.inl h0)
    · exact Or.inr (Or.inr ⟨Int32.not_lt.mp h0, h⟩)
  · exact Or.inl h
theorem z_bit_lt {a k n : Nat} (h : a < 2 ^ n) (hk : a.testBit k = true) : k < n := by
  rcases Nat.lt_or_ge k n with q | q
  · exact q
  · have h2 : a < 2 ^ k := Nat.lt_of_lt_of_le h (Nat.pow_le_pow_right (by decide) q)
    rw [Nat.testBit_lt_two_pow h2] at hk
    cases hk
theorem z_pow31 {n : Nat} (h : n ≤ 12) : 2 ^ n ≤ 4096 := Nat.pow_le_pow_right (n := 2) (i := n) (j := 12) (by decide) h
/-- a >>> k = 0: no bit from k on -/
theorem z_shr0 {a k : Nat} (h : a >>> k = 0) : ∀ j, k ≤ j → a.testBit j = false := by
  intro j hj
  have : (a >>> k).testBit (j - k) = a.testBit j := by rw [Nat.testBit_shiftRight]; congr 1; omega
  rw [← this, h]
  exact Nat.zero_testBit _
/-! or over the bits of a set -/
def orS (f : Nat → Nat) (s : Nat) : Nat → Nat
  | 0 => 0
  | k + 1 => orS f s k ||| (if s.testBit k then f k else 0)
theorem orS_lt {f : Nat → Nat} {s n : Nat} : ∀ k, (∀ j, j < k → f j < 2 ^ n) → orS f s k < 2 ^ n
  | 0, _ => Nat.two_pow_pos n
  | k + 1, h => by
    rw [orS]
    refine Nat.or_lt_two_pow (orS_lt k fun j hj => h j (by omega)) ?_
    split
    · exact h k (by omega)
    · exact Nat.two_pow_pos n
theorem orS_bit {f : Nat → Nat} {s i : Nat} : ∀ k, (orS f s k).testBit i = true ↔ ∃ j, j < k ∧ s.testBit j = true ∧ (f j).testBit i = true
  | 0 => by simp [orS]
  | k + 1 => by
    rw [orS, Nat.testBit_or, Bool.or_eq_true, orS_bit k]
    constructor
    · rintro (⟨j, h1, h2, h3⟩ | h)
      · exact ⟨j, by omega, h2, h3⟩
      · split at h
        · exact ⟨k, by omega, by assumption, h⟩
        · simp at h
    · rintro ⟨j, h1, h2, h3⟩
      by_cases e : j = k
      · subst e
        right
        rw [if_pos h2]
        exact h3
      · exact Or.inl ⟨j, by omega, h2, h3⟩
theorem orS_stop {f : Nat → Nat} {s k : Nat} (h : ∀ j, k ≤ j → s.testBit j = false) : ∀ n, orS f s (k + n) = orS f s k
  | 0 => rfl
  | n + 1 => by
    rw [← Nat.add_assoc, orS, orS_stop h n, h (k + n) (by omega)]
    simp
/-- the set of those below n for which p holds -/
def stS (p : Nat → Bool) : Nat → Nat
  | 0 => 0
  | k + 1 => stS p k ||| (if p k then 2 ^ k else 0)
theorem stS_lt {p : Nat → Bool} : ∀ k, stS p k < 2 ^ k
  | 0 => Nat.one_pos
  | k + 1 => by
    rw [stS]
    refine Nat.or_lt_two_pow (Nat.lt_of_lt_of_le (stS_lt k) (Nat.pow_le_pow_right (by decide) (by omega))) ?_
    split
    · exact Nat.pow_lt_pow_right (by decide) (by omega)
    · exact Nat.two_pow_pos _
theorem stS_bit {p : Nat → Bool} {i : Nat} : ∀ k, (stS p k).testBit i = (decide (i < k) && p i)
  | 0 => by simp [stS]
  | k + 1 => by
    rw [stS, Nat.testBit_or, stS_bit k]
    by_cases e : i = k
    · subst e
      split <;> simp_all
    · have e2 : ¬ k = i := fun q => e q.symm
      have : (if p k then 2 ^ k else 0 : Nat).testBit i = false := by
        split
        · rw [Nat.testBit_two_pow_of_ne e2]
        · exact Nat.zero_testBit _
      rw [this]
      by_cases h : i < k
      · simp [h, show i < k + 1 by omega]
      · simp [h, show ¬ i < k + 1 by omega]
