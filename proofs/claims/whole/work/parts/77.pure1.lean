/-! PURE: ways counted from either end -/
theorem sumN_congr {f g : Nat → Nat} : ∀ n, (∀ k, k < n → f k = g k) → sumN f n = sumN g n
  | 0, _ => rfl
  | n + 1, h => by rw [sumN, sumN, sumN_congr n (fun k hk => h k (by omega)), h n (by omega)]
theorem sumN_ext {f : Nat → Nat} {D : Nat} (h : ∀ k, D ≤ k → f k = 0) : ∀ n, D ≤ n → sumN f n = sumN f D
  | 0, hn => by rw [show D = 0 by omega]
  | n + 1, hn => by
    by_cases e : D = n + 1
    · rw [e]
    · rw [sumN, sumN_ext h n (by omega), h n (by omega), Nat.add_zero]
theorem sumN_mul (c : Nat) (f : Nat → Nat) : ∀ n, c * sumN f n = sumN (fun k => c * f k) n
  | 0 => Nat.mul_zero c
  | n + 1 => by rw [sumN, sumN, Nat.mul_add, sumN_mul c f n]
theorem sumN_add (f g : Nat → Nat) : ∀ n, sumN (fun k => f k + g k) n = sumN f n + sumN g n
  | 0 => rfl
  | n + 1 => by rw [sumN, sumN, sumN, sumN_add f g n]; omega
theorem sumN_zero : ∀ n, sumN (fun _ => 0) n = 0
  | 0 => rfl
  | n + 1 => by rw [sumN, sumN_zero n]
theorem sumN_swap (f : Nat → Nat → Nat) (m : Nat) : ∀ n, sumN (fun a => sumN (fun b => f a b) m) n = sumN (fun b => sumN (fun a => f a b) n) m
  | 0 => (sumN_zero m).symm
  | n + 1 => by
    rw [sumN, sumN_swap f m n, ← sumN_add]
    rfl
theorem sumN_nz {f : Nat → Nat} : ∀ n, sumN f n ≠ 0 ↔ ∃ k, k < n ∧ f k ≠ 0
  | 0 => by simp [sumN]
  | n + 1 => by
    have ih := sumN_nz (f := f) n
    rw [sumN]
    constructor
    · intro h
      by_cases e : sumN f n = 0
      · exact ⟨n, by omega, by omega⟩
      · obtain ⟨k, h1, h2⟩ := ih.mp e
        exact ⟨k, by omega, h2⟩
    · rintro ⟨k, h1, h2⟩
      by_cases e : k = n
      · subst e; omega
      · have := ih.mpr ⟨k, by omega, h2⟩
        omega
theorem rsB_0d (T : TD) (F : Nat → Nat) (tp : Nat → Bool) (n d : Nat) : rsB T F tp n 0 d = if (F (n - 1)).testBit d then (if tp d then 1 else 0) else 0 := rfl
theorem rsB_sd (T : TD) (F : Nat → Nat) (tp : Nat → Bool) (n j d : Nat) : rsB T F tp n (j + 1) d = if (F (n - 2 - j)).testBit d then sumN (fun o => if (tE T d).testBit o then rsB T F tp n j o else 0) 12 else 0 := rfl
theorem cwW_0d (T : TD) (F : Nat → Nat) (fr d : Nat) : cwW T F fr 0 d = if (F 0 &&& fr).testBit d then 1 else 0 := rfl
def bt1 (b : Bool) : Nat := if b then 1 else 0
theorem ite_b (b : Bool) (x : Nat) : (if b = true then x else 0) = bt1 b * x := by
  cases b <;> simp [bt1]
theorem TdOk.out {T : TD} (h : TdOk T) {d o : Nat} (ho : tD T ≤ o) : (tE T d).testBit o = false := by
  by_cases hd : d < tD T
  · exact Nat.testBit_lt_two_pow (Nat.lt_of_lt_of_le (h.2.2.2.1 d hd).2.1 (Nat.pow_le_pow_right (by decide) ho))
  · rw [h.2.2.2.2.2.2 d (by omega), Nat.zero_testBit]
theorem rsB_s {T : TD} (hT : TdOk T) (F : Nat → Nat) (tp : Nat → Bool) (n j d : Nat) : rsB T F tp n (j + 1) d = if (F (n - 2 - j)).testBit d then sumN (fun o => if (tE T d).testBit o then rsB T F tp n j o else 0) (tD T) else 0 := by
  rw [rsB]
  have : sumN (fun o => if (tE T d).testBit o then rsB T F tp n j o else 0) 12 = sumN (fun o => if (tE T d).testBit o then rsB T F tp n j o else 0) (tD T) := sumN_ext (fun k hk => by rw [hT.out hk]; rfl) 12 hT.2.1
  rw [← this]
theorem rsB_F {T : TD} (F : Nat → Nat) (tp : Nat → Bool) (n j d : Nat) (hj : j < n) (h : (F (n - 1 - j)).testBit d = false) : rsB T F tp n j d = 0 := by
  cases j with
  | zero =>
    rw [rsB]
    rw [show n - 1 - 0 = n - 1 by omega] at h
    simp [h]
  | succ j =>
    rw [rsB]
    rw [show n - 1 - (j + 1) = n - 2 - j by omega] at h
    simp [h]
theorem cwW_F {T : TD} (F : Nat → Nat) (fr p d : Nat) (h : (F p).testBit d = false) : cwW T F fr p d = 0 := by
  cases p with
  | zero => rw [cwW]; simp [h]
  | succ p => rw [cwW]; unfold cntP; simp [h]
/-- both ends together -/
def bothE (T : TD) (F : Nat → Nat) (tp : Nat → Bool) (fr n p : Nat) : Nat := sumN (fun d => cwW T F fr p d * rsB T F tp n (n - 1 - p) d) (tD T)
theorem bothE_s {T : TD} (hT : TdOk T) (F : Nat → Nat) (tp : Nat → Bool) (fr n p : Nat) (hp : p + 1 < n) : bothE T F tp fr n (p + 1) = bothE T F tp fr n p := by
  unfold bothE
  have h1 : sumN (fun d => cwW T F fr (p + 1) d * rsB T F tp n (n - 1 - (p + 1)) d) (tD T) = sumN (fun d => sumN (fun e => bt1 ((tE T d).testBit e) * cwW T F fr p e * rsB T F tp n (n - 2 - p) d) (tD T)) (tD T) := by
    refine sumN_congr _ (fun d hd => ?_)
    rw [show n - 1 - (p + 1) = n - 2 - p by omega]
    by_cases hF : (F (p + 1)).testBit d = true
    · rw [cwW]
      unfold cntP
      rw [if_pos hF, Nat.mul_comm, sumN_mul]
      refine sumN_congr _ (fun e _ => ?_)
      rw [ite_b, Nat.mul_comm]
    · have hF : (F (p + 1)).testBit d = false := by simpa using hF
      rw [rsB_F F tp n (n - 2 - p) d (by omega) (by rw [show n - 1 - (n - 2 - p) = p + 1 by omega]; exact hF), Nat.mul_zero]
      rw [sumN_congr (g := fun _ => 0) _ (fun e _ => Nat.mul_zero _), sumN_zero]
  have h2 : sumN (fun d => cwW T F fr p d * rsB T F tp n (n - 1 - p) d) (tD T) = sumN (fun e => sumN (fun d => bt1 ((tE T d).testBit e) * cwW T F fr p e * rsB T F tp n (n - 2 - p) d) (tD T)) (tD T) := by
    refine sumN_congr _ (fun e he => ?_)
    by_cases hF : (F p).testBit e = true
    · rw [show n - 1 - p = (n - 2 - p) + 1 by omega, rsB_s hT, show n - 2 - (n - 2 - p) = p by omega, if_pos hF, sumN_mul]
      refine sumN_congr _ (fun d hd => ?_)
      rw [ite_b, hT.2.2.2.2.1 e d he hd, ← Nat.mul_assoc, Nat.mul_comm (cwW T F fr p e)]
    · have hF : (F p).testBit e = false := by simpa using hF
      rw [cwW_F F fr p e hF, Nat.zero_mul]
      rw [sumN_congr (g := fun _ => 0) _ (fun d _ => by rw [Nat.mul_zero, Nat.zero_mul]), sumN_zero]
  rw [h1, h2, sumN_swap]
theorem bothE_0 {T : TD} (hT : TdOk T) (F : Nat → Nat) (tp : Nat → Bool) (fr n : Nat) : ∀ p, p < n → bothE T F tp fr n p = bothE T F tp fr n 0
  | 0, _ => rfl
  | p + 1, h => by rw [bothE_s hT F tp fr n p h, bothE_0 hT F tp fr n p (by omega)]
/-- ways from the end are ways from the start -/
theorem ways_eq {T : TD} (hT : TdOk T) (F : Nat → Nat) (tp : Nat → Bool) (fr to n : Nat) (hn : 1 ≤ n) (htp : ∀ d, d < tD T → tp d = to.testBit d) : sumN (fun d => if fr.testBit d then rsB T F tp n (n - 1) d else 0) (tD T) = cwR T F fr to n := by
  unfold cwR
  rw [if_neg (by omega)]
  have h0 : bothE T F tp fr n 0 = sumN (fun d => if fr.testBit d then rsB T F tp n (n - 1) d else 0) (tD T) := by
    unfold bothE
    refine sumN_congr _ (fun d hd => ?_)
    rw [show n - 1 - 0 = n - 1 by omega, cwW_0d, Nat.testBit_and]
    by_cases hF : (F 0).testBit d = true
    · rw [hF]
      cases fr.testBit d <;> simp
    · have hF : (F 0).testBit d = false := by simpa using hF
      rw [rsB_F F tp n (n - 1) d (by omega) (by rw [show n - 1 - (n - 1) = 0 by omega]; exact hF)]
      simp
  have h1 : bothE T F tp fr n (n - 1) = sumN (fun d => if to.testBit d then cwW T F fr (n - 1) d else 0) (tD T) := by
    unfold bothE
    refine sumN_congr _ (fun d hd => ?_)
    rw [show n - 1 - (n - 1) = 0 by omega, rsB_0d, htp d hd]
    by_cases hF : (F (n - 1)).testBit d = true
    · rw [hF]
      cases to.testBit d <;> simp
    · have hF : (F (n - 1)).testBit d = false := by simpa using hF
      rw [cwW_F F fr (n - 1) d hF]
      simp
  rw [← h0, ← h1, bothE_0 hT F tp fr n (n - 1) (by omega)]
/-- the doors reached at a place -/
def fwd (T : TD) (F : Nat → Nat) (fr : Nat) : Nat → Nat
  | 0 => fr &&& F 0
  | p + 1 => arS T (fwd T F fr p) &&& F (p + 1)
theorem arS_bit (T : TD) (s i : Nat) : (arS T s).testBit i = true ↔ ∃ j, j < tD T ∧ s.testBit j = true ∧ (tE T j).testBit i = true := orS_bit _
theorem cw_nz {T : TD} (hT : TdOk T) (F : Nat → Nat) (fr : Nat) : ∀ p d, d < tD T → (cwW T F fr p d ≠ 0 ↔ (fwd T F fr p).testBit d = true)
  | 0, d, _ => by
    rw [cwW, fwd, Nat.and_comm]
    by_cases h : (fr &&& F 0).testBit d = true
    · simp [h]
    · simp [h]
  | p + 1, d, hd => by
    rw [cwW, fwd, Nat.testBit_and, Bool.and_eq_true, arS_bit]
    unfold cntP
    by_cases hF : (F (p + 1)).testBit d = true
    · rw [if_pos hF, sumN_nz]
      constructor
      · rintro ⟨e, he, h⟩
        refine ⟨⟨e, he, ?_, ?_⟩, hF⟩
        · rw [← cw_nz hT F fr p e he]
          intro h0
          rw [h0] at h
          simp at h
        · rw [hT.2.2.2.2.1 e d he hd]
          cases hb : (tE T d).testBit e
          · rw [hb] at h; simp at h
          · rfl
      · rintro ⟨⟨e, he, h1, h2⟩, -⟩
        refine ⟨e, he, ?_⟩
        rw [hT.2.2.2.2.1 e d he hd] at h2
        rw [if_pos h2]
        exact (cw_nz hT F fr p e he).mpr h1
    · rw [if_neg hF]
      exact ⟨fun h => absurd rfl h, fun h => absurd h.2 hF⟩
theorem rs_nz {T : TD} (hT : TdOk T) (F : Nat → Nat) (n : Nat) : ∀ j d, j < n → d < tD T → (rsB T F (fun _ => true) n j d ≠ 0 ↔ (opnS T F n j).testBit d = true)
  | 0, d, _, _ => by
    rw [rsB, opnS]
    by_cases h : (F (n - 1)).testBit d = true
    · simp [h]
    · simp [h]
  | j + 1, d, hj, hd => by
    rw [rsB_s hT, opnS, Nat.testBit_and, Bool.and_eq_true, arS_bit]
    by_cases hF : (F (n - 2 - j)).testBit d = true
    · rw [if_pos hF, sumN_nz]
      constructor
      · rintro ⟨e, he, h⟩
        refine ⟨⟨e, he, ?_, ?_⟩, hF⟩
        · rw [← rs_nz hT F n j e (by omega) he]
          intro h0
          rw [h0] at h
          simp at h
        · rw [hT.2.2.2.2.1 e d he hd]
          cases hb : (tE T d).testBit e
          · rw [hb] at h; simp at h
          · rfl
      · rintro ⟨⟨e, he, h1, h2⟩, -⟩
        refine ⟨e, he, ?_⟩
        rw [hT.2.2.2.2.1 e d he hd] at h2
        rw [if_pos h2]
        exact (rs_nz hT F n j e (by omega) he).mpr h1
    · rw [if_neg hF]
      exact ⟨fun h => absurd rfl h, fun h => absurd h.2 hF⟩
theorem rsB_tp {T : TD} (hT : TdOk T) (F : Nat → Nat) (tp tq : Nat → Bool) (n : Nat) (h : ∀ d, d < tD T → tp d = tq d) : ∀ j d, d < tD T → rsB T F tp n j d = rsB T F tq n j d
  | 0, d, hd => by rw [rsB_0d, rsB_0d, h d hd]
  | j + 1, d, hd => by
    rw [rsB_s hT, rsB_s hT, sumN_congr _ (fun o ho => by rw [rsB_tp hT F tp tq n h j o ho])]
theorem rsB_le {T : TD} (F : Nat → Nat) (tp : Nat → Bool) (n : Nat) : ∀ j d, rsB T F tp n j d ≤ 12 ^ j
  | 0, d => by rw [rsB_0d]; split <;> (try split) <;> simp
  | j + 1, d => by
    rw [rsB_sd]
    split
    · have := sumN_le (f := fun o => if (tE T d).testBit o then rsB T F tp n j o else 0) (c := 12 ^ j) 12 (fun k _ => by
        show (if (tE T d).testBit k then rsB T F tp n j k else 0) ≤ 12 ^ j
        split
        · exact rsB_le F tp n j k
        · exact Nat.zero_le _)
      rw [Nat.pow_succ]
      omega
    · exact Nat.zero_le _
