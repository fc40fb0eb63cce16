/-! bits: counting, clearing, the least -/
def cntB (p : Nat → Bool) : Nat → Nat
  | 0 => 0
  | k + 1 => cntB p k + (if p k then 1 else 0)
theorem cntB_le (p : Nat → Bool) : ∀ n, cntB p n ≤ n
  | 0 => Nat.le_refl _
  | n + 1 => by have := cntB_le p n; rw [cntB]; split <;> omega
def ones (s : Nat) : Nat := cntB s.testBit 12
def bcE (x0 : Int32) : Int32 :=
  let x1 := x0 - ((x0.toUInt32 >>> ((1 : Int32).toUInt32 &&& Int32.toUInt32 31)).toInt32 &&& 1431655765)
  let x2 := (x1 &&& 858993459) + ((x1.toUInt32 >>> ((2 : Int32).toUInt32 &&& Int32.toUInt32 31)).toInt32 &&& 858993459)
  let x3 := (x2 + (x2.toUInt32 >>> ((4 : Int32).toUInt32 &&& Int32.toUInt32 31)).toInt32) &&& 252645135
  let x4 := x3 + (x3.toUInt32 >>> ((8 : Int32).toUInt32 &&& Int32.toUInt32 31)).toInt32
  let x5 := x4 + (x4.toUInt32 >>> ((16 : Int32).toUInt32 &&& Int32.toUInt32 31)).toInt32
  x5 &&& 63
theorem z_4096 {P : Nat → Prop} (h : ∀ a, a < 64 → ∀ b, b < 64 → P (64 * a + b)) : ∀ s, s < 4096 → P s := fun s hs => by
  have := h (s / 64) (by omega) (s % 64) (by omega)
  rwa [show 64 * (s / 64) + s % 64 = s by omega] at this
theorem bcE_ok : ∀ s, s < 4096 → bcE (nI s) = nI (ones s) := z_4096 (P := fun s => bcE (nI s) = nI (ones s)) (by decide +kernel)
def w_J6_bitCount_0f7a4 : WPt := fun args σ Q => match args with
  | [.int x] => ∃ s, x = nI s ∧ s < 4096 ∧ Q (some (.int (nI (ones s)))) σ
  | _ => False
theorem m_J6_bitCount_0f7a4 : Meets yJ6_bitCount_0f7a4 cJ6_bitCount_0f7a4 1 (some .int) 1 w_J6_bitCount_0f7a4 := by
  refine Meets.mk (by decide) fun args σ Φ h => ?_
  unfold w_J6_bitCount_0f7a4 at h
  split at h
  rotate_left
  · exact h.elim
  rename_i x
  obtain ⟨s, rfl, hs, hQ⟩ := h
  refine ⟨Nat.le_of_ble_eq_true rfl, fun C hC hR => ?_⟩
  refine r_J6_bitCount_0f7a4_0 hC hR _ _ _ ?_
  simp only [T_J6_bitCount_0f7a4_0, x_psh, x_ild, x_lld, x_ald, x_ist, x_ast, x_lst, x_inc, x_iadd, x_isub, x_imul, x_iand, x_ior, x_ixor, x_ishl, x_ishr, x_iushr, x_idiv, x_irem, x_ladd, x_land, x_lor, x_lshl, x_lshr, x_ineg, x_i2l, x_l2i, x_i2b, x_lcmp, x_dup, x_dup2, x_if_eq, x_if_ne, x_if_lt, x_if_ge, x_if_gt, x_if_le, x_ic_eq, x_ic_ne, x_ic_lt, x_ic_ge, x_ic_gt, x_ic_le, x_getI, x_getR, x_putI, x_putZ, x_putR, x_iald, x_bald, x_lald, x_iast, x_bast, x_last, x_alen, x_acp, x_mmax, x_mmin, x_callV, x_callS, x_iret, x_zret, x_lret, x_aret, x_vret, x_tsw, x_stop, zst1, zst2, zkill, zkl, zsplit, zmask, zent, zentL, List.getElem?_cons_zero, List.getElem?_cons_succ, List.set_cons_zero, List.set_cons_succ, List.set_nil, List.length_cons, List.length_nil, List.replicate, List.nil_append, List.cons_append, List.map_cons, List.map_nil, List.sum_cons, List.sum_nil, Value.category, Option.toList, List.contains_cons, List.contains_nil, true_or, or_true, true_and, Nat.zero_le, Nat.reduceAdd, Nat.reduceLeDiff, Nat.reduceLT, Nat.reduceBEq, Bool.true_or, Bool.or_true, Bool.false_or, Bool.or_false, ↓reduceIte, Bool.false_eq_true, Nat.add_zero, Nat.zero_add, Nat.reduceEqDiff, Nat.reduceSub]
  show Φ (some (.int (bcE (nI s)))) σ
  rw [bcE_ok s hs]
  exact hQ
/-- the first below n, or n -/
def fstB (p : Nat → Bool) : Nat → Nat
  | 0 => 0
  | n + 1 => if fstB p n < n then fstB p n else if p n then n else n + 1
theorem fstB_le (p : Nat → Bool) : ∀ n, fstB p n ≤ n
  | 0 => Nat.le_refl _
  | n + 1 => by
    have := fstB_le p n
    rw [fstB]
    split
    · omega
    · split <;> omega
theorem fstB_no (p : Nat → Bool) : ∀ n k, k < fstB p n → p k = false
  | 0, k, h => absurd h (Nat.not_lt_zero k)
  | n + 1, k, h => by
    have ih := fstB_no p n
    rw [fstB] at h
    split at h
    · exact ih k h
    next h1 =>
      have h2 := fstB_le p n
      split at h
      · exact ih k (by omega)
      next h3 =>
        by_cases e : k = n
        · subst e; simpa using h3
        · exact ih k (by omega)
theorem fstB_yes (p : Nat → Bool) : ∀ n, fstB p n < n → p (fstB p n) = true
  | 0, h => absurd h (Nat.not_lt_zero _)
  | n + 1, h => by
    have ih := fstB_yes p n
    rw [fstB] at h ⊢
    split
    next h1 => exact ih h1
    next h1 =>
      rw [if_neg h1] at h
      split
      next h2 => exact h2
      next h2 => rw [if_neg h2] at h; omega
theorem fstB_eq {p : Nat → Bool} {n k : Nat} (hk : k < n) (h1 : p k = true) (h2 : ∀ j, j < k → p j = false) : fstB p n = k := by
  have a := fstB_le p n
  rcases Nat.lt_trichotomy (fstB p n) k with h | h | h
  · have := fstB_yes p n (by omega)
    rw [h2 _ h] at this
    cases this
  · exact h
  · have := fstB_no p n k h
    rw [h1] at this
    cases this
def lsb (s : Nat) : Nat := fstB s.testBit 12
theorem lsb_lt : ∀ s, s < 4096 → s ≠ 0 → lsb s < 12 := z_4096 (P := fun s => s ≠ 0 → lsb s < 12) (by decide +kernel)
theorem lsb_mask : ∀ s, s < 4096 → s ≠ 0 → (nI s ^^^ -1) &&& (nI s - 1) = nI (2 ^ lsb s - 1) := z_4096 (P := fun s => s ≠ 0 → (nI s ^^^ -1) &&& (nI s - 1) = nI (2 ^ lsb s - 1)) (by decide +kernel)
def w_J6_numberOfTrailingZeros_0f7a4 : WPt := fun args σ Q => match args with
  | [.int x] => ∃ s, x = nI s ∧ s < 4096 ∧ s ≠ 0 ∧ Q (some (.int (nI (lsb s)))) σ
  | _ => False
set_option maxHeartbeats 2000000 in
theorem m_J6_numberOfTrailingZeros_0f7a4 : Meets yJ6_numberOfTrailingZeros_0f7a4 cJ6_numberOfTrailingZeros_0f7a4 2 (some .int) 1 w_J6_numberOfTrailingZeros_0f7a4 := by
  refine Meets.mk (by decide) fun args σ Φ h => ?_
  unfold w_J6_numberOfTrailingZeros_0f7a4 at h
  split at h
  rotate_left
  · exact h.elim
  rename_i x
  obtain ⟨s, rfl, hs, hs0, hQ⟩ := h
  refine ⟨Nat.le_of_ble_eq_true rfl, fun C hC hR => ?_⟩
  refine r_J6_numberOfTrailingZeros_0f7a4_0 hC hR _ _ _ ?_
  simp only [T_J6_numberOfTrailingZeros_0f7a4_0, x_psh, x_ild, x_lld, x_ald, x_ist, x_ast, x_lst, x_inc, x_iadd, x_isub, x_imul, x_iand, x_ior, x_ixor, x_ishl, x_ishr, x_iushr, x_idiv, x_irem, x_ladd, x_land, x_lor, x_lshl, x_lshr, x_ineg, x_i2l, x_l2i, x_i2b, x_lcmp, x_dup, x_dup2, x_if_eq, x_if_ne, x_if_lt, x_if_ge, x_if_gt, x_if_le, x_ic_eq, x_ic_ne, x_ic_lt, x_ic_ge, x_ic_gt, x_ic_le, x_getI, x_getR, x_putI, x_putZ, x_putR, x_iald, x_bald, x_lald, x_iast, x_bast, x_last, x_alen, x_acp, x_mmax, x_mmin, x_callV, x_callS, x_iret, x_zret, x_lret, x_aret, x_vret, x_tsw, x_stop, zst1, zst2, zkill, zkl, zsplit, zmask, zent, zentL, List.getElem?_cons_zero, List.getElem?_cons_succ, List.set_cons_zero, List.set_cons_succ, List.set_nil, List.length_cons, List.length_nil, List.replicate, List.nil_append, List.cons_append, List.map_cons, List.map_nil, List.sum_cons, List.sum_nil, Value.category, Option.toList, List.contains_cons, List.contains_nil, true_or, or_true, true_and, Nat.zero_le, Nat.reduceAdd, Nat.reduceLeDiff, Nat.reduceLT, Nat.reduceBEq, Bool.true_or, Bool.or_true, Bool.false_or, Bool.or_false, ↓reduceIte, Bool.false_eq_true, Nat.add_zero, Nat.zero_add, Nat.reduceEqDiff, Nat.reduceSub]
  rw [lsb_mask s hs hs0]
  have hl := lsb_lt s hs hs0
  generalize lsb s = c at hQ hl
  have hc : c = 0 ∨ c = 1 ∨ c = 2 ∨ c = 3 ∨ c = 4 ∨ c = 5 ∨ c = 6 ∨ c = 7 ∨ c = 8 ∨ c = 9 ∨ c = 10 ∨ c = 11 := by omega
  rcases hc with rfl | rfl | rfl | rfl | rfl | rfl | rfl | rfl | rfl | rfl | rfl | rfl
  · refine br_f (by decide) ?_
    exact hQ
  all_goals
    refine br_t (by decide) ?_
    refine br_t (by decide) ?_
    refine r_J6_numberOfTrailingZeros_0f7a4_34 hC hR _ _ _ ?_
    simp only [T_J6_numberOfTrailingZeros_0f7a4_34, x_psh, x_ild, x_lld, x_ald, x_ist, x_ast, x_lst, x_inc, x_iadd, x_isub, x_imul, x_iand, x_ior, x_ixor, x_ishl, x_ishr, x_iushr, x_idiv, x_irem, x_ladd, x_land, x_lor, x_lshl, x_lshr, x_ineg, x_i2l, x_l2i, x_i2b, x_lcmp, x_dup, x_dup2, x_if_eq, x_if_ne, x_if_lt, x_if_ge, x_if_gt, x_if_le, x_ic_eq, x_ic_ne, x_ic_lt, x_ic_ge, x_ic_gt, x_ic_le, x_getI, x_getR, x_putI, x_putZ, x_putR, x_iald, x_bald, x_lald, x_iast, x_bast, x_last, x_alen, x_acp, x_mmax, x_mmin, x_callV, x_callS, x_iret, x_zret, x_lret, x_aret, x_vret, x_tsw, x_stop, zst1, zst2, zkill, zkl, zsplit, zmask, zent, zentL, List.getElem?_cons_zero, List.getElem?_cons_succ, List.set_cons_zero, List.set_cons_succ, List.set_nil, List.length_cons, List.length_nil, List.replicate, List.nil_append, List.cons_append, List.map_cons, List.map_nil, List.sum_cons, List.sum_nil, Value.category, Option.toList, List.contains_cons, List.contains_nil, true_or, or_true, true_and, Nat.zero_le, Nat.reduceAdd, Nat.reduceLeDiff, Nat.reduceLT, Nat.reduceBEq, Bool.true_or, Bool.or_true, Bool.false_or, Bool.or_false, ↓reduceIte, Bool.false_eq_true, Nat.add_zero, Nat.zero_add, Nat.reduceEqDiff, Nat.reduceSub]
    first | refine br_t (by decide) ?_ | refine br_f (by decide) ?_
    first | refine br_t (by decide) ?_ | refine br_f (by decide) ?_
    refine r_J6_numberOfTrailingZeros_0f7a4_62 hC hR _ _ _ ?_
    simp only [T_J6_numberOfTrailingZeros_0f7a4_62, x_psh, x_ild, x_lld, x_ald, x_ist, x_ast, x_lst, x_inc, x_iadd, x_isub, x_imul, x_iand, x_ior, x_ixor, x_ishl, x_ishr, x_iushr, x_idiv, x_irem, x_ladd, x_land, x_lor, x_lshl, x_lshr, x_ineg, x_i2l, x_l2i, x_i2b, x_lcmp, x_dup, x_dup2, x_if_eq, x_if_ne, x_if_lt, x_if_ge, x_if_gt, x_if_le, x_ic_eq, x_ic_ne, x_ic_lt, x_ic_ge, x_ic_gt, x_ic_le, x_getI, x_getR, x_putI, x_putZ, x_putR, x_iald, x_bald, x_lald, x_iast, x_bast, x_last, x_alen, x_acp, x_mmax, x_mmin, x_callV, x_callS, x_iret, x_zret, x_lret, x_aret, x_vret, x_tsw, x_stop, zst1, zst2, zkill, zkl, zsplit, zmask, zent, zentL, List.getElem?_cons_zero, List.getElem?_cons_succ, List.set_cons_zero, List.set_cons_succ, List.set_nil, List.length_cons, List.length_nil, List.replicate, List.nil_append, List.cons_append, List.map_cons, List.map_nil, List.sum_cons, List.sum_nil, Value.category, Option.toList, List.contains_cons, List.contains_nil, true_or, or_true, true_and, Nat.zero_le, Nat.reduceAdd, Nat.reduceLeDiff, Nat.reduceLT, Nat.reduceBEq, Bool.true_or, Bool.or_true, Bool.false_or, Bool.or_false, ↓reduceIte, Bool.false_eq_true, Nat.add_zero, Nat.zero_add, Nat.reduceEqDiff, Nat.reduceSub]
    first | refine br_t (by decide) ?_ | refine br_f (by decide) ?_
    exact hQ
def w_X11_leastOf : WPt := fun args σ Q => match args with
  | [.int x] => ∃ s, x = nI s ∧ s < 4096 ∧ Q (some (.int (if s = 0 then -9 else nI (lsb s)))) σ
  | _ => False
theorem m_X11_leastOf : Meets yX11_leastOf cX11_leastOf 1 (some .int) 2 w_X11_leastOf := by
  refine Meets.mk (by decide) fun args σ Φ h => ?_
  unfold w_X11_leastOf at h
  split at h
  rotate_left
  · exact h.elim
  rename_i x
  obtain ⟨s, rfl, hs, hQ⟩ := h
  refine ⟨Nat.le_of_ble_eq_true rfl, fun C hC hR => ?_⟩
  refine r_X11_leastOf_0 hC hR m_J6_numberOfTrailingZeros_0f7a4 (by decide) _ _ _ ?_
  simp only [T_X11_leastOf_0, x_psh, x_ild, x_lld, x_ald, x_ist, x_ast, x_lst, x_inc, x_iadd, x_isub, x_imul, x_iand, x_ior, x_ixor, x_ishl, x_ishr, x_iushr, x_idiv, x_irem, x_ladd, x_land, x_lor, x_lshl, x_lshr, x_ineg, x_i2l, x_l2i, x_i2b, x_lcmp, x_dup, x_dup2, x_if_eq, x_if_ne, x_if_lt, x_if_ge, x_if_gt, x_if_le, x_ic_eq, x_ic_ne, x_ic_lt, x_ic_ge, x_ic_gt, x_ic_le, x_getI, x_getR, x_putI, x_putZ, x_putR, x_iald, x_bald, x_lald, x_iast, x_bast, x_last, x_alen, x_acp, x_mmax, x_mmin, x_callV, x_callS, x_iret, x_zret, x_lret, x_aret, x_vret, x_tsw, x_stop, zst1, zst2, zkill, zkl, zsplit, zmask, zent, zentL, List.getElem?_cons_zero, List.getElem?_cons_succ, List.set_cons_zero, List.set_cons_succ, List.set_nil, List.length_cons, List.length_nil, List.replicate, List.nil_append, List.cons_append, List.map_cons, List.map_nil, List.sum_cons, List.sum_nil, Value.category, Option.toList, List.contains_cons, List.contains_nil, true_or, or_true, true_and, Nat.zero_le, Nat.reduceAdd, Nat.reduceLeDiff, Nat.reduceLT, Nat.reduceBEq, Bool.true_or, Bool.or_true, Bool.false_or, Bool.or_false, ↓reduceIte, Bool.false_eq_true, Nat.add_zero, Nat.zero_add, Nat.reduceEqDiff, Nat.reduceSub, w_J6_numberOfTrailingZeros_0f7a4]
  refine ⟨fun q => ?_, fun q => ?_⟩
  · have h0 : s ≠ 0 := fun e => q (by rw [e]; rfl)
    rw [if_neg h0] at hQ
    exact ⟨s, rfl, hs, h0, hQ⟩
  · have h0 : s = 0 := (nI_eq (by omega) (by decide)).mp q
    rw [if_pos h0] at hQ
    exact hQ
def clrB (m b : Nat) : Nat := m ^^^ (m &&& 2 ^ b)
theorem clrB_bit (m b i : Nat) : (clrB m b).testBit i = (m.testBit i && !decide (b = i)) := by
  unfold clrB
  rw [Nat.testBit_xor, Nat.testBit_and, Nat.testBit_two_pow]
  cases m.testBit i <;> cases decide (b = i) <;> rfl
theorem clrB_lt {m b n : Nat} (h : m < 2 ^ n) : clrB m b < 2 ^ n := Nat.xor_lt_two_pow h (Nat.lt_of_le_of_lt Nat.and_le_left h)
theorem z_clr {m b : Nat} (hm : m < 2 ^ 31) (hb : b < 31) : nI m &&& (nI (2 ^ b) ^^^ -1) = nI (clrB m b) := by
  rw [show (-1 : Int32) = nI 4294967295 from rfl, z_xor, z_and]
  congr 1
  apply Nat.eq_of_testBit_eq
  intro i
  rw [clrB_bit, Nat.testBit_and, Nat.testBit_xor, Nat.testBit_two_pow]
  by_cases hi : i < 31
  · have : Nat.testBit 4294967295 i = true := by
      have : ∀ i, i < 31 → Nat.testBit 4294967295 i = true := by decide
      exact this i hi
    rw [this]
    simp
  · have : m.testBit i = false := Nat.testBit_lt_two_pow (Nat.lt_of_lt_of_le hm (Nat.pow_le_pow_right (by decide) (by omega)))
    simp [this]
/-! mutators of a town -/
def w_X8_clear : WPt := fun args σ Q => match args with
  | [.ref t] => ∃ T, TownR σ t T ∧ ∀ σ', Fr σ σ' t (t + 5) → TownR σ' t (0, 0, tN T, tE T, tL T, tG T) → Q none σ'
  | _ => False
theorem m_X8_clear : Meets yX8_clear cX8_clear 1 none 1 w_X8_clear := by
  refine Meets.mk (by decide) fun args σ Φ h => ?_
  unfold w_X8_clear at h
  split at h
  rotate_left
  · exact h.elim
  rename_i t
  obtain ⟨t, rfl⟩ : ∃ q : Nat, q = t := ⟨t, rfl⟩
  obtain ⟨T, hT, hQ⟩ := h
  refine ⟨Nat.le_of_ble_eq_true rfl, fun C hC hR => ?_⟩
  have ⟨⟨s1, s2, s3, s4, s5, s6, s7, s8, s9⟩, v1, v2, v3, v4, v5, v6, v7, v8⟩ := hT
  refine r_X8_clear_0 hC hR _ _ _ ?_
  simp only [T_X8_clear_0, x_psh, x_ild, x_lld, x_ald, x_ist, x_ast, x_lst, x_inc, x_iadd, x_isub, x_imul, x_iand, x_ior, x_ixor, x_ishl, x_ishr, x_iushr, x_idiv, x_irem, x_ladd, x_land, x_lor, x_lshl, x_lshr, x_ineg, x_i2l, x_l2i, x_i2b, x_lcmp, x_dup, x_dup2, x_if_eq, x_if_ne, x_if_lt, x_if_ge, x_if_gt, x_if_le, x_ic_eq, x_ic_ne, x_ic_lt, x_ic_ge, x_ic_gt, x_ic_le, x_getI, x_getR, x_putI, x_putZ, x_putR, x_iald, x_bald, x_lald, x_iast, x_bast, x_last, x_alen, x_acp, x_mmax, x_mmin, x_callV, x_callS, x_iret, x_zret, x_lret, x_aret, x_vret, x_tsw, x_stop, zst1, zst2, zkill, zkl, zsplit, zmask, zent, zentL, List.getElem?_cons_zero, List.getElem?_cons_succ, List.set_cons_zero, List.set_cons_succ, List.set_nil, List.length_cons, List.length_nil, List.replicate, List.nil_append, List.cons_append, List.map_cons, List.map_nil, List.sum_cons, List.sum_nil, Value.category, Option.toList, List.contains_cons, List.contains_nil, true_or, or_true, true_and, Nat.zero_le, Nat.reduceAdd, Nat.reduceLeDiff, Nat.reduceLT, Nat.reduceBEq, Bool.true_or, Bool.or_true, Bool.false_or, Bool.or_false, ↓reduceIte, Bool.false_eq_true, Nat.add_zero, Nat.zero_add, Nat.reduceEqDiff, Nat.reduceSub, zd_sI]
  refine ⟨s1, s1, hQ _ (((Fr.refl σ _ _).sI (by omega) (by omega)).sI (by omega) (by omega)) ⟨hT.1.of rfl rfl, ?_⟩⟩
  refine ⟨by simp [zI_sI, upd, tD]; rfl, by simp [zI_sI, upd, tS]; rfl, by simp [tD], by simp [tS], ?_, ?_, ?_, ?_⟩
  · intro k hk; simp [tD] at hk
  · intro k hk; simp [tD] at hk
  · intro k hk; simp [tS] at hk
  · intro k i hk; simp [tS] at hk
def apart5 (t u : Nat) : Prop := u + 5 ≤ t ∨ t + 5 ≤ u
def w_X8_copyFrom : WPt := fun args σ Q => match args with
  | [.ref t, .ref u] => ∃ T, TownS σ t ∧ TownR σ u T ∧ apart5 t u ∧ ∀ σ', Fr σ σ' t (t + 5) → TownR σ' t T → Q none σ'
  | _ => False
set_option maxHeartbeats 2000000 in
theorem m_X8_copyFrom : Meets yX8_copyFrom cX8_copyFrom 2 none 1 w_X8_copyFrom := by
  refine Meets.mk (by decide) fun args σ Φ h => ?_
  unfold w_X8_copyFrom at h
  split at h
  rotate_left
  · exact h.elim
  rename_i t u
  obtain ⟨t, rfl⟩ : ∃ q : Nat, q = t := ⟨t, rfl⟩
  obtain ⟨u, rfl⟩ : ∃ q : Nat, q = u := ⟨u, rfl⟩
  obtain ⟨T, hS, hT, hap, hQ⟩ := h
  unfold apart5 at hap
  refine ⟨Nat.le_of_ble_eq_true rfl, fun C hC hR => ?_⟩
  have ⟨⟨s1, s2, s3, s4, s5, s6, s7, s8, s9⟩, v1, v2, v3, v4, v5, v6, v7, v8⟩ := hT
  have ⟨q1, q2, q3, q4, q5, q6, q7, q8, q9⟩ := hS
  refine r_X8_copyFrom_0 hC hR (by decide) _ _ _ ?_
  simp only [T_X8_copyFrom_0, x_psh, x_ild, x_lld, x_ald, x_ist, x_ast, x_lst, x_inc, x_iadd, x_isub, x_imul, x_iand, x_ior, x_ixor, x_ishl, x_ishr, x_iushr, x_idiv, x_irem, x_ladd, x_land, x_lor, x_lshl, x_lshr, x_ineg, x_i2l, x_l2i, x_i2b, x_lcmp, x_dup, x_dup2, x_if_eq, x_if_ne, x_if_lt, x_if_ge, x_if_gt, x_if_le, x_ic_eq, x_ic_ne, x_ic_lt, x_ic_ge, x_ic_gt, x_ic_le, x_getI, x_getR, x_putI, x_putZ, x_putR, x_iald, x_bald, x_lald, x_iast, x_bast, x_last, x_alen, x_acp, x_mmax, x_mmin, x_callV, x_callS, x_iret, x_zret, x_lret, x_aret, x_vret, x_tsw, x_stop, zst1, zst2, zkill, zkl, zsplit, zmask, zent, zentL, List.getElem?_cons_zero, List.getElem?_cons_succ, List.set_cons_zero, List.set_cons_succ, List.set_nil, List.length_cons, List.length_nil, List.replicate, List.nil_append, List.cons_append, List.map_cons, List.map_nil, List.sum_cons, List.sum_nil, Value.category, Option.toList, List.contains_cons, List.contains_nil, true_or, or_true, true_and, Nat.zero_le, Nat.reduceAdd, Nat.reduceLeDiff, Nat.reduceLT, Nat.reduceBEq, Bool.true_or, Bool.or_true, Bool.false_or, Bool.or_false, ↓reduceIte, Bool.false_eq_true, Nat.add_zero, Nat.zero_add, Nat.reduceEqDiff, Nat.reduceSub, zd_sI, zd_sIr, zR_sI, zR_sIr, s1, s6, s7, s8, s9, q1, q6, q7, q8, q9, s2, s3, s4, s5, q2, q3, q4, q5]
  have c0 : ¬ (0 : Int32) < 0 := by decide
  have c12 : ¬ (12 : Int32) < 0 := by decide
  have c4 : ¬ (4 : Int32) < 0 := by decide
  have c24 : ¬ (24 : Int32) < 0 := by decide
  have n0 : (0 : Int32).toNatClampNeg = 0 := rfl
  have n12 : (12 : Int32).toNatClampNeg = 12 := rfl
  have n4 : (4 : Int32).toNatClampNeg = 4 := rfl
  have n24 : (24 : Int32).toNatClampNeg = 24 := rfl
  refine ⟨by omega, by omega, 12, 12, rfl, rfl, c0, c0, c12, by rw [n0, n12]; omega, by rw [n0, n12]; omega, by omega, by omega, 12, 12, rfl, rfl, c0, c0, c12, by rw [n0, n12]; omega, by rw [n0, n12]; omega, by omega, by omega, 4, 4, rfl, rfl, c0, c0, c4, by rw [n0, n4]; omega, by rw [n0, n4]; omega, by omega, by omega, 24, 24, rfl, rfl, c0, c0, c24, by rw [n0, n24]; omega, by rw [n0, n24]; omega, hQ _ ?_ ⟨hS.of rfl rfl, ?_⟩⟩
  · exact (((((((Fr.refl σ _ _).sI (by omega) (by omega)).sI (by omega) (by omega)).sIr (by omega) (by omega)).sIr (by omega) (by omega)).sIr (by omega) (by omega)).sIr (by omega) (by omega))
  · have a1 : ¬ u = t := by omega
    have a2 : ¬ u + 1 = t := by omega
    have a3 : ¬ u + 2 = t := by omega
    have a4 : ¬ u + 3 = t := by omega
    have a5 : ¬ u + 4 = t := by omega
    have b1 : ¬ u + 2 = t + 1 := by omega
    have b2 : ¬ u + 3 = t + 1 := by omega
    have b3 : ¬ u + 3 = t + 2 := by omega
    have b4 : ¬ u + 4 = t + 1 := by omega
    have b5 : ¬ u + 4 = t + 2 := by omega
    have b6 : ¬ u + 4 = t + 3 := by omega
    have d1 : ¬ t = t + 1 := by omega
    have d2 : ¬ t = t + 2 := by omega
    have d3 : ¬ t = t + 3 := by omega
    have d4 : ¬ t = t + 4 := by omega
    refine ⟨?_, ?_, v3, v4, fun k hk => ?_, fun k hk => ?_, fun k hk => ?_, fun k i hk hi => ?_⟩
    · simp [zI_sI, zI_sIr, upd, v1, d1, d2, d3, d4]
    · simp [zI_sI, zI_sIr, upd, v2, d1, d2, d3, d4, a1]
    · refine ⟨?_, (v5 k hk).2⟩
      simp [zI_sI, zI_sIr, a2, va_cpy, n0, n12, show k < 12 by omega, (v5 k hk).1]
    · refine ⟨?_, (v6 k hk).2⟩
      simp [zI_sI, zI_sIr, a3, b1, va_cpy, n0, n12, show k < 12 by omega, (v6 k hk).1]
    · refine ⟨?_, (v7 k hk).2⟩
      simp [zI_sI, zI_sIr, a4, b2, b3, va_cpy, n0, n4, show k < 4 by omega, (v7 k hk).1]
    · have hL := (v7 k hk).2
      refine ⟨?_, (v8 k i hk hi).2⟩
      simp [zI_sI, zI_sIr, a5, b4, b5, b6, va_cpy, n0, n24, show 6 * k + i < 24 by omega, (v8 k i hk hi).1]
def w_X8_addDoor : WPt := fun args σ Q => match args with
  | [.ref t, .int x] => ∃ T a, TownR σ t T ∧ x = nI a ∧ a ≤ 7 ∧ tD T < 12 ∧ ∀ σ', Fr σ σ' t (t + 5) → TownR σ' t (tD T + 1, tS T, va_up (tN T) (tD T) a, va_up (tE T) (tD T) 0, tL T, tG T) → Q none σ'
  | _ => False
set_option maxHeartbeats 2000000 in
theorem m_X8_addDoor : Meets yX8_addDoor cX8_addDoor 2 none 1 w_X8_addDoor := by
  refine Meets.mk (by decide) fun args σ Φ h => ?_
  unfold w_X8_addDoor at h
  split at h
  rotate_left
  · exact h.elim
  rename_i t x
  obtain ⟨t, rfl⟩ : ∃ q : Nat, q = t := ⟨t, rfl⟩
  obtain ⟨T, a, hT, rfl, ha, hD, hQ⟩ := h
  refine ⟨Nat.le_of_ble_eq_true rfl, fun C hC hR => ?_⟩
  have ⟨⟨s1, s2, s3, s4, s5, s6, s7, s8, s9⟩, v1, v2, v3, v4, v5, v6, v7, v8⟩ := hT
  refine r_X8_addDoor_0 hC hR _ _ _ ?_
  simp only [T_X8_addDoor_0, x_psh, x_ild, x_lld, x_ald, x_ist, x_ast, x_lst, x_inc, x_iadd, x_isub, x_imul, x_iand, x_ior, x_ixor, x_ishl, x_ishr, x_iushr, x_idiv, x_irem, x_ladd, x_land, x_lor, x_lshl, x_lshr, x_ineg, x_i2l, x_l2i, x_i2b, x_lcmp, x_dup, x_dup2, x_if_eq, x_if_ne, x_if_lt, x_if_ge, x_if_gt, x_if_le, x_ic_eq, x_ic_ne, x_ic_lt, x_ic_ge, x_ic_gt, x_ic_le, x_getI, x_getR, x_putI, x_putZ, x_putR, x_iald, x_bald, x_lald, x_iast, x_bast, x_last, x_alen, x_acp, x_mmax, x_mmin, x_callV, x_callS, x_iret, x_zret, x_lret, x_aret, x_vret, x_tsw, x_stop, zst1, zst2, zkill, zkl, zsplit, zmask, zent, zentL, List.getElem?_cons_zero, List.getElem?_cons_succ, List.set_cons_zero, List.set_cons_succ, List.set_nil, List.length_cons, List.length_nil, List.replicate, List.nil_append, List.cons_append, List.map_cons, List.map_nil, List.sum_cons, List.sum_nil, Value.category, Option.toList, List.contains_cons, List.contains_nil, true_or, or_true, true_and, Nat.zero_le, Nat.reduceAdd, Nat.reduceLeDiff, Nat.reduceLT, Nat.reduceBEq, Bool.true_or, Bool.or_true, Bool.false_or, Bool.or_false, ↓reduceIte, Bool.false_eq_true, Nat.add_zero, Nat.zero_add, Nat.reduceEqDiff, Nat.reduceSub, zd_sI, zR_sI, s1, s6, s7]
  have d1 : ¬ t = t + 1 := by omega
  have d2 : ¬ t = t + 2 := by omega
  simp only [zI_sI, if_neg d1, if_neg d2, v1, s2, s3, nI_clamp (show tD T < 2 ^ 31 by omega)]
  refine ⟨fun q => absurd q (by rw [z_l12]; exact nI_ge hD (by omega)), fun _ => ⟨by omega, 12, rfl, vp_in_nI hD (by omega), by omega, 12, rfl, vp_in_nI hD (by omega), hQ _ ((((Fr.refl σ _ _).sI (by omega) (by omega)).sI (by omega) (by omega)).sI (by omega) (by omega)) ⟨hT.1.of rfl rfl, ?_⟩⟩⟩
  refine ⟨?_, ?_, ?_, v4, fun k hk => ?_, fun k hk => ?_, fun k hk => ?_, fun k i hk hi => ?_⟩
  · simp [zI_sI, upd, tD]; exact nI_1 _
  · simp [zI_sI, upd, tS]; exact v2
  · show tD T + 1 ≤ 12; omega
  · replace hk : k < tD T + 1 := hk
    by_cases e : k = tD T
    · subst e
      refine ⟨by simp [zI_sI, upd, tN, va_up], by simp [tN, va_up]; exact ha⟩
    · have := v5 k (by omega)
      refine ⟨?_, ?_⟩
      · show zI _ (t + 1) k = nI (va_up (tN T) (tD T) a k)
        simp [zI_sI, upd, va_up, e, this.1]
      · show va_up (tN T) (tD T) a k ≤ 7
        simp [va_up, e, this.2]
  · replace hk : k < tD T + 1 := hk
    by_cases e : k = tD T
    · subst e
      refine ⟨by simp [zI_sI, upd, tE, va_up]; rfl, by simp [tE, va_up]; exact Nat.two_pow_pos _⟩
    · have := v6 k (by omega)
      refine ⟨?_, ?_⟩
      · show zI _ (t + 2) k = nI (va_up (tE T) (tD T) 0 k)
        simp [zI_sI, upd, va_up, e, this.1]
      · show va_up (tE T) (tD T) 0 k < 2 ^ (tD T + 1)
        simp only [va_up, if_neg e]
        exact Nat.lt_of_lt_of_le this.2 (Nat.pow_le_pow_right (by decide) (by omega))
  · have := v7 k hk
    refine ⟨?_, this.2⟩
    simp [zI_sI, this.1]
    rfl
  · have := v8 k i hk hi
    refine ⟨?_, this.2⟩
    simp [zI_sI, this.1]
    rfl
