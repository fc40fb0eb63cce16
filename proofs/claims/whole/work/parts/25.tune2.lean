/-! TUNE: sets along a way -/
def arS (T : TD) (s : Nat) : Nat := orS (tE T) s (tD T)
theorem arS_lt {σ : ZS} {t : Nat} {T : TD} (h : TownR σ t T) (s : Nat) : arS T s < 2 ^ tD T := orS_lt _ fun j hj => (h.2.2.2.2.2.2.1 j hj).2
theorem and_lt31 {a b n : Nat} (h : b < n) : a &&& b < n := Nat.lt_of_le_of_lt Nat.and_le_right h
theorem and_lt31' {a b n : Nat} (h : a < n) : a &&& b < n := Nat.lt_of_le_of_lt Nat.and_le_left h
def dif (a b : Nat) : Nat := a ^^^ (a &&& b)
theorem dif_bit (a b i : Nat) : (dif a b).testBit i = (a.testBit i && !b.testBit i) := by
  unfold dif
  rw [Nat.testBit_xor, Nat.testBit_and]
  cases a.testBit i <;> cases b.testBit i <;> rfl
theorem dif_lt {a b n : Nat} (h : a < 2 ^ n) : dif a b < 2 ^ n := Nat.xor_lt_two_pow h (Nat.lt_of_le_of_lt Nat.and_le_left h)
theorem z_dif {a b : Nat} (ha : a < 2 ^ 31) : nI a &&& (nI b ^^^ -1) = nI (dif a b) := by
  rw [show (-1 : Int32) = nI 4294967295 from rfl, z_xor, z_and]
  congr 1
  apply Nat.eq_of_testBit_eq
  intro i
  rw [dif_bit, Nat.testBit_and, Nat.testBit_xor]
  by_cases hi : i < 31
  · have : Nat.testBit 4294967295 i = true := by
      have : ∀ i, i < 31 → Nat.testBit 4294967295 i = true := by decide
      exact this i hi
    rw [this]
    simp
  · have : a.testBit i = false := Nat.testBit_lt_two_pow (Nat.lt_of_lt_of_le ha (Nat.pow_le_pow_right (by decide) (by omega)))
    simp [this]
theorem z_self (x : Int32) : x - (x + 1) = -1 := by
  rw [Int32.sub_eq_add_neg, Int32.neg_add, Int32.sub_eq_add_neg, ← Int32.add_assoc, Int32.add_right_neg, Int32.zero_add]
def w_X9_worthAt : WPt := fun args σ Q => match args with
  | [.ref u, .int p, .int d] => ∃ n F G k c, TuneS σ u ∧ TuneV σ u n F G ∧ p = nI k ∧ k < n ∧ d = nI c ∧ c < 32 ∧ Q (some (.int (nI (if (F k).testBit c then 1 else 0)))) σ
  | _ => False
theorem m_X9_worthAt : Meets yX9_worthAt cX9_worthAt 3 (some .int) 2 w_X9_worthAt := by
  refine Meets.mk (by decide) fun args σ Φ h => ?_
  unfold w_X9_worthAt at h
  split at h
  rotate_left
  · exact h.elim
  rename_i u p d
  obtain ⟨u, rfl⟩ : ∃ q : Nat, q = u := ⟨u, rfl⟩
  obtain ⟨n, F, G, k, c, hu, hv, rfl, hk, rfl, hc, hQ⟩ := h
  refine ⟨Nat.le_of_ble_eq_true rfl, fun C hC hR => ?_⟩
  have hF := (hv.2.2 k hk).2.1
  have hn := hv.2.1
  refine r_X9_worthAt_0 hC hR m_X9_fitsAt (by decide) _ _ _ ?_
  simp only [T_X9_worthAt_0, x_psh, x_ild, x_lld, x_ald, x_ist, x_ast, x_lst, x_inc, x_iadd, x_isub, x_imul, x_iand, x_ior, x_ixor, x_ishl, x_ishr, x_iushr, x_idiv, x_irem, x_ladd, x_land, x_lor, x_lshl, x_lshr, x_ineg, x_i2l, x_l2i, x_i2b, x_lcmp, x_dup, x_dup2, x_if_eq, x_if_ne, x_if_lt, x_if_ge, x_if_gt, x_if_le, x_ic_eq, x_ic_ne, x_ic_lt, x_ic_ge, x_ic_gt, x_ic_le, x_getI, x_getR, x_putI, x_putZ, x_putR, x_iald, x_bald, x_lald, x_iast, x_bast, x_last, x_alen, x_acp, x_mmax, x_mmin, x_callV, x_callS, x_iret, x_zret, x_lret, x_aret, x_vret, x_tsw, x_stop, zst1, zst2, zkill, zkl, zsplit, zmask, zent, zentL, List.getElem?_cons_zero, List.getElem?_cons_succ, List.set_cons_zero, List.set_cons_succ, List.set_nil, List.length_cons, List.length_nil, List.replicate, List.nil_append, List.cons_append, List.map_cons, List.map_nil, List.sum_cons, List.sum_nil, Value.category, Option.toList, List.contains_cons, List.contains_nil, true_or, or_true, true_and, Nat.zero_le, Nat.reduceAdd, Nat.reduceLeDiff, Nat.reduceLT, Nat.reduceBEq, Bool.true_or, Bool.or_true, Bool.false_or, Bool.or_false, ↓reduceIte, Bool.false_eq_true, Nat.add_zero, Nat.zero_add, Nat.reduceEqDiff, Nat.reduceSub, w_X9_fitsAt]
  refine ⟨hu.1, n, F, G, hu, hv, fun j hj e => ?_, fun q => absurd (not_lt_pos (by omega) hk) q⟩
  have e2 : k = j := (nI_eq (by omega) (by omega)).mp e
  subst e2
  rw [z_l31, z_l1, z_shr (by omega) hc, z_and, z_bit1]
  exact hQ
def w_X9_fitsOrAny : WPt := fun args σ Q => match args with
  | [.ref u, .ref t, .int p] => ∃ n F G T, TuneS σ u ∧ TuneV σ u n F G ∧ TownR σ t T ∧ (∀ k, k < n → p = nI k → Q (some (.int (nI (F k)))) σ) ∧ (¬ (0 ≤ p ∧ p < nI n) → Q (some (.int (nI (2 ^ tD T - 1)))) σ)
  | _ => False
theorem m_X9_fitsOrAny : Meets yX9_fitsOrAny cX9_fitsOrAny 3 (some .int) 2 w_X9_fitsOrAny := by
  refine Meets.mk (by decide) fun args σ Φ h => ?_
  unfold w_X9_fitsOrAny at h
  split at h
  rotate_left
  · exact h.elim
  rename_i u t p
  obtain ⟨u, rfl⟩ : ∃ q : Nat, q = u := ⟨u, rfl⟩
  obtain ⟨t, rfl⟩ : ∃ q : Nat, q = t := ⟨t, rfl⟩
  obtain ⟨n, F, G, T, hu, hv, hT, hQ1, hQ2⟩ := h
  refine ⟨Nat.le_of_ble_eq_true rfl, fun C hC hR => ?_⟩
  have v1 := hv.1
  have hn := hv.2.1
  refine r_X9_fitsOrAny_0 hC hR m_X9_fitsAt (by decide) m_X8_allDoors (by decide) _ _ _ ?_
  simp only [T_X9_fitsOrAny_0, x_psh, x_ild, x_lld, x_ald, x_ist, x_ast, x_lst, x_inc, x_iadd, x_isub, x_imul, x_iand, x_ior, x_ixor, x_ishl, x_ishr, x_iushr, x_idiv, x_irem, x_ladd, x_land, x_lor, x_lshl, x_lshr, x_ineg, x_i2l, x_l2i, x_i2b, x_lcmp, x_dup, x_dup2, x_if_eq, x_if_ne, x_if_lt, x_if_ge, x_if_gt, x_if_le, x_ic_eq, x_ic_ne, x_ic_lt, x_ic_ge, x_ic_gt, x_ic_le, x_getI, x_getR, x_putI, x_putZ, x_putR, x_iald, x_bald, x_lald, x_iast, x_bast, x_last, x_alen, x_acp, x_mmax, x_mmin, x_callV, x_callS, x_iret, x_zret, x_lret, x_aret, x_vret, x_tsw, x_stop, zst1, zst2, zkill, zkl, zsplit, zmask, zent, zentL, List.getElem?_cons_zero, List.getElem?_cons_succ, List.set_cons_zero, List.set_cons_succ, List.set_nil, List.length_cons, List.length_nil, List.replicate, List.nil_append, List.cons_append, List.map_cons, List.map_nil, List.sum_cons, List.sum_nil, Value.category, Option.toList, List.contains_cons, List.contains_nil, true_or, or_true, true_and, Nat.zero_le, Nat.reduceAdd, Nat.reduceLeDiff, Nat.reduceLT, Nat.reduceBEq, Bool.true_or, Bool.or_true, Bool.false_or, Bool.or_false, ↓reduceIte, Bool.false_eq_true, Nat.add_zero, Nat.zero_add, Nat.reduceEqDiff, Nat.reduceSub, w_X9_fitsAt, w_X8_allDoors, v1]
  have ha : ¬ (0 ≤ p ∧ p < nI n) → ∃ D, zd σ t = some (0, 5) ∧ zI σ t 0 = nI D ∧ D ≤ 12 ∧ Φ (some (.int (nI (2 ^ D - 1)))) σ := fun q => ⟨tD T, hT.1.1, hT.2.1, hT.2.2.2.1, hQ2 q⟩
  refine ⟨fun q => ⟨hT.1.1, ha fun q2 => absurd q (Int32.not_lt.mpr q2.1)⟩, fun q => ⟨hu.1, fun q1 => ⟨hT.1.1, ha fun q2 => absurd q2.2 (Int32.not_lt.mpr q1)⟩, fun q1 => ⟨hu.1, n, F, G, hu, hv, hQ1, fun q3 => absurd ⟨Int32.not_lt.mp q, Int32.not_le.mp q1⟩ q3⟩⟩⟩
def rchS (T : TD) (F : Nat → Nat) : Nat → Nat
  | 0 => F 0
  | i + 1 => arS T (rchS T F i) &&& F (i + 1)
def w_X9_reachedAt : WPt := fun args σ Q => match args with
  | [.ref u, .ref t, .int p] => ∃ n F G T k, TuneS σ u ∧ TuneV σ u n F G ∧ TownR σ t T ∧ p = nI k ∧ k < n ∧ Q (some (.int (nI (rchS T F k)))) σ
  | _ => False
theorem m_X9_reachedAt : Meets yX9_reachedAt cX9_reachedAt 5 (some .int) 3 w_X9_reachedAt := by
  refine Meets.mk (by decide) fun args σ Φ h => ?_
  unfold w_X9_reachedAt at h
  split at h
  rotate_left
  · exact h.elim
  rename_i u t p
  obtain ⟨u, rfl⟩ : ∃ q : Nat, q = u := ⟨u, rfl⟩
  obtain ⟨t, rfl⟩ : ∃ q : Nat, q = t := ⟨t, rfl⟩
  obtain ⟨n, F, G, T, k, hu, hv, hT, rfl, hk, hQ⟩ := h
  refine ⟨Nat.le_of_ble_eq_true rfl, fun C hC hR => ?_⟩
  have v1 := hv.1
  have hn := hv.2.1
  have hlt : ∀ j, j < n → rchS T F j < 4096 := fun j hj => by
    cases j with
    | zero => exact (hv.2.2 0 hj).2.1
    | succ j => exact and_lt31 (hv.2.2 _ hj).2.1
  refine r_X9_reachedAt_0 hC hR m_X9_fitsAt (by decide) m_X8_around (by decide) _ _ _ ?_
  simp only [T_X9_reachedAt_0, x_psh, x_ild, x_lld, x_ald, x_ist, x_ast, x_lst, x_inc, x_iadd, x_isub, x_imul, x_iand, x_ior, x_ixor, x_ishl, x_ishr, x_iushr, x_idiv, x_irem, x_ladd, x_land, x_lor, x_lshl, x_lshr, x_ineg, x_i2l, x_l2i, x_i2b, x_lcmp, x_dup, x_dup2, x_if_eq, x_if_ne, x_if_lt, x_if_ge, x_if_gt, x_if_le, x_ic_eq, x_ic_ne, x_ic_lt, x_ic_ge, x_ic_gt, x_ic_le, x_getI, x_getR, x_putI, x_putZ, x_putR, x_iald, x_bald, x_lald, x_iast, x_bast, x_last, x_alen, x_acp, x_mmax, x_mmin, x_callV, x_callS, x_iret, x_zret, x_lret, x_aret, x_vret, x_tsw, x_stop, zst1, zst2, zkill, zkl, zsplit, zmask, zent, zentL, List.getElem?_cons_zero, List.getElem?_cons_succ, List.set_cons_zero, List.set_cons_succ, List.set_nil, List.length_cons, List.length_nil, List.replicate, List.nil_append, List.cons_append, List.map_cons, List.map_nil, List.sum_cons, List.sum_nil, Value.category, Option.toList, List.contains_cons, List.contains_nil, true_or, or_true, true_and, Nat.zero_le, Nat.reduceAdd, Nat.reduceLeDiff, Nat.reduceLT, Nat.reduceBEq, Bool.true_or, Bool.or_true, Bool.false_or, Bool.or_false, ↓reduceIte, Bool.false_eq_true, Nat.add_zero, Nat.zero_add, Nat.reduceEqDiff, Nat.reduceSub, w_X9_fitsAt]
  refine ⟨hu.1, n, F, G, hu, hv, fun j hj e => ?_, fun q => absurd (not_lt_pos (p := 0) (by omega) (by omega)) q⟩
  have e2 : 0 = j := (nI_eq (a := 0) (by omega) (by omega)).mp e
  subst e2
  refine zloop (P := fun i => WW C 9 [some (.ref u), some (.ref t), some (.int (nI k)), some (.int (nI (rchS T F i))), some (.int (nI (i + 1)))] [] σ) k (fun i hi ih => ?_) ?_ 0 (by omega)
  · refine r_X9_reachedAt_9 hC hR m_X9_fitsAt (by decide) m_X8_around (by decide) _ _ _ ?_
    simp only [T_X9_reachedAt_9, x_psh, x_ild, x_lld, x_ald, x_ist, x_ast, x_lst, x_inc, x_iadd, x_isub, x_imul, x_iand, x_ior, x_ixor, x_ishl, x_ishr, x_iushr, x_idiv, x_irem, x_ladd, x_land, x_lor, x_lshl, x_lshr, x_ineg, x_i2l, x_l2i, x_i2b, x_lcmp, x_dup, x_dup2, x_if_eq, x_if_ne, x_if_lt, x_if_ge, x_if_gt, x_if_le, x_ic_eq, x_ic_ne, x_ic_lt, x_ic_ge, x_ic_gt, x_ic_le, x_getI, x_getR, x_putI, x_putZ, x_putR, x_iald, x_bald, x_lald, x_iast, x_bast, x_last, x_alen, x_acp, x_mmax, x_mmin, x_callV, x_callS, x_iret, x_zret, x_lret, x_aret, x_vret, x_tsw, x_stop, zst1, zst2, zkill, zkl, zsplit, zmask, zent, zentL, List.getElem?_cons_zero, List.getElem?_cons_succ, List.set_cons_zero, List.set_cons_succ, List.set_nil, List.length_cons, List.length_nil, List.replicate, List.nil_append, List.cons_append, List.map_cons, List.map_nil, List.sum_cons, List.sum_nil, Value.category, Option.toList, List.contains_cons, List.contains_nil, true_or, or_true, true_and, Nat.zero_le, Nat.reduceAdd, Nat.reduceLeDiff, Nat.reduceLT, Nat.reduceBEq, Bool.true_or, Bool.or_true, Bool.false_or, Bool.or_false, ↓reduceIte, Bool.false_eq_true, Nat.add_zero, Nat.zero_add, Nat.reduceEqDiff, Nat.reduceSub, w_X9_fitsAt, w_X8_around, v1]
    refine ⟨fun q => absurd q (nI_nlt (by omega) (by omega)), fun _ => ⟨hu.1, fun q => absurd q (nI_ge (by omega) (by omega)), fun _ => ⟨hT.1.1, T, rchS T F i, hT, rfl, by have := hlt i (by omega); omega, hu.1, n, F, G, hu, hv, fun j hj e => ?_, fun q => absurd (not_lt_pos (by omega) (show i + 1 < n by omega)) q⟩⟩⟩
    have e2 : i + 1 = j := (nI_eq (by omega) (by omega)).mp e
    subst e2
    rw [z_and, nI_i3]
    exact ih
  · refine r_X9_reachedAt_9 hC hR m_X9_fitsAt (by decide) m_X8_around (by decide) _ _ _ ?_
    simp only [T_X9_reachedAt_9, x_psh, x_ild, x_lld, x_ald, x_ist, x_ast, x_lst, x_inc, x_iadd, x_isub, x_imul, x_iand, x_ior, x_ixor, x_ishl, x_ishr, x_iushr, x_idiv, x_irem, x_ladd, x_land, x_lor, x_lshl, x_lshr, x_ineg, x_i2l, x_l2i, x_i2b, x_lcmp, x_dup, x_dup2, x_if_eq, x_if_ne, x_if_lt, x_if_ge, x_if_gt, x_if_le, x_ic_eq, x_ic_ne, x_ic_lt, x_ic_ge, x_ic_gt, x_ic_le, x_getI, x_getR, x_putI, x_putZ, x_putR, x_iald, x_bald, x_lald, x_iast, x_bast, x_last, x_alen, x_acp, x_mmax, x_mmin, x_callV, x_callS, x_iret, x_zret, x_lret, x_aret, x_vret, x_tsw, x_stop, zst1, zst2, zkill, zkl, zsplit, zmask, zent, zentL, List.getElem?_cons_zero, List.getElem?_cons_succ, List.set_cons_zero, List.set_cons_succ, List.set_nil, List.length_cons, List.length_nil, List.replicate, List.nil_append, List.cons_append, List.map_cons, List.map_nil, List.sum_cons, List.sum_nil, Value.category, Option.toList, List.contains_cons, List.contains_nil, true_or, or_true, true_and, Nat.zero_le, Nat.reduceAdd, Nat.reduceLeDiff, Nat.reduceLT, Nat.reduceBEq, Bool.true_or, Bool.or_true, Bool.false_or, Bool.or_false, ↓reduceIte, Bool.false_eq_true, Nat.add_zero, Nat.zero_add, Nat.reduceEqDiff, Nat.reduceSub, v1]
    exact ⟨fun _ => hQ, fun q => absurd (nI_lt (by omega) (by omega)) q⟩
/-- the set at place n - 1 - j from which the end can be reached -/
def opnS (T : TD) (F : Nat → Nat) (n : Nat) : Nat → Nat
  | 0 => F (n - 1)
  | j + 1 => arS T (opnS T F n j) &&& F (n - 2 - j)
def w_X9_openAt : WPt := fun args σ Q => match args with
  | [.ref u, .ref t, .int p] => ∃ n F G T k, TuneS σ u ∧ TuneV σ u n F G ∧ TownR σ t T ∧ p = nI k ∧ k < n ∧ Q (some (.int (nI (opnS T F n (n - 1 - k))))) σ
  | _ => False
theorem opnS_lt {T : TD} {F : Nat → Nat} {n : Nat} (h : ∀ k, k < n → F k < 4096) : ∀ j, j < n → opnS T F n j < 4096
  | 0, hj => h _ (by omega)
  | j + 1, hj => and_lt31 (h _ (by omega))
theorem m_X9_openAt : Meets yX9_openAt cX9_openAt 5 (some .int) 3 w_X9_openAt := by
  refine Meets.mk (by decide) fun args σ Φ h => ?_
  unfold w_X9_openAt at h
  split at h
  rotate_left
  · exact h.elim
  rename_i u t p
  obtain ⟨u, rfl⟩ : ∃ q : Nat, q = u := ⟨u, rfl⟩
  obtain ⟨t, rfl⟩ : ∃ q : Nat, q = t := ⟨t, rfl⟩
  obtain ⟨n, F, G, T, k, hu, hv, hT, rfl, hk, hQ⟩ := h
  refine ⟨Nat.le_of_ble_eq_true rfl, fun C hC hR => ?_⟩
  have v1 := hv.1
  have hn := hv.2.1
  have hlt := opnS_lt (T := T) (F := F) (n := n) (fun k hk => (hv.2.2 k hk).2.1)
  refine r_X9_openAt_0 hC hR m_X9_fitsAt (by decide) m_X8_around (by decide) _ _ _ ?_
  simp only [T_X9_openAt_0, x_psh, x_ild, x_lld, x_ald, x_ist, x_ast, x_lst, x_inc, x_iadd, x_isub, x_imul, x_iand, x_ior, x_ixor, x_ishl, x_ishr, x_iushr, x_idiv, x_irem, x_ladd, x_land, x_lor, x_lshl, x_lshr, x_ineg, x_i2l, x_l2i, x_i2b, x_lcmp, x_dup, x_dup2, x_if_eq, x_if_ne, x_if_lt, x_if_ge, x_if_gt, x_if_le, x_ic_eq, x_ic_ne, x_ic_lt, x_ic_ge, x_ic_gt, x_ic_le, x_getI, x_getR, x_putI, x_putZ, x_putR, x_iald, x_bald, x_lald, x_iast, x_bast, x_last, x_alen, x_acp, x_mmax, x_mmin, x_callV, x_callS, x_iret, x_zret, x_lret, x_aret, x_vret, x_tsw, x_stop, zst1, zst2, zkill, zkl, zsplit, zmask, zent, zentL, List.getElem?_cons_zero, List.getElem?_cons_succ, List.set_cons_zero, List.set_cons_succ, List.set_nil, List.length_cons, List.length_nil, List.replicate, List.nil_append, List.cons_append, List.map_cons, List.map_nil, List.sum_cons, List.sum_nil, Value.category, Option.toList, List.contains_cons, List.contains_nil, true_or, or_true, true_and, Nat.zero_le, Nat.reduceAdd, Nat.reduceLeDiff, Nat.reduceLT, Nat.reduceBEq, Bool.true_or, Bool.or_true, Bool.false_or, Bool.or_false, ↓reduceIte, Bool.false_eq_true, Nat.add_zero, Nat.zero_add, Nat.reduceEqDiff, Nat.reduceSub, w_X9_fitsAt, v1]
  have e0 : nI n - 1 = nI (n - 1) := pk_sub (b := 1) (by omega)
  rw [e0]
  refine ⟨hu.1, hu.1, n, F, G, hu, hv, fun j hj e => ?_, fun q => absurd (not_lt_pos (by omega) (show n - 1 < n by omega)) q⟩
  have e2 : n - 1 = j := (nI_eq (by omega) (by omega)).mp e
  subst e2
  refine ⟨hu.1, ?_⟩
  have key := zloop (P := fun i => ∀ x : Int32, x + nI (i + 2) = nI n → WW C 19 [some (.ref u), some (.ref t), some (.int (nI k)), some (.int (nI (opnS T F n i))), some (.int x)] [] σ) (n - 1 - k) (fun i hi ih x hx => ?_) ?_ 0 (by omega)
  · refine key _ ?_
    show nI n - 2 + nI 2 = nI n
    exact Int32.sub_add_cancel _ _
  · have ex : x = nI (n - 2 - i) := by
      have h2 : x = nI n - nI (i + 2) := by rw [← hx]; exact (Int32.add_sub_cancel _ _).symm
      rw [h2, pk_sub (by omega)]
      congr 1
      omega
    subst ex
    refine r_X9_openAt_19 hC hR m_X9_fitsAt (by decide) m_X8_around (by decide) _ _ _ ?_
    simp only [T_X9_openAt_19, x_psh, x_ild, x_lld, x_ald, x_ist, x_ast, x_lst, x_inc, x_iadd, x_isub, x_imul, x_iand, x_ior, x_ixor, x_ishl, x_ishr, x_iushr, x_idiv, x_irem, x_ladd, x_land, x_lor, x_lshl, x_lshr, x_ineg, x_i2l, x_l2i, x_i2b, x_lcmp, x_dup, x_dup2, x_if_eq, x_if_ne, x_if_lt, x_if_ge, x_if_gt, x_if_le, x_ic_eq, x_ic_ne, x_ic_lt, x_ic_ge, x_ic_gt, x_ic_le, x_getI, x_getR, x_putI, x_putZ, x_putR, x_iald, x_bald, x_lald, x_iast, x_bast, x_last, x_alen, x_acp, x_mmax, x_mmin, x_callV, x_callS, x_iret, x_zret, x_lret, x_aret, x_vret, x_tsw, x_stop, zst1, zst2, zkill, zkl, zsplit, zmask, zent, zentL, List.getElem?_cons_zero, List.getElem?_cons_succ, List.set_cons_zero, List.set_cons_succ, List.set_nil, List.length_cons, List.length_nil, List.replicate, List.nil_append, List.cons_append, List.map_cons, List.map_nil, List.sum_cons, List.sum_nil, Value.category, Option.toList, List.contains_cons, List.contains_nil, true_or, or_true, true_and, Nat.zero_le, Nat.reduceAdd, Nat.reduceLeDiff, Nat.reduceLT, Nat.reduceBEq, Bool.true_or, Bool.or_true, Bool.false_or, Bool.or_false, ↓reduceIte, Bool.false_eq_true, Nat.add_zero, Nat.zero_add, Nat.reduceEqDiff, Nat.reduceSub, w_X9_fitsAt, w_X8_around]
    refine ⟨fun q => absurd q (nI_nlt (by omega) (by omega)), fun _ => ⟨fun q => absurd q (nI_pos (by omega)), fun _ => ⟨hT.1.1, T, opnS T F n i, hT, rfl, by have := hlt i (by omega); omega, hu.1, n, F, G, hu, hv, fun j hj e => ?_, fun q => absurd (not_lt_pos (by omega) (show n - 2 - i < n by omega)) q⟩⟩⟩
    have e2 : n - 2 - i = j := (nI_eq (by omega) (by omega)).mp e
    subst e2
    rw [z_and]
    refine ih _ ?_
    rw [show i + 1 + 2 = 1 + (i + 2) by omega, ← nI_add, ← Int32.add_assoc]
    rw [show nI (n - 2 - i) + -1 + nI 1 = nI (n - 2 - i) from by rw [Int32.add_assoc, show (-1 : Int32) + nI 1 = 0 from by decide, Int32.add_zero]]
    rw [nI_add]
    congr 1
    omega
  · intro x hx
    refine r_X9_openAt_19 hC hR m_X9_fitsAt (by decide) m_X8_around (by decide) _ _ _ ?_
    simp only [T_X9_openAt_19, x_psh, x_ild, x_lld, x_ald, x_ist, x_ast, x_lst, x_inc, x_iadd, x_isub, x_imul, x_iand, x_ior, x_ixor, x_ishl, x_ishr, x_iushr, x_idiv, x_irem, x_ladd, x_land, x_lor, x_lshl, x_lshr, x_ineg, x_i2l, x_l2i, x_i2b, x_lcmp, x_dup, x_dup2, x_if_eq, x_if_ne, x_if_lt, x_if_ge, x_if_gt, x_if_le, x_ic_eq, x_ic_ne, x_ic_lt, x_ic_ge, x_ic_gt, x_ic_le, x_getI, x_getR, x_putI, x_putZ, x_putR, x_iald, x_bald, x_lald, x_iast, x_bast, x_last, x_alen, x_acp, x_mmax, x_mmin, x_callV, x_callS, x_iret, x_zret, x_lret, x_aret, x_vret, x_tsw, x_stop, zst1, zst2, zkill, zkl, zsplit, zmask, zent, zentL, List.getElem?_cons_zero, List.getElem?_cons_succ, List.set_cons_zero, List.set_cons_succ, List.set_nil, List.length_cons, List.length_nil, List.replicate, List.nil_append, List.cons_append, List.map_cons, List.map_nil, List.sum_cons, List.sum_nil, Value.category, Option.toList, List.contains_cons, List.contains_nil, true_or, or_true, true_and, Nat.zero_le, Nat.reduceAdd, Nat.reduceLeDiff, Nat.reduceLT, Nat.reduceBEq, Bool.true_or, Bool.or_true, Bool.false_or, Bool.or_false, ↓reduceIte, Bool.false_eq_true, Nat.add_zero, Nat.zero_add, Nat.reduceEqDiff, Nat.reduceSub]
    by_cases h0 : k = 0
    · subst h0
      have ex : x = -1 := by
        have h2 : x = nI n - nI (n - 1 - 0 + 2) := by rw [← hx]; exact (Int32.add_sub_cancel _ _).symm
        rw [h2, show n - 1 - 0 + 2 = n + 1 by omega, ← nI_i3]
        exact z_self _
      subst ex
      exact ⟨fun _ => hQ, fun q => absurd (by decide) q⟩
    · have ex : x = nI (k - 1) := by
        have h2 : x = nI n - nI (n - 1 - k + 2) := by rw [← hx]; exact (Int32.add_sub_cancel _ _).symm
        rw [h2, pk_sub (by omega)]
        congr 1
        omega
      subst ex
      exact ⟨fun _ => hQ, fun q => absurd (nI_lt (by omega) (by omega)) q⟩
