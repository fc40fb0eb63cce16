/-! PARTING: recursion -/
theorem meets_false (y : MethodName) (cc : ByteArray) (nL : Nat) (ret : Option FieldType) (d : Nat) : Meets y cc nL ret d (fun _ _ _ => False) := fun _ _ _ _ _ _ _ h => h.elim
def ptC (T : TD) (F : Nat → Nat) : Nat → Nat → Nat → Nat
  | 0, _, _ => 1
  | j + 1, a, b => (if a &&& F j = 0 then 0 else ptC T F j (arS T (a &&& F j)) b) + (if b &&& F j = 0 then 0 else ptC T F j a (arS T (b &&& F j)))
theorem ptC_le (T : TD) (F : Nat → Nat) : ∀ j a b, ptC T F j a b ≤ 2 ^ j
  | 0, _, _ => Nat.le_refl _
  | j + 1, a, b => by
    have h1 := ptC_le T F j (arS T (a &&& F j)) b
    have h2 := ptC_le T F j a (arS T (b &&& F j))
    rw [ptC, Nat.pow_succ]
    split <;> split <;> omega
def ptW (k : Nat) : WPt := fun args σ Q => match args with
  | [.ref t, .ref u, .int x, .int y, .int z] => ∃ (T : TD) (n : Nat) (F G : Nat → Nat) (j a b : Nat), TownR σ t T ∧ TuneS σ u ∧ TuneV σ u n F G ∧ x = iI ((j : Int) - 1) ∧ j ≤ n ∧ j ≤ k ∧ y = nI a ∧ z = nI b ∧ Q (some (.int (nI (ptC T F j a b)))) σ
  | _ => False
theorem m_countBits : ∀ k, Meets yX3_countBits cX3_countBits 8 (some .int) (k + 3) (ptW k) := by
  intro k
  induction k with
  | zero =>
    refine Meets.mk (by decide) fun args σ Φ h => ?_
    unfold ptW at h
    split at h
    rotate_left
    · exact h.elim
    rename_i t u x y z
    obtain ⟨T, n, F, G, j, a, b, hT, hu, hv, rfl, hj, hjk, rfl, rfl, hQ⟩ := h
    refine ⟨Nat.le_of_ble_eq_true rfl, fun C hC hR => ?_⟩
    have hj0 : j = 0 := by omega
    subst hj0
    refine r_X3_countBits_0 hC hR m_X9_fitsAt (by decide) m_X8_around (by decide) (meets_false _ _ _ _ 0) (by decide) _ _ _ ?_
    simp only [T_X3_countBits_0, x_psh, x_ild, x_lld, x_ald, x_ist, x_ast, x_lst, x_inc, x_iadd, x_isub, x_imul, x_iand, x_ior, x_ixor, x_ishl, x_ishr, x_iushr, x_idiv, x_irem, x_ladd, x_land, x_lor, x_lshl, x_lshr, x_ineg, x_i2l, x_l2i, x_i2b, x_lcmp, x_dup, x_dup2, x_if_eq, x_if_ne, x_if_lt, x_if_ge, x_if_gt, x_if_le, x_ic_eq, x_ic_ne, x_ic_lt, x_ic_ge, x_ic_gt, x_ic_le, x_getI, x_getR, x_putI, x_putZ, x_putR, x_iald, x_bald, x_lald, x_iast, x_bast, x_last, x_alen, x_acp, x_mmax, x_mmin, x_callV, x_callS, x_iret, x_zret, x_lret, x_aret, x_vret, x_tsw, x_stop, zst1, zst2, zkill, zkl, zsplit, zmask, zent, zentL, List.getElem?_cons_zero, List.getElem?_cons_succ, List.set_cons_zero, List.set_cons_succ, List.set_nil, List.length_cons, List.length_nil, List.replicate, List.nil_append, List.cons_append, List.map_cons, List.map_nil, List.sum_cons, List.sum_nil, Value.category, Option.toList, List.contains_cons, List.contains_nil, true_or, or_true, true_and, Nat.zero_le, Nat.reduceAdd, Nat.reduceLeDiff, Nat.reduceLT, Nat.reduceBEq, Bool.true_or, Bool.or_true, Bool.false_or, Bool.or_false, ↓reduceIte, Bool.false_eq_true, Nat.add_zero, Nat.zero_add, Nat.reduceEqDiff, Nat.reduceSub]
    exact ⟨fun q => absurd q (by decide), fun _ => hQ⟩
  | succ k ihk =>
    refine Meets.mk (by decide) fun args σ Φ h => ?_
    unfold ptW at h
    split at h
    rotate_left
    · exact h.elim
    rename_i t u x y z
    obtain ⟨T, n, F, G, j, a, b, hT, hu, hv, rfl, hj, hjk, rfl, rfl, hQ⟩ := h
    refine ⟨Nat.le_of_ble_eq_true rfl, fun C hC hR => ?_⟩
    have hn := hv.2.1
    have hor : ∀ s, orS (tE T) s (tD T) = arS T s := fun _ => rfl
    cases j with
    | zero =>
      refine r_X3_countBits_0 hC hR m_X9_fitsAt (by omega) m_X8_around (by omega) ihk (by omega) _ _ _ ?_
      simp only [T_X3_countBits_0, x_psh, x_ild, x_lld, x_ald, x_ist, x_ast, x_lst, x_inc, x_iadd, x_isub, x_imul, x_iand, x_ior, x_ixor, x_ishl, x_ishr, x_iushr, x_idiv, x_irem, x_ladd, x_land, x_lor, x_lshl, x_lshr, x_ineg, x_i2l, x_l2i, x_i2b, x_lcmp, x_dup, x_dup2, x_if_eq, x_if_ne, x_if_lt, x_if_ge, x_if_gt, x_if_le, x_ic_eq, x_ic_ne, x_ic_lt, x_ic_ge, x_ic_gt, x_ic_le, x_getI, x_getR, x_putI, x_putZ, x_putR, x_iald, x_bald, x_lald, x_iast, x_bast, x_last, x_alen, x_acp, x_mmax, x_mmin, x_callV, x_callS, x_iret, x_zret, x_lret, x_aret, x_vret, x_tsw, x_stop, zst1, zst2, zkill, zkl, zsplit, zmask, zent, zentL, List.getElem?_cons_zero, List.getElem?_cons_succ, List.set_cons_zero, List.set_cons_succ, List.set_nil, List.length_cons, List.length_nil, List.replicate, List.nil_append, List.cons_append, List.map_cons, List.map_nil, List.sum_cons, List.sum_nil, Value.category, Option.toList, List.contains_cons, List.contains_nil, true_or, or_true, true_and, Nat.zero_le, Nat.reduceAdd, Nat.reduceLeDiff, Nat.reduceLT, Nat.reduceBEq, Bool.true_or, Bool.or_true, Bool.false_or, Bool.or_false, ↓reduceIte, Bool.false_eq_true, Nat.add_zero, Nat.zero_add, Nat.reduceEqDiff, Nat.reduceSub]
      exact ⟨fun q => absurd q (by decide), fun _ => hQ⟩
    | succ j =>
      have ex : iI (((j + 1 : Nat) : Int) - 1) = nI j := by rw [iI_n]; congr 1; omega
      have ex2 : nI j - 1 = iI ((j : Int) - 1) := by rw [iI_n, show (1 : Int32) = iI 1 from rfl, iI_sub]
      have hF := (hv.2.2 j (by omega)).2.1
      have la : a &&& F j < 4096 := and_lt31 hF
      have lb : b &&& F j < 4096 := and_lt31 hF
      have b1 := ptC_le T F j (arS T (a &&& F j)) b
      have b2 := ptC_le T F j a (arS T (b &&& F j))
      have hpj : 2 ^ j ≤ 4096 := z_pow31 (by omega)
      -- the second half
      have second : ∀ f : Nat, f = (if a &&& F j = 0 then 0 else ptC T F j (arS T (a &&& F j)) b) → WW C 54 [some (.ref t), some (.ref u), some (.int (nI j)), some (.int (nI a)), none, none, some (.int (nI (b &&& F j))), some (.int (nI f))] [] σ := by
        intro f hf
        refine r_X3_countBits_54 hC hR m_X9_fitsAt (by omega) m_X8_around (by omega) ihk (by omega) _ _ _ ?_
        simp only [T_X3_countBits_54, x_psh, x_ild, x_lld, x_ald, x_ist, x_ast, x_lst, x_inc, x_iadd, x_isub, x_imul, x_iand, x_ior, x_ixor, x_ishl, x_ishr, x_iushr, x_idiv, x_irem, x_ladd, x_land, x_lor, x_lshl, x_lshr, x_ineg, x_i2l, x_l2i, x_i2b, x_lcmp, x_dup, x_dup2, x_if_eq, x_if_ne, x_if_lt, x_if_ge, x_if_gt, x_if_le, x_ic_eq, x_ic_ne, x_ic_lt, x_ic_ge, x_ic_gt, x_ic_le, x_getI, x_getR, x_putI, x_putZ, x_putR, x_iald, x_bald, x_lald, x_iast, x_bast, x_last, x_alen, x_acp, x_mmax, x_mmin, x_callV, x_callS, x_iret, x_zret, x_lret, x_aret, x_vret, x_tsw, x_stop, zst1, zst2, zkill, zkl, zsplit, zmask, zent, zentL, List.getElem?_cons_zero, List.getElem?_cons_succ, List.set_cons_zero, List.set_cons_succ, List.set_nil, List.length_cons, List.length_nil, List.replicate, List.nil_append, List.cons_append, List.map_cons, List.map_nil, List.sum_cons, List.sum_nil, Value.category, Option.toList, List.contains_cons, List.contains_nil, true_or, or_true, true_and, Nat.zero_le, Nat.reduceAdd, Nat.reduceLeDiff, Nat.reduceLT, Nat.reduceBEq, Bool.true_or, Bool.or_true, Bool.false_or, Bool.or_false, ↓reduceIte, Bool.false_eq_true, Nat.add_zero, Nat.zero_add, Nat.reduceEqDiff, Nat.reduceSub, w_X8_around, ptW, hor]
        rw [z_l0, nI_eq (by omega) (by omega)]
        refine ⟨fun q => ?_, fun q => ⟨hT.1.1, T, _, hT, rfl, by omega, T, n, F, G, j, a, _, hT, hu, hv, ex2, by omega, by omega, rfl, rfl, ?_⟩⟩
        · rw [ptC, if_pos q, Nat.add_zero, ← hf] at hQ
          exact hQ
        · rw [ptC, if_neg q, ← hf] at hQ
          rw [nI_add]
          exact hQ
      rw [ex]
      refine r_X3_countBits_0 hC hR m_X9_fitsAt (by omega) m_X8_around (by omega) ihk (by omega) _ _ _ ?_
      simp only [T_X3_countBits_0, x_psh, x_ild, x_lld, x_ald, x_ist, x_ast, x_lst, x_inc, x_iadd, x_isub, x_imul, x_iand, x_ior, x_ixor, x_ishl, x_ishr, x_iushr, x_idiv, x_irem, x_ladd, x_land, x_lor, x_lshl, x_lshr, x_ineg, x_i2l, x_l2i, x_i2b, x_lcmp, x_dup, x_dup2, x_if_eq, x_if_ne, x_if_lt, x_if_ge, x_if_gt, x_if_le, x_ic_eq, x_ic_ne, x_ic_lt, x_ic_ge, x_ic_gt, x_ic_le, x_getI, x_getR, x_putI, x_putZ, x_putR, x_iald, x_bald, x_lald, x_iast, x_bast, x_last, x_alen, x_acp, x_mmax, x_mmin, x_callV, x_callS, x_iret, x_zret, x_lret, x_aret, x_vret, x_tsw, x_stop, zst1, zst2, zkill, zkl, zsplit, zmask, zent, zentL, List.getElem?_cons_zero, List.getElem?_cons_succ, List.set_cons_zero, List.set_cons_succ, List.set_nil, List.length_cons, List.length_nil, List.replicate, List.nil_append, List.cons_append, List.map_cons, List.map_nil, List.sum_cons, List.sum_nil, Value.category, Option.toList, List.contains_cons, List.contains_nil, true_or, or_true, true_and, Nat.zero_le, Nat.reduceAdd, Nat.reduceLeDiff, Nat.reduceLT, Nat.reduceBEq, Bool.true_or, Bool.or_true, Bool.false_or, Bool.or_false, ↓reduceIte, Bool.false_eq_true, Nat.add_zero, Nat.zero_add, Nat.reduceEqDiff, Nat.reduceSub, w_X9_fitsAt, w_X8_around, ptW, hor]
      refine ⟨fun _ => ⟨hu.1, n, F, G, hu, hv, fun i hi e => ?_, fun q => absurd (not_lt_pos (by omega) (show j < n by omega)) q⟩, fun q => absurd (nI_pos' (by omega)) q⟩
      have e2 : j = i := (nI_eq (by omega) (by omega)).mp e
      subst e2
      refine ⟨hu.1, n, F, G, hu, hv, fun i hi e => ?_, fun q => absurd (not_lt_pos (by omega) (show j < n by omega)) q⟩
      have e2 : j = i := (nI_eq (by omega) (by omega)).mp e
      subst e2
      rw [z_and, z_and, z_l0, nI_eq (by omega) (by omega)]
      refine ⟨fun q => ?_, fun q => ⟨hT.1.1, T, _, hT, rfl, by omega, T, n, F, G, j, _, b, hT, hu, hv, ex2, by omega, by omega, rfl, rfl, ?_⟩⟩
      · exact second 0 (by rw [if_pos q])
      · rw [nI_add, Nat.zero_add]
        exact second _ (by rw [if_neg q]; rfl)
def w_X3_countBits : WPt := ptW 17
theorem m_X3_countBits : Meets yX3_countBits cX3_countBits 8 (some .int) 20 w_X3_countBits := m_countBits 17
def ptL (T : TD) (F : Nat → Nat) : Nat → Nat → Nat → Option Nat
  | 0, _, _ => some 0
  | j + 1, a, b => match (if a &&& F j = 0 then none else ptL T F j (arS T (a &&& F j)) b) with
    | some r => some r
    | none => if b &&& F j = 0 then none else (ptL T F j a (arS T (b &&& F j))).map (fun r => r ||| 2 ^ j)
theorem ptL_lt (T : TD) (F : Nat → Nat) : ∀ j a b r, ptL T F j a b = some r → r < 2 ^ j
  | 0, _, _, r, h => by cases h; decide
  | j + 1, a, b, r, h => by
    rw [ptL] at h
    have hp : 2 ^ j < 2 ^ (j + 1) := Nat.pow_lt_pow_right (by decide) (by omega)
    split at h
    next r' h1 =>
      have e := Option.some.inj h
      subst e
      split at h1
      · cases h1
      · have := ptL_lt T F j _ _ _ h1; omega
    next =>
      split at h
      · cases h
      · cases h2 : ptL T F j a (arS T (b &&& F j)) with
        | none => rw [h2] at h; cases h
        | some q =>
          rw [h2] at h
          have e := Option.some.inj h
          have := ptL_lt T F j _ _ _ h2
          rw [← e]
          exact Nat.or_lt_two_pow (by omega) hp
def plW (k : Nat) : WPt := fun args σ Q => match args with
  | [.ref t, .ref u, .int x, .int y, .int z] => ∃ (T : TD) (n : Nat) (F G : Nat → Nat) (j a b : Nat), TownR σ t T ∧ TuneS σ u ∧ TuneV σ u n F G ∧ x = iI ((j : Int) - 1) ∧ j ≤ n ∧ j ≤ k ∧ y = nI a ∧ z = nI b ∧ Q (some (.int (i2 (ptL T F j a b)))) σ
  | _ => False
theorem m_leastBits : ∀ k, Meets yX3_leastBits cX3_leastBits 8 (some .int) (k + 3) (plW k) := by
  intro k
  induction k with
  | zero =>
    refine Meets.mk (by decide) fun args σ Φ h => ?_
    unfold plW at h
    split at h
    rotate_left
    · exact h.elim
    rename_i t u x y z
    obtain ⟨T, n, F, G, j, a, b, hT, hu, hv, rfl, hj, hjk, rfl, rfl, hQ⟩ := h
    refine ⟨Nat.le_of_ble_eq_true rfl, fun C hC hR => ?_⟩
    have hj0 : j = 0 := by omega
    subst hj0
    refine r_X3_leastBits_0 hC hR m_X9_fitsAt (by decide) m_X8_around (by decide) (meets_false _ _ _ _ 0) (by decide) _ _ _ ?_
    simp only [T_X3_leastBits_0, x_psh, x_ild, x_lld, x_ald, x_ist, x_ast, x_lst, x_inc, x_iadd, x_isub, x_imul, x_iand, x_ior, x_ixor, x_ishl, x_ishr, x_iushr, x_idiv, x_irem, x_ladd, x_land, x_lor, x_lshl, x_lshr, x_ineg, x_i2l, x_l2i, x_i2b, x_lcmp, x_dup, x_dup2, x_if_eq, x_if_ne, x_if_lt, x_if_ge, x_if_gt, x_if_le, x_ic_eq, x_ic_ne, x_ic_lt, x_ic_ge, x_ic_gt, x_ic_le, x_getI, x_getR, x_putI, x_putZ, x_putR, x_iald, x_bald, x_lald, x_iast, x_bast, x_last, x_alen, x_acp, x_mmax, x_mmin, x_callV, x_callS, x_iret, x_zret, x_lret, x_aret, x_vret, x_tsw, x_stop, zst1, zst2, zkill, zkl, zsplit, zmask, zent, zentL, List.getElem?_cons_zero, List.getElem?_cons_succ, List.set_cons_zero, List.set_cons_succ, List.set_nil, List.length_cons, List.length_nil, List.replicate, List.nil_append, List.cons_append, List.map_cons, List.map_nil, List.sum_cons, List.sum_nil, Value.category, Option.toList, List.contains_cons, List.contains_nil, true_or, or_true, true_and, Nat.zero_le, Nat.reduceAdd, Nat.reduceLeDiff, Nat.reduceLT, Nat.reduceBEq, Bool.true_or, Bool.or_true, Bool.false_or, Bool.or_false, ↓reduceIte, Bool.false_eq_true, Nat.add_zero, Nat.zero_add, Nat.reduceEqDiff, Nat.reduceSub]
    exact ⟨fun q => absurd q (by decide), fun _ => hQ⟩
  | succ k ihk =>
    refine Meets.mk (by decide) fun args σ Φ h => ?_
    unfold plW at h
    split at h
    rotate_left
    · exact h.elim
    rename_i t u x y z
    obtain ⟨T, n, F, G, j, a, b, hT, hu, hv, rfl, hj, hjk, rfl, rfl, hQ⟩ := h
    refine ⟨Nat.le_of_ble_eq_true rfl, fun C hC hR => ?_⟩
    have hn := hv.2.1
    have hor : ∀ s, orS (tE T) s (tD T) = arS T s := fun _ => rfl
    cases j with
    | zero =>
      refine r_X3_leastBits_0 hC hR m_X9_fitsAt (by omega) m_X8_around (by omega) ihk (by omega) _ _ _ ?_
      simp only [T_X3_leastBits_0, x_psh, x_ild, x_lld, x_ald, x_ist, x_ast, x_lst, x_inc, x_iadd, x_isub, x_imul, x_iand, x_ior, x_ixor, x_ishl, x_ishr, x_iushr, x_idiv, x_irem, x_ladd, x_land, x_lor, x_lshl, x_lshr, x_ineg, x_i2l, x_l2i, x_i2b, x_lcmp, x_dup, x_dup2, x_if_eq, x_if_ne, x_if_lt, x_if_ge, x_if_gt, x_if_le, x_ic_eq, x_ic_ne, x_ic_lt, x_ic_ge, x_ic_gt, x_ic_le, x_getI, x_getR, x_putI, x_putZ, x_putR, x_iald, x_bald, x_lald, x_iast, x_bast, x_last, x_alen, x_acp, x_mmax, x_mmin, x_callV, x_callS, x_iret, x_zret, x_lret, x_aret, x_vret, x_tsw, x_stop, zst1, zst2, zkill, zkl, zsplit, zmask, zent, zentL, List.getElem?_cons_zero, List.getElem?_cons_succ, List.set_cons_zero, List.set_cons_succ, List.set_nil, List.length_cons, List.length_nil, List.replicate, List.nil_append, List.cons_append, List.map_cons, List.map_nil, List.sum_cons, List.sum_nil, Value.category, Option.toList, List.contains_cons, List.contains_nil, true_or, or_true, true_and, Nat.zero_le, Nat.reduceAdd, Nat.reduceLeDiff, Nat.reduceLT, Nat.reduceBEq, Bool.true_or, Bool.or_true, Bool.false_or, Bool.or_false, ↓reduceIte, Bool.false_eq_true, Nat.add_zero, Nat.zero_add, Nat.reduceEqDiff, Nat.reduceSub]
      exact ⟨fun q => absurd q (by decide), fun _ => hQ⟩
    | succ j =>
      have ex : iI (((j + 1 : Nat) : Int) - 1) = nI j := by rw [iI_n]; congr 1; omega
      have ex2 : nI j - 1 = iI ((j : Int) - 1) := by rw [iI_n, show (1 : Int32) = iI 1 from rfl, iI_sub]
      have hF := (hv.2.2 j (by omega)).2.1
      have la : a &&& F j < 4096 := and_lt31 hF
      have lb : b &&& F j < 4096 := and_lt31 hF
      have hpj : 2 ^ j ≤ 4096 := z_pow31 (by omega)
      have second : ∀ f : Option Nat, f = (if a &&& F j = 0 then none else ptL T F j (arS T (a &&& F j)) b) → WW C 52 [some (.ref t), some (.ref u), some (.int (nI j)), some (.int (nI a)), none, none, some (.int (nI (b &&& F j))), some (.int (i2 f))] [] σ := by
        intro f hf
        rw [ptL, ← hf] at hQ
        refine r_X3_leastBits_52 hC hR m_X9_fitsAt (by omega) m_X8_around (by omega) ihk (by omega) _ _ _ ?_
        simp only [T_X3_leastBits_52, x_psh, x_ild, x_lld, x_ald, x_ist, x_ast, x_lst, x_inc, x_iadd, x_isub, x_imul, x_iand, x_ior, x_ixor, x_ishl, x_ishr, x_iushr, x_idiv, x_irem, x_ladd, x_land, x_lor, x_lshl, x_lshr, x_ineg, x_i2l, x_l2i, x_i2b, x_lcmp, x_dup, x_dup2, x_if_eq, x_if_ne, x_if_lt, x_if_ge, x_if_gt, x_if_le, x_ic_eq, x_ic_ne, x_ic_lt, x_ic_ge, x_ic_gt, x_ic_le, x_getI, x_getR, x_putI, x_putZ, x_putR, x_iald, x_bald, x_lald, x_iast, x_bast, x_last, x_alen, x_acp, x_mmax, x_mmin, x_callV, x_callS, x_iret, x_zret, x_lret, x_aret, x_vret, x_tsw, x_stop, zst1, zst2, zkill, zkl, zsplit, zmask, zent, zentL, List.getElem?_cons_zero, List.getElem?_cons_succ, List.set_cons_zero, List.set_cons_succ, List.set_nil, List.length_cons, List.length_nil, List.replicate, List.nil_append, List.cons_append, List.map_cons, List.map_nil, List.sum_cons, List.sum_nil, Value.category, Option.toList, List.contains_cons, List.contains_nil, true_or, or_true, true_and, Nat.zero_le, Nat.reduceAdd, Nat.reduceLeDiff, Nat.reduceLT, Nat.reduceBEq, Bool.true_or, Bool.or_true, Bool.false_or, Bool.or_false, ↓reduceIte, Bool.false_eq_true, Nat.add_zero, Nat.zero_add, Nat.reduceEqDiff, Nat.reduceSub, w_X8_around, plW, hor]
        rw [z_l0, nI_eq (by omega) (by omega)]
        cases f with
        | some r =>
          have hr : r < 2 ^ 31 := by
            split at hf
            · cases hf
            · have := ptL_lt T F j _ _ _ hf.symm; omega
          exact ⟨fun _ => hQ, fun q => absurd q (z_m9 hr)⟩
        | none =>
          refine ⟨fun q => absurd rfl q, fun _ => ⟨fun q => ?_, fun q => ⟨hT.1.1, T, _, hT, rfl, by omega, T, n, F, G, j, a, _, hT, hu, hv, ex2, by omega, by omega, rfl, rfl, ?_⟩⟩⟩
          · simp only [if_pos q] at hQ
            exact hQ
          · simp only [if_neg q] at hQ
            simp only [← hor] at hQ
            cases h2 : ptL T F j a (orS (tE T) (b &&& F j) (tD T)) with
            | none =>
              rw [h2] at hQ
              exact ⟨fun q => absurd rfl q, fun _ => hQ⟩
            | some r =>
              have hr := ptL_lt T F j _ _ _ h2
              rw [h2] at hQ
              refine ⟨fun _ => ?_, fun q => absurd q (z_m9 (by omega))⟩
              show Φ (some (.int (nI r ||| 1 <<< (nI j &&& 31)))) σ
              rw [z_l31, z_l1, z_p2 j (by omega), z_or]
              exact hQ
      rw [ex]
      refine r_X3_leastBits_0 hC hR m_X9_fitsAt (by omega) m_X8_around (by omega) ihk (by omega) _ _ _ ?_
      simp only [T_X3_leastBits_0, x_psh, x_ild, x_lld, x_ald, x_ist, x_ast, x_lst, x_inc, x_iadd, x_isub, x_imul, x_iand, x_ior, x_ixor, x_ishl, x_ishr, x_iushr, x_idiv, x_irem, x_ladd, x_land, x_lor, x_lshl, x_lshr, x_ineg, x_i2l, x_l2i, x_i2b, x_lcmp, x_dup, x_dup2, x_if_eq, x_if_ne, x_if_lt, x_if_ge, x_if_gt, x_if_le, x_ic_eq, x_ic_ne, x_ic_lt, x_ic_ge, x_ic_gt, x_ic_le, x_getI, x_getR, x_putI, x_putZ, x_putR, x_iald, x_bald, x_lald, x_iast, x_bast, x_last, x_alen, x_acp, x_mmax, x_mmin, x_callV, x_callS, x_iret, x_zret, x_lret, x_aret, x_vret, x_tsw, x_stop, zst1, zst2, zkill, zkl, zsplit, zmask, zent, zentL, List.getElem?_cons_zero, List.getElem?_cons_succ, List.set_cons_zero, List.set_cons_succ, List.set_nil, List.length_cons, List.length_nil, List.replicate, List.nil_append, List.cons_append, List.map_cons, List.map_nil, List.sum_cons, List.sum_nil, Value.category, Option.toList, List.contains_cons, List.contains_nil, true_or, or_true, true_and, Nat.zero_le, Nat.reduceAdd, Nat.reduceLeDiff, Nat.reduceLT, Nat.reduceBEq, Bool.true_or, Bool.or_true, Bool.false_or, Bool.or_false, ↓reduceIte, Bool.false_eq_true, Nat.add_zero, Nat.zero_add, Nat.reduceEqDiff, Nat.reduceSub, w_X9_fitsAt, w_X8_around, plW, hor]
      refine ⟨fun _ => ⟨hu.1, n, F, G, hu, hv, fun i hi e => ?_, fun q => absurd (not_lt_pos (by omega) (show j < n by omega)) q⟩, fun q => absurd (nI_pos' (by omega)) q⟩
      have e2 : j = i := (nI_eq (by omega) (by omega)).mp e
      subst e2
      refine ⟨hu.1, n, F, G, hu, hv, fun i hi e => ?_, fun q => absurd (not_lt_pos (by omega) (show j < n by omega)) q⟩
      have e2 : j = i := (nI_eq (by omega) (by omega)).mp e
      subst e2
      rw [z_and, z_and, z_l0, nI_eq (by omega) (by omega)]
      refine ⟨fun q => ?_, fun q => ⟨hT.1.1, T, _, hT, rfl, by omega, T, n, F, G, j, _, b, hT, hu, hv, ex2, by omega, by omega, rfl, rfl, ?_⟩⟩
      · exact second none (by rw [if_pos q])
      · exact second _ (by rw [if_neg q]; rfl)
def w_X3_leastBits : WPt := plW 17
theorem m_X3_leastBits : Meets yX3_leastBits cX3_leastBits 8 (some .int) 20 w_X3_leastBits := m_leastBits 17
/-! the JDK's fill -/
def offI (σ σ' : ZS) (i : Nat) : Prop := ∀ a : Nat, a ≠ i → zI σ' a = zI σ a
def offJ (σ σ' : ZS) (i : Nat) : Prop := ∀ a : Nat, a ≠ i → zJ σ' a = zJ σ a
def w_J7_fill_53178 : WPt := fun args σ Q => match args with
  | [.ref i, .int v] => ∃ n, zd σ i = some (1, n) ∧ n < 2 ^ 31 ∧ ∀ σ', zd σ' = zd σ → zR σ' = zR σ → zJ σ' = zJ σ → offI σ σ' i → (∀ k, k < n → zI σ' i k = v) → Q none σ'
  | _ => False
theorem m_J7_fill_53178 : Meets yJ7_fill_53178 cJ7_fill_53178 4 none 1 w_J7_fill_53178 := by
  refine Meets.mk (by decide) fun args σ Φ h => ?_
  unfold w_J7_fill_53178 at h
  split at h
  rotate_left
  · exact h.elim
  rename_i i v
  obtain ⟨i, rfl⟩ : ∃ q : Nat, q = i := ⟨i, rfl⟩
  obtain ⟨n, hz, hn, hQ⟩ := h
  refine ⟨Nat.le_of_ble_eq_true rfl, fun C hC hR => ?_⟩
  refine r_J7_fill_53178_0 hC hR _ _ _ ?_
  simp only [T_J7_fill_53178_0, x_psh, x_ild, x_lld, x_ald, x_ist, x_ast, x_lst, x_inc, x_iadd, x_isub, x_imul, x_iand, x_ior, x_ixor, x_ishl, x_ishr, x_iushr, x_idiv, x_irem, x_ladd, x_land, x_lor, x_lshl, x_lshr, x_ineg, x_i2l, x_l2i, x_i2b, x_lcmp, x_dup, x_dup2, x_if_eq, x_if_ne, x_if_lt, x_if_ge, x_if_gt, x_if_le, x_ic_eq, x_ic_ne, x_ic_lt, x_ic_ge, x_ic_gt, x_ic_le, x_getI, x_getR, x_putI, x_putZ, x_putR, x_iald, x_bald, x_lald, x_iast, x_bast, x_last, x_alen, x_acp, x_mmax, x_mmin, x_callV, x_callS, x_iret, x_zret, x_lret, x_aret, x_vret, x_tsw, x_stop, zst1, zst2, zkill, zkl, zsplit, zmask, zent, zentL, List.getElem?_cons_zero, List.getElem?_cons_succ, List.set_cons_zero, List.set_cons_succ, List.set_nil, List.length_cons, List.length_nil, List.replicate, List.nil_append, List.cons_append, List.map_cons, List.map_nil, List.sum_cons, List.sum_nil, Value.category, Option.toList, List.contains_cons, List.contains_nil, true_or, or_true, true_and, Nat.zero_le, Nat.reduceAdd, Nat.reduceLeDiff, Nat.reduceLT, Nat.reduceBEq, Bool.true_or, Bool.or_true, Bool.false_or, Bool.or_false, ↓reduceIte, Bool.false_eq_true, Nat.add_zero, Nat.zero_add, Nat.reduceEqDiff, Nat.reduceSub]
  refine ⟨n, Or.inl hz, ?_⟩
  have key := zloop (P := fun k => ∀ τ, zd τ = zd σ → zR τ = zR σ → zJ τ = zJ σ → (∀ a, a ≠ i → zI τ a = zI σ a) → (∀ j, j < k → zI τ i j = v) → WW C 5 [some (.ref i), some (.int v), some (.int (nI k)), some (.int (nI n))] [] τ) n (fun k hk ih τ h1 h2 h3 h4 h5 => ?_) ?_ 0 (by omega)
  · exact key σ rfl rfl rfl (fun _ _ => rfl) (fun j hj => absurd hj (Nat.not_lt_zero j))
  · refine r_J7_fill_53178_5 hC hR _ _ _ ?_
    simp only [T_J7_fill_53178_5, x_psh, x_ild, x_lld, x_ald, x_ist, x_ast, x_lst, x_inc, x_iadd, x_isub, x_imul, x_iand, x_ior, x_ixor, x_ishl, x_ishr, x_iushr, x_idiv, x_irem, x_ladd, x_land, x_lor, x_lshl, x_lshr, x_ineg, x_i2l, x_l2i, x_i2b, x_lcmp, x_dup, x_dup2, x_if_eq, x_if_ne, x_if_lt, x_if_ge, x_if_gt, x_if_le, x_ic_eq, x_ic_ne, x_ic_lt, x_ic_ge, x_ic_gt, x_ic_le, x_getI, x_getR, x_putI, x_putZ, x_putR, x_iald, x_bald, x_lald, x_iast, x_bast, x_last, x_alen, x_acp, x_mmax, x_mmin, x_callV, x_callS, x_iret, x_zret, x_lret, x_aret, x_vret, x_tsw, x_stop, zst1, zst2, zkill, zkl, zsplit, zmask, zent, zentL, List.getElem?_cons_zero, List.getElem?_cons_succ, List.set_cons_zero, List.set_cons_succ, List.set_nil, List.length_cons, List.length_nil, List.replicate, List.nil_append, List.cons_append, List.map_cons, List.map_nil, List.sum_cons, List.sum_nil, Value.category, Option.toList, List.contains_cons, List.contains_nil, true_or, or_true, true_and, Nat.zero_le, Nat.reduceAdd, Nat.reduceLeDiff, Nat.reduceLT, Nat.reduceBEq, Bool.true_or, Bool.or_true, Bool.false_or, Bool.or_false, ↓reduceIte, Bool.false_eq_true, Nat.add_zero, Nat.zero_add, Nat.reduceEqDiff, Nat.reduceSub]
    refine ⟨fun q => absurd q (nI_ge hk hn), fun _ => ⟨n, by rw [h1]; exact hz, vp_in_nI hk hn, ?_⟩⟩
    rw [nI_i3, nI_clamp (by omega)]
    refine ih _ h1 h2 h3 (fun a ha => by rw [zI_sI, if_neg ha]; exact h4 a ha) (fun j hj => ?_)
    rw [zI_sI, if_pos rfl]
    by_cases e : j = k
    · subst e; exact pk_us
    · rw [pk_un e]; exact h5 j (by omega)
  · intro τ h1 h2 h3 h4 h5
    refine r_J7_fill_53178_5 hC hR _ _ _ ?_
    simp only [T_J7_fill_53178_5, x_psh, x_ild, x_lld, x_ald, x_ist, x_ast, x_lst, x_inc, x_iadd, x_isub, x_imul, x_iand, x_ior, x_ixor, x_ishl, x_ishr, x_iushr, x_idiv, x_irem, x_ladd, x_land, x_lor, x_lshl, x_lshr, x_ineg, x_i2l, x_l2i, x_i2b, x_lcmp, x_dup, x_dup2, x_if_eq, x_if_ne, x_if_lt, x_if_ge, x_if_gt, x_if_le, x_ic_eq, x_ic_ne, x_ic_lt, x_ic_ge, x_ic_gt, x_ic_le, x_getI, x_getR, x_putI, x_putZ, x_putR, x_iald, x_bald, x_lald, x_iast, x_bast, x_last, x_alen, x_acp, x_mmax, x_mmin, x_callV, x_callS, x_iret, x_zret, x_lret, x_aret, x_vret, x_tsw, x_stop, zst1, zst2, zkill, zkl, zsplit, zmask, zent, zentL, List.getElem?_cons_zero, List.getElem?_cons_succ, List.set_cons_zero, List.set_cons_succ, List.set_nil, List.length_cons, List.length_nil, List.replicate, List.nil_append, List.cons_append, List.map_cons, List.map_nil, List.sum_cons, List.sum_nil, Value.category, Option.toList, List.contains_cons, List.contains_nil, true_or, or_true, true_and, Nat.zero_le, Nat.reduceAdd, Nat.reduceLeDiff, Nat.reduceLT, Nat.reduceBEq, Bool.true_or, Bool.or_true, Bool.false_or, Bool.or_false, ↓reduceIte, Bool.false_eq_true, Nat.add_zero, Nat.zero_add, Nat.reduceEqDiff, Nat.reduceSub]
    exact ⟨fun _ => hQ τ h1 h2 h3 h4 h5, fun q => absurd (nI_le (Nat.le_refl _) hn) q⟩
def w_J7_fill_d0a16 : WPt := fun args σ Q => match args with
  | [.ref i, .long v] => ∃ n, zd σ i = some (3, n) ∧ n < 2 ^ 31 ∧ ∀ σ', zd σ' = zd σ → zR σ' = zR σ → zI σ' = zI σ → offJ σ σ' i → (∀ k, k < n → zJ σ' i k = v) → Q none σ'
  | _ => False
theorem m_J7_fill_d0a16 : Meets yJ7_fill_d0a16 cJ7_fill_d0a16 5 none 1 w_J7_fill_d0a16 := by
  refine Meets.mk (by decide) fun args σ Φ h => ?_
  unfold w_J7_fill_d0a16 at h
  split at h
  rotate_left
  · exact h.elim
  rename_i i v
  obtain ⟨i, rfl⟩ : ∃ q : Nat, q = i := ⟨i, rfl⟩
  obtain ⟨n, hz, hn, hQ⟩ := h
  refine ⟨Nat.le_of_ble_eq_true rfl, fun C hC hR => ?_⟩
  refine r_J7_fill_d0a16_0 hC hR _ _ _ ?_
  simp only [T_J7_fill_d0a16_0, x_psh, x_ild, x_lld, x_ald, x_ist, x_ast, x_lst, x_inc, x_iadd, x_isub, x_imul, x_iand, x_ior, x_ixor, x_ishl, x_ishr, x_iushr, x_idiv, x_irem, x_ladd, x_land, x_lor, x_lshl, x_lshr, x_ineg, x_i2l, x_l2i, x_i2b, x_lcmp, x_dup, x_dup2, x_if_eq, x_if_ne, x_if_lt, x_if_ge, x_if_gt, x_if_le, x_ic_eq, x_ic_ne, x_ic_lt, x_ic_ge, x_ic_gt, x_ic_le, x_getI, x_getR, x_putI, x_putZ, x_putR, x_iald, x_bald, x_lald, x_iast, x_bast, x_last, x_alen, x_acp, x_mmax, x_mmin, x_callV, x_callS, x_iret, x_zret, x_lret, x_aret, x_vret, x_tsw, x_stop, zst1, zst2, zkill, zkl, zsplit, zmask, zent, zentL, List.getElem?_cons_zero, List.getElem?_cons_succ, List.set_cons_zero, List.set_cons_succ, List.set_nil, List.length_cons, List.length_nil, List.replicate, List.nil_append, List.cons_append, List.map_cons, List.map_nil, List.sum_cons, List.sum_nil, Value.category, Option.toList, List.contains_cons, List.contains_nil, true_or, or_true, true_and, Nat.zero_le, Nat.reduceAdd, Nat.reduceLeDiff, Nat.reduceLT, Nat.reduceBEq, Bool.true_or, Bool.or_true, Bool.false_or, Bool.or_false, ↓reduceIte, Bool.false_eq_true, Nat.add_zero, Nat.zero_add, Nat.reduceEqDiff, Nat.reduceSub]
  refine ⟨n, Or.inr hz, ?_⟩
  have key := zloop (P := fun k => ∀ τ, zd τ = zd σ → zR τ = zR σ → zI τ = zI σ → (∀ a, a ≠ i → zJ τ a = zJ σ a) → (∀ j, j < k → zJ τ i j = v) → WW C 6 [some (.ref i), some (.long v), none, some (.int (nI k)), some (.int (nI n))] [] τ) n (fun k hk ih τ h1 h2 h3 h4 h5 => ?_) ?_ 0 (by omega)
  · exact key σ rfl rfl rfl (fun _ _ => rfl) (fun j hj => absurd hj (Nat.not_lt_zero j))
  · refine r_J7_fill_d0a16_6 hC hR _ _ _ ?_
    simp only [T_J7_fill_d0a16_6, x_psh, x_ild, x_lld, x_ald, x_ist, x_ast, x_lst, x_inc, x_iadd, x_isub, x_imul, x_iand, x_ior, x_ixor, x_ishl, x_ishr, x_iushr, x_idiv, x_irem, x_ladd, x_land, x_lor, x_lshl, x_lshr, x_ineg, x_i2l, x_l2i, x_i2b, x_lcmp, x_dup, x_dup2, x_if_eq, x_if_ne, x_if_lt, x_if_ge, x_if_gt, x_if_le, x_ic_eq, x_ic_ne, x_ic_lt, x_ic_ge, x_ic_gt, x_ic_le, x_getI, x_getR, x_putI, x_putZ, x_putR, x_iald, x_bald, x_lald, x_iast, x_bast, x_last, x_alen, x_acp, x_mmax, x_mmin, x_callV, x_callS, x_iret, x_zret, x_lret, x_aret, x_vret, x_tsw, x_stop, zst1, zst2, zkill, zkl, zsplit, zmask, zent, zentL, List.getElem?_cons_zero, List.getElem?_cons_succ, List.set_cons_zero, List.set_cons_succ, List.set_nil, List.length_cons, List.length_nil, List.replicate, List.nil_append, List.cons_append, List.map_cons, List.map_nil, List.sum_cons, List.sum_nil, Value.category, Option.toList, List.contains_cons, List.contains_nil, true_or, or_true, true_and, Nat.zero_le, Nat.reduceAdd, Nat.reduceLeDiff, Nat.reduceLT, Nat.reduceBEq, Bool.true_or, Bool.or_true, Bool.false_or, Bool.or_false, ↓reduceIte, Bool.false_eq_true, Nat.add_zero, Nat.zero_add, Nat.reduceEqDiff, Nat.reduceSub]
    refine ⟨fun q => absurd q (nI_ge hk hn), fun _ => ⟨n, by rw [h1]; exact hz, vp_in_nI hk hn, ?_⟩⟩
    rw [nI_i3, nI_clamp (by omega)]
    refine ih _ h1 h2 h3 (fun a ha => by rw [zJ_sJ, if_neg ha]; exact h4 a ha) (fun j hj => ?_)
    rw [zJ_sJ, if_pos rfl]
    by_cases e : j = k
    · subst e; exact pk_uLs
    · rw [pk_uLn e]; exact h5 j (by omega)
  · intro τ h1 h2 h3 h4 h5
    refine r_J7_fill_d0a16_6 hC hR _ _ _ ?_
    simp only [T_J7_fill_d0a16_6, x_psh, x_ild, x_lld, x_ald, x_ist, x_ast, x_lst, x_inc, x_iadd, x_isub, x_imul, x_iand, x_ior, x_ixor, x_ishl, x_ishr, x_iushr, x_idiv, x_irem, x_ladd, x_land, x_lor, x_lshl, x_lshr, x_ineg, x_i2l, x_l2i, x_i2b, x_lcmp, x_dup, x_dup2, x_if_eq, x_if_ne, x_if_lt, x_if_ge, x_if_gt, x_if_le, x_ic_eq, x_ic_ne, x_ic_lt, x_ic_ge, x_ic_gt, x_ic_le, x_getI, x_getR, x_putI, x_putZ, x_putR, x_iald, x_bald, x_lald, x_iast, x_bast, x_last, x_alen, x_acp, x_mmax, x_mmin, x_callV, x_callS, x_iret, x_zret, x_lret, x_aret, x_vret, x_tsw, x_stop, zst1, zst2, zkill, zkl, zsplit, zmask, zent, zentL, List.getElem?_cons_zero, List.getElem?_cons_succ, List.set_cons_zero, List.set_cons_succ, List.set_nil, List.length_cons, List.length_nil, List.replicate, List.nil_append, List.cons_append, List.map_cons, List.map_nil, List.sum_cons, List.sum_nil, Value.category, Option.toList, List.contains_cons, List.contains_nil, true_or, or_true, true_and, Nat.zero_le, Nat.reduceAdd, Nat.reduceLeDiff, Nat.reduceLT, Nat.reduceBEq, Bool.true_or, Bool.or_true, Bool.false_or, Bool.or_false, ↓reduceIte, Bool.false_eq_true, Nat.add_zero, Nat.zero_add, Nat.reduceEqDiff, Nat.reduceSub]
    exact ⟨fun _ => hQ τ h1 h2 h3 h4 h5, fun q => absurd (nI_le (Nat.le_refl _) hn) q⟩
