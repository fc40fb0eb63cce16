def q_best (A : AD) (x y : Int32) : Int32 × AD := match ix x (tS (aT A)) with
  | none => (-1, A)
  | some k => match ix y (tD (aT A)) with
    | none => (-1, A)
    | some d => (i2 (bwS (aT A) (aF (aT A) k) d), A)
def w_X11_best : WPt := fun args σ Q => match args with
  | [.ref x, .int d, .int y] => x = 1 ∧ PubI σ (q_best · d y) Q
  | _ => False
set_option maxHeartbeats 1000000 in
theorem m_X11_best : Meets yX11_best cX11_best 3 (some .int) 31 w_X11_best := by
  refine Meets.mk (by decide) fun args σ Φ h => ?_
  unfold w_X11_best at h
  split at h
  rotate_left
  · exact h.elim
  rename_i x d y
  obtain ⟨x, rfl⟩ : ∃ q : Nat, q = x := ⟨x, rfl⟩
  obtain ⟨hx, A, hK, hA, hQ⟩ := h
  subst hx
  refine ⟨Nat.le_of_ble_eq_true rfl, fun C hC hR => ?_⟩
  have hf := cls_f hK
  have hN := hA.1
  have hD1 := hA.t.1
  have hD := hA.t.2.1
  have hS := hA.t.2.2.1
  have hW := hA.2.2.1.2.1
  have hE := hA.2.2.1.2.2.1
  have hT := hK.tT
  refine r_X11_best_0 hC hR m_X8_isSong (by decide) m_X8_isDoor (by decide) m_X9_takeAnthem (by decide) m_X4_greatestWorth (by decide) _ _ _ ?_
  simp only [T_X11_best_0, x_psh, x_ild, x_lld, x_ald, x_ist, x_ast, x_lst, x_inc, x_iadd, x_isub, x_imul, x_iand, x_ior, x_ixor, x_ishl, x_ishr, x_iushr, x_idiv, x_irem, x_ladd, x_land, x_lor, x_lshl, x_lshr, x_ineg, x_i2l, x_l2i, x_i2b, x_lcmp, x_dup, x_dup2, x_if_eq, x_if_ne, x_if_lt, x_if_ge, x_if_gt, x_if_le, x_ic_eq, x_ic_ne, x_ic_lt, x_ic_ge, x_ic_gt, x_ic_le, x_getI, x_getR, x_putI, x_putZ, x_putR, x_iald, x_bald, x_lald, x_iast, x_bast, x_last, x_alen, x_acp, x_mmax, x_mmin, x_callV, x_callS, x_iret, x_zret, x_lret, x_aret, x_vret, x_tsw, x_stop, zst1, zst2, zkill, zkl, zsplit, zmask, zent, zentL, List.getElem?_cons_zero, List.getElem?_cons_succ, List.set_cons_zero, List.set_cons_succ, List.set_nil, List.length_cons, List.length_nil, List.replicate, List.nil_append, List.cons_append, List.map_cons, List.map_nil, List.sum_cons, List.sum_nil, Value.category, Option.toList, List.contains_cons, List.contains_nil, true_or, or_true, true_and, Nat.zero_le, Nat.reduceAdd, Nat.reduceLeDiff, Nat.reduceLT, Nat.reduceBEq, Bool.true_or, Bool.or_true, Bool.false_or, Bool.or_false, ↓reduceIte, Bool.false_eq_true, Nat.add_zero, Nat.zero_add, Nat.reduceEqDiff, Nat.reduceSub, hf, w_X8_isSong, w_X8_isDoor, w_X9_takeAnthem]
  unfold q_best at hQ
  rcases ix_cs d (show tS (aT A) < 2 ^ 31 by omega) with ⟨k, hk, rfl, h1, h2⟩ | ⟨h1, h2⟩
  · simp only [h1] at hQ
    simp only [h2, b2i_0, ne_eq, Nat.reduceEqDiff, not_false_eq_true, not_true_eq_false, true_and, and_true, true_implies, false_implies, implies_true, and_self]
    rcases ix_cs y (show tD (aT A) < 2 ^ 31 by omega) with ⟨j, hj, rfl, h3, h4⟩ | ⟨h3, h4⟩
    · simp only [h3] at hQ
      simp only [h4, b2i_0, ne_eq, Nat.reduceEqDiff, not_false_eq_true, not_true_eq_false, true_and, and_true, true_implies, false_implies, implies_true, and_self]
      have hL := hA.l hk
      refine ⟨aT A, k, hK.tU.1, hT, rfl, hk, hL.1, by unfold apTU; decide, fun σ1 f1 t1 => ?_⟩
      have hK1 := hK.q f1 (by omega)
      have g1 := cls_f hK1
      simp only [g1, w_X4_greatestWorth, x_psh, x_ild, x_lld, x_ald, x_ist, x_ast, x_lst, x_inc, x_iadd, x_isub, x_imul, x_iand, x_ior, x_ixor, x_ishl, x_ishr, x_iushr, x_idiv, x_irem, x_ladd, x_land, x_lor, x_lshl, x_lshr, x_ineg, x_i2l, x_l2i, x_i2b, x_lcmp, x_dup, x_dup2, x_if_eq, x_if_ne, x_if_lt, x_if_ge, x_if_gt, x_if_le, x_ic_eq, x_ic_ne, x_ic_lt, x_ic_ge, x_ic_gt, x_ic_le, x_getI, x_getR, x_putI, x_putZ, x_putR, x_iald, x_bald, x_lald, x_iast, x_bast, x_last, x_alen, x_acp, x_mmax, x_mmin, x_callV, x_callS, x_iret, x_zret, x_lret, x_aret, x_vret, x_tsw, x_stop, zst1, zst2, zkill, zkl, zsplit, zmask, zent, zentL, List.getElem?_cons_zero, List.getElem?_cons_succ, List.set_cons_zero, List.set_cons_succ, List.set_nil, List.length_cons, List.length_nil, List.replicate, List.nil_append, List.cons_append, List.map_cons, List.map_nil, List.sum_cons, List.sum_nil, Value.category, Option.toList, List.contains_cons, List.contains_nil, true_or, or_true, true_and, Nat.zero_le, Nat.reduceAdd, Nat.reduceLeDiff, Nat.reduceLT, Nat.reduceBEq, Bool.true_or, Bool.or_true, Bool.false_or, Bool.or_false, ↓reduceIte, Bool.false_eq_true, Nat.add_zero, Nat.zero_add, Nat.reduceEqDiff, Nat.reduceSub, b2i_0, ne_eq, Nat.reduceEqDiff, not_false_eq_true, not_true_eq_false, true_and, and_true, true_implies, false_implies, implies_true, and_self]
      exact ⟨aT A, aF (aT A) k, _, j, hK1.tH.2, hK1.tT, hK1.tU.1, t1, rfl, hj, fun σ2 f2 => hQ σ2 ((Fr.z f1 (by omega) (by omega)).trans (f2.z (by omega) (by omega))) (hK1.jf f2)⟩
    · simp only [h3] at hQ
      simp only [h4, b2i_0, ne_eq, Nat.reduceEqDiff, not_false_eq_true, not_true_eq_false, true_and, and_true, true_implies, false_implies, implies_true, and_self]
      exact hQ σ (ZF.refl _ _ _) hK
  · simp only [h1] at hQ
    simp only [h2, b2i_0, ne_eq, Nat.reduceEqDiff, not_false_eq_true, not_true_eq_false, true_and, and_true, true_implies, false_implies, implies_true, and_self]
    exact hQ σ (ZF.refl _ _ _) hK
def bsO (T : TD) (F : Nat → Nat) (d i : Nat) : Option Nat := if gaS T F d = 1 then none else (bdS T F d i).1
def q_bestAt (A : AD) (x y z : Int32) : Int32 × AD := match ix x (tS (aT A)) with
  | none => (-1, A)
  | some k => match ix y (tD (aT A)) with
    | none => (-1, A)
    | some d => match ix z (tD (aT A)) with
      | none => (-9, A)
      | some i => (i2 (bsO (aT A) (aF (aT A) k) d i), A)
def w_X11_bestAt : WPt := fun args σ Q => match args with
  | [.ref x, .int d, .int y, .int z] => x = 1 ∧ PubI σ (q_bestAt · d y z) Q
  | _ => False
set_option maxHeartbeats 1000000 in
theorem m_X11_bestAt : Meets yX11_bestAt cX11_bestAt 4 (some .int) 33 w_X11_bestAt := by
  refine Meets.mk (by decide) fun args σ Φ h => ?_
  unfold w_X11_bestAt at h
  split at h
  rotate_left
  · exact h.elim
  rename_i x d y z
  obtain ⟨x, rfl⟩ : ∃ q : Nat, q = x := ⟨x, rfl⟩
  obtain ⟨hx, A, hK, hA, hQ⟩ := h
  subst hx
  refine ⟨Nat.le_of_ble_eq_true rfl, fun C hC hR => ?_⟩
  have hf := cls_f hK
  have hN := hA.1
  have hD1 := hA.t.1
  have hD := hA.t.2.1
  have hS := hA.t.2.2.1
  have hW := hA.2.2.1.2.1
  have hE := hA.2.2.1.2.2.1
  have hT := hK.tT
  refine r_X11_bestAt_0 hC hR m_X8_isSong (by decide) m_X8_isDoor (by decide) m_X9_takeAnthem (by decide) m_X4_doorOfBest (by decide) _ _ _ ?_
  simp only [T_X11_bestAt_0, x_psh, x_ild, x_lld, x_ald, x_ist, x_ast, x_lst, x_inc, x_iadd, x_isub, x_imul, x_iand, x_ior, x_ixor, x_ishl, x_ishr, x_iushr, x_idiv, x_irem, x_ladd, x_land, x_lor, x_lshl, x_lshr, x_ineg, x_i2l, x_l2i, x_i2b, x_lcmp, x_dup, x_dup2, x_if_eq, x_if_ne, x_if_lt, x_if_ge, x_if_gt, x_if_le, x_ic_eq, x_ic_ne, x_ic_lt, x_ic_ge, x_ic_gt, x_ic_le, x_getI, x_getR, x_putI, x_putZ, x_putR, x_iald, x_bald, x_lald, x_iast, x_bast, x_last, x_alen, x_acp, x_mmax, x_mmin, x_callV, x_callS, x_iret, x_zret, x_lret, x_aret, x_vret, x_tsw, x_stop, zst1, zst2, zkill, zkl, zsplit, zmask, zent, zentL, List.getElem?_cons_zero, List.getElem?_cons_succ, List.set_cons_zero, List.set_cons_succ, List.set_nil, List.length_cons, List.length_nil, List.replicate, List.nil_append, List.cons_append, List.map_cons, List.map_nil, List.sum_cons, List.sum_nil, Value.category, Option.toList, List.contains_cons, List.contains_nil, true_or, or_true, true_and, Nat.zero_le, Nat.reduceAdd, Nat.reduceLeDiff, Nat.reduceLT, Nat.reduceBEq, Bool.true_or, Bool.or_true, Bool.false_or, Bool.or_false, ↓reduceIte, Bool.false_eq_true, Nat.add_zero, Nat.zero_add, Nat.reduceEqDiff, Nat.reduceSub, hf, w_X8_isSong, w_X8_isDoor, w_X9_takeAnthem]
  unfold q_bestAt at hQ
  rcases ix_cs d (show tS (aT A) < 2 ^ 31 by omega) with ⟨k, hk, rfl, h1, h2⟩ | ⟨h1, h2⟩
  · simp only [h1] at hQ
    simp only [h2, b2i_0, ne_eq, Nat.reduceEqDiff, not_false_eq_true, not_true_eq_false, true_and, and_true, true_implies, false_implies, implies_true, and_self]
    rcases ix_cs y (show tD (aT A) < 2 ^ 31 by omega) with ⟨j, hj, rfl, h3, h4⟩ | ⟨h3, h4⟩
    · simp only [h3] at hQ
      simp only [h4, b2i_0, ne_eq, Nat.reduceEqDiff, not_false_eq_true, not_true_eq_false, true_and, and_true, true_implies, false_implies, implies_true, and_self]
      have hL := hA.l hk
      refine ⟨aT A, k, hK.tU.1, hT, rfl, hk, hL.1, by unfold apTU; decide, fun σ1 f1 t1 => ?_⟩
      have hK1 := hK.q f1 (by omega)
      have g1 := cls_f hK1
      simp only [g1, w_X4_doorOfBest, x_psh, x_ild, x_lld, x_ald, x_ist, x_ast, x_lst, x_inc, x_iadd, x_isub, x_imul, x_iand, x_ior, x_ixor, x_ishl, x_ishr, x_iushr, x_idiv, x_irem, x_ladd, x_land, x_lor, x_lshl, x_lshr, x_ineg, x_i2l, x_l2i, x_i2b, x_lcmp, x_dup, x_dup2, x_if_eq, x_if_ne, x_if_lt, x_if_ge, x_if_gt, x_if_le, x_ic_eq, x_ic_ne, x_ic_lt, x_ic_ge, x_ic_gt, x_ic_le, x_getI, x_getR, x_putI, x_putZ, x_putR, x_iald, x_bald, x_lald, x_iast, x_bast, x_last, x_alen, x_acp, x_mmax, x_mmin, x_callV, x_callS, x_iret, x_zret, x_lret, x_aret, x_vret, x_tsw, x_stop, zst1, zst2, zkill, zkl, zsplit, zmask, zent, zentL, List.getElem?_cons_zero, List.getElem?_cons_succ, List.set_cons_zero, List.set_cons_succ, List.set_nil, List.length_cons, List.length_nil, List.replicate, List.nil_append, List.cons_append, List.map_cons, List.map_nil, List.sum_cons, List.sum_nil, Value.category, Option.toList, List.contains_cons, List.contains_nil, true_or, or_true, true_and, Nat.zero_le, Nat.reduceAdd, Nat.reduceLeDiff, Nat.reduceLT, Nat.reduceBEq, Bool.true_or, Bool.or_true, Bool.false_or, Bool.or_false, ↓reduceIte, Bool.false_eq_true, Nat.add_zero, Nat.zero_add, Nat.reduceEqDiff, Nat.reduceSub, b2i_0, ne_eq, Nat.reduceEqDiff, not_false_eq_true, not_true_eq_false, true_and, and_true, true_implies, false_implies, implies_true, and_self]
      refine ⟨aT A, aF (aT A) k, _, j, hK1.tH.2, hK1.tT, hK1.tU.1, t1, rfl, hj, fun σ2 f2 => ⟨fun i hi e => ?_, fun q => ?_⟩⟩
      · subst e
        simp only [ix_some hi (show tD (aT A) < 2 ^ 31 by omega)] at hQ
        exact hQ σ2 ((Fr.z f1 (by omega) (by omega)).trans (f2.z (by omega) (by omega))) (hK1.jf f2)
      · simp only [ix_none q] at hQ
        exact hQ σ2 ((Fr.z f1 (by omega) (by omega)).trans (f2.z (by omega) (by omega))) (hK1.jf f2)
    · simp only [h3] at hQ
      simp only [h4, b2i_0, ne_eq, Nat.reduceEqDiff, not_false_eq_true, not_true_eq_false, true_and, and_true, true_implies, false_implies, implies_true, and_self]
      exact hQ σ (ZF.refl _ _ _) hK
  · simp only [h1] at hQ
    simp only [h2, b2i_0, ne_eq, Nat.reduceEqDiff, not_false_eq_true, not_true_eq_false, true_and, and_true, true_implies, false_implies, implies_true, and_self]
    exact hQ σ (ZF.refl _ _ _) hK
def q_hush (A : AD) (x y : Int32) : Int32 × AD := match ix x (tS (aT A)) with
  | none => (-1, A)
  | some k => match dmS y (tD (aT A)) with
    | none => (-1, A)
    | some fr => (i2 (hsR (aT A) (sF (aT A) k) (sH (aT A) k) fr (tL (aT A) k)), A)
def w_X11_hush : WPt := fun args σ Q => match args with
  | [.ref x, .int d, .int y] => x = 1 ∧ PubI σ (q_hush · d y) Q
  | _ => False
set_option maxHeartbeats 1000000 in
theorem m_X11_hush : Meets yX11_hush cX11_hush 3 (some .int) 6 w_X11_hush := by
  refine Meets.mk (by decide) fun args σ Φ h => ?_
  unfold w_X11_hush at h
  split at h
  rotate_left
  · exact h.elim
  rename_i x d y
  obtain ⟨x, rfl⟩ : ∃ q : Nat, q = x := ⟨x, rfl⟩
  obtain ⟨hx, A, hK, hA, hQ⟩ := h
  subst hx
  refine ⟨Nat.le_of_ble_eq_true rfl, fun C hC hR => ?_⟩
  have hf := cls_f hK
  have hN := hA.1
  have hD1 := hA.t.1
  have hD := hA.t.2.1
  have hS := hA.t.2.2.1
  have hW := hA.2.2.1.2.1
  have hE := hA.2.2.1.2.2.1
  have hT := hK.tT
  refine r_X11_hush_0 hC hR m_X8_isSong (by decide) m_X11_isDoorOrNone (by decide) m_X9_takeSong (by decide) m_X11_doorsMeant (by decide) m_X1_fewestDoors (by decide) _ _ _ ?_
  simp only [T_X11_hush_0, x_psh, x_ild, x_lld, x_ald, x_ist, x_ast, x_lst, x_inc, x_iadd, x_isub, x_imul, x_iand, x_ior, x_ixor, x_ishl, x_ishr, x_iushr, x_idiv, x_irem, x_ladd, x_land, x_lor, x_lshl, x_lshr, x_ineg, x_i2l, x_l2i, x_i2b, x_lcmp, x_dup, x_dup2, x_if_eq, x_if_ne, x_if_lt, x_if_ge, x_if_gt, x_if_le, x_ic_eq, x_ic_ne, x_ic_lt, x_ic_ge, x_ic_gt, x_ic_le, x_getI, x_getR, x_putI, x_putZ, x_putR, x_iald, x_bald, x_lald, x_iast, x_bast, x_last, x_alen, x_acp, x_mmax, x_mmin, x_callV, x_callS, x_iret, x_zret, x_lret, x_aret, x_vret, x_tsw, x_stop, zst1, zst2, zkill, zkl, zsplit, zmask, zent, zentL, List.getElem?_cons_zero, List.getElem?_cons_succ, List.set_cons_zero, List.set_cons_succ, List.set_nil, List.length_cons, List.length_nil, List.replicate, List.nil_append, List.cons_append, List.map_cons, List.map_nil, List.sum_cons, List.sum_nil, Value.category, Option.toList, List.contains_cons, List.contains_nil, true_or, or_true, true_and, Nat.zero_le, Nat.reduceAdd, Nat.reduceLeDiff, Nat.reduceLT, Nat.reduceBEq, Bool.true_or, Bool.or_true, Bool.false_or, Bool.or_false, ↓reduceIte, Bool.false_eq_true, Nat.add_zero, Nat.zero_add, Nat.reduceEqDiff, Nat.reduceSub, hf, w_X8_isSong, w_X11_isDoorOrNone, w_X9_takeSong]
  unfold q_hush at hQ
  rcases ix_cs d (show tS (aT A) < 2 ^ 31 by omega) with ⟨k, hk, rfl, h1, h2⟩ | ⟨h1, h2⟩
  · simp only [h1] at hQ
    simp only [h2, b2i_0, ne_eq, Nat.reduceEqDiff, not_false_eq_true, not_true_eq_false, true_and, and_true, true_implies, false_implies, implies_true, and_self]
    refine ⟨A, hK, ?_⟩
    cases h3 : dmS y (tD (aT A)) with
    | none =>
      simp only [h3] at hQ
      simp only [Option.isSome, b2i_0, ne_eq, Nat.reduceEqDiff, not_false_eq_true, not_true_eq_false, true_and, and_true, true_implies, false_implies, implies_true, and_self]
      exact ⟨fun q => absurd q (by simp), fun _ => hQ σ (ZF.refl _ _ _) hK⟩
    | some fr =>
      simp only [h3] at hQ
      simp only [Option.isSome, b2i_0, ne_eq, Nat.reduceEqDiff, not_false_eq_true, not_true_eq_false, true_and, and_true, true_implies, false_implies, implies_true, and_self]
      refine ⟨aT A, k, hK.tU.1, hT, rfl, hk, by unfold apTU; decide, fun σ1 f1 t1 => ?_⟩
      have hK1 := hK.q f1 (by omega)
      have g1 := cls_f hK1
      simp only [g1, w_X11_doorsMeant, w_X1_fewestDoors, x_psh, x_ild, x_lld, x_ald, x_ist, x_ast, x_lst, x_inc, x_iadd, x_isub, x_imul, x_iand, x_ior, x_ixor, x_ishl, x_ishr, x_iushr, x_idiv, x_irem, x_ladd, x_land, x_lor, x_lshl, x_lshr, x_ineg, x_i2l, x_l2i, x_i2b, x_lcmp, x_dup, x_dup2, x_if_eq, x_if_ne, x_if_lt, x_if_ge, x_if_gt, x_if_le, x_ic_eq, x_ic_ne, x_ic_lt, x_ic_ge, x_ic_gt, x_ic_le, x_getI, x_getR, x_putI, x_putZ, x_putR, x_iald, x_bald, x_lald, x_iast, x_bast, x_last, x_alen, x_acp, x_mmax, x_mmin, x_callV, x_callS, x_iret, x_zret, x_lret, x_aret, x_vret, x_tsw, x_stop, zst1, zst2, zkill, zkl, zsplit, zmask, zent, zentL, List.getElem?_cons_zero, List.getElem?_cons_succ, List.set_cons_zero, List.set_cons_succ, List.set_nil, List.length_cons, List.length_nil, List.replicate, List.nil_append, List.cons_append, List.map_cons, List.map_nil, List.sum_cons, List.sum_nil, Value.category, Option.toList, List.contains_cons, List.contains_nil, true_or, or_true, true_and, Nat.zero_le, Nat.reduceAdd, Nat.reduceLeDiff, Nat.reduceLT, Nat.reduceBEq, Bool.true_or, Bool.or_true, Bool.false_or, Bool.or_false, ↓reduceIte, Bool.false_eq_true, Nat.add_zero, Nat.zero_add, Nat.reduceEqDiff, Nat.reduceSub, b2i_0, ne_eq, Nat.reduceEqDiff, not_false_eq_true, not_true_eq_false, true_and, and_true, true_implies, false_implies, implies_true, and_self]
      exact ⟨A, fr, hK1, h3, aT A, tL (aT A) k, sF (aT A) k, sH (aT A) k, fr, hK1.tT, hK1.tU.1, t1, rfl, hQ σ1 (Fr.z f1 (by omega) (by omega)) hK1⟩
  · simp only [h1] at hQ
    simp only [h2, b2i_0, ne_eq, Nat.reduceEqDiff, not_false_eq_true, not_true_eq_false, true_and, and_true, true_implies, false_implies, implies_true, and_self]
    exact hQ σ (ZF.refl _ _ _) hK
def q_keep (A : AD) (x : Int32) : Int32 × AD := match ix x 2 with
  | none => (-1, A)
  | some k => (nI (tD (aT A)), if k = 0 then (A.1, aX A, some (aX A), a2 A) else (A.1, aX A, a1 A, some (aX A)))
def w_X11_keep : WPt := fun args σ Q => match args with
  | [.ref x, .int d] => x = 1 ∧ PubI σ (q_keep · d) Q
  | _ => False
set_option maxHeartbeats 1000000 in
theorem m_X11_keep : Meets yX11_keep cX11_keep 3 (some .int) 3 w_X11_keep := by
  refine Meets.mk (by decide) fun args σ Φ h => ?_
  unfold w_X11_keep at h
  split at h
  rotate_left
  · exact h.elim
  rename_i x d
  obtain ⟨x, rfl⟩ : ∃ q : Nat, q = x := ⟨x, rfl⟩
  obtain ⟨hx, A, hK, hA, hQ⟩ := h
  subst hx
  refine ⟨Nat.le_of_ble_eq_true rfl, fun C hC hR => ?_⟩
  have hf := cls_f hK
  have hN := hA.1
  have hD1 := hA.t.1
  have hD := hA.t.2.1
  have hS := hA.t.2.2.1
  have hW := hA.2.2.1.2.1
  have hE := hA.2.2.1.2.2.1
  have hT := hK.tT
  refine r_X11_keep_0 hC hR m_X11_slotOf (by decide) m_X5_copyFrom (by decide) _ _ _ ?_
  simp only [T_X11_keep_0, x_psh, x_ild, x_lld, x_ald, x_ist, x_ast, x_lst, x_inc, x_iadd, x_isub, x_imul, x_iand, x_ior, x_ixor, x_ishl, x_ishr, x_iushr, x_idiv, x_irem, x_ladd, x_land, x_lor, x_lshl, x_lshr, x_ineg, x_i2l, x_l2i, x_i2b, x_lcmp, x_dup, x_dup2, x_if_eq, x_if_ne, x_if_lt, x_if_ge, x_if_gt, x_if_le, x_ic_eq, x_ic_ne, x_ic_lt, x_ic_ge, x_ic_gt, x_ic_le, x_getI, x_getR, x_putI, x_putZ, x_putR, x_iald, x_bald, x_lald, x_iast, x_bast, x_last, x_alen, x_acp, x_mmax, x_mmin, x_callV, x_callS, x_iret, x_zret, x_lret, x_aret, x_vret, x_tsw, x_stop, zst1, zst2, zkill, zkl, zsplit, zmask, zent, zentL, List.getElem?_cons_zero, List.getElem?_cons_succ, List.set_cons_zero, List.set_cons_succ, List.set_nil, List.length_cons, List.length_nil, List.replicate, List.nil_append, List.cons_append, List.map_cons, List.map_nil, List.sum_cons, List.sum_nil, Value.category, Option.toList, List.contains_cons, List.contains_nil, true_or, or_true, true_and, Nat.zero_le, Nat.reduceAdd, Nat.reduceLeDiff, Nat.reduceLT, Nat.reduceBEq, Bool.true_or, Bool.or_true, Bool.false_or, Bool.or_false, ↓reduceIte, Bool.false_eq_true, Nat.add_zero, Nat.zero_add, Nat.reduceEqDiff, Nat.reduceSub, hf, w_X11_slotOf]
  unfold q_keep at hQ
  rcases ix_le d 1 (by decide) with ⟨v, hv, rfl, h3⟩ | ⟨h4, h3⟩ | ⟨h4, h5, h3⟩
  · simp only [h3] at hQ
    refine ⟨fun q => absurd q (nI_pos (by omega)), fun _ => ⟨fun _ => ⟨A, hK, fun q => ?_, fun q => ?_⟩, fun q => absurd (by rw [z_l1]; exact nI_le hv (by omega)) q⟩⟩
    · have hv0 : v = 0 := by
        have : nI v = nI 0 := q
        exact (nI_eq (by omega) (by omega)).mp this
      subst hv0
      simp only [if_pos] at hQ
      simp only [hf, w_X5_copyFrom, x_psh, x_ild, x_lld, x_ald, x_ist, x_ast, x_lst, x_inc, x_iadd, x_isub, x_imul, x_iand, x_ior, x_ixor, x_ishl, x_ishr, x_iushr, x_idiv, x_irem, x_ladd, x_land, x_lor, x_lshl, x_lshr, x_ineg, x_i2l, x_l2i, x_i2b, x_lcmp, x_dup, x_dup2, x_if_eq, x_if_ne, x_if_lt, x_if_ge, x_if_gt, x_if_le, x_ic_eq, x_ic_ne, x_ic_lt, x_ic_ge, x_ic_gt, x_ic_le, x_getI, x_getR, x_putI, x_putZ, x_putR, x_iald, x_bald, x_lald, x_iast, x_bast, x_last, x_alen, x_acp, x_mmax, x_mmin, x_callV, x_callS, x_iret, x_zret, x_lret, x_aret, x_vret, x_tsw, x_stop, zst1, zst2, zkill, zkl, zsplit, zmask, zent, zentL, List.getElem?_cons_zero, List.getElem?_cons_succ, List.set_cons_zero, List.set_cons_succ, List.set_nil, List.length_cons, List.length_nil, List.replicate, List.nil_append, List.cons_append, List.map_cons, List.map_nil, List.sum_cons, List.sum_nil, Value.category, Option.toList, List.contains_cons, List.contains_nil, true_or, or_true, true_and, Nat.zero_le, Nat.reduceAdd, Nat.reduceLeDiff, Nat.reduceLT, Nat.reduceBEq, Bool.true_or, Bool.or_true, Bool.false_or, Bool.or_false, ↓reduceIte, Bool.false_eq_true, Nat.add_zero, Nat.zero_add, Nat.reduceEqDiff, Nat.reduceSub, b2i_0, ne_eq, Nat.reduceEqDiff, not_false_eq_true, not_true_eq_false, true_and, and_true, true_implies, false_implies, implies_true, and_self]
      obtain ⟨⟨s1, s2, s3, s4, s5, s6, s7, s8, s9, s10, s11, s12, s13, s14, s15, s16, s17, s18, s19⟩, v1, ⟨U, v2⟩, v3, v4, v5⟩ := hK
      refine ⟨aX A, s14, s13, v3, by unfold apS; decide, fun σ1 f1 t1 => ?_⟩
      have f1' : Fr σ σ1 20 29 := f1
      have f2 : Fr σ (sI σ1 19 3 1) 19 29 := (f1'.mono (by omega) (by omega)).sI (by omega) (by omega)
      rw [f1'.1]
      have hK1 : ClsR (sI σ1 19 3 1) (A.1, aX A, some (aX A), a2 A) := by
        refine ⟨ClsS.of (σ := σ) ⟨s1, s2, s3, s4, s5, s6, s7, s8, s9, s10, s11, s12, s13, s14, s15, s16, s17, s18, s19⟩ f2.1 f2.2.1, v1.fr f2 (by omega), ⟨U, v2.fr f2 (by omega)⟩, v3.fr f2 (by omega), ⟨by rw [zI_sI, if_pos rfl, pk_us], t1.fr (lo := 19) (hi := 20) (fr_one (by omega) (by omega)) (by omega)⟩, v5.fr f2 (by omega)⟩
      have g1 := cls_f hK1
      have t0 : zI (sI σ1 19 3 1) 20 0 = nI (tD (aT A)) := (t1.fr (lo := 19) (hi := 20) (fr_one (by omega) (by omega)) (by omega) : ScnV (sI σ1 19 3 1) 19 (aX A)).1.1
      simp only [g1, t0, b2i_0, ne_eq, Nat.reduceEqDiff, not_false_eq_true, not_true_eq_false, true_and, and_true, true_implies, false_implies, implies_true, and_self]
      refine ⟨s14.1, ?_⟩
      exact hQ _ (Fr.z f2 (by omega) (by omega)) hK1
    · have hv0 : v = 1 := by
        have : v ≠ 0 := fun e => q (by rw [e]; rfl)
        omega
      subst hv0
      simp only [Nat.one_ne_zero, if_neg, not_false_eq_true, Nat.succ_ne_self, ↓reduceIte] at hQ
      simp only [hf, w_X5_copyFrom, x_psh, x_ild, x_lld, x_ald, x_ist, x_ast, x_lst, x_inc, x_iadd, x_isub, x_imul, x_iand, x_ior, x_ixor, x_ishl, x_ishr, x_iushr, x_idiv, x_irem, x_ladd, x_land, x_lor, x_lshl, x_lshr, x_ineg, x_i2l, x_l2i, x_i2b, x_lcmp, x_dup, x_dup2, x_if_eq, x_if_ne, x_if_lt, x_if_ge, x_if_gt, x_if_le, x_ic_eq, x_ic_ne, x_ic_lt, x_ic_ge, x_ic_gt, x_ic_le, x_getI, x_getR, x_putI, x_putZ, x_putR, x_iald, x_bald, x_lald, x_iast, x_bast, x_last, x_alen, x_acp, x_mmax, x_mmin, x_callV, x_callS, x_iret, x_zret, x_lret, x_aret, x_vret, x_tsw, x_stop, zst1, zst2, zkill, zkl, zsplit, zmask, zent, zentL, List.getElem?_cons_zero, List.getElem?_cons_succ, List.set_cons_zero, List.set_cons_succ, List.set_nil, List.length_cons, List.length_nil, List.replicate, List.nil_append, List.cons_append, List.map_cons, List.map_nil, List.sum_cons, List.sum_nil, Value.category, Option.toList, List.contains_cons, List.contains_nil, true_or, or_true, true_and, Nat.zero_le, Nat.reduceAdd, Nat.reduceLeDiff, Nat.reduceLT, Nat.reduceBEq, Bool.true_or, Bool.or_true, Bool.false_or, Bool.or_false, ↓reduceIte, Bool.false_eq_true, Nat.add_zero, Nat.zero_add, Nat.reduceEqDiff, Nat.reduceSub, b2i_0, ne_eq, Nat.reduceEqDiff, not_false_eq_true, not_true_eq_false, true_and, and_true, true_implies, false_implies, implies_true, and_self]
      obtain ⟨⟨s1, s2, s3, s4, s5, s6, s7, s8, s9, s10, s11, s12, s13, s14, s15, s16, s17, s18, s19⟩, v1, ⟨U, v2⟩, v3, v4, v5⟩ := hK
      refine ⟨aX A, s15, s13, v3, by unfold apS; decide, fun σ1 f1 t1 => ?_⟩
      have f1' : Fr σ σ1 30 39 := f1
      have f2 : Fr σ (sI σ1 29 3 1) 29 39 := (f1'.mono (by omega) (by omega)).sI (by omega) (by omega)
      rw [f1'.1]
      have hK1 : ClsR (sI σ1 29 3 1) (A.1, aX A, a1 A, some (aX A)) := by
        refine ⟨ClsS.of (σ := σ) ⟨s1, s2, s3, s4, s5, s6, s7, s8, s9, s10, s11, s12, s13, s14, s15, s16, s17, s18, s19⟩ f2.1 f2.2.1, v1.fr f2 (by omega), ⟨U, v2.fr f2 (by omega)⟩, v3.fr f2 (by omega), v4.fr f2 (by omega), ⟨by rw [zI_sI, if_pos rfl, pk_us], t1.fr (lo := 29) (hi := 30) (fr_one (by omega) (by omega)) (by omega)⟩⟩
      have g1 := cls_f hK1
      have t0 : zI (sI σ1 29 3 1) 30 0 = nI (tD (aT A)) := (t1.fr (lo := 29) (hi := 30) (fr_one (by omega) (by omega)) (by omega) : ScnV (sI σ1 29 3 1) 29 (aX A)).1.1
      simp only [g1, t0, b2i_0, ne_eq, Nat.reduceEqDiff, not_false_eq_true, not_true_eq_false, true_and, and_true, true_implies, false_implies, implies_true, and_self]
      refine ⟨s15.1, ?_⟩
      exact hQ _ (Fr.z f2 (by omega) (by omega)) hK1
  · simp only [h3] at hQ
    exact ⟨fun _ => hQ σ (ZF.refl _ _ _) hK, fun q => absurd h4 q⟩
  · simp only [h3] at hQ
    exact ⟨fun q => absurd q h4, fun _ => ⟨fun q => absurd q h5, fun _ => hQ σ (ZF.refl _ _ _) hK⟩⟩
def q_again (A : AD) (x : Int32) : Int32 × AD := match ix x 2 with
  | none => (-1, A)
  | some k => match (if k = 0 then a1 A else a2 A) with
    | none => (-3, A)
    | some X => (nI (tD (xT X)), setX A X)
def w_X11_again : WPt := fun args σ Q => match args with
  | [.ref x, .int d] => x = 1 ∧ PubI σ (q_again · d) Q
  | _ => False
set_option maxHeartbeats 1000000 in
theorem m_X11_again : Meets yX11_again cX11_again 3 (some .int) 3 w_X11_again := by
  refine Meets.mk (by decide) fun args σ Φ h => ?_
  unfold w_X11_again at h
  split at h
  rotate_left
  · exact h.elim
  rename_i x d
  obtain ⟨x, rfl⟩ : ∃ q : Nat, q = x := ⟨x, rfl⟩
  obtain ⟨hx, A, hK, hA, hQ⟩ := h
  subst hx
  refine ⟨Nat.le_of_ble_eq_true rfl, fun C hC hR => ?_⟩
  have hf := cls_f hK
  have hN := hA.1
  have hD1 := hA.t.1
  have hD := hA.t.2.1
  have hS := hA.t.2.2.1
  have hW := hA.2.2.1.2.1
  have hE := hA.2.2.1.2.2.1
  have hT := hK.tT
  refine r_X11_again_0 hC hR m_X11_slotOf (by decide) m_X5_copyFrom (by decide) _ _ _ ?_
  simp only [T_X11_again_0, x_psh, x_ild, x_lld, x_ald, x_ist, x_ast, x_lst, x_inc, x_iadd, x_isub, x_imul, x_iand, x_ior, x_ixor, x_ishl, x_ishr, x_iushr, x_idiv, x_irem, x_ladd, x_land, x_lor, x_lshl, x_lshr, x_ineg, x_i2l, x_l2i, x_i2b, x_lcmp, x_dup, x_dup2, x_if_eq, x_if_ne, x_if_lt, x_if_ge, x_if_gt, x_if_le, x_ic_eq, x_ic_ne, x_ic_lt, x_ic_ge, x_ic_gt, x_ic_le, x_getI, x_getR, x_putI, x_putZ, x_putR, x_iald, x_bald, x_lald, x_iast, x_bast, x_last, x_alen, x_acp, x_mmax, x_mmin, x_callV, x_callS, x_iret, x_zret, x_lret, x_aret, x_vret, x_tsw, x_stop, zst1, zst2, zkill, zkl, zsplit, zmask, zent, zentL, List.getElem?_cons_zero, List.getElem?_cons_succ, List.set_cons_zero, List.set_cons_succ, List.set_nil, List.length_cons, List.length_nil, List.replicate, List.nil_append, List.cons_append, List.map_cons, List.map_nil, List.sum_cons, List.sum_nil, Value.category, Option.toList, List.contains_cons, List.contains_nil, true_or, or_true, true_and, Nat.zero_le, Nat.reduceAdd, Nat.reduceLeDiff, Nat.reduceLT, Nat.reduceBEq, Bool.true_or, Bool.or_true, Bool.false_or, Bool.or_false, ↓reduceIte, Bool.false_eq_true, Nat.add_zero, Nat.zero_add, Nat.reduceEqDiff, Nat.reduceSub, hf, w_X11_slotOf]
  unfold q_again at hQ
  rcases ix_le d 1 (by decide) with ⟨v, hv, rfl, h3⟩ | ⟨h4, h3⟩ | ⟨h4, h5, h3⟩
  · simp only [h3] at hQ
    refine ⟨fun q => absurd q (nI_pos (by omega)), fun _ => ⟨fun _ => ⟨A, hK, fun q => ?_, fun q => ?_⟩, fun q => absurd (by rw [z_l1]; exact nI_le hv (by omega)) q⟩⟩
    · have hv0 : v = 0 := by
        have : nI v = nI 0 := q
        exact (nI_eq (by omega) (by omega)).mp this
      subst hv0
      simp only [if_pos] at hQ
      simp only [hf, w_X5_copyFrom, x_psh, x_ild, x_lld, x_ald, x_ist, x_ast, x_lst, x_inc, x_iadd, x_isub, x_imul, x_iand, x_ior, x_ixor, x_ishl, x_ishr, x_iushr, x_idiv, x_irem, x_ladd, x_land, x_lor, x_lshl, x_lshr, x_ineg, x_i2l, x_l2i, x_i2b, x_lcmp, x_dup, x_dup2, x_if_eq, x_if_ne, x_if_lt, x_if_ge, x_if_gt, x_if_le, x_ic_eq, x_ic_ne, x_ic_lt, x_ic_ge, x_ic_gt, x_ic_le, x_getI, x_getR, x_putI, x_putZ, x_putR, x_iald, x_bald, x_lald, x_iast, x_bast, x_last, x_alen, x_acp, x_mmax, x_mmin, x_callV, x_callS, x_iret, x_zret, x_lret, x_aret, x_vret, x_tsw, x_stop, zst1, zst2, zkill, zkl, zsplit, zmask, zent, zentL, List.getElem?_cons_zero, List.getElem?_cons_succ, List.set_cons_zero, List.set_cons_succ, List.set_nil, List.length_cons, List.length_nil, List.replicate, List.nil_append, List.cons_append, List.map_cons, List.map_nil, List.sum_cons, List.sum_nil, Value.category, Option.toList, List.contains_cons, List.contains_nil, true_or, or_true, true_and, Nat.zero_le, Nat.reduceAdd, Nat.reduceLeDiff, Nat.reduceLT, Nat.reduceBEq, Bool.true_or, Bool.or_true, Bool.false_or, Bool.or_false, ↓reduceIte, Bool.false_eq_true, Nat.add_zero, Nat.zero_add, Nat.reduceEqDiff, Nat.reduceSub, b2i_0, ne_eq, Nat.reduceEqDiff, not_false_eq_true, not_true_eq_false, true_and, and_true, true_implies, false_implies, implies_true, and_self]
      have hK' := hK
      obtain ⟨⟨s1, s2, s3, s4, s5, s6, s7, s8, s9, s10, s11, s12, s13, s14, s15, s16, s17, s18, s19⟩, v1, ⟨U, v2⟩, v3, v4, v5⟩ := hK'
      cases ho : a1 A with
      | none =>
        rw [ho] at hQ v4
        have e0 : zI σ 19 3 = 0 := v4
        rw [e0]
        exact ⟨fun q => absurd rfl q, fun _ => hQ σ (ZF.refl _ _ _) hK⟩
      | some X =>
        rw [ho] at hQ v4
        have e0 : zI σ 19 3 = 1 := v4.1
        rw [e0]
        refine ⟨fun _ => ⟨X, s13, s14, v4.2, by unfold apS; decide, fun σ1 f1 t1 => ?_⟩, fun q => absurd q (by decide)⟩
        have f1' : Fr σ σ1 10 19 := f1
        have hK1 : ClsR σ1 (setX A X) := by
          refine ⟨ClsS.of (σ := σ) ⟨s1, s2, s3, s4, s5, s6, s7, s8, s9, s10, s11, s12, s13, s14, s15, s16, s17, s18, s19⟩ f1'.1 f1'.2.1, v1.fr f1' (by omega), ⟨U, v2.fr f1' (by omega)⟩, t1, ?_, ?_⟩
          · show SltV σ1 19 (a1 A)
            exact (hK.2.2.2.2.1).fr f1' (by omega)
          · show SltV σ1 29 (a2 A)
            exact (hK.2.2.2.2.2).fr f1' (by omega)
        have g1 := cls_f hK1
        simp only [g1, b2i_0, ne_eq, Nat.reduceEqDiff, not_false_eq_true, not_true_eq_false, true_and, and_true, true_implies, false_implies, implies_true, and_self]
        exact hQ _ (Fr.z f1' (by omega) (by omega)) hK1
    · have hv0 : v = 1 := by
        have : v ≠ 0 := fun e => q (by rw [e]; rfl)
        omega
      subst hv0
      simp only [Nat.one_ne_zero, if_neg, not_false_eq_true, Nat.succ_ne_self, ↓reduceIte] at hQ
      simp only [hf, w_X5_copyFrom, x_psh, x_ild, x_lld, x_ald, x_ist, x_ast, x_lst, x_inc, x_iadd, x_isub, x_imul, x_iand, x_ior, x_ixor, x_ishl, x_ishr, x_iushr, x_idiv, x_irem, x_ladd, x_land, x_lor, x_lshl, x_lshr, x_ineg, x_i2l, x_l2i, x_i2b, x_lcmp, x_dup, x_dup2, x_if_eq, x_if_ne, x_if_lt, x_if_ge, x_if_gt, x_if_le, x_ic_eq, x_ic_ne, x_ic_lt, x_ic_ge, x_ic_gt, x_ic_le, x_getI, x_getR, x_putI, x_putZ, x_putR, x_iald, x_bald, x_lald, x_iast, x_bast, x_last, x_alen, x_acp, x_mmax, x_mmin, x_callV, x_callS, x_iret, x_zret, x_lret, x_aret, x_vret, x_tsw, x_stop, zst1, zst2, zkill, zkl, zsplit, zmask, zent, zentL, List.getElem?_cons_zero, List.getElem?_cons_succ, List.set_cons_zero, List.set_cons_succ, List.set_nil, List.length_cons, List.length_nil, List.replicate, List.nil_append, List.cons_append, List.map_cons, List.map_nil, List.sum_cons, List.sum_nil, Value.category, Option.toList, List.contains_cons, List.contains_nil, true_or, or_true, true_and, Nat.zero_le, Nat.reduceAdd, Nat.reduceLeDiff, Nat.reduceLT, Nat.reduceBEq, Bool.true_or, Bool.or_true, Bool.false_or, Bool.or_false, ↓reduceIte, Bool.false_eq_true, Nat.add_zero, Nat.zero_add, Nat.reduceEqDiff, Nat.reduceSub, b2i_0, ne_eq, Nat.reduceEqDiff, not_false_eq_true, not_true_eq_false, true_and, and_true, true_implies, false_implies, implies_true, and_self]
      have hK' := hK
      obtain ⟨⟨s1, s2, s3, s4, s5, s6, s7, s8, s9, s10, s11, s12, s13, s14, s15, s16, s17, s18, s19⟩, v1, ⟨U, v2⟩, v3, v4, v5⟩ := hK'
      cases ho : a2 A with
      | none =>
        rw [ho] at hQ v5
        have e0 : zI σ 29 3 = 0 := v5
        rw [e0]
        exact ⟨fun q => absurd rfl q, fun _ => hQ σ (ZF.refl _ _ _) hK⟩
      | some X =>
        rw [ho] at hQ v5
        have e0 : zI σ 29 3 = 1 := v5.1
        rw [e0]
        refine ⟨fun _ => ⟨X, s13, s15, v5.2, by unfold apS; decide, fun σ1 f1 t1 => ?_⟩, fun q => absurd q (by decide)⟩
        have f1' : Fr σ σ1 10 19 := f1
        have hK1 : ClsR σ1 (setX A X) := by
          refine ⟨ClsS.of (σ := σ) ⟨s1, s2, s3, s4, s5, s6, s7, s8, s9, s10, s11, s12, s13, s14, s15, s16, s17, s18, s19⟩ f1'.1 f1'.2.1, v1.fr f1' (by omega), ⟨U, v2.fr f1' (by omega)⟩, t1, ?_, ?_⟩
          · show SltV σ1 19 (a1 A)
            exact (hK.2.2.2.2.1).fr f1' (by omega)
          · show SltV σ1 29 (a2 A)
            exact (hK.2.2.2.2.2).fr f1' (by omega)
        have g1 := cls_f hK1
        simp only [g1, b2i_0, ne_eq, Nat.reduceEqDiff, not_false_eq_true, not_true_eq_false, true_and, and_true, true_implies, false_implies, implies_true, and_self]
        exact hQ _ (Fr.z f1' (by omega) (by omega)) hK1
  · simp only [h3] at hQ
    exact ⟨fun _ => hQ σ (ZF.refl _ _ _) hK, fun q => absurd h4 q⟩
  · simp only [h3] at hQ
    exact ⟨fun q => absurd q h4, fun _ => ⟨fun q => absurd q h5, fun _ => hQ σ (ZF.refl _ _ _) hK⟩⟩
def cntS (A : AD) : Nat → Nat
  | 0 => aN A
  | 1 => tD (aT A)
  | 2 => sumN (fun k => ones (tE (aT A) k)) (tD (aT A)) / 2
  | 3 => tS (aT A)
  | 4 => xW (aX A)
  | 5 => xE (aX A)
  | _ => ones (sndS (aT A) 7)
def q_count (A : AD) (x : Int32) : Int32 × AD := match ix x 7 with
  | none => (-2, A)
  | some k => (nI (cntS A k), A)
def w_X11_count : WPt := fun args σ Q => match args with
  | [.ref x, .int d] => x = 1 ∧ PubI σ (q_count · d) Q
  | _ => False
set_option maxHeartbeats 1000000 in
theorem m_X11_count : Meets yX11_count cX11_count 2 (some .int) 4 w_X11_count := by
  refine Meets.mk (by decide) fun args σ Φ h => ?_
  unfold w_X11_count at h
  split at h
  rotate_left
  · exact h.elim
  rename_i x d
  obtain ⟨x, rfl⟩ : ∃ q : Nat, q = x := ⟨x, rfl⟩
  obtain ⟨hx, A, hK, hA, hQ⟩ := h
  subst hx
  refine ⟨Nat.le_of_ble_eq_true rfl, fun C hC hR => ?_⟩
  have hf := cls_f hK
  have hN := hA.1
  have hD1 := hA.t.1
  have hD := hA.t.2.1
  have hS := hA.t.2.2.1
  have hW := hA.2.2.1.2.1
  have hE := hA.2.2.1.2.2.1
  have hT := hK.tT
  refine r_X11_count_0 hC hR m_X8_countStreets (by decide) m_X8_doorsThatSound (by decide) m_J6_bitCount_0f7a4 (by decide) _ _ _ ?_
  simp only [T_X11_count_0, x_psh, x_ild, x_lld, x_ald, x_ist, x_ast, x_lst, x_inc, x_iadd, x_isub, x_imul, x_iand, x_ior, x_ixor, x_ishl, x_ishr, x_iushr, x_idiv, x_irem, x_ladd, x_land, x_lor, x_lshl, x_lshr, x_ineg, x_i2l, x_l2i, x_i2b, x_lcmp, x_dup, x_dup2, x_if_eq, x_if_ne, x_if_lt, x_if_ge, x_if_gt, x_if_le, x_ic_eq, x_ic_ne, x_ic_lt, x_ic_ge, x_ic_gt, x_ic_le, x_getI, x_getR, x_putI, x_putZ, x_putR, x_iald, x_bald, x_lald, x_iast, x_bast, x_last, x_alen, x_acp, x_mmax, x_mmin, x_callV, x_callS, x_iret, x_zret, x_lret, x_aret, x_vret, x_tsw, x_stop, zst1, zst2, zkill, zkl, zsplit, zmask, zent, zentL, List.getElem?_cons_zero, List.getElem?_cons_succ, List.set_cons_zero, List.set_cons_succ, List.set_nil, List.length_cons, List.length_nil, List.replicate, List.nil_append, List.cons_append, List.map_cons, List.map_nil, List.sum_cons, List.sum_nil, Value.category, Option.toList, List.contains_cons, List.contains_nil, true_or, or_true, true_and, Nat.zero_le, Nat.reduceAdd, Nat.reduceLeDiff, Nat.reduceLT, Nat.reduceBEq, Bool.true_or, Bool.or_true, Bool.false_or, Bool.or_false, ↓reduceIte, Bool.false_eq_true, Nat.add_zero, Nat.zero_add, Nat.reduceEqDiff, Nat.reduceSub, hf, w_X8_countStreets, w_X8_doorsThatSound, w_J6_bitCount_0f7a4]
  unfold q_count at hQ
  have hp := hT.d31
  refine ⟨fun i k hi e => ?_, fun q => ?_⟩
  · have hi7 : i < 7 := by
      have := (List.getElem?_eq_some_iff.mp hi).1
      simpa using this
    subst e
    simp only [ix_some hi7 (show 7 < 2 ^ 31 by omega)] at hQ
    have hq := hQ σ (ZF.refl _ _ _) hK
    match i, hi7 with
    | 0, _ => cases hi; simp only [hf, x_psh, x_ild, x_lld, x_ald, x_ist, x_ast, x_lst, x_inc, x_iadd, x_isub, x_imul, x_iand, x_ior, x_ixor, x_ishl, x_ishr, x_iushr, x_idiv, x_irem, x_ladd, x_land, x_lor, x_lshl, x_lshr, x_ineg, x_i2l, x_l2i, x_i2b, x_lcmp, x_dup, x_dup2, x_if_eq, x_if_ne, x_if_lt, x_if_ge, x_if_gt, x_if_le, x_ic_eq, x_ic_ne, x_ic_lt, x_ic_ge, x_ic_gt, x_ic_le, x_getI, x_getR, x_putI, x_putZ, x_putR, x_iald, x_bald, x_lald, x_iast, x_bast, x_last, x_alen, x_acp, x_mmax, x_mmin, x_callV, x_callS, x_iret, x_zret, x_lret, x_aret, x_vret, x_tsw, x_stop, zst1, zst2, zkill, zkl, zsplit, zmask, zent, zentL, List.getElem?_cons_zero, List.getElem?_cons_succ, List.set_cons_zero, List.set_cons_succ, List.set_nil, List.length_cons, List.length_nil, List.replicate, List.nil_append, List.cons_append, List.map_cons, List.map_nil, List.sum_cons, List.sum_nil, Value.category, Option.toList, List.contains_cons, List.contains_nil, true_or, or_true, true_and, Nat.zero_le, Nat.reduceAdd, Nat.reduceLeDiff, Nat.reduceLT, Nat.reduceBEq, Bool.true_or, Bool.or_true, Bool.false_or, Bool.or_false, ↓reduceIte, Bool.false_eq_true, Nat.add_zero, Nat.zero_add, Nat.reduceEqDiff, Nat.reduceSub, b2i_0, ne_eq, Nat.reduceEqDiff, not_false_eq_true, not_true_eq_false, true_and, and_true, true_implies, false_implies, implies_true, and_self]; exact hq
    | 1, _ => cases hi; simp only [hf, x_psh, x_ild, x_lld, x_ald, x_ist, x_ast, x_lst, x_inc, x_iadd, x_isub, x_imul, x_iand, x_ior, x_ixor, x_ishl, x_ishr, x_iushr, x_idiv, x_irem, x_ladd, x_land, x_lor, x_lshl, x_lshr, x_ineg, x_i2l, x_l2i, x_i2b, x_lcmp, x_dup, x_dup2, x_if_eq, x_if_ne, x_if_lt, x_if_ge, x_if_gt, x_if_le, x_ic_eq, x_ic_ne, x_ic_lt, x_ic_ge, x_ic_gt, x_ic_le, x_getI, x_getR, x_putI, x_putZ, x_putR, x_iald, x_bald, x_lald, x_iast, x_bast, x_last, x_alen, x_acp, x_mmax, x_mmin, x_callV, x_callS, x_iret, x_zret, x_lret, x_aret, x_vret, x_tsw, x_stop, zst1, zst2, zkill, zkl, zsplit, zmask, zent, zentL, List.getElem?_cons_zero, List.getElem?_cons_succ, List.set_cons_zero, List.set_cons_succ, List.set_nil, List.length_cons, List.length_nil, List.replicate, List.nil_append, List.cons_append, List.map_cons, List.map_nil, List.sum_cons, List.sum_nil, Value.category, Option.toList, List.contains_cons, List.contains_nil, true_or, or_true, true_and, Nat.zero_le, Nat.reduceAdd, Nat.reduceLeDiff, Nat.reduceLT, Nat.reduceBEq, Bool.true_or, Bool.or_true, Bool.false_or, Bool.or_false, ↓reduceIte, Bool.false_eq_true, Nat.add_zero, Nat.zero_add, Nat.reduceEqDiff, Nat.reduceSub, b2i_0, ne_eq, Nat.reduceEqDiff, not_false_eq_true, not_true_eq_false, true_and, and_true, true_implies, false_implies, implies_true, and_self]; exact hq
    | 2, _ => cases hi; simp only [hf, x_psh, x_ild, x_lld, x_ald, x_ist, x_ast, x_lst, x_inc, x_iadd, x_isub, x_imul, x_iand, x_ior, x_ixor, x_ishl, x_ishr, x_iushr, x_idiv, x_irem, x_ladd, x_land, x_lor, x_lshl, x_lshr, x_ineg, x_i2l, x_l2i, x_i2b, x_lcmp, x_dup, x_dup2, x_if_eq, x_if_ne, x_if_lt, x_if_ge, x_if_gt, x_if_le, x_ic_eq, x_ic_ne, x_ic_lt, x_ic_ge, x_ic_gt, x_ic_le, x_getI, x_getR, x_putI, x_putZ, x_putR, x_iald, x_bald, x_lald, x_iast, x_bast, x_last, x_alen, x_acp, x_mmax, x_mmin, x_callV, x_callS, x_iret, x_zret, x_lret, x_aret, x_vret, x_tsw, x_stop, zst1, zst2, zkill, zkl, zsplit, zmask, zent, zentL, List.getElem?_cons_zero, List.getElem?_cons_succ, List.set_cons_zero, List.set_cons_succ, List.set_nil, List.length_cons, List.length_nil, List.replicate, List.nil_append, List.cons_append, List.map_cons, List.map_nil, List.sum_cons, List.sum_nil, Value.category, Option.toList, List.contains_cons, List.contains_nil, true_or, or_true, true_and, Nat.zero_le, Nat.reduceAdd, Nat.reduceLeDiff, Nat.reduceLT, Nat.reduceBEq, Bool.true_or, Bool.or_true, Bool.false_or, Bool.or_false, ↓reduceIte, Bool.false_eq_true, Nat.add_zero, Nat.zero_add, Nat.reduceEqDiff, Nat.reduceSub, b2i_0, ne_eq, Nat.reduceEqDiff, not_false_eq_true, not_true_eq_false, true_and, and_true, true_implies, false_implies, implies_true, and_self, w_X8_countStreets]; exact ⟨aT A, hT, hq⟩
    | 3, _ => cases hi; simp only [hf, x_psh, x_ild, x_lld, x_ald, x_ist, x_ast, x_lst, x_inc, x_iadd, x_isub, x_imul, x_iand, x_ior, x_ixor, x_ishl, x_ishr, x_iushr, x_idiv, x_irem, x_ladd, x_land, x_lor, x_lshl, x_lshr, x_ineg, x_i2l, x_l2i, x_i2b, x_lcmp, x_dup, x_dup2, x_if_eq, x_if_ne, x_if_lt, x_if_ge, x_if_gt, x_if_le, x_ic_eq, x_ic_ne, x_ic_lt, x_ic_ge, x_ic_gt, x_ic_le, x_getI, x_getR, x_putI, x_putZ, x_putR, x_iald, x_bald, x_lald, x_iast, x_bast, x_last, x_alen, x_acp, x_mmax, x_mmin, x_callV, x_callS, x_iret, x_zret, x_lret, x_aret, x_vret, x_tsw, x_stop, zst1, zst2, zkill, zkl, zsplit, zmask, zent, zentL, List.getElem?_cons_zero, List.getElem?_cons_succ, List.set_cons_zero, List.set_cons_succ, List.set_nil, List.length_cons, List.length_nil, List.replicate, List.nil_append, List.cons_append, List.map_cons, List.map_nil, List.sum_cons, List.sum_nil, Value.category, Option.toList, List.contains_cons, List.contains_nil, true_or, or_true, true_and, Nat.zero_le, Nat.reduceAdd, Nat.reduceLeDiff, Nat.reduceLT, Nat.reduceBEq, Bool.true_or, Bool.or_true, Bool.false_or, Bool.or_false, ↓reduceIte, Bool.false_eq_true, Nat.add_zero, Nat.zero_add, Nat.reduceEqDiff, Nat.reduceSub, b2i_0, ne_eq, Nat.reduceEqDiff, not_false_eq_true, not_true_eq_false, true_and, and_true, true_implies, false_implies, implies_true, and_self]; exact hq
    | 4, _ => cases hi; simp only [hf, x_psh, x_ild, x_lld, x_ald, x_ist, x_ast, x_lst, x_inc, x_iadd, x_isub, x_imul, x_iand, x_ior, x_ixor, x_ishl, x_ishr, x_iushr, x_idiv, x_irem, x_ladd, x_land, x_lor, x_lshl, x_lshr, x_ineg, x_i2l, x_l2i, x_i2b, x_lcmp, x_dup, x_dup2, x_if_eq, x_if_ne, x_if_lt, x_if_ge, x_if_gt, x_if_le, x_ic_eq, x_ic_ne, x_ic_lt, x_ic_ge, x_ic_gt, x_ic_le, x_getI, x_getR, x_putI, x_putZ, x_putR, x_iald, x_bald, x_lald, x_iast, x_bast, x_last, x_alen, x_acp, x_mmax, x_mmin, x_callV, x_callS, x_iret, x_zret, x_lret, x_aret, x_vret, x_tsw, x_stop, zst1, zst2, zkill, zkl, zsplit, zmask, zent, zentL, List.getElem?_cons_zero, List.getElem?_cons_succ, List.set_cons_zero, List.set_cons_succ, List.set_nil, List.length_cons, List.length_nil, List.replicate, List.nil_append, List.cons_append, List.map_cons, List.map_nil, List.sum_cons, List.sum_nil, Value.category, Option.toList, List.contains_cons, List.contains_nil, true_or, or_true, true_and, Nat.zero_le, Nat.reduceAdd, Nat.reduceLeDiff, Nat.reduceLT, Nat.reduceBEq, Bool.true_or, Bool.or_true, Bool.false_or, Bool.or_false, ↓reduceIte, Bool.false_eq_true, Nat.add_zero, Nat.zero_add, Nat.reduceEqDiff, Nat.reduceSub, b2i_0, ne_eq, Nat.reduceEqDiff, not_false_eq_true, not_true_eq_false, true_and, and_true, true_implies, false_implies, implies_true, and_self]; exact hq
    | 5, _ => cases hi; simp only [hf, x_psh, x_ild, x_lld, x_ald, x_ist, x_ast, x_lst, x_inc, x_iadd, x_isub, x_imul, x_iand, x_ior, x_ixor, x_ishl, x_ishr, x_iushr, x_idiv, x_irem, x_ladd, x_land, x_lor, x_lshl, x_lshr, x_ineg, x_i2l, x_l2i, x_i2b, x_lcmp, x_dup, x_dup2, x_if_eq, x_if_ne, x_if_lt, x_if_ge, x_if_gt, x_if_le, x_ic_eq, x_ic_ne, x_ic_lt, x_ic_ge, x_ic_gt, x_ic_le, x_getI, x_getR, x_putI, x_putZ, x_putR, x_iald, x_bald, x_lald, x_iast, x_bast, x_last, x_alen, x_acp, x_mmax, x_mmin, x_callV, x_callS, x_iret, x_zret, x_lret, x_aret, x_vret, x_tsw, x_stop, zst1, zst2, zkill, zkl, zsplit, zmask, zent, zentL, List.getElem?_cons_zero, List.getElem?_cons_succ, List.set_cons_zero, List.set_cons_succ, List.set_nil, List.length_cons, List.length_nil, List.replicate, List.nil_append, List.cons_append, List.map_cons, List.map_nil, List.sum_cons, List.sum_nil, Value.category, Option.toList, List.contains_cons, List.contains_nil, true_or, or_true, true_and, Nat.zero_le, Nat.reduceAdd, Nat.reduceLeDiff, Nat.reduceLT, Nat.reduceBEq, Bool.true_or, Bool.or_true, Bool.false_or, Bool.or_false, ↓reduceIte, Bool.false_eq_true, Nat.add_zero, Nat.zero_add, Nat.reduceEqDiff, Nat.reduceSub, b2i_0, ne_eq, Nat.reduceEqDiff, not_false_eq_true, not_true_eq_false, true_and, and_true, true_implies, false_implies, implies_true, and_self]; exact hq
    | 6, _ =>
      cases hi
      simp only [hf, x_psh, x_ild, x_lld, x_ald, x_ist, x_ast, x_lst, x_inc, x_iadd, x_isub, x_imul, x_iand, x_ior, x_ixor, x_ishl, x_ishr, x_iushr, x_idiv, x_irem, x_ladd, x_land, x_lor, x_lshl, x_lshr, x_ineg, x_i2l, x_l2i, x_i2b, x_lcmp, x_dup, x_dup2, x_if_eq, x_if_ne, x_if_lt, x_if_ge, x_if_gt, x_if_le, x_ic_eq, x_ic_ne, x_ic_lt, x_ic_ge, x_ic_gt, x_ic_le, x_getI, x_getR, x_putI, x_putZ, x_putR, x_iald, x_bald, x_lald, x_iast, x_bast, x_last, x_alen, x_acp, x_mmax, x_mmin, x_callV, x_callS, x_iret, x_zret, x_lret, x_aret, x_vret, x_tsw, x_stop, zst1, zst2, zkill, zkl, zsplit, zmask, zent, zentL, List.getElem?_cons_zero, List.getElem?_cons_succ, List.set_cons_zero, List.set_cons_succ, List.set_nil, List.length_cons, List.length_nil, List.replicate, List.nil_append, List.cons_append, List.map_cons, List.map_nil, List.sum_cons, List.sum_nil, Value.category, Option.toList, List.contains_cons, List.contains_nil, true_or, or_true, true_and, Nat.zero_le, Nat.reduceAdd, Nat.reduceLeDiff, Nat.reduceLT, Nat.reduceBEq, Bool.true_or, Bool.or_true, Bool.false_or, Bool.or_false, ↓reduceIte, Bool.false_eq_true, Nat.add_zero, Nat.zero_add, Nat.reduceEqDiff, Nat.reduceSub, b2i_0, ne_eq, Nat.reduceEqDiff, not_false_eq_true, not_true_eq_false, true_and, and_true, true_implies, false_implies, implies_true, and_self, w_X8_doorsThatSound, w_J6_bitCount_0f7a4]
      exact ⟨aT A, 7, hT, rfl, by omega, sndS (aT A) 7, rfl, by have := sndS_lt (aT A) 7; omega, hq⟩
  · have : ix d 7 = none := by
      refine ix_none ?_
      rintro ⟨q1, q2⟩
      rw [Int32.le_iff_toInt_le] at q1
      rw [Int32.lt_iff_toInt_lt] at q2
      have e7 : (nI 7).toInt = 7 := by decide
      have e0 : (0 : Int32).toInt = 0 := by decide
      omega
    simp only [this] at hQ
    exact hQ σ (ZF.refl _ _ _) hK
