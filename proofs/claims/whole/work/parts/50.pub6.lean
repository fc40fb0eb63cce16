def q_roundAt (A : AD) (x y z i : Int32) : Int32 × AD := match sdd (aT A) x y z with
  | none => (-1, A)
  | some (k, a, b) => (if i < 0 then -9 else i2 (dowS (fwR (aT A) k a b).2 (fwR (aT A) k a b).1 i.toNatClampNeg), A)
def w_X11_roundAt : WPt := fun args σ Q => match args with
  | [.ref x, .int d, .int y, .int z, .int i] => x = 1 ∧ PubI σ (q_roundAt · d y z i) Q
  | _ => False
set_option maxHeartbeats 1000000 in
theorem m_X11_roundAt : Meets yX11_roundAt cX11_roundAt 5 (some .int) 5 w_X11_roundAt := by
  refine Meets.mk (by decide) fun args σ Φ h => ?_
  unfold w_X11_roundAt at h
  split at h
  rotate_left
  · exact h.elim
  rename_i x d y z i
  obtain ⟨x, rfl⟩ : ∃ q : Nat, q = x := ⟨x, rfl⟩
  obtain ⟨hx, A, hK, hA, hQ⟩ := h
  subst hx
  refine ⟨Nat.le_of_ble_eq_true rfl, fun C hC hR => ?_⟩
  have hf := cls_f hK
  have hN := hA.1
  have hD1 := hA.t.1
  have hD := hA.t.2.1
  have hS := hA.t.2.2.1
  have hW := hA.2.2.1.2.1
  have hE := hA.2.2.1.2.2.1
  have hT := hK.tT
  refine r_X11_roundAt_0 hC hR m_X11_areSongAndDoors (by decide) m_X6_takeSong (by decide) m_X6_findWay (by decide) m_X6_doorOfWay (by decide) _ _ _ ?_
  simp only [T_X11_roundAt_0, x_psh, x_ild, x_lld, x_ald, x_ist, x_ast, x_lst, x_inc, x_iadd, x_isub, x_imul, x_iand, x_ior, x_ixor, x_ishl, x_ishr, x_iushr, x_idiv, x_irem, x_ladd, x_land, x_lor, x_lshl, x_lshr, x_ineg, x_i2l, x_l2i, x_i2b, x_lcmp, x_dup, x_dup2, x_if_eq, x_if_ne, x_if_lt, x_if_ge, x_if_gt, x_if_le, x_ic_eq, x_ic_ne, x_ic_lt, x_ic_ge, x_ic_gt, x_ic_le, x_getI, x_getR, x_putI, x_putZ, x_putR, x_iald, x_bald, x_lald, x_iast, x_bast, x_last, x_alen, x_acp, x_mmax, x_mmin, x_callV, x_callS, x_iret, x_zret, x_lret, x_aret, x_vret, x_tsw, x_stop, zst1, zst2, zkill, zkl, zsplit, zmask, zent, zentL, List.getElem?_cons_zero, List.getElem?_cons_succ, List.set_cons_zero, List.set_cons_succ, List.set_nil, List.length_cons, List.length_nil, List.replicate, List.nil_append, List.cons_append, List.map_cons, List.map_nil, List.sum_cons, List.sum_nil, Value.category, Option.toList, List.contains_cons, List.contains_nil, true_or, or_true, true_and, Nat.zero_le, Nat.reduceAdd, Nat.reduceLeDiff, Nat.reduceLT, Nat.reduceBEq, Bool.true_or, Bool.or_true, Bool.false_or, Bool.or_false, ↓reduceIte, Bool.false_eq_true, Nat.add_zero, Nat.zero_add, Nat.reduceEqDiff, Nat.reduceSub, hf, w_X11_areSongAndDoors, w_X6_takeSong]
  unfold q_roundAt at hQ
  refine ⟨A, hK, ?_⟩
  rcases sdd_cases (aT A) d y z hD hS with ⟨k, a, b, hk, ha, hb, rfl, rfl, rfl, h1, h2⟩ | ⟨h1, h2⟩
  · simp only [h1] at hQ
    simp only [h2, b2i_0, ne_eq, Nat.reduceEqDiff, not_false_eq_true, not_true_eq_false, true_and, and_true, true_implies, false_implies, implies_true, and_self]
    have hL := hA.l hk
    refine ⟨aT A, k, hK.tH.1, hT, rfl, hk, hL.1, by unfold apH; decide, fun σ1 f1 t1 => ?_⟩
    have hK1 := hK.q f1 (by omega)
    have g1 := cls_f hK1
    simp only [g1, w_X6_findWay, x_psh, x_ild, x_lld, x_ald, x_ist, x_ast, x_lst, x_inc, x_iadd, x_isub, x_imul, x_iand, x_ior, x_ixor, x_ishl, x_ishr, x_iushr, x_idiv, x_irem, x_ladd, x_land, x_lor, x_lshl, x_lshr, x_ineg, x_i2l, x_l2i, x_i2b, x_lcmp, x_dup, x_dup2, x_if_eq, x_if_ne, x_if_lt, x_if_ge, x_if_gt, x_if_le, x_ic_eq, x_ic_ne, x_ic_lt, x_ic_ge, x_ic_gt, x_ic_le, x_getI, x_getR, x_putI, x_putZ, x_putR, x_iald, x_bald, x_lald, x_iast, x_bast, x_last, x_alen, x_acp, x_mmax, x_mmin, x_callV, x_callS, x_iret, x_zret, x_lret, x_aret, x_vret, x_tsw, x_stop, zst1, zst2, zkill, zkl, zsplit, zmask, zent, zentL, List.getElem?_cons_zero, List.getElem?_cons_succ, List.set_cons_zero, List.set_cons_succ, List.set_nil, List.length_cons, List.length_nil, List.replicate, List.nil_append, List.cons_append, List.map_cons, List.map_nil, List.sum_cons, List.sum_nil, Value.category, Option.toList, List.contains_cons, List.contains_nil, true_or, or_true, true_and, Nat.zero_le, Nat.reduceAdd, Nat.reduceLeDiff, Nat.reduceLT, Nat.reduceBEq, Bool.true_or, Bool.or_true, Bool.false_or, Bool.or_false, ↓reduceIte, Bool.false_eq_true, Nat.add_zero, Nat.zero_add, Nat.reduceEqDiff, Nat.reduceSub, b2i_0, ne_eq, Nat.reduceEqDiff, not_false_eq_true, not_true_eq_false, true_and, and_true, true_implies, false_implies, implies_true, and_self]
    refine ⟨aT A, k, a, b, hK1.tH.1, t1, hK1.tT, by unfold apH; decide, rfl, rfl, ha, hb, fun σ2 f2 t2 b2 => ?_⟩
    have hK2 := hK1.q f2 (by omega)
    have g2 := cls_f hK2
    simp only [g2, w_X6_doorOfWay, x_psh, x_ild, x_lld, x_ald, x_ist, x_ast, x_lst, x_inc, x_iadd, x_isub, x_imul, x_iand, x_ior, x_ixor, x_ishl, x_ishr, x_iushr, x_idiv, x_irem, x_ladd, x_land, x_lor, x_lshl, x_lshr, x_ineg, x_i2l, x_l2i, x_i2b, x_lcmp, x_dup, x_dup2, x_if_eq, x_if_ne, x_if_lt, x_if_ge, x_if_gt, x_if_le, x_ic_eq, x_ic_ne, x_ic_lt, x_ic_ge, x_ic_gt, x_ic_le, x_getI, x_getR, x_putI, x_putZ, x_putR, x_iald, x_bald, x_lald, x_iast, x_bast, x_last, x_alen, x_acp, x_mmax, x_mmin, x_callV, x_callS, x_iret, x_zret, x_lret, x_aret, x_vret, x_tsw, x_stop, zst1, zst2, zkill, zkl, zsplit, zmask, zent, zentL, List.getElem?_cons_zero, List.getElem?_cons_succ, List.set_cons_zero, List.set_cons_succ, List.set_nil, List.length_cons, List.length_nil, List.replicate, List.nil_append, List.cons_append, List.map_cons, List.map_nil, List.sum_cons, List.sum_nil, Value.category, Option.toList, List.contains_cons, List.contains_nil, true_or, or_true, true_and, Nat.zero_le, Nat.reduceAdd, Nat.reduceLeDiff, Nat.reduceLT, Nat.reduceBEq, Bool.true_or, Bool.or_true, Bool.false_or, Bool.or_false, ↓reduceIte, Bool.false_eq_true, Nat.add_zero, Nat.zero_add, Nat.reduceEqDiff, Nat.reduceSub, b2i_0, ne_eq, Nat.reduceEqDiff, not_false_eq_true, not_true_eq_false, true_and, and_true, true_implies, false_implies, implies_true, and_self]
    have hz := (Fr.z f1 (by omega) (by omega) : ZF σ σ1 1 56).trans (Fr.z f2 (by omega) (by omega))
    refine ⟨(fwR (aT A) k a b).2, (fwR (aT A) k a b).1, hK2.tH.1, b2, (fwR_C _ _ _ _).1, rfl, (fwR_C _ _ _ _).2, fun p e hp => ?_, fun q => ?_⟩
    · subst e
      rw [if_neg (nI_pos hp), nI_clamp hp] at hQ
      exact hQ σ2 hz hK2
    · rw [if_pos q] at hQ
      exact hQ σ2 hz hK2
  · simp only [h1] at hQ
    simp only [h2, b2i_0, ne_eq, Nat.reduceEqDiff, not_false_eq_true, not_true_eq_false, true_and, and_true, true_implies, false_implies, implies_true, and_self]
    exact hQ σ (ZF.refl _ _ _) hK
def q_safe (A : AD) (x y z i : Int32) : Int64 × AD := match sdd (aT A) x y z with
  | none => (-1, A)
  | some (k, a, b) => match ix i 13 with
    | none => (-2, A)
    | some n => (sfI (aT A) k a b n, A)
def w_X11_safe : WPt := fun args σ Q => match args with
  | [.ref x, .int d, .int y, .int z, .int i] => x = 1 ∧ PubL σ (q_safe · d y z i) Q
  | _ => False
set_option maxHeartbeats 1000000 in
theorem m_X11_safe : Meets yX11_safe cX11_safe 5 (some .long) 6 w_X11_safe := by
  refine Meets.mk (by decide) fun args σ Φ h => ?_
  unfold w_X11_safe at h
  split at h
  rotate_left
  · exact h.elim
  rename_i x d y z i
  obtain ⟨x, rfl⟩ : ∃ q : Nat, q = x := ⟨x, rfl⟩
  obtain ⟨hx, A, hK, hA, hQ⟩ := h
  subst hx
  refine ⟨Nat.le_of_ble_eq_true rfl, fun C hC hR => ?_⟩
  have hf := cls_f hK
  have hN := hA.1
  have hD1 := hA.t.1
  have hD := hA.t.2.1
  have hS := hA.t.2.2.1
  have hW := hA.2.2.1.2.1
  have hE := hA.2.2.1.2.2.1
  have hT := hK.tT
  refine r_X11_safe_0 hC hR m_X11_areSongAndDoors (by decide) m_X6_takeSong (by decide) m_X6_countWays (by decide) _ _ _ ?_
  simp only [T_X11_safe_0, x_psh, x_ild, x_lld, x_ald, x_ist, x_ast, x_lst, x_inc, x_iadd, x_isub, x_imul, x_iand, x_ior, x_ixor, x_ishl, x_ishr, x_iushr, x_idiv, x_irem, x_ladd, x_land, x_lor, x_lshl, x_lshr, x_ineg, x_i2l, x_l2i, x_i2b, x_lcmp, x_dup, x_dup2, x_if_eq, x_if_ne, x_if_lt, x_if_ge, x_if_gt, x_if_le, x_ic_eq, x_ic_ne, x_ic_lt, x_ic_ge, x_ic_gt, x_ic_le, x_getI, x_getR, x_putI, x_putZ, x_putR, x_iald, x_bald, x_lald, x_iast, x_bast, x_last, x_alen, x_acp, x_mmax, x_mmin, x_callV, x_callS, x_iret, x_zret, x_lret, x_aret, x_vret, x_tsw, x_stop, zst1, zst2, zkill, zkl, zsplit, zmask, zent, zentL, List.getElem?_cons_zero, List.getElem?_cons_succ, List.set_cons_zero, List.set_cons_succ, List.set_nil, List.length_cons, List.length_nil, List.replicate, List.nil_append, List.cons_append, List.map_cons, List.map_nil, List.sum_cons, List.sum_nil, Value.category, Option.toList, List.contains_cons, List.contains_nil, true_or, or_true, true_and, Nat.zero_le, Nat.reduceAdd, Nat.reduceLeDiff, Nat.reduceLT, Nat.reduceBEq, Bool.true_or, Bool.or_true, Bool.false_or, Bool.or_false, ↓reduceIte, Bool.false_eq_true, Nat.add_zero, Nat.zero_add, Nat.reduceEqDiff, Nat.reduceSub, hf, w_X11_areSongAndDoors, w_X6_takeSong]
  unfold q_safe at hQ
  refine ⟨A, hK, ?_⟩
  rcases sdd_cases (aT A) d y z hD hS with ⟨k, a, b, hk, ha, hb, rfl, rfl, rfl, h1, h2⟩ | ⟨h1, h2⟩
  · simp only [h1] at hQ
    simp only [h2, b2i_0, ne_eq, Nat.reduceEqDiff, not_false_eq_true, not_true_eq_false, true_and, and_true, true_implies, false_implies, implies_true, and_self]
    have hL := hA.l hk
    rcases ix_le i 12 (by decide) with ⟨v, hv, rfl, h3⟩ | ⟨h4, h3⟩ | ⟨h4, h5, h3⟩
    · simp only [h3] at hQ
      refine ⟨fun q => absurd q (nI_pos (by omega)), fun _ => ⟨fun _ => ⟨aT A, k, hK.tH.1, hT, rfl, hk, hL.1, by unfold apH; decide, fun σ1 f1 t1 => ?_⟩, fun q => absurd (by rw [z_l12]; exact nI_le hv (by omega)) q⟩⟩
      have hK1 := hK.q f1 (by omega)
      have g1 := cls_f hK1
      simp only [g1, w_X6_countWays, x_psh, x_ild, x_lld, x_ald, x_ist, x_ast, x_lst, x_inc, x_iadd, x_isub, x_imul, x_iand, x_ior, x_ixor, x_ishl, x_ishr, x_iushr, x_idiv, x_irem, x_ladd, x_land, x_lor, x_lshl, x_lshr, x_ineg, x_i2l, x_l2i, x_i2b, x_lcmp, x_dup, x_dup2, x_if_eq, x_if_ne, x_if_lt, x_if_ge, x_if_gt, x_if_le, x_ic_eq, x_ic_ne, x_ic_lt, x_ic_ge, x_ic_gt, x_ic_le, x_getI, x_getR, x_putI, x_putZ, x_putR, x_iald, x_bald, x_lald, x_iast, x_bast, x_last, x_alen, x_acp, x_mmax, x_mmin, x_callV, x_callS, x_iret, x_zret, x_lret, x_aret, x_vret, x_tsw, x_stop, zst1, zst2, zkill, zkl, zsplit, zmask, zent, zentL, List.getElem?_cons_zero, List.getElem?_cons_succ, List.set_cons_zero, List.set_cons_succ, List.set_nil, List.length_cons, List.length_nil, List.replicate, List.nil_append, List.cons_append, List.map_cons, List.map_nil, List.sum_cons, List.sum_nil, Value.category, Option.toList, List.contains_cons, List.contains_nil, true_or, or_true, true_and, Nat.zero_le, Nat.reduceAdd, Nat.reduceLeDiff, Nat.reduceLT, Nat.reduceBEq, Bool.true_or, Bool.or_true, Bool.false_or, Bool.or_false, ↓reduceIte, Bool.false_eq_true, Nat.add_zero, Nat.zero_add, Nat.reduceEqDiff, Nat.reduceSub, b2i_0, ne_eq, Nat.reduceEqDiff, not_false_eq_true, not_true_eq_false, true_and, and_true, true_implies, false_implies, implies_true, and_self]
      exact ⟨aT A, k, a, b, v, hK1.tH.1, t1, hK1.tT, by unfold apH; decide, rfl, rfl, rfl, ha, hb, hv, fun σ2 f2 => hQ σ2 ((Fr.z f1 (by omega) (by omega)).trans (f2.z (by omega) (by omega))) (hK1.sf f2)⟩
    · simp only [h3] at hQ
      exact ⟨fun _ => hQ σ (ZF.refl _ _ _) hK, fun q => absurd h4 q⟩
    · simp only [h3] at hQ
      exact ⟨fun q => absurd q h4, fun _ => ⟨fun q => absurd q h5, fun _ => hQ σ (ZF.refl _ _ _) hK⟩⟩
  · simp only [h1] at hQ
    simp only [h2, b2i_0, ne_eq, Nat.reduceEqDiff, not_false_eq_true, not_true_eq_false, true_and, and_true, true_implies, false_implies, implies_true, and_self]
    exact hQ σ (ZF.refl _ _ _) hK
def q_both (A : AD) (x y : Int32) : Int32 × AD := match ix x (tS (aT A)) with
  | none => (-1, A)
  | some k => match ix y (tS (aT A)) with
    | none => (-1, A)
    | some j => (i2 (mtS (aT A) (sF (aT A) k) (sF (aT A) j) (tL (aT A) k) (tL (aT A) j) (tL (aT A) k + tL (aT A) j + 25)), A)
def w_X11_both : WPt := fun args σ Q => match args with
  | [.ref x, .int d, .int y] => x = 1 ∧ PubI σ (q_both · d y) Q
  | _ => False
set_option maxHeartbeats 1000000 in
theorem m_X11_both : Meets yX11_both cX11_both 3 (some .int) 6 w_X11_both := by
  refine Meets.mk (by decide) fun args σ Φ h => ?_
  unfold w_X11_both at h
  split at h
  rotate_left
  · exact h.elim
  rename_i x d y
  obtain ⟨x, rfl⟩ : ∃ q : Nat, q = x := ⟨x, rfl⟩
  obtain ⟨hx, A, hK, hA, hQ⟩ := h
  subst hx
  refine ⟨Nat.le_of_ble_eq_true rfl, fun C hC hR => ?_⟩
  have hf := cls_f hK
  have hN := hA.1
  have hD1 := hA.t.1
  have hD := hA.t.2.1
  have hS := hA.t.2.2.1
  have hW := hA.2.2.1.2.1
  have hE := hA.2.2.1.2.2.1
  have hT := hK.tT
  refine r_X11_both_0 hC hR m_X8_isSong (by decide) m_X9_takeSong (by decide) m_X2_fewestDoors (by decide) _ _ _ ?_
  simp only [T_X11_both_0, x_psh, x_ild, x_lld, x_ald, x_ist, x_ast, x_lst, x_inc, x_iadd, x_isub, x_imul, x_iand, x_ior, x_ixor, x_ishl, x_ishr, x_iushr, x_idiv, x_irem, x_ladd, x_land, x_lor, x_lshl, x_lshr, x_ineg, x_i2l, x_l2i, x_i2b, x_lcmp, x_dup, x_dup2, x_if_eq, x_if_ne, x_if_lt, x_if_ge, x_if_gt, x_if_le, x_ic_eq, x_ic_ne, x_ic_lt, x_ic_ge, x_ic_gt, x_ic_le, x_getI, x_getR, x_putI, x_putZ, x_putR, x_iald, x_bald, x_lald, x_iast, x_bast, x_last, x_alen, x_acp, x_mmax, x_mmin, x_callV, x_callS, x_iret, x_zret, x_lret, x_aret, x_vret, x_tsw, x_stop, zst1, zst2, zkill, zkl, zsplit, zmask, zent, zentL, List.getElem?_cons_zero, List.getElem?_cons_succ, List.set_cons_zero, List.set_cons_succ, List.set_nil, List.length_cons, List.length_nil, List.replicate, List.nil_append, List.cons_append, List.map_cons, List.map_nil, List.sum_cons, List.sum_nil, Value.category, Option.toList, List.contains_cons, List.contains_nil, true_or, or_true, true_and, Nat.zero_le, Nat.reduceAdd, Nat.reduceLeDiff, Nat.reduceLT, Nat.reduceBEq, Bool.true_or, Bool.or_true, Bool.false_or, Bool.or_false, ↓reduceIte, Bool.false_eq_true, Nat.add_zero, Nat.zero_add, Nat.reduceEqDiff, Nat.reduceSub, hf, w_X8_isSong, w_X9_takeSong]
  unfold q_both at hQ
  rcases ix_cs d (show tS (aT A) < 2 ^ 31 by omega) with ⟨k, hk, rfl, h1, h2⟩ | ⟨h1, h2⟩
  · simp only [h1] at hQ
    simp only [h2, b2i_0, ne_eq, Nat.reduceEqDiff, not_false_eq_true, not_true_eq_false, true_and, and_true, true_implies, false_implies, implies_true, and_self]
    rcases ix_cs y (show tS (aT A) < 2 ^ 31 by omega) with ⟨j, hj, rfl, h3, h4⟩ | ⟨h3, h4⟩
    · simp only [h3] at hQ
      simp only [h4, b2i_0, ne_eq, Nat.reduceEqDiff, not_false_eq_true, not_true_eq_false, true_and, and_true, true_implies, false_implies, implies_true, and_self]
      have hL := hA.l hk
      have hL2 := hA.l hj
      refine ⟨aT A, k, hK.tU.1, hT, rfl, hk, by unfold apTU; decide, fun σ1 f1 t1 => ?_⟩
      have hK1 := hK.q f1 (by omega)
      have g1 := cls_f hK1
      simp only [g1, x_psh, x_ild, x_lld, x_ald, x_ist, x_ast, x_lst, x_inc, x_iadd, x_isub, x_imul, x_iand, x_ior, x_ixor, x_ishl, x_ishr, x_iushr, x_idiv, x_irem, x_ladd, x_land, x_lor, x_lshl, x_lshr, x_ineg, x_i2l, x_l2i, x_i2b, x_lcmp, x_dup, x_dup2, x_if_eq, x_if_ne, x_if_lt, x_if_ge, x_if_gt, x_if_le, x_ic_eq, x_ic_ne, x_ic_lt, x_ic_ge, x_ic_gt, x_ic_le, x_getI, x_getR, x_putI, x_putZ, x_putR, x_iald, x_bald, x_lald, x_iast, x_bast, x_last, x_alen, x_acp, x_mmax, x_mmin, x_callV, x_callS, x_iret, x_zret, x_lret, x_aret, x_vret, x_tsw, x_stop, zst1, zst2, zkill, zkl, zsplit, zmask, zent, zentL, List.getElem?_cons_zero, List.getElem?_cons_succ, List.set_cons_zero, List.set_cons_succ, List.set_nil, List.length_cons, List.length_nil, List.replicate, List.nil_append, List.cons_append, List.map_cons, List.map_nil, List.sum_cons, List.sum_nil, Value.category, Option.toList, List.contains_cons, List.contains_nil, true_or, or_true, true_and, Nat.zero_le, Nat.reduceAdd, Nat.reduceLeDiff, Nat.reduceLT, Nat.reduceBEq, Bool.true_or, Bool.or_true, Bool.false_or, Bool.or_false, ↓reduceIte, Bool.false_eq_true, Nat.add_zero, Nat.zero_add, Nat.reduceEqDiff, Nat.reduceSub, b2i_0, ne_eq, Nat.reduceEqDiff, not_false_eq_true, not_true_eq_false, true_and, and_true, true_implies, false_implies, implies_true, and_self]
      refine ⟨aT A, j, hK1.tU.2, hK1.tT, rfl, hj, by unfold apTU; decide, fun σ2 f2 t2 => ?_⟩
      have hK2 := hK1.q f2 (by omega)
      have g2 := cls_f hK2
      simp only [g2, w_X2_fewestDoors, x_psh, x_ild, x_lld, x_ald, x_ist, x_ast, x_lst, x_inc, x_iadd, x_isub, x_imul, x_iand, x_ior, x_ixor, x_ishl, x_ishr, x_iushr, x_idiv, x_irem, x_ladd, x_land, x_lor, x_lshl, x_lshr, x_ineg, x_i2l, x_l2i, x_i2b, x_lcmp, x_dup, x_dup2, x_if_eq, x_if_ne, x_if_lt, x_if_ge, x_if_gt, x_if_le, x_ic_eq, x_ic_ne, x_ic_lt, x_ic_ge, x_ic_gt, x_ic_le, x_getI, x_getR, x_putI, x_putZ, x_putR, x_iald, x_bald, x_lald, x_iast, x_bast, x_last, x_alen, x_acp, x_mmax, x_mmin, x_callV, x_callS, x_iret, x_zret, x_lret, x_aret, x_vret, x_tsw, x_stop, zst1, zst2, zkill, zkl, zsplit, zmask, zent, zentL, List.getElem?_cons_zero, List.getElem?_cons_succ, List.set_cons_zero, List.set_cons_succ, List.set_nil, List.length_cons, List.length_nil, List.replicate, List.nil_append, List.cons_append, List.map_cons, List.map_nil, List.sum_cons, List.sum_nil, Value.category, Option.toList, List.contains_cons, List.contains_nil, true_or, or_true, true_and, Nat.zero_le, Nat.reduceAdd, Nat.reduceLeDiff, Nat.reduceLT, Nat.reduceBEq, Bool.true_or, Bool.or_true, Bool.false_or, Bool.or_false, ↓reduceIte, Bool.false_eq_true, Nat.add_zero, Nat.zero_add, Nat.reduceEqDiff, Nat.reduceSub, b2i_0, ne_eq, Nat.reduceEqDiff, not_false_eq_true, not_true_eq_false, true_and, and_true, true_implies, false_implies, implies_true, and_self]
      exact ⟨aT A, tL (aT A) k, tL (aT A) j, sF (aT A) k, sF (aT A) j, _, _, hK2.tT, hK2.tU.1, t1.fr f2 (by omega), hK2.tU.2, t2, hL.1, hL2.1, hQ σ2 ((Fr.z f1 (by omega) (by omega)).trans (Fr.z f2 (by omega) (by omega))) hK2⟩
    · simp only [h3] at hQ
      simp only [h4, b2i_0, ne_eq, Nat.reduceEqDiff, not_false_eq_true, not_true_eq_false, true_and, and_true, true_implies, false_implies, implies_true, and_self]
      exact hQ σ (ZF.refl _ _ _) hK
  · simp only [h1] at hQ
    simp only [h2, b2i_0, ne_eq, Nat.reduceEqDiff, not_false_eq_true, not_true_eq_false, true_and, and_true, true_implies, false_implies, implies_true, and_self]
    exact hQ σ (ZF.refl _ _ _) hK
def q_mayBe (A : AD) (x : Int32) : Int32 × AD := match ix x (xE (aX A)) with
  | none => (-2, A)
  | some i => (nI (rchS (aT A) (eF (aT A) (xG (aX A))) i &&& opnS (aT A) (eF (aT A) (xG (aX A))) (xE (aX A)) (xE (aX A) - 1 - i)), A)
def w_X11_mayBe : WPt := fun args σ Q => match args with
  | [.ref x, .int d] => x = 1 ∧ PubI σ (q_mayBe · d) Q
  | _ => False
set_option maxHeartbeats 1000000 in
theorem m_X11_mayBe : Meets yX11_mayBe cX11_mayBe 2 (some .int) 6 w_X11_mayBe := by
  refine Meets.mk (by decide) fun args σ Φ h => ?_
  unfold w_X11_mayBe at h
  split at h
  rotate_left
  · exact h.elim
  rename_i x d
  obtain ⟨x, rfl⟩ : ∃ q : Nat, q = x := ⟨x, rfl⟩
  obtain ⟨hx, A, hK, hA, hQ⟩ := h
  subst hx
  refine ⟨Nat.le_of_ble_eq_true rfl, fun C hC hR => ?_⟩
  have hf := cls_f hK
  have hN := hA.1
  have hD1 := hA.t.1
  have hD := hA.t.2.1
  have hS := hA.t.2.2.1
  have hW := hA.2.2.1.2.1
  have hE := hA.2.2.1.2.2.1
  have hT := hK.tT
  refine r_X11_mayBe_0 hC hR m_X9_takeHeard (by decide) m_X9_reachedAt (by decide) m_X9_openAt (by decide) _ _ _ ?_
  simp only [T_X11_mayBe_0, x_psh, x_ild, x_lld, x_ald, x_ist, x_ast, x_lst, x_inc, x_iadd, x_isub, x_imul, x_iand, x_ior, x_ixor, x_ishl, x_ishr, x_iushr, x_idiv, x_irem, x_ladd, x_land, x_lor, x_lshl, x_lshr, x_ineg, x_i2l, x_l2i, x_i2b, x_lcmp, x_dup, x_dup2, x_if_eq, x_if_ne, x_if_lt, x_if_ge, x_if_gt, x_if_le, x_ic_eq, x_ic_ne, x_ic_lt, x_ic_ge, x_ic_gt, x_ic_le, x_getI, x_getR, x_putI, x_putZ, x_putR, x_iald, x_bald, x_lald, x_iast, x_bast, x_last, x_alen, x_acp, x_mmax, x_mmin, x_callV, x_callS, x_iret, x_zret, x_lret, x_aret, x_vret, x_tsw, x_stop, zst1, zst2, zkill, zkl, zsplit, zmask, zent, zentL, List.getElem?_cons_zero, List.getElem?_cons_succ, List.set_cons_zero, List.set_cons_succ, List.set_nil, List.length_cons, List.length_nil, List.replicate, List.nil_append, List.cons_append, List.map_cons, List.map_nil, List.sum_cons, List.sum_nil, Value.category, Option.toList, List.contains_cons, List.contains_nil, true_or, or_true, true_and, Nat.zero_le, Nat.reduceAdd, Nat.reduceLeDiff, Nat.reduceLT, Nat.reduceBEq, Bool.true_or, Bool.or_true, Bool.false_or, Bool.or_false, ↓reduceIte, Bool.false_eq_true, Nat.add_zero, Nat.zero_add, Nat.reduceEqDiff, Nat.reduceSub, hf, w_X9_takeHeard]
  unfold q_mayBe at hQ
  simp only [b2i_0, ne_eq, Nat.reduceEqDiff, not_false_eq_true, not_true_eq_false, true_and, and_true, true_implies, false_implies, implies_true, and_self]
  rcases ix_lt d (xE (aX A)) (by omega) with ⟨i, hi, rfl, h3⟩ | ⟨h4, h3⟩ | ⟨h4, h5, h3⟩
  · simp only [h3] at hQ
    refine ⟨fun q => absurd q (nI_pos (by omega)), fun _ => ⟨fun _ => ⟨aT A, xE (aX A), xG (aX A), hK.tU.1, hT, hK.tE.1, hK.tE.2, by unfold apTU; decide, by unfold apTU; decide, fun σ1 f1 t1 => ?_⟩, fun q => absurd (nI_lt hi (by omega)) q⟩⟩
    have hK1 := hK.q f1 (by omega)
    have g1 := cls_f hK1
    simp only [g1, w_X9_reachedAt, w_X9_openAt, x_psh, x_ild, x_lld, x_ald, x_ist, x_ast, x_lst, x_inc, x_iadd, x_isub, x_imul, x_iand, x_ior, x_ixor, x_ishl, x_ishr, x_iushr, x_idiv, x_irem, x_ladd, x_land, x_lor, x_lshl, x_lshr, x_ineg, x_i2l, x_l2i, x_i2b, x_lcmp, x_dup, x_dup2, x_if_eq, x_if_ne, x_if_lt, x_if_ge, x_if_gt, x_if_le, x_ic_eq, x_ic_ne, x_ic_lt, x_ic_ge, x_ic_gt, x_ic_le, x_getI, x_getR, x_putI, x_putZ, x_putR, x_iald, x_bald, x_lald, x_iast, x_bast, x_last, x_alen, x_acp, x_mmax, x_mmin, x_callV, x_callS, x_iret, x_zret, x_lret, x_aret, x_vret, x_tsw, x_stop, zst1, zst2, zkill, zkl, zsplit, zmask, zent, zentL, List.getElem?_cons_zero, List.getElem?_cons_succ, List.set_cons_zero, List.set_cons_succ, List.set_nil, List.length_cons, List.length_nil, List.replicate, List.nil_append, List.cons_append, List.map_cons, List.map_nil, List.sum_cons, List.sum_nil, Value.category, Option.toList, List.contains_cons, List.contains_nil, true_or, or_true, true_and, Nat.zero_le, Nat.reduceAdd, Nat.reduceLeDiff, Nat.reduceLT, Nat.reduceBEq, Bool.true_or, Bool.or_true, Bool.false_or, Bool.or_false, ↓reduceIte, Bool.false_eq_true, Nat.add_zero, Nat.zero_add, Nat.reduceEqDiff, Nat.reduceSub, b2i_0, ne_eq, Nat.reduceEqDiff, not_false_eq_true, not_true_eq_false, true_and, and_true, true_implies, false_implies, implies_true, and_self]
    refine ⟨xE (aX A), eF (aT A) (xG (aX A)), _, aT A, i, hK1.tU.1, t1, hK1.tT, rfl, hi, xE (aX A), eF (aT A) (xG (aX A)), _, aT A, i, hK1.tU.1, t1, hK1.tT, rfl, hi, ?_⟩
    rw [z_and]
    exact hQ σ1 (Fr.z f1 (by omega) (by omega)) hK1
  · simp only [h3] at hQ
    exact ⟨fun _ => hQ σ (ZF.refl _ _ _) hK, fun q => absurd h4 q⟩
  · simp only [h3] at hQ
    exact ⟨fun q => absurd q h4, fun _ => ⟨fun q => absurd q h5, fun _ => hQ σ (ZF.refl _ _ _) hK⟩⟩
def q_fitting (A : AD) : Int64 × AD := (lN (cwR (aT A) (eF (aT A) (xG (aX A))) (2 ^ tD (aT A) - 1) (2 ^ tD (aT A) - 1) (xE (aX A))), A)
def w_X11_fitting : WPt := fun args σ Q => match args with
  | [.ref x] => x = 1 ∧ PubL σ q_fitting Q
  | _ => False
set_option maxHeartbeats 1000000 in
theorem m_X11_fitting : Meets yX11_fitting cX11_fitting 2 (some .long) 6 w_X11_fitting := by
  refine Meets.mk (by decide) fun args σ Φ h => ?_
  unfold w_X11_fitting at h
  split at h
  rotate_left
  · exact h.elim
  rename_i x
  obtain ⟨x, rfl⟩ : ∃ q : Nat, q = x := ⟨x, rfl⟩
  obtain ⟨hx, A, hK, hA, hQ⟩ := h
  subst hx
  refine ⟨Nat.le_of_ble_eq_true rfl, fun C hC hR => ?_⟩
  have hf := cls_f hK
  have hN := hA.1
  have hD1 := hA.t.1
  have hD := hA.t.2.1
  have hS := hA.t.2.2.1
  have hW := hA.2.2.1.2.1
  have hE := hA.2.2.1.2.2.1
  have hT := hK.tT
  refine r_X11_fitting_0 hC hR m_X9_takeHeard (by decide) m_X8_allDoors (by decide) m_X9_countWays (by decide) _ _ _ ?_
  simp only [T_X11_fitting_0, x_psh, x_ild, x_lld, x_ald, x_ist, x_ast, x_lst, x_inc, x_iadd, x_isub, x_imul, x_iand, x_ior, x_ixor, x_ishl, x_ishr, x_iushr, x_idiv, x_irem, x_ladd, x_land, x_lor, x_lshl, x_lshr, x_ineg, x_i2l, x_l2i, x_i2b, x_lcmp, x_dup, x_dup2, x_if_eq, x_if_ne, x_if_lt, x_if_ge, x_if_gt, x_if_le, x_ic_eq, x_ic_ne, x_ic_lt, x_ic_ge, x_ic_gt, x_ic_le, x_getI, x_getR, x_putI, x_putZ, x_putR, x_iald, x_bald, x_lald, x_iast, x_bast, x_last, x_alen, x_acp, x_mmax, x_mmin, x_callV, x_callS, x_iret, x_zret, x_lret, x_aret, x_vret, x_tsw, x_stop, zst1, zst2, zkill, zkl, zsplit, zmask, zent, zentL, List.getElem?_cons_zero, List.getElem?_cons_succ, List.set_cons_zero, List.set_cons_succ, List.set_nil, List.length_cons, List.length_nil, List.replicate, List.nil_append, List.cons_append, List.map_cons, List.map_nil, List.sum_cons, List.sum_nil, Value.category, Option.toList, List.contains_cons, List.contains_nil, true_or, or_true, true_and, Nat.zero_le, Nat.reduceAdd, Nat.reduceLeDiff, Nat.reduceLT, Nat.reduceBEq, Bool.true_or, Bool.or_true, Bool.false_or, Bool.or_false, ↓reduceIte, Bool.false_eq_true, Nat.add_zero, Nat.zero_add, Nat.reduceEqDiff, Nat.reduceSub, hf, w_X9_takeHeard]
  simp only [b2i_0, ne_eq, Nat.reduceEqDiff, not_false_eq_true, not_true_eq_false, true_and, and_true, true_implies, false_implies, implies_true, and_self]
  have hp := hT.d31
  refine ⟨aT A, xE (aX A), xG (aX A), hK.tU.1, hT, hK.tE.1, hK.tE.2, by unfold apTU; decide, by unfold apTU; decide, fun σ1 f1 t1 => ?_⟩
  have hK1 := hK.q f1 (by omega)
  have g1 := cls_f hK1
  simp only [g1, w_X8_allDoors, w_X9_countWays, x_psh, x_ild, x_lld, x_ald, x_ist, x_ast, x_lst, x_inc, x_iadd, x_isub, x_imul, x_iand, x_ior, x_ixor, x_ishl, x_ishr, x_iushr, x_idiv, x_irem, x_ladd, x_land, x_lor, x_lshl, x_lshr, x_ineg, x_i2l, x_l2i, x_i2b, x_lcmp, x_dup, x_dup2, x_if_eq, x_if_ne, x_if_lt, x_if_ge, x_if_gt, x_if_le, x_ic_eq, x_ic_ne, x_ic_lt, x_ic_ge, x_ic_gt, x_ic_le, x_getI, x_getR, x_putI, x_putZ, x_putR, x_iald, x_bald, x_lald, x_iast, x_bast, x_last, x_alen, x_acp, x_mmax, x_mmin, x_callV, x_callS, x_iret, x_zret, x_lret, x_aret, x_vret, x_tsw, x_stop, zst1, zst2, zkill, zkl, zsplit, zmask, zent, zentL, List.getElem?_cons_zero, List.getElem?_cons_succ, List.set_cons_zero, List.set_cons_succ, List.set_nil, List.length_cons, List.length_nil, List.replicate, List.nil_append, List.cons_append, List.map_cons, List.map_nil, List.sum_cons, List.sum_nil, Value.category, Option.toList, List.contains_cons, List.contains_nil, true_or, or_true, true_and, Nat.zero_le, Nat.reduceAdd, Nat.reduceLeDiff, Nat.reduceLT, Nat.reduceBEq, Bool.true_or, Bool.or_true, Bool.false_or, Bool.or_false, ↓reduceIte, Bool.false_eq_true, Nat.add_zero, Nat.zero_add, Nat.reduceEqDiff, Nat.reduceSub, b2i_0, ne_eq, Nat.reduceEqDiff, not_false_eq_true, not_true_eq_false, true_and, and_true, true_implies, false_implies, implies_true, and_self]
  refine ⟨tD (aT A), rfl, hD, aT A, xE (aX A), eF (aT A) (xG (aX A)), _, 2 ^ tD (aT A) - 1, 2 ^ tD (aT A) - 1, hK1.tU.1, t1, hK1.tT, by unfold apTU; decide, rfl, rfl, by omega, by omega, fun σ2 f2 => ?_⟩
  exact hQ σ2 ((Fr.z f1 (by omega) (by omega)).trans (Fr.z f2 (by omega) (by omega))) (hK1.q f2 (by omega))
def q_parted (A : AD) (z : Int32) : Int32 × AD := (if z = 0 then nI (ptC (aT A) (eF (aT A) (xG (aX A))) (xE (aX A)) (2 ^ tD (aT A) - 1) (2 ^ tD (aT A) - 1)) else i2 (ptL (aT A) (eF (aT A) (xG (aX A))) (xE (aX A)) (2 ^ tD (aT A) - 1) (2 ^ tD (aT A) - 1)), A)
def w_X11_parted : WPt := fun args σ Q => match args with
  | [.ref x, .int z] => x = 1 ∧ PubI σ (q_parted · z) Q
  | _ => False
set_option maxHeartbeats 1000000 in
theorem m_X11_parted : Meets yX11_parted cX11_parted 4 (some .int) 21 w_X11_parted := by
  refine Meets.mk (by decide) fun args σ Φ h => ?_
  unfold w_X11_parted at h
  split at h
  rotate_left
  · exact h.elim
  rename_i x z
  obtain ⟨x, rfl⟩ : ∃ q : Nat, q = x := ⟨x, rfl⟩
  obtain ⟨hx, A, hK, hA, hQ⟩ := h
  subst hx
  refine ⟨Nat.le_of_ble_eq_true rfl, fun C hC hR => ?_⟩
  have hf := cls_f hK
  have hN := hA.1
  have hD1 := hA.t.1
  have hD := hA.t.2.1
  have hS := hA.t.2.2.1
  have hW := hA.2.2.1.2.1
  have hE := hA.2.2.1.2.2.1
  have hT := hK.tT
  refine r_X11_parted_0 hC hR m_X9_takeHeard (by decide) m_X8_allDoors (by decide) m_X3_leastBits (by decide) m_X3_countBits (by decide) _ _ _ ?_
  simp only [T_X11_parted_0, x_psh, x_ild, x_lld, x_ald, x_ist, x_ast, x_lst, x_inc, x_iadd, x_isub, x_imul, x_iand, x_ior, x_ixor, x_ishl, x_ishr, x_iushr, x_idiv, x_irem, x_ladd, x_land, x_lor, x_lshl, x_lshr, x_ineg, x_i2l, x_l2i, x_i2b, x_lcmp, x_dup, x_dup2, x_if_eq, x_if_ne, x_if_lt, x_if_ge, x_if_gt, x_if_le, x_ic_eq, x_ic_ne, x_ic_lt, x_ic_ge, x_ic_gt, x_ic_le, x_getI, x_getR, x_putI, x_putZ, x_putR, x_iald, x_bald, x_lald, x_iast, x_bast, x_last, x_alen, x_acp, x_mmax, x_mmin, x_callV, x_callS, x_iret, x_zret, x_lret, x_aret, x_vret, x_tsw, x_stop, zst1, zst2, zkill, zkl, zsplit, zmask, zent, zentL, List.getElem?_cons_zero, List.getElem?_cons_succ, List.set_cons_zero, List.set_cons_succ, List.set_nil, List.length_cons, List.length_nil, List.replicate, List.nil_append, List.cons_append, List.map_cons, List.map_nil, List.sum_cons, List.sum_nil, Value.category, Option.toList, List.contains_cons, List.contains_nil, true_or, or_true, true_and, Nat.zero_le, Nat.reduceAdd, Nat.reduceLeDiff, Nat.reduceLT, Nat.reduceBEq, Bool.true_or, Bool.or_true, Bool.false_or, Bool.or_false, ↓reduceIte, Bool.false_eq_true, Nat.add_zero, Nat.zero_add, Nat.reduceEqDiff, Nat.reduceSub, hf, w_X9_takeHeard]
  simp only [b2i_0, ne_eq, Nat.reduceEqDiff, not_false_eq_true, not_true_eq_false, true_and, and_true, true_implies, false_implies, implies_true, and_self]
  have hp := hT.d31
  unfold q_parted at hQ
  refine ⟨aT A, xE (aX A), xG (aX A), hK.tU.1, hT, hK.tE.1, hK.tE.2, by unfold apTU; decide, by unfold apTU; decide, fun σ1 f1 t1 => ?_⟩
  have hK1 := hK.q f1 (by omega)
  have g1 := cls_f hK1
  have u1 := t1.1
  simp only [g1, w_X8_allDoors, w_X3_leastBits, w_X3_countBits, plW, ptW, x_psh, x_ild, x_lld, x_ald, x_ist, x_ast, x_lst, x_inc, x_iadd, x_isub, x_imul, x_iand, x_ior, x_ixor, x_ishl, x_ishr, x_iushr, x_idiv, x_irem, x_ladd, x_land, x_lor, x_lshl, x_lshr, x_ineg, x_i2l, x_l2i, x_i2b, x_lcmp, x_dup, x_dup2, x_if_eq, x_if_ne, x_if_lt, x_if_ge, x_if_gt, x_if_le, x_ic_eq, x_ic_ne, x_ic_lt, x_ic_ge, x_ic_gt, x_ic_le, x_getI, x_getR, x_putI, x_putZ, x_putR, x_iald, x_bald, x_lald, x_iast, x_bast, x_last, x_alen, x_acp, x_mmax, x_mmin, x_callV, x_callS, x_iret, x_zret, x_lret, x_aret, x_vret, x_tsw, x_stop, zst1, zst2, zkill, zkl, zsplit, zmask, zent, zentL, List.getElem?_cons_zero, List.getElem?_cons_succ, List.set_cons_zero, List.set_cons_succ, List.set_nil, List.length_cons, List.length_nil, List.replicate, List.nil_append, List.cons_append, List.map_cons, List.map_nil, List.sum_cons, List.sum_nil, Value.category, Option.toList, List.contains_cons, List.contains_nil, true_or, or_true, true_and, Nat.zero_le, Nat.reduceAdd, Nat.reduceLeDiff, Nat.reduceLT, Nat.reduceBEq, Bool.true_or, Bool.or_true, Bool.false_or, Bool.or_false, ↓reduceIte, Bool.false_eq_true, Nat.add_zero, Nat.zero_add, Nat.reduceEqDiff, Nat.reduceSub, b2i_0, ne_eq, Nat.reduceEqDiff, not_false_eq_true, not_true_eq_false, true_and, and_true, true_implies, false_implies, implies_true, and_self, u1]
  have e1 : nI (xE (aX A)) - 1 = iI ((xE (aX A) : Int) - 1) := by rw [iI_n, show (1 : Int32) = iI 1 from rfl, iI_sub]
  refine ⟨tD (aT A), rfl, hD, fun q => ?_, fun q => ?_⟩
  · simp only [if_pos q] at hQ
    exact ⟨aT A, xE (aX A), eF (aT A) (xG (aX A)), _, xE (aX A), _, _, hK1.tT, hK1.tU.1, t1, e1, Nat.le_refl _, by omega, rfl, rfl, hQ σ1 (Fr.z f1 (by omega) (by omega)) hK1⟩
  · simp only [if_neg q] at hQ
    exact ⟨aT A, xE (aX A), eF (aT A) (xG (aX A)), _, xE (aX A), _, _, hK1.tT, hK1.tU.1, t1, e1, Nat.le_refl _, by omega, rfl, rfl, hQ σ1 (Fr.z f1 (by omega) (by omega)) hK1⟩
