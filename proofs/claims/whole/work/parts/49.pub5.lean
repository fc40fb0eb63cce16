def q_ways (A : AD) (x y z : Int32) : Int64 × AD := match ix x (tS (aT A)) with
  | none => (-1, A)
  | some k => match dmS y (tD (aT A)) with
    | none => (-1, A)
    | some fr => match dmS z (tD (aT A)) with
      | none => (-1, A)
      | some to => (lN (cwR (aT A) (sF (aT A) k) fr to (tL (aT A) k)), A)
theorem dmS_lt {x : Int32} {D s : Nat} (hD : D ≤ 12) (h : dmS x D = some s) : s < 2 ^ D ∨ D = 0 := by
  unfold dmS at h
  split at h
  · have := Option.some.inj h
    have := Nat.two_pow_pos D
    omega
  · rcases ix_cases x (n := D) (by omega) with ⟨k, h1, h2, h3⟩ | ⟨h1, h2⟩
    · rw [h3] at h
      have := Option.some.inj h
      subst this
      exact Or.inl (Nat.pow_lt_pow_right (by decide) h1)
    · rw [h2] at h
      cases h
def w_X11_ways : WPt := fun args σ Q => match args with
  | [.ref x, .int d, .int y, .int z] => x = 1 ∧ PubL σ (q_ways · d y z) Q
  | _ => False
set_option maxHeartbeats 1000000 in
theorem m_X11_ways : Meets yX11_ways cX11_ways 4 (some .long) 6 w_X11_ways := by
  refine Meets.mk (by decide) fun args σ Φ h => ?_
  unfold w_X11_ways at h
  split at h
  rotate_left
  · exact h.elim
  rename_i x d y z
  obtain ⟨x, rfl⟩ : ∃ q : Nat, q = x := ⟨x, rfl⟩
  obtain ⟨hx, A, hK, hA, hQ⟩ := h
  subst hx
  refine ⟨Nat.le_of_ble_eq_true rfl, fun C hC hR => ?_⟩
  have hf := cls_f hK
  have hN := hA.1
  have hD1 := hA.t.1
  have hD := hA.t.2.1
  have hS := hA.t.2.2.1
  have hW := hA.2.2.1.2.1
  have hE := hA.2.2.1.2.2.1
  have hT := hK.tT
  refine r_X11_ways_0 hC hR m_X8_isSong (by decide) m_X11_isDoorOrNone (by decide) m_X9_takeSong (by decide) m_X11_doorsMeant (by decide) m_X9_countWays (by decide) _ _ _ ?_
  simp only [T_X11_ways_0, x_psh, x_ild, x_lld, x_ald, x_ist, x_ast, x_lst, x_inc, x_iadd, x_isub, x_imul, x_iand, x_ior, x_ixor, x_ishl, x_ishr, x_iushr, x_idiv, x_irem, x_ladd, x_land, x_lor, x_lshl, x_lshr, x_ineg, x_i2l, x_l2i, x_i2b, x_lcmp, x_dup, x_dup2, x_if_eq, x_if_ne, x_if_lt, x_if_ge, x_if_gt, x_if_le, x_ic_eq, x_ic_ne, x_ic_lt, x_ic_ge, x_ic_gt, x_ic_le, x_getI, x_getR, x_putI, x_putZ, x_putR, x_iald, x_bald, x_lald, x_iast, x_bast, x_last, x_alen, x_acp, x_mmax, x_mmin, x_callV, x_callS, x_iret, x_zret, x_lret, x_aret, x_vret, x_tsw, x_stop, zst1, zst2, zkill, zkl, zsplit, zmask, zent, zentL, List.getElem?_cons_zero, List.getElem?_cons_succ, List.set_cons_zero, List.set_cons_succ, List.set_nil, List.length_cons, List.length_nil, List.replicate, List.nil_append, List.cons_append, List.map_cons, List.map_nil, List.sum_cons, List.sum_nil, Value.category, Option.toList, List.contains_cons, List.contains_nil, true_or, or_true, true_and, Nat.zero_le, Nat.reduceAdd, Nat.reduceLeDiff, Nat.reduceLT, Nat.reduceBEq, Bool.true_or, Bool.or_true, Bool.false_or, Bool.or_false, ↓reduceIte, Bool.false_eq_true, Nat.add_zero, Nat.zero_add, Nat.reduceEqDiff, Nat.reduceSub, hf, w_X8_isSong, w_X11_isDoorOrNone, w_X9_takeSong]
  unfold q_ways at hQ
  have hp := hT.d31
  rcases ix_cs d (show tS (aT A) < 2 ^ 31 by omega) with ⟨k, hk, rfl, h1, h2⟩ | ⟨h1, h2⟩
  · simp only [h1] at hQ
    simp only [h2, b2i_0, ne_eq, Nat.reduceEqDiff, not_false_eq_true, not_true_eq_false, true_and, and_true, true_implies, false_implies, implies_true, and_self]
    refine ⟨A, hK, ?_⟩
    cases h3 : dmS y (tD (aT A)) with
    | none =>
      simp only [h3] at hQ
      simp only [Option.isSome, b2i_0, ne_eq, Nat.reduceEqDiff, not_false_eq_true, not_true_eq_false, true_and, and_true, true_implies, false_implies, implies_true, and_self]
      exact ⟨fun _ => hQ σ (ZF.refl _ _ _) hK, fun q => absurd (by simp) q⟩
    | some fr =>
      simp only [h3] at hQ
      simp only [Option.isSome, b2i_0, ne_eq, Nat.reduceEqDiff, not_false_eq_true, not_true_eq_false, true_and, and_true, true_implies, false_implies, implies_true, and_self]
      refine ⟨A, hK, ?_⟩
      cases h4 : dmS z (tD (aT A)) with
      | none =>
        simp only [h4] at hQ
        simp only [Option.isSome, b2i_0, ne_eq, Nat.reduceEqDiff, not_false_eq_true, not_true_eq_false, true_and, and_true, true_implies, false_implies, implies_true, and_self]
        exact ⟨fun q => absurd q (by simp), fun _ => hQ σ (ZF.refl _ _ _) hK⟩
      | some to =>
        simp only [h4] at hQ
        simp only [Option.isSome, b2i_0, ne_eq, Nat.reduceEqDiff, not_false_eq_true, not_true_eq_false, true_and, and_true, true_implies, false_implies, implies_true, and_self]
        refine ⟨aT A, k, hK.tU.1, hT, rfl, hk, by unfold apTU; decide, fun σ1 f1 t1 => ?_⟩
        have hK1 := hK.q f1 (by omega)
        have g1 := cls_f hK1
        simp only [g1, w_X11_doorsMeant, w_X9_countWays, x_psh, x_ild, x_lld, x_ald, x_ist, x_ast, x_lst, x_inc, x_iadd, x_isub, x_imul, x_iand, x_ior, x_ixor, x_ishl, x_ishr, x_iushr, x_idiv, x_irem, x_ladd, x_land, x_lor, x_lshl, x_lshr, x_ineg, x_i2l, x_l2i, x_i2b, x_lcmp, x_dup, x_dup2, x_if_eq, x_if_ne, x_if_lt, x_if_ge, x_if_gt, x_if_le, x_ic_eq, x_ic_ne, x_ic_lt, x_ic_ge, x_ic_gt, x_ic_le, x_getI, x_getR, x_putI, x_putZ, x_putR, x_iald, x_bald, x_lald, x_iast, x_bast, x_last, x_alen, x_acp, x_mmax, x_mmin, x_callV, x_callS, x_iret, x_zret, x_lret, x_aret, x_vret, x_tsw, x_stop, zst1, zst2, zkill, zkl, zsplit, zmask, zent, zentL, List.getElem?_cons_zero, List.getElem?_cons_succ, List.set_cons_zero, List.set_cons_succ, List.set_nil, List.length_cons, List.length_nil, List.replicate, List.nil_append, List.cons_append, List.map_cons, List.map_nil, List.sum_cons, List.sum_nil, Value.category, Option.toList, List.contains_cons, List.contains_nil, true_or, or_true, true_and, Nat.zero_le, Nat.reduceAdd, Nat.reduceLeDiff, Nat.reduceLT, Nat.reduceBEq, Bool.true_or, Bool.or_true, Bool.false_or, Bool.or_false, ↓reduceIte, Bool.false_eq_true, Nat.add_zero, Nat.zero_add, Nat.reduceEqDiff, Nat.reduceSub, b2i_0, ne_eq, Nat.reduceEqDiff, not_false_eq_true, not_true_eq_false, true_and, and_true, true_implies, false_implies, implies_true, and_self]
        refine ⟨A, fr, hK1, h3, A, to, hK1, h4, aT A, tL (aT A) k, sF (aT A) k, _, fr, to, hK1.tU.1, t1, hK1.tT, by unfold apTU; decide, rfl, rfl, ?_, ?_, fun σ2 f2 => ?_⟩
        · have := dmS_lt hD h3; omega
        · have := dmS_lt hD h4; omega
        · exact hQ σ2 ((Fr.z f1 (by omega) (by omega)).trans (Fr.z f2 (by omega) (by omega))) (hK1.q f2 (by omega))
  · simp only [h1] at hQ
    simp only [h2, b2i_0, ne_eq, Nat.reduceEqDiff, not_false_eq_true, not_true_eq_false, true_and, and_true, true_implies, false_implies, implies_true, and_self]
    exact hQ σ (ZF.refl _ _ _) hK
def q_first (A : AD) (x y : Int32) : Int32 × AD := match ix x (tS (aT A)) with
  | none => (-1, A)
  | some k => match ix y (tL (aT A) k) with
    | none => (-9, A)
    | some i => (i2 (fstW (aT A) (sF (aT A) k) (tL (aT A) k) i), A)
def w_X11_first : WPt := fun args σ Q => match args with
  | [.ref x, .int d, .int y] => x = 1 ∧ PubI σ (q_first · d y) Q
  | _ => False
theorem m_X11_first : Meets yX11_first cX11_first 3 (some .int) 6 w_X11_first := by
  refine Meets.mk (by decide) fun args σ Φ h => ?_
  unfold w_X11_first at h
  split at h
  rotate_left
  · exact h.elim
  rename_i x d y
  obtain ⟨x, rfl⟩ : ∃ q : Nat, q = x := ⟨x, rfl⟩
  obtain ⟨hx, A, hK, hA, hQ⟩ := h
  subst hx
  refine ⟨Nat.le_of_ble_eq_true rfl, fun C hC hR => ?_⟩
  have hf := cls_f hK
  have hN := hA.1
  have hD1 := hA.t.1
  have hD := hA.t.2.1
  have hS := hA.t.2.2.1
  have hW := hA.2.2.1.2.1
  have hE := hA.2.2.1.2.2.1
  have hT := hK.tT
  refine r_X11_first_0 hC hR m_X8_isSong (by decide) m_X9_takeSong (by decide) m_X9_doorOfFirst (by decide) _ _ _ ?_
  simp only [T_X11_first_0, x_psh, x_ild, x_lld, x_ald, x_ist, x_ast, x_lst, x_inc, x_iadd, x_isub, x_imul, x_iand, x_ior, x_ixor, x_ishl, x_ishr, x_iushr, x_idiv, x_irem, x_ladd, x_land, x_lor, x_lshl, x_lshr, x_ineg, x_i2l, x_l2i, x_i2b, x_lcmp, x_dup, x_dup2, x_if_eq, x_if_ne, x_if_lt, x_if_ge, x_if_gt, x_if_le, x_ic_eq, x_ic_ne, x_ic_lt, x_ic_ge, x_ic_gt, x_ic_le, x_getI, x_getR, x_putI, x_putZ, x_putR, x_iald, x_bald, x_lald, x_iast, x_bast, x_last, x_alen, x_acp, x_mmax, x_mmin, x_callV, x_callS, x_iret, x_zret, x_lret, x_aret, x_vret, x_tsw, x_stop, zst1, zst2, zkill, zkl, zsplit, zmask, zent, zentL, List.getElem?_cons_zero, List.getElem?_cons_succ, List.set_cons_zero, List.set_cons_succ, List.set_nil, List.length_cons, List.length_nil, List.replicate, List.nil_append, List.cons_append, List.map_cons, List.map_nil, List.sum_cons, List.sum_nil, Value.category, Option.toList, List.contains_cons, List.contains_nil, true_or, or_true, true_and, Nat.zero_le, Nat.reduceAdd, Nat.reduceLeDiff, Nat.reduceLT, Nat.reduceBEq, Bool.true_or, Bool.or_true, Bool.false_or, Bool.or_false, ↓reduceIte, Bool.false_eq_true, Nat.add_zero, Nat.zero_add, Nat.reduceEqDiff, Nat.reduceSub, hf, w_X8_isSong, w_X9_takeSong]
  unfold q_first at hQ
  rcases ix_cs d (show tS (aT A) < 2 ^ 31 by omega) with ⟨k, hk, rfl, h1, h2⟩ | ⟨h1, h2⟩
  · simp only [h1] at hQ
    simp only [h2, b2i_0, ne_eq, Nat.reduceEqDiff, not_false_eq_true, not_true_eq_false, true_and, and_true, true_implies, false_implies, implies_true, and_self]
    have hL := hA.l hk
    refine ⟨aT A, k, hK.tU.1, hT, rfl, hk, by unfold apTU; decide, fun σ1 f1 t1 => ?_⟩
    have hK1 := hK.q f1 (by omega)
    have g1 := cls_f hK1
    simp only [g1, w_X9_doorOfFirst, x_psh, x_ild, x_lld, x_ald, x_ist, x_ast, x_lst, x_inc, x_iadd, x_isub, x_imul, x_iand, x_ior, x_ixor, x_ishl, x_ishr, x_iushr, x_idiv, x_irem, x_ladd, x_land, x_lor, x_lshl, x_lshr, x_ineg, x_i2l, x_l2i, x_i2b, x_lcmp, x_dup, x_dup2, x_if_eq, x_if_ne, x_if_lt, x_if_ge, x_if_gt, x_if_le, x_ic_eq, x_ic_ne, x_ic_lt, x_ic_ge, x_ic_gt, x_ic_le, x_getI, x_getR, x_putI, x_putZ, x_putR, x_iald, x_bald, x_lald, x_iast, x_bast, x_last, x_alen, x_acp, x_mmax, x_mmin, x_callV, x_callS, x_iret, x_zret, x_lret, x_aret, x_vret, x_tsw, x_stop, zst1, zst2, zkill, zkl, zsplit, zmask, zent, zentL, List.getElem?_cons_zero, List.getElem?_cons_succ, List.set_cons_zero, List.set_cons_succ, List.set_nil, List.length_cons, List.length_nil, List.replicate, List.nil_append, List.cons_append, List.map_cons, List.map_nil, List.sum_cons, List.sum_nil, Value.category, Option.toList, List.contains_cons, List.contains_nil, true_or, or_true, true_and, Nat.zero_le, Nat.reduceAdd, Nat.reduceLeDiff, Nat.reduceLT, Nat.reduceBEq, Bool.true_or, Bool.or_true, Bool.false_or, Bool.or_false, ↓reduceIte, Bool.false_eq_true, Nat.add_zero, Nat.zero_add, Nat.reduceEqDiff, Nat.reduceSub, b2i_0, ne_eq, Nat.reduceEqDiff, not_false_eq_true, not_true_eq_false, true_and, and_true, true_implies, false_implies, implies_true, and_self]
    refine ⟨tL (aT A) k, sF (aT A) k, _, aT A, hK1.tU.1, t1, hK1.tT, hL.1, fun i _ => sndS_lt _ _, fun j hj e => ?_, fun q => ?_⟩
    · subst e
      simp only [ix_some hj (show tL (aT A) k < 2 ^ 31 by omega)] at hQ
      exact hQ σ1 (Fr.z f1 (by omega) (by omega)) hK1
    · simp only [ix_none q] at hQ
      exact hQ σ1 (Fr.z f1 (by omega) (by omega)) hK1
  · simp only [h1] at hQ
    simp only [h2, b2i_0, ne_eq, Nat.reduceEqDiff, not_false_eq_true, not_true_eq_false, true_and, and_true, true_implies, false_implies, implies_true, and_self]
    exact hQ σ (ZF.refl _ _ _) hK
def q_begun (A : AD) (x : Int32) : Int32 × AD := match ix x (tS (aT A)) with
  | none => (-1, A)
  | some k => (nI (fstB (fun p => decide (bgnS (aT A) (sF (aT A) k) p &&& sF (aT A) k p = 0)) (tL (aT A) k)), A)
def w_X11_begun : WPt := fun args σ Q => match args with
  | [.ref x, .int d] => x = 1 ∧ PubI σ (q_begun · d) Q
  | _ => False
theorem m_X11_begun : Meets yX11_begun cX11_begun 2 (some .int) 6 w_X11_begun := by
  refine Meets.mk (by decide) fun args σ Φ h => ?_
  unfold w_X11_begun at h
  split at h
  rotate_left
  · exact h.elim
  rename_i x d
  obtain ⟨x, rfl⟩ : ∃ q : Nat, q = x := ⟨x, rfl⟩
  obtain ⟨hx, A, hK, hA, hQ⟩ := h
  subst hx
  refine ⟨Nat.le_of_ble_eq_true rfl, fun C hC hR => ?_⟩
  have hf := cls_f hK
  have hN := hA.1
  have hD1 := hA.t.1
  have hD := hA.t.2.1
  have hS := hA.t.2.2.1
  have hW := hA.2.2.1.2.1
  have hE := hA.2.2.1.2.2.1
  have hT := hK.tT
  refine r_X11_begun_0 hC hR m_X8_isSong (by decide) m_X9_takeSong (by decide) m_X9_placesBegun (by decide) _ _ _ ?_
  simp only [T_X11_begun_0, x_psh, x_ild, x_lld, x_ald, x_ist, x_ast, x_lst, x_inc, x_iadd, x_isub, x_imul, x_iand, x_ior, x_ixor, x_ishl, x_ishr, x_iushr, x_idiv, x_irem, x_ladd, x_land, x_lor, x_lshl, x_lshr, x_ineg, x_i2l, x_l2i, x_i2b, x_lcmp, x_dup, x_dup2, x_if_eq, x_if_ne, x_if_lt, x_if_ge, x_if_gt, x_if_le, x_ic_eq, x_ic_ne, x_ic_lt, x_ic_ge, x_ic_gt, x_ic_le, x_getI, x_getR, x_putI, x_putZ, x_putR, x_iald, x_bald, x_lald, x_iast, x_bast, x_last, x_alen, x_acp, x_mmax, x_mmin, x_callV, x_callS, x_iret, x_zret, x_lret, x_aret, x_vret, x_tsw, x_stop, zst1, zst2, zkill, zkl, zsplit, zmask, zent, zentL, List.getElem?_cons_zero, List.getElem?_cons_succ, List.set_cons_zero, List.set_cons_succ, List.set_nil, List.length_cons, List.length_nil, List.replicate, List.nil_append, List.cons_append, List.map_cons, List.map_nil, List.sum_cons, List.sum_nil, Value.category, Option.toList, List.contains_cons, List.contains_nil, true_or, or_true, true_and, Nat.zero_le, Nat.reduceAdd, Nat.reduceLeDiff, Nat.reduceLT, Nat.reduceBEq, Bool.true_or, Bool.or_true, Bool.false_or, Bool.or_false, ↓reduceIte, Bool.false_eq_true, Nat.add_zero, Nat.zero_add, Nat.reduceEqDiff, Nat.reduceSub, hf, w_X8_isSong, w_X9_takeSong]
  unfold q_begun at hQ
  rcases ix_cs d (show tS (aT A) < 2 ^ 31 by omega) with ⟨k, hk, rfl, h1, h2⟩ | ⟨h1, h2⟩
  · simp only [h1] at hQ
    simp only [h2, b2i_0, ne_eq, Nat.reduceEqDiff, not_false_eq_true, not_true_eq_false, true_and, and_true, true_implies, false_implies, implies_true, and_self]
    refine ⟨aT A, k, hK.tU.1, hT, rfl, hk, by unfold apTU; decide, fun σ1 f1 t1 => ?_⟩
    have hK1 := hK.q f1 (by omega)
    have g1 := cls_f hK1
    simp only [g1, w_X9_placesBegun, x_psh, x_ild, x_lld, x_ald, x_ist, x_ast, x_lst, x_inc, x_iadd, x_isub, x_imul, x_iand, x_ior, x_ixor, x_ishl, x_ishr, x_iushr, x_idiv, x_irem, x_ladd, x_land, x_lor, x_lshl, x_lshr, x_ineg, x_i2l, x_l2i, x_i2b, x_lcmp, x_dup, x_dup2, x_if_eq, x_if_ne, x_if_lt, x_if_ge, x_if_gt, x_if_le, x_ic_eq, x_ic_ne, x_ic_lt, x_ic_ge, x_ic_gt, x_ic_le, x_getI, x_getR, x_putI, x_putZ, x_putR, x_iald, x_bald, x_lald, x_iast, x_bast, x_last, x_alen, x_acp, x_mmax, x_mmin, x_callV, x_callS, x_iret, x_zret, x_lret, x_aret, x_vret, x_tsw, x_stop, zst1, zst2, zkill, zkl, zsplit, zmask, zent, zentL, List.getElem?_cons_zero, List.getElem?_cons_succ, List.set_cons_zero, List.set_cons_succ, List.set_nil, List.length_cons, List.length_nil, List.replicate, List.nil_append, List.cons_append, List.map_cons, List.map_nil, List.sum_cons, List.sum_nil, Value.category, Option.toList, List.contains_cons, List.contains_nil, true_or, or_true, true_and, Nat.zero_le, Nat.reduceAdd, Nat.reduceLeDiff, Nat.reduceLT, Nat.reduceBEq, Bool.true_or, Bool.or_true, Bool.false_or, Bool.or_false, ↓reduceIte, Bool.false_eq_true, Nat.add_zero, Nat.zero_add, Nat.reduceEqDiff, Nat.reduceSub, b2i_0, ne_eq, Nat.reduceEqDiff, not_false_eq_true, not_true_eq_false, true_and, and_true, true_implies, false_implies, implies_true, and_self]
    exact ⟨tL (aT A) k, sF (aT A) k, _, aT A, hK1.tU.1, t1, hK1.tT, hQ σ1 (Fr.z f1 (by omega) (by omega)) hK1⟩
  · simp only [h1] at hQ
    simp only [h2, b2i_0, ne_eq, Nat.reduceEqDiff, not_false_eq_true, not_true_eq_false, true_and, and_true, true_implies, false_implies, implies_true, and_self]
    exact hQ σ (ZF.refl _ _ _) hK
/-- a song and two doors -/
def sdd (T : TD) (x y z : Int32) : Option (Nat × Nat × Nat) := match ix x (tS T) with
  | none => none
  | some k => match ix y (tD T) with
    | none => none
    | some a => match ix z (tD T) with
      | none => none
      | some b => some (k, a, b)
theorem sdd_cases (T : TD) (x y z : Int32) (hD : tD T ≤ 12) (hS : tS T ≤ 4) : (∃ k a b, k < tS T ∧ a < tD T ∧ b < tD T ∧ x = nI k ∧ y = nI a ∧ z = nI b ∧ sdd T x y z = some (k, a, b) ∧ ((ix x (tS T)).isSome = true ∧ (ix y (tD T)).isSome = true ∧ (ix z (tD T)).isSome = true) = True) ∨ (sdd T x y z = none ∧ ((ix x (tS T)).isSome = true ∧ (ix y (tD T)).isSome = true ∧ (ix z (tD T)).isSome = true) = False) := by
  unfold sdd
  rcases ix_cs x (show tS T < 2 ^ 31 by omega) with ⟨k, hk, e1, h1, -⟩ | ⟨h1, -⟩
  · rcases ix_cs y (show tD T < 2 ^ 31 by omega) with ⟨k2, hk2, e2, h3, -⟩ | ⟨h3, -⟩
    · rcases ix_cs z (show tD T < 2 ^ 31 by omega) with ⟨k3, hk3, e3, h5, -⟩ | ⟨h5, -⟩
      · left
        exact ⟨k, k2, k3, hk, hk2, hk3, e1, e2, e3, by rw [h1, h3, h5], by rw [h1, h3, h5]; simp⟩
      · right
        exact ⟨by rw [h1, h3, h5], by rw [h1, h3, h5]; simp⟩
    · right
      exact ⟨by rw [h1, h3], by rw [h1, h3]; simp⟩
  · right
    exact ⟨by rw [h1], by rw [h1]; simp⟩
def rdS (T : TD) (k a b : Nat) : Option Nat := (fwR T k a b).1.map (stpR (fwR T k a b).2)
def q_round (A : AD) (x y z : Int32) : Int32 × AD := match sdd (aT A) x y z with
  | none => (-1, A)
  | some (k, a, b) => (i2 (rdS (aT A) k a b), A)
def w_X11_round : WPt := fun args σ Q => match args with
  | [.ref x, .int d, .int y, .int z] => x = 1 ∧ PubI σ (q_round · d y z) Q
  | _ => False
set_option maxHeartbeats 1000000 in
theorem m_X11_round : Meets yX11_round cX11_round 4 (some .int) 5 w_X11_round := by
  refine Meets.mk (by decide) fun args σ Φ h => ?_
  unfold w_X11_round at h
  split at h
  rotate_left
  · exact h.elim
  rename_i x d y z
  obtain ⟨x, rfl⟩ : ∃ q : Nat, q = x := ⟨x, rfl⟩
  obtain ⟨hx, A, hK, hA, hQ⟩ := h
  subst hx
  refine ⟨Nat.le_of_ble_eq_true rfl, fun C hC hR => ?_⟩
  have hf := cls_f hK
  have hN := hA.1
  have hD1 := hA.t.1
  have hD := hA.t.2.1
  have hS := hA.t.2.2.1
  have hW := hA.2.2.1.2.1
  have hE := hA.2.2.1.2.2.1
  have hT := hK.tT
  refine r_X11_round_0 hC hR m_X11_areSongAndDoors (by decide) m_X6_takeSong (by decide) m_X6_findWay (by decide) m_X6_stepsOfWay (by decide) _ _ _ ?_
  simp only [T_X11_round_0, x_psh, x_ild, x_lld, x_ald, x_ist, x_ast, x_lst, x_inc, x_iadd, x_isub, x_imul, x_iand, x_ior, x_ixor, x_ishl, x_ishr, x_iushr, x_idiv, x_irem, x_ladd, x_land, x_lor, x_lshl, x_lshr, x_ineg, x_i2l, x_l2i, x_i2b, x_lcmp, x_dup, x_dup2, x_if_eq, x_if_ne, x_if_lt, x_if_ge, x_if_gt, x_if_le, x_ic_eq, x_ic_ne, x_ic_lt, x_ic_ge, x_ic_gt, x_ic_le, x_getI, x_getR, x_putI, x_putZ, x_putR, x_iald, x_bald, x_lald, x_iast, x_bast, x_last, x_alen, x_acp, x_mmax, x_mmin, x_callV, x_callS, x_iret, x_zret, x_lret, x_aret, x_vret, x_tsw, x_stop, zst1, zst2, zkill, zkl, zsplit, zmask, zent, zentL, List.getElem?_cons_zero, List.getElem?_cons_succ, List.set_cons_zero, List.set_cons_succ, List.set_nil, List.length_cons, List.length_nil, List.replicate, List.nil_append, List.cons_append, List.map_cons, List.map_nil, List.sum_cons, List.sum_nil, Value.category, Option.toList, List.contains_cons, List.contains_nil, true_or, or_true, true_and, Nat.zero_le, Nat.reduceAdd, Nat.reduceLeDiff, Nat.reduceLT, Nat.reduceBEq, Bool.true_or, Bool.or_true, Bool.false_or, Bool.or_false, ↓reduceIte, Bool.false_eq_true, Nat.add_zero, Nat.zero_add, Nat.reduceEqDiff, Nat.reduceSub, hf, w_X11_areSongAndDoors, w_X6_takeSong]
  unfold q_round at hQ
  refine ⟨A, hK, ?_⟩
  rcases sdd_cases (aT A) d y z hD hS with ⟨k, a, b, hk, ha, hb, rfl, rfl, rfl, h1, h2⟩ | ⟨h1, h2⟩
  · simp only [h1] at hQ
    simp only [h2, b2i_0, ne_eq, Nat.reduceEqDiff, not_false_eq_true, not_true_eq_false, true_and, and_true, true_implies, false_implies, implies_true, and_self]
    have hL := hA.l hk
    refine ⟨aT A, k, hK.tH.1, hT, rfl, hk, hL.1, by unfold apH; decide, fun σ1 f1 t1 => ?_⟩
    have hK1 := hK.q f1 (by omega)
    have g1 := cls_f hK1
    simp only [g1, w_X6_findWay, x_psh, x_ild, x_lld, x_ald, x_ist, x_ast, x_lst, x_inc, x_iadd, x_isub, x_imul, x_iand, x_ior, x_ixor, x_ishl, x_ishr, x_iushr, x_idiv, x_irem, x_ladd, x_land, x_lor, x_lshl, x_lshr, x_ineg, x_i2l, x_l2i, x_i2b, x_lcmp, x_dup, x_dup2, x_if_eq, x_if_ne, x_if_lt, x_if_ge, x_if_gt, x_if_le, x_ic_eq, x_ic_ne, x_ic_lt, x_ic_ge, x_ic_gt, x_ic_le, x_getI, x_getR, x_putI, x_putZ, x_putR, x_iald, x_bald, x_lald, x_iast, x_bast, x_last, x_alen, x_acp, x_mmax, x_mmin, x_callV, x_callS, x_iret, x_zret, x_lret, x_aret, x_vret, x_tsw, x_stop, zst1, zst2, zkill, zkl, zsplit, zmask, zent, zentL, List.getElem?_cons_zero, List.getElem?_cons_succ, List.set_cons_zero, List.set_cons_succ, List.set_nil, List.length_cons, List.length_nil, List.replicate, List.nil_append, List.cons_append, List.map_cons, List.map_nil, List.sum_cons, List.sum_nil, Value.category, Option.toList, List.contains_cons, List.contains_nil, true_or, or_true, true_and, Nat.zero_le, Nat.reduceAdd, Nat.reduceLeDiff, Nat.reduceLT, Nat.reduceBEq, Bool.true_or, Bool.or_true, Bool.false_or, Bool.or_false, ↓reduceIte, Bool.false_eq_true, Nat.add_zero, Nat.zero_add, Nat.reduceEqDiff, Nat.reduceSub, b2i_0, ne_eq, Nat.reduceEqDiff, not_false_eq_true, not_true_eq_false, true_and, and_true, true_implies, false_implies, implies_true, and_self]
    refine ⟨aT A, k, a, b, hK1.tH.1, t1, hK1.tT, by unfold apH; decide, rfl, rfl, ha, hb, fun σ2 f2 t2 b2 => ?_⟩
    have hK2 := hK1.q f2 (by omega)
    have g2 := cls_f hK2
    simp only [g2, w_X6_stepsOfWay, x_psh, x_ild, x_lld, x_ald, x_ist, x_ast, x_lst, x_inc, x_iadd, x_isub, x_imul, x_iand, x_ior, x_ixor, x_ishl, x_ishr, x_iushr, x_idiv, x_irem, x_ladd, x_land, x_lor, x_lshl, x_lshr, x_ineg, x_i2l, x_l2i, x_i2b, x_lcmp, x_dup, x_dup2, x_if_eq, x_if_ne, x_if_lt, x_if_ge, x_if_gt, x_if_le, x_ic_eq, x_ic_ne, x_ic_lt, x_ic_ge, x_ic_gt, x_ic_le, x_getI, x_getR, x_putI, x_putZ, x_putR, x_iald, x_bald, x_lald, x_iast, x_bast, x_last, x_alen, x_acp, x_mmax, x_mmin, x_callV, x_callS, x_iret, x_zret, x_lret, x_aret, x_vret, x_tsw, x_stop, zst1, zst2, zkill, zkl, zsplit, zmask, zent, zentL, List.getElem?_cons_zero, List.getElem?_cons_succ, List.set_cons_zero, List.set_cons_succ, List.set_nil, List.length_cons, List.length_nil, List.replicate, List.nil_append, List.cons_append, List.map_cons, List.map_nil, List.sum_cons, List.sum_nil, Value.category, Option.toList, List.contains_cons, List.contains_nil, true_or, or_true, true_and, Nat.zero_le, Nat.reduceAdd, Nat.reduceLeDiff, Nat.reduceLT, Nat.reduceBEq, Bool.true_or, Bool.or_true, Bool.false_or, Bool.or_false, ↓reduceIte, Bool.false_eq_true, Nat.add_zero, Nat.zero_add, Nat.reduceEqDiff, Nat.reduceSub, b2i_0, ne_eq, Nat.reduceEqDiff, not_false_eq_true, not_true_eq_false, true_and, and_true, true_implies, false_implies, implies_true, and_self]
    refine ⟨(fwR (aT A) k a b).2, (fwR (aT A) k a b).1, hK2.tH.1, b2, (fwR_C _ _ _ _).1, rfl, (fwR_C _ _ _ _).2, hQ σ2 ((Fr.z f1 (by omega) (by omega)).trans (Fr.z f2 (by omega) (by omega))) hK2⟩
  · simp only [h1] at hQ
    simp only [h2, b2i_0, ne_eq, Nat.reduceEqDiff, not_false_eq_true, not_true_eq_false, true_and, and_true, true_implies, false_implies, implies_true, and_self]
    exact hQ σ (ZF.refl _ _ _) hK
