def q_go (A : AD) (x : Int32) : Int32 × AD := match ix x (tD (aT A)) with
  | none => (-1, A)
  | some d => if 0 < xW (aX A) ∧ (tE (aT A) (xF (aX A) (xW (aX A) - 1))).testBit d = false then (-3, A) else if xW (aX A) = 24 then (-4, A) else (nI (xW (aX A) + 1), setW A (xW (aX A) + 1) (va_up (xF (aX A)) (xW (aX A)) d))
def w_X11_go : WPt := fun args σ Q => match args with
  | [.ref x, .int d] => x = 1 ∧ PubI σ (q_go · d) Q
  | _ => False
set_option maxHeartbeats 1000000 in
theorem m_X11_go : Meets yX11_go cX11_go 3 (some .int) 4 w_X11_go := by
  refine Meets.mk (by decide) fun args σ Φ h => ?_
  unfold w_X11_go at h
  split at h
  rotate_left
  · exact h.elim
  rename_i x d
  obtain ⟨x, rfl⟩ : ∃ q : Nat, q = x := ⟨x, rfl⟩
  obtain ⟨hx, A, hK, hA, hQ⟩ := h
  subst hx
  refine ⟨Nat.le_of_ble_eq_true rfl, fun C hC hR => ?_⟩
  have hf := cls_f hK
  have hN := hA.1
  have hD1 := hA.t.1
  have hD := hA.t.2.1
  have hS := hA.t.2.2.1
  have hW := hA.2.2.1.2.1
  have hE := hA.2.2.1.2.2.1
  have hT := hK.tT
  refine r_X11_go_0 hC hR m_X8_isDoor (by decide) m_X10_doorAt (by decide) m_X8_isJoined (by decide) m_X10_add (by decide) _ _ _ ?_
  simp only [T_X11_go_0, x_psh, x_ild, x_lld, x_ald, x_ist, x_ast, x_lst, x_inc, x_iadd, x_isub, x_imul, x_iand, x_ior, x_ixor, x_ishl, x_ishr, x_iushr, x_idiv, x_irem, x_ladd, x_land, x_lor, x_lshl, x_lshr, x_ineg, x_i2l, x_l2i, x_i2b, x_lcmp, x_dup, x_dup2, x_if_eq, x_if_ne, x_if_lt, x_if_ge, x_if_gt, x_if_le, x_ic_eq, x_ic_ne, x_ic_lt, x_ic_ge, x_ic_gt, x_ic_le, x_getI, x_getR, x_putI, x_putZ, x_putR, x_iald, x_bald, x_lald, x_iast, x_bast, x_last, x_alen, x_acp, x_mmax, x_mmin, x_callV, x_callS, x_iret, x_zret, x_lret, x_aret, x_vret, x_tsw, x_stop, zst1, zst2, zkill, zkl, zsplit, zmask, zent, zentL, List.getElem?_cons_zero, List.getElem?_cons_succ, List.set_cons_zero, List.set_cons_succ, List.set_nil, List.length_cons, List.length_nil, List.replicate, List.nil_append, List.cons_append, List.map_cons, List.map_nil, List.sum_cons, List.sum_nil, Value.category, Option.toList, List.contains_cons, List.contains_nil, true_or, or_true, true_and, Nat.zero_le, Nat.reduceAdd, Nat.reduceLeDiff, Nat.reduceLT, Nat.reduceBEq, Bool.true_or, Bool.or_true, Bool.false_or, Bool.or_false, ↓reduceIte, Bool.false_eq_true, Nat.add_zero, Nat.zero_add, Nat.reduceEqDiff, Nat.reduceSub, hf, w_X8_isDoor, w_X10_doorAt, w_X8_isJoined]
  unfold q_go at hQ
  have hFl : ∀ k, k < xW (aX A) → xF (aX A) k < tD (aT A) := hA.2.2.1.2.2.2.1
  rcases ix_cs d (show tD (aT A) < 2 ^ 31 by omega) with ⟨k, hk, rfl, h1, h2⟩ | ⟨h1, h2⟩
  · simp only [h1] at hQ
    simp only [h2, b2i_0, ne_eq, Nat.reduceEqDiff, not_false_eq_true, not_true_eq_false, true_and, and_true, true_implies, false_implies, implies_true, and_self]
    have key : ¬ (0 < xW (aX A) ∧ (tE (aT A) (xF (aX A) (xW (aX A) - 1))).testBit k = false) → WW C 63 [some (.ref 1), some (.int (nI k)), none] [] σ := by
      intro hn
      rw [if_neg hn] at hQ
      refine r_X11_go_63 hC hR m_X8_isDoor (by decide) m_X10_doorAt (by decide) m_X8_isJoined (by decide) m_X10_add (by decide) _ _ _ ?_
      simp only [T_X11_go_63, x_psh, x_ild, x_lld, x_ald, x_ist, x_ast, x_lst, x_inc, x_iadd, x_isub, x_imul, x_iand, x_ior, x_ixor, x_ishl, x_ishr, x_iushr, x_idiv, x_irem, x_ladd, x_land, x_lor, x_lshl, x_lshr, x_ineg, x_i2l, x_l2i, x_i2b, x_lcmp, x_dup, x_dup2, x_if_eq, x_if_ne, x_if_lt, x_if_ge, x_if_gt, x_if_le, x_ic_eq, x_ic_ne, x_ic_lt, x_ic_ge, x_ic_gt, x_ic_le, x_getI, x_getR, x_putI, x_putZ, x_putR, x_iald, x_bald, x_lald, x_iast, x_bast, x_last, x_alen, x_acp, x_mmax, x_mmin, x_callV, x_callS, x_iret, x_zret, x_lret, x_aret, x_vret, x_tsw, x_stop, zst1, zst2, zkill, zkl, zsplit, zmask, zent, zentL, List.getElem?_cons_zero, List.getElem?_cons_succ, List.set_cons_zero, List.set_cons_succ, List.set_nil, List.length_cons, List.length_nil, List.replicate, List.nil_append, List.cons_append, List.map_cons, List.map_nil, List.sum_cons, List.sum_nil, Value.category, Option.toList, List.contains_cons, List.contains_nil, true_or, or_true, true_and, Nat.zero_le, Nat.reduceAdd, Nat.reduceLeDiff, Nat.reduceLT, Nat.reduceBEq, Bool.true_or, Bool.or_true, Bool.false_or, Bool.or_false, ↓reduceIte, Bool.false_eq_true, Nat.add_zero, Nat.zero_add, Nat.reduceEqDiff, Nat.reduceSub, hf, w_X10_add]
      simp only [b2i_0, ne_eq, Nat.reduceEqDiff, not_false_eq_true, not_true_eq_false, true_and, and_true, true_implies, false_implies, implies_true, and_self]
      rw [z_l24, nI_ltI (by omega) (by omega)]
      refine ⟨fun q => ⟨xW (aX A), xF (aX A), k, hK.tW.1, hK.tW.2, q, rfl, by omega, fun σ1 f1 t1 => ?_⟩, fun q => ?_⟩
      · rw [if_neg (by omega)] at hQ
        have hK1 := hK.walk f1 t1
        have g1 := cls_f hK1
        simp only [g1, b2i_0, ne_eq, Nat.reduceEqDiff, not_false_eq_true, not_true_eq_false, true_and, and_true, true_implies, false_implies, implies_true, and_self]
        exact hQ σ1 (Fr.z f1 (by omega) (by omega)) hK1
      · rw [if_pos (by omega)] at hQ
        exact hQ σ (ZF.refl _ _ _) hK
    refine ⟨xW (aX A), xF (aX A), hK.tW.1, hK.tW.2, fun j hj e => ?_, fun q => ?_⟩
    · have ej : xW (aX A) - 1 = j := by
        have e1 : nI (xW (aX A)) - 1 = nI (xW (aX A) - 1) := pk_sub (b := 1) (by omega)
        rw [e1] at e
        exact (nI_eq (by omega) (by omega)).mp e
      have hFj := hFl j hj
      refine ⟨fun q => absurd q (z_m9 (by omega)), fun _ => ⟨aT A, xF (aX A) j, k, hT, rfl, hFj, rfl, by omega, ?_⟩⟩
      refine ⟨fun q => ?_, fun q => ?_⟩
      · exact key (by rw [ej]; rintro ⟨-, h⟩; rw [h] at q; exact q (by simp))
      · rw [if_pos ⟨by omega, by rw [ej]; simpa using q⟩] at hQ
        exact hQ σ (ZF.refl _ _ _) hK
    · refine key ?_
      rintro ⟨hw, -⟩
      refine q ?_
      rw [show nI (xW (aX A)) - 1 = nI (xW (aX A) - 1) from pk_sub (b := 1) (by omega)]
      exact not_lt_pos (by omega) (by omega)
  · simp only [h1] at hQ
    simp only [h2, b2i_0, ne_eq, Nat.reduceEqDiff, not_false_eq_true, not_true_eq_false, true_and, and_true, true_implies, false_implies, implies_true, and_self]
    exact hQ σ (ZF.refl _ _ _) hK
def q_hear (A : AD) (x : Int32) : Int32 × AD := match ix x 9 with
  | none => (-2, A)
  | some v => if xE (aX A) = 12 then (-4, A) else (nI (xE (aX A) + 1), setE A (xE (aX A) + 1) (va_up (xG (aX A)) (xE (aX A)) v))
def w_X11_hear : WPt := fun args σ Q => match args with
  | [.ref x, .int d] => x = 1 ∧ PubI σ (q_hear · d) Q
  | _ => False
theorem m_X11_hear : Meets yX11_hear cX11_hear 2 (some .int) 2 w_X11_hear := by
  refine Meets.mk (by decide) fun args σ Φ h => ?_
  unfold w_X11_hear at h
  split at h
  rotate_left
  · exact h.elim
  rename_i x d
  obtain ⟨x, rfl⟩ : ∃ q : Nat, q = x := ⟨x, rfl⟩
  obtain ⟨hx, A, hK, hA, hQ⟩ := h
  subst hx
  refine ⟨Nat.le_of_ble_eq_true rfl, fun C hC hR => ?_⟩
  have hf := cls_f hK
  have hN := hA.1
  have hD1 := hA.t.1
  have hD := hA.t.2.1
  have hS := hA.t.2.2.1
  have hW := hA.2.2.1.2.1
  have hE := hA.2.2.1.2.2.1
  have hT := hK.tT
  refine r_X11_hear_0 hC hR m_X0_add (by decide) _ _ _ ?_
  simp only [T_X11_hear_0, x_psh, x_ild, x_lld, x_ald, x_ist, x_ast, x_lst, x_inc, x_iadd, x_isub, x_imul, x_iand, x_ior, x_ixor, x_ishl, x_ishr, x_iushr, x_idiv, x_irem, x_ladd, x_land, x_lor, x_lshl, x_lshr, x_ineg, x_i2l, x_l2i, x_i2b, x_lcmp, x_dup, x_dup2, x_if_eq, x_if_ne, x_if_lt, x_if_ge, x_if_gt, x_if_le, x_ic_eq, x_ic_ne, x_ic_lt, x_ic_ge, x_ic_gt, x_ic_le, x_getI, x_getR, x_putI, x_putZ, x_putR, x_iald, x_bald, x_lald, x_iast, x_bast, x_last, x_alen, x_acp, x_mmax, x_mmin, x_callV, x_callS, x_iret, x_zret, x_lret, x_aret, x_vret, x_tsw, x_stop, zst1, zst2, zkill, zkl, zsplit, zmask, zent, zentL, List.getElem?_cons_zero, List.getElem?_cons_succ, List.set_cons_zero, List.set_cons_succ, List.set_nil, List.length_cons, List.length_nil, List.replicate, List.nil_append, List.cons_append, List.map_cons, List.map_nil, List.sum_cons, List.sum_nil, Value.category, Option.toList, List.contains_cons, List.contains_nil, true_or, or_true, true_and, Nat.zero_le, Nat.reduceAdd, Nat.reduceLeDiff, Nat.reduceLT, Nat.reduceBEq, Bool.true_or, Bool.or_true, Bool.false_or, Bool.or_false, ↓reduceIte, Bool.false_eq_true, Nat.add_zero, Nat.zero_add, Nat.reduceEqDiff, Nat.reduceSub, hf, w_X0_add]
  unfold q_hear at hQ
  simp only [b2i_0, ne_eq, Nat.reduceEqDiff, not_false_eq_true, not_true_eq_false, true_and, and_true, true_implies, false_implies, implies_true, and_self]
  rcases ix_le d 8 (by decide) with ⟨v, hv, rfl, h3⟩ | ⟨h4, h3⟩ | ⟨h4, h5, h3⟩
  · simp only [h3] at hQ
    rw [z_l12, nI_ltI (by omega) (by omega)]
    refine ⟨fun q => absurd q (nI_pos (by omega)), fun _ => ⟨fun _ => ⟨fun q => ⟨xE (aX A), xG (aX A), v, hK.tE.1, hK.tE.2, q, rfl, hv, fun σ1 f1 t1 => ?_⟩, fun q => ?_⟩, fun q => absurd (by rw [z_l8]; exact nI_le hv (by omega)) q⟩⟩
    · rw [if_neg (by omega)] at hQ
      have hK1 := hK.ear f1 t1
      have g1 := cls_f hK1
      simp only [g1, b2i_0, ne_eq, Nat.reduceEqDiff, not_false_eq_true, not_true_eq_false, true_and, and_true, true_implies, false_implies, implies_true, and_self]
      exact hQ σ1 (Fr.z f1 (by omega) (by omega)) hK1
    · rw [if_pos (by omega)] at hQ
      exact hQ σ (ZF.refl _ _ _) hK
  · simp only [h3] at hQ
    exact ⟨fun _ => hQ σ (ZF.refl _ _ _) hK, fun q => absurd h4 q⟩
  · simp only [h3] at hQ
    exact ⟨fun q => absurd q h4, fun _ => ⟨fun q => absurd q h5, fun _ => hQ σ (ZF.refl _ _ _) hK⟩⟩
def sF (T : TD) (k : Nat) : Nat → Nat := fun i => sndS T (tG T (6 * k + i))
def sH (T : TD) (k : Nat) : Nat → Nat := fun i => hshS T (tG T (6 * k + i))
def aF (T : TD) (k : Nat) : Nat → Nat := fun i => sndS T (tG T (6 * k + i % tL T k))
def eF (T : TD) (g : Nat → Nat) : Nat → Nat := fun i => sndS T (g i)
theorem AOk.l {A : AD} (h : AOk A) {k : Nat} (hk : k < tS (aT A)) : 1 ≤ tL (aT A) k ∧ tL (aT A) k ≤ 6 := ⟨(h.t.2.2.2.2.2.1 k hk).1, (h.t.2.2.2.2.2.1 k hk).2.1⟩
def q_heard (A : AD) (x y : Int32) : Int32 × AD := match ix x (tS (aT A)) with
  | none => (-1, A)
  | some k => match ix y 24 with
    | none => (-2, A)
    | some a => (i2 (fplS (hrB (sF (aT A) k) (xF (aX A)) (tL (aT A) k)) (xW (aX A)) (tL (aT A) k) a), A)
def w_X11_heard : WPt := fun args σ Q => match args with
  | [.ref x, .int d, .int y] => x = 1 ∧ PubI σ (q_heard · d y) Q
  | _ => False
theorem m_X11_heard : Meets yX11_heard cX11_heard 3 (some .int) 6 w_X11_heard := by
  refine Meets.mk (by decide) fun args σ Φ h => ?_
  unfold w_X11_heard at h
  split at h
  rotate_left
  · exact h.elim
  rename_i x d y
  obtain ⟨x, rfl⟩ : ∃ q : Nat, q = x := ⟨x, rfl⟩
  obtain ⟨hx, A, hK, hA, hQ⟩ := h
  subst hx
  refine ⟨Nat.le_of_ble_eq_true rfl, fun C hC hR => ?_⟩
  have hf := cls_f hK
  have hN := hA.1
  have hD1 := hA.t.1
  have hD := hA.t.2.1
  have hS := hA.t.2.2.1
  have hW := hA.2.2.1.2.1
  have hE := hA.2.2.1.2.2.1
  have hT := hK.tT
  refine r_X11_heard_0 hC hR m_X8_isSong (by decide) m_X9_takeSong (by decide) m_X10_firstPlaceOf (by decide) _ _ _ ?_
  simp only [T_X11_heard_0, x_psh, x_ild, x_lld, x_ald, x_ist, x_ast, x_lst, x_inc, x_iadd, x_isub, x_imul, x_iand, x_ior, x_ixor, x_ishl, x_ishr, x_iushr, x_idiv, x_irem, x_ladd, x_land, x_lor, x_lshl, x_lshr, x_ineg, x_i2l, x_l2i, x_i2b, x_lcmp, x_dup, x_dup2, x_if_eq, x_if_ne, x_if_lt, x_if_ge, x_if_gt, x_if_le, x_ic_eq, x_ic_ne, x_ic_lt, x_ic_ge, x_ic_gt, x_ic_le, x_getI, x_getR, x_putI, x_putZ, x_putR, x_iald, x_bald, x_lald, x_iast, x_bast, x_last, x_alen, x_acp, x_mmax, x_mmin, x_callV, x_callS, x_iret, x_zret, x_lret, x_aret, x_vret, x_tsw, x_stop, zst1, zst2, zkill, zkl, zsplit, zmask, zent, zentL, List.getElem?_cons_zero, List.getElem?_cons_succ, List.set_cons_zero, List.set_cons_succ, List.set_nil, List.length_cons, List.length_nil, List.replicate, List.nil_append, List.cons_append, List.map_cons, List.map_nil, List.sum_cons, List.sum_nil, Value.category, Option.toList, List.contains_cons, List.contains_nil, true_or, or_true, true_and, Nat.zero_le, Nat.reduceAdd, Nat.reduceLeDiff, Nat.reduceLT, Nat.reduceBEq, Bool.true_or, Bool.or_true, Bool.false_or, Bool.or_false, ↓reduceIte, Bool.false_eq_true, Nat.add_zero, Nat.zero_add, Nat.reduceEqDiff, Nat.reduceSub, hf, w_X8_isSong, w_X9_takeSong, w_X10_firstPlaceOf]
  unfold q_heard at hQ
  rcases ix_cs d (show tS (aT A) < 2 ^ 31 by omega) with ⟨k, hk, rfl, h1, h2⟩ | ⟨h1, h2⟩
  · simp only [h1] at hQ
    simp only [h2, b2i_0, ne_eq, Nat.reduceEqDiff, not_false_eq_true, not_true_eq_false, true_and, and_true, true_implies, false_implies, implies_true, and_self]
    have hL := hA.l hk
    rcases ix_lt y 24 (by decide) with ⟨v, hv, rfl, h3⟩ | ⟨h4, h3⟩ | ⟨h4, h5, h3⟩
    · simp only [h3] at hQ
      refine ⟨fun q => absurd q (nI_pos (by omega)), fun _ => ⟨fun _ => ⟨aT A, k, hK.tU.1, hT, rfl, hk, by unfold apTU; decide, fun σ1 f1 t1 => ?_⟩, fun q => absurd (by rw [z_l24]; exact nI_lt hv (by omega)) q⟩⟩
      have hK1 := hK.q f1 (by omega)
      have g1 := cls_f hK1
      simp only [g1, b2i_0, ne_eq, Nat.reduceEqDiff, not_false_eq_true, not_true_eq_false, true_and, and_true, true_implies, false_implies, implies_true, and_self]
      exact ⟨tL (aT A) k, xW (aX A), sF (aT A) k, _, xF (aX A), v, hK1.tW.1, hK1.tW.2, hK1.tU.1, t1, rfl, hv, hQ σ1 (Fr.z f1 (by omega) (by omega)) hK1⟩
    · simp only [h3] at hQ
      exact ⟨fun _ => hQ σ (ZF.refl _ _ _) hK, fun q => absurd h4 q⟩
    · simp only [h3] at hQ
      exact ⟨fun q => absurd q h4, fun _ => ⟨fun q => absurd q h5, fun _ => hQ σ (ZF.refl _ _ _) hK⟩⟩
  · simp only [h1] at hQ
    simp only [h2, b2i_0, ne_eq, Nat.reduceEqDiff, not_false_eq_true, not_true_eq_false, true_and, and_true, true_implies, false_implies, implies_true, and_self]
    exact hQ σ (ZF.refl _ _ _) hK
/-- doors meant: all for none -/
def dmS (x : Int32) (D : Nat) : Option Nat := if x = -9 then some (2 ^ D - 1) else (ix x D).map (fun k => 2 ^ k)
def w_X11_isDoorOrNone : WPt := fun args σ Q => match args with
  | [.ref x, .int d] => x = 1 ∧ ∃ A, ClsR σ A ∧ Q (some (.int (b2i ((dmS d (tD (aT A))).isSome = true)))) σ
  | _ => False
theorem m_X11_isDoorOrNone : Meets yX11_isDoorOrNone cX11_isDoorOrNone 2 (some .boolean) 2 w_X11_isDoorOrNone := by
  refine Meets.mk (by decide) fun args σ Φ h => ?_
  unfold w_X11_isDoorOrNone at h
  split at h
  rotate_left
  · exact h.elim
  rename_i x d
  obtain ⟨x, rfl⟩ : ∃ q : Nat, q = x := ⟨x, rfl⟩
  obtain ⟨hx, A, hK, hQ⟩ := h
  subst hx
  refine ⟨Nat.le_of_ble_eq_true rfl, fun C hC hR => ?_⟩
  have hf := cls_f hK
  have hT := hK.tT
  have hD := hT.2.2.2.1
  refine r_X11_isDoorOrNone_0 hC hR m_X8_isDoor (by decide) _ _ _ ?_
  simp only [T_X11_isDoorOrNone_0, x_psh, x_ild, x_lld, x_ald, x_ist, x_ast, x_lst, x_inc, x_iadd, x_isub, x_imul, x_iand, x_ior, x_ixor, x_ishl, x_ishr, x_iushr, x_idiv, x_irem, x_ladd, x_land, x_lor, x_lshl, x_lshr, x_ineg, x_i2l, x_l2i, x_i2b, x_lcmp, x_dup, x_dup2, x_if_eq, x_if_ne, x_if_lt, x_if_ge, x_if_gt, x_if_le, x_ic_eq, x_ic_ne, x_ic_lt, x_ic_ge, x_ic_gt, x_ic_le, x_getI, x_getR, x_putI, x_putZ, x_putR, x_iald, x_bald, x_lald, x_iast, x_bast, x_last, x_alen, x_acp, x_mmax, x_mmin, x_callV, x_callS, x_iret, x_zret, x_lret, x_aret, x_vret, x_tsw, x_stop, zst1, zst2, zkill, zkl, zsplit, zmask, zent, zentL, List.getElem?_cons_zero, List.getElem?_cons_succ, List.set_cons_zero, List.set_cons_succ, List.set_nil, List.length_cons, List.length_nil, List.replicate, List.nil_append, List.cons_append, List.map_cons, List.map_nil, List.sum_cons, List.sum_nil, Value.category, Option.toList, List.contains_cons, List.contains_nil, true_or, or_true, true_and, Nat.zero_le, Nat.reduceAdd, Nat.reduceLeDiff, Nat.reduceLT, Nat.reduceBEq, Bool.true_or, Bool.or_true, Bool.false_or, Bool.or_false, ↓reduceIte, Bool.false_eq_true, Nat.add_zero, Nat.zero_add, Nat.reduceEqDiff, Nat.reduceSub, hf, w_X8_isDoor]
  unfold dmS at hQ
  simp only [b2i_0, ne_eq, Nat.reduceEqDiff, not_false_eq_true, not_true_eq_false, true_and, and_true, true_implies, false_implies, implies_true, and_self]
  refine ⟨fun q => ?_, fun q => ?_⟩
  · rw [if_pos q, b2i_t (by rfl)] at hQ
    exact hQ
  · rw [if_neg q] at hQ
    rcases ix_cs d (show tD (aT A) < 2 ^ 31 by omega) with ⟨k, hk, rfl, h1, h2⟩ | ⟨h1, h2⟩
    · rw [h1, b2i_t (by rfl)] at hQ
      simp only [h2, b2i_0, ne_eq, Nat.reduceEqDiff, not_false_eq_true, not_true_eq_false, true_and, and_true, true_implies, false_implies, implies_true, and_self]
      exact hQ
    · rw [h1, b2i_f (by simp)] at hQ
      simp only [h2, b2i_0, ne_eq, Nat.reduceEqDiff, not_false_eq_true, not_true_eq_false, true_and, and_true, true_implies, false_implies, implies_true, and_self]
      exact hQ
def w_X11_doorsMeant : WPt := fun args σ Q => match args with
  | [.ref x, .int d] => x = 1 ∧ ∃ A s, ClsR σ A ∧ dmS d (tD (aT A)) = some s ∧ Q (some (.int (nI s))) σ
  | _ => False
theorem m_X11_doorsMeant : Meets yX11_doorsMeant cX11_doorsMeant 2 (some .int) 2 w_X11_doorsMeant := by
  refine Meets.mk (by decide) fun args σ Φ h => ?_
  unfold w_X11_doorsMeant at h
  split at h
  rotate_left
  · exact h.elim
  rename_i x d
  obtain ⟨x, rfl⟩ : ∃ q : Nat, q = x := ⟨x, rfl⟩
  obtain ⟨hx, A, s, hK, hs, hQ⟩ := h
  subst hx
  refine ⟨Nat.le_of_ble_eq_true rfl, fun C hC hR => ?_⟩
  have hf := cls_f hK
  have hT := hK.tT
  have hD := hT.2.2.2.1
  refine r_X11_doorsMeant_0 hC hR m_X8_allDoors (by decide) _ _ _ ?_
  simp only [T_X11_doorsMeant_0, x_psh, x_ild, x_lld, x_ald, x_ist, x_ast, x_lst, x_inc, x_iadd, x_isub, x_imul, x_iand, x_ior, x_ixor, x_ishl, x_ishr, x_iushr, x_idiv, x_irem, x_ladd, x_land, x_lor, x_lshl, x_lshr, x_ineg, x_i2l, x_l2i, x_i2b, x_lcmp, x_dup, x_dup2, x_if_eq, x_if_ne, x_if_lt, x_if_ge, x_if_gt, x_if_le, x_ic_eq, x_ic_ne, x_ic_lt, x_ic_ge, x_ic_gt, x_ic_le, x_getI, x_getR, x_putI, x_putZ, x_putR, x_iald, x_bald, x_lald, x_iast, x_bast, x_last, x_alen, x_acp, x_mmax, x_mmin, x_callV, x_callS, x_iret, x_zret, x_lret, x_aret, x_vret, x_tsw, x_stop, zst1, zst2, zkill, zkl, zsplit, zmask, zent, zentL, List.getElem?_cons_zero, List.getElem?_cons_succ, List.set_cons_zero, List.set_cons_succ, List.set_nil, List.length_cons, List.length_nil, List.replicate, List.nil_append, List.cons_append, List.map_cons, List.map_nil, List.sum_cons, List.sum_nil, Value.category, Option.toList, List.contains_cons, List.contains_nil, true_or, or_true, true_and, Nat.zero_le, Nat.reduceAdd, Nat.reduceLeDiff, Nat.reduceLT, Nat.reduceBEq, Bool.true_or, Bool.or_true, Bool.false_or, Bool.or_false, ↓reduceIte, Bool.false_eq_true, Nat.add_zero, Nat.zero_add, Nat.reduceEqDiff, Nat.reduceSub, hf, w_X8_allDoors]
  unfold dmS at hs
  refine ⟨fun q => ?_, fun q => ?_⟩
  · rw [if_neg q] at hs
    rcases ix_cs d (show tD (aT A) < 2 ^ 31 by omega) with ⟨k, hk, rfl, h1, h2⟩ | ⟨h1, h2⟩
    · rw [h1] at hs
      have := Option.some.inj hs
      subst this
      rw [z_l31, z_l1, z_p2 k (by omega)]
      exact hQ
    · rw [h1] at hs
      cases hs
  · rw [if_pos q] at hs
    have := Option.some.inj hs
    subst this
    exact ⟨by decide, by decide, tD (aT A), rfl, hD, hQ⟩
def w_X11_areSongAndDoors : WPt := fun args σ Q => match args with
  | [.ref x, .int s, .int a, .int b] => x = 1 ∧ ∃ A, ClsR σ A ∧ Q (some (.int (b2i ((ix s (tS (aT A))).isSome = true ∧ (ix a (tD (aT A))).isSome = true ∧ (ix b (tD (aT A))).isSome = true)))) σ
  | _ => False
theorem m_X11_areSongAndDoors : Meets yX11_areSongAndDoors cX11_areSongAndDoors 4 (some .boolean) 2 w_X11_areSongAndDoors := by
  refine Meets.mk (by decide) fun args σ Φ h => ?_
  unfold w_X11_areSongAndDoors at h
  split at h
  rotate_left
  · exact h.elim
  rename_i x s a b
  obtain ⟨x, rfl⟩ : ∃ q : Nat, q = x := ⟨x, rfl⟩
  obtain ⟨hx, A, hK, hQ⟩ := h
  subst hx
  refine ⟨Nat.le_of_ble_eq_true rfl, fun C hC hR => ?_⟩
  have hf := cls_f hK
  have hT := hK.tT
  have hD := hT.2.2.2.1
  have hS := hT.2.2.2.2.1
  refine r_X11_areSongAndDoors_0 hC hR m_X8_isSong (by decide) m_X8_isDoor (by decide) _ _ _ ?_
  simp only [T_X11_areSongAndDoors_0, x_psh, x_ild, x_lld, x_ald, x_ist, x_ast, x_lst, x_inc, x_iadd, x_isub, x_imul, x_iand, x_ior, x_ixor, x_ishl, x_ishr, x_iushr, x_idiv, x_irem, x_ladd, x_land, x_lor, x_lshl, x_lshr, x_ineg, x_i2l, x_l2i, x_i2b, x_lcmp, x_dup, x_dup2, x_if_eq, x_if_ne, x_if_lt, x_if_ge, x_if_gt, x_if_le, x_ic_eq, x_ic_ne, x_ic_lt, x_ic_ge, x_ic_gt, x_ic_le, x_getI, x_getR, x_putI, x_putZ, x_putR, x_iald, x_bald, x_lald, x_iast, x_bast, x_last, x_alen, x_acp, x_mmax, x_mmin, x_callV, x_callS, x_iret, x_zret, x_lret, x_aret, x_vret, x_tsw, x_stop, zst1, zst2, zkill, zkl, zsplit, zmask, zent, zentL, List.getElem?_cons_zero, List.getElem?_cons_succ, List.set_cons_zero, List.set_cons_succ, List.set_nil, List.length_cons, List.length_nil, List.replicate, List.nil_append, List.cons_append, List.map_cons, List.map_nil, List.sum_cons, List.sum_nil, Value.category, Option.toList, List.contains_cons, List.contains_nil, true_or, or_true, true_and, Nat.zero_le, Nat.reduceAdd, Nat.reduceLeDiff, Nat.reduceLT, Nat.reduceBEq, Bool.true_or, Bool.or_true, Bool.false_or, Bool.or_false, ↓reduceIte, Bool.false_eq_true, Nat.add_zero, Nat.zero_add, Nat.reduceEqDiff, Nat.reduceSub, hf, w_X8_isDoor, w_X8_isSong]
  have e1 := ix_cs s (show tS (aT A) < 2 ^ 31 by omega)
  have e2 := ix_cs a (show tD (aT A) < 2 ^ 31 by omega)
  have e3 := ix_cs b (show tD (aT A) < 2 ^ 31 by omega)
  rcases e1 with ⟨k, hk, -, h1, h2⟩ | ⟨h1, h2⟩
  · rcases e2 with ⟨k2, hk2, -, h3, h4⟩ | ⟨h3, h4⟩
    · rcases e3 with ⟨k3, hk3, -, h5, h6⟩ | ⟨h5, h6⟩
      · rw [b2i_t (by rw [h1, h3, h5]; simp)] at hQ
        simp only [h2, h4, h6, b2i_0, ne_eq, Nat.reduceEqDiff, not_false_eq_true, not_true_eq_false, true_and, and_true, true_implies, false_implies, implies_true, and_self, or_true]
        exact hQ
      · rw [b2i_f (by rw [h1, h3, h5]; simp)] at hQ
        simp only [h2, h4, h6, b2i_0, ne_eq, Nat.reduceEqDiff, not_false_eq_true, not_true_eq_false, true_and, and_true, true_implies, false_implies, implies_true, and_self, true_or]
        exact hQ
    · rw [b2i_f (by rw [h1, h3]; simp)] at hQ
      simp only [h2, h4, b2i_0, ne_eq, Nat.reduceEqDiff, not_false_eq_true, not_true_eq_false, true_and, and_true, true_implies, false_implies, implies_true, and_self, true_or]
      exact hQ
  · rw [b2i_f (by rw [h1]; simp)] at hQ
    simp only [h2, b2i_0, ne_eq, Nat.reduceEqDiff, not_false_eq_true, not_true_eq_false, true_and, and_true, true_implies, false_implies, implies_true, and_self, true_or]
    exact hQ
def w_X11_slotOf : WPt := fun args σ Q => match args with
  | [.ref x, .int d] => x = 1 ∧ ∃ A, ClsR σ A ∧ (d = 0 → Q (some (.ref (19 : Nat))) σ) ∧ (d ≠ 0 → Q (some (.ref (29 : Nat))) σ)
  | _ => False
theorem m_X11_slotOf : Meets yX11_slotOf cX11_slotOf 2 (some (.object "TuneToEachHouse$Scene")) 1 w_X11_slotOf := by
  refine Meets.mk (by decide) fun args σ Φ h => ?_
  unfold w_X11_slotOf at h
  split at h
  rotate_left
  · exact h.elim
  rename_i x d
  obtain ⟨x, rfl⟩ : ∃ q : Nat, q = x := ⟨x, rfl⟩
  obtain ⟨hx, A, hK, hQ1, hQ2⟩ := h
  subst hx
  refine ⟨Nat.le_of_ble_eq_true rfl, fun C hC hR => ?_⟩
  have hf := cls_f hK
  refine r_X11_slotOf_0 hC hR _ _ _ ?_
  simp only [T_X11_slotOf_0, x_psh, x_ild, x_lld, x_ald, x_ist, x_ast, x_lst, x_inc, x_iadd, x_isub, x_imul, x_iand, x_ior, x_ixor, x_ishl, x_ishr, x_iushr, x_idiv, x_irem, x_ladd, x_land, x_lor, x_lshl, x_lshr, x_ineg, x_i2l, x_l2i, x_i2b, x_lcmp, x_dup, x_dup2, x_if_eq, x_if_ne, x_if_lt, x_if_ge, x_if_gt, x_if_le, x_ic_eq, x_ic_ne, x_ic_lt, x_ic_ge, x_ic_gt, x_ic_le, x_getI, x_getR, x_putI, x_putZ, x_putR, x_iald, x_bald, x_lald, x_iast, x_bast, x_last, x_alen, x_acp, x_mmax, x_mmin, x_callV, x_callS, x_iret, x_zret, x_lret, x_aret, x_vret, x_tsw, x_stop, zst1, zst2, zkill, zkl, zsplit, zmask, zent, zentL, List.getElem?_cons_zero, List.getElem?_cons_succ, List.set_cons_zero, List.set_cons_succ, List.set_nil, List.length_cons, List.length_nil, List.replicate, List.nil_append, List.cons_append, List.map_cons, List.map_nil, List.sum_cons, List.sum_nil, Value.category, Option.toList, List.contains_cons, List.contains_nil, true_or, or_true, true_and, Nat.zero_le, Nat.reduceAdd, Nat.reduceLeDiff, Nat.reduceLT, Nat.reduceBEq, Bool.true_or, Bool.or_true, Bool.false_or, Bool.or_false, ↓reduceIte, Bool.false_eq_true, Nat.add_zero, Nat.zero_add, Nat.reduceEqDiff, Nat.reduceSub, hf]
  exact ⟨fun q => ⟨by decide, hQ2 q⟩, fun q => ⟨by decide, hQ1 (by simpa using q)⟩⟩
