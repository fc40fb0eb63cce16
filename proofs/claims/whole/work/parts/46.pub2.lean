def q_wipe (A : AD) : Int32 × AD := (nI (aN A), setB A 0 (aB A))
def w_X11_wipe : WPt := fun args σ Q => match args with
  | [.ref x] => x = 1 ∧ PubI σ q_wipe Q
  | _ => False
theorem fr_one {σ : ZS} {i j lo hi : Nat} {v : Int32} (h1 : lo ≤ i) (h2 : i < hi) : Fr σ (sI σ i j v) lo hi := (Fr.refl σ lo hi).sI h1 h2
theorem m_X11_wipe : Meets yX11_wipe cX11_wipe 2 (some .int) 1 w_X11_wipe := by
  refine Meets.mk (by decide) fun args σ Φ h => ?_
  unfold w_X11_wipe at h
  split at h
  rotate_left
  · exact h.elim
  rename_i x
  obtain ⟨x, rfl⟩ : ∃ q : Nat, q = x := ⟨x, rfl⟩
  obtain ⟨hx, A, hK, hA, hQ⟩ := h
  subst hx
  refine ⟨Nat.le_of_ble_eq_true rfl, fun C hC hR => ?_⟩
  have hf := cls_f hK
  have hN := hA.1
  have hD1 := hA.t.1
  have hD := hA.t.2.1
  have hS := hA.t.2.2.1
  have hW := hA.2.2.1.2.1
  have hE := hA.2.2.1.2.2.1
  have hT := hK.tT
  refine r_X11_wipe_0 hC hR _ _ _ ?_
  simp only [T_X11_wipe_0, x_psh, x_ild, x_lld, x_ald, x_ist, x_ast, x_lst, x_inc, x_iadd, x_isub, x_imul, x_iand, x_ior, x_ixor, x_ishl, x_ishr, x_iushr, x_idiv, x_irem, x_ladd, x_land, x_lor, x_lshl, x_lshr, x_ineg, x_i2l, x_l2i, x_i2b, x_lcmp, x_dup, x_dup2, x_if_eq, x_if_ne, x_if_lt, x_if_ge, x_if_gt, x_if_le, x_ic_eq, x_ic_ne, x_ic_lt, x_ic_ge, x_ic_gt, x_ic_le, x_getI, x_getR, x_putI, x_putZ, x_putR, x_iald, x_bald, x_lald, x_iast, x_bast, x_last, x_alen, x_acp, x_mmax, x_mmin, x_callV, x_callS, x_iret, x_zret, x_lret, x_aret, x_vret, x_tsw, x_stop, zst1, zst2, zkill, zkl, zsplit, zmask, zent, zentL, List.getElem?_cons_zero, List.getElem?_cons_succ, List.set_cons_zero, List.set_cons_succ, List.set_nil, List.length_cons, List.length_nil, List.replicate, List.nil_append, List.cons_append, List.map_cons, List.map_nil, List.sum_cons, List.sum_nil, Value.category, Option.toList, List.contains_cons, List.contains_nil, true_or, or_true, true_and, Nat.zero_le, Nat.reduceAdd, Nat.reduceLeDiff, Nat.reduceLT, Nat.reduceBEq, Bool.true_or, Bool.or_true, Bool.false_or, Bool.or_false, ↓reduceIte, Bool.false_eq_true, Nat.add_zero, Nat.zero_add, Nat.reduceEqDiff, Nat.reduceSub, hf]
  have hK1 : ClsR (sI σ 2 1 0) (setB A 0 (aB A)) := hK.text (fr_one (by omega) (by omega)) ⟨by rw [zI_sI, if_pos rfl, pk_us]; rfl, by omega, fun k hk => absurd hk (by omega)⟩
  exact ⟨by decide, by decide, hQ _ (Fr.z (fr_one (lo := 2) (hi := 3) (by omega) (by omega)) (by omega) (by omega)) hK1⟩
def q_fault (A : AD) : Int32 × AD := (i2 (pRd (aN A) (aB A)).1, A)
def w_X11_fault : WPt := fun args σ Q => match args with
  | [.ref x] => x = 1 ∧ PubI σ q_fault Q
  | _ => False
theorem ClsR.tO {σ : ZS} {A : AD} (h : ClsR σ A) : ∃ T, TownR σ 4 T := ⟨h.2.2.1.choose, h.1.2.2.2.2.2.2.2.2.2.2.2.1, h.2.2.1.choose_spec⟩
theorem m_X11_fault : Meets yX11_fault cX11_fault 1 (some .int) 6 w_X11_fault := by
  refine Meets.mk (by decide) fun args σ Φ h => ?_
  unfold w_X11_fault at h
  split at h
  rotate_left
  · exact h.elim
  rename_i x
  obtain ⟨x, rfl⟩ : ∃ q : Nat, q = x := ⟨x, rfl⟩
  obtain ⟨hx, A, hK, hA, hQ⟩ := h
  subst hx
  refine ⟨Nat.le_of_ble_eq_true rfl, fun C hC hR => ?_⟩
  have hf := cls_f hK
  have hN := hA.1
  have hD1 := hA.t.1
  have hD := hA.t.2.1
  have hS := hA.t.2.2.1
  have hW := hA.2.2.1.2.1
  have hE := hA.2.2.1.2.2.1
  have hT := hK.tT
  obtain ⟨T, hO⟩ := hK.tO
  refine r_X11_fault_0 hC hR m_X7_readInto (by decide) _ _ _ ?_
  simp only [T_X11_fault_0, x_psh, x_ild, x_lld, x_ald, x_ist, x_ast, x_lst, x_inc, x_iadd, x_isub, x_imul, x_iand, x_ior, x_ixor, x_ishl, x_ishr, x_iushr, x_idiv, x_irem, x_ladd, x_land, x_lor, x_lshl, x_lshr, x_ineg, x_i2l, x_l2i, x_i2b, x_lcmp, x_dup, x_dup2, x_if_eq, x_if_ne, x_if_lt, x_if_ge, x_if_gt, x_if_le, x_ic_eq, x_ic_ne, x_ic_lt, x_ic_ge, x_ic_gt, x_ic_le, x_getI, x_getR, x_putI, x_putZ, x_putR, x_iald, x_bald, x_lald, x_iast, x_bast, x_last, x_alen, x_acp, x_mmax, x_mmin, x_callV, x_callS, x_iret, x_zret, x_lret, x_aret, x_vret, x_tsw, x_stop, zst1, zst2, zkill, zkl, zsplit, zmask, zent, zentL, List.getElem?_cons_zero, List.getElem?_cons_succ, List.set_cons_zero, List.set_cons_succ, List.set_nil, List.length_cons, List.length_nil, List.replicate, List.nil_append, List.cons_append, List.map_cons, List.map_nil, List.sum_cons, List.sum_nil, Value.category, Option.toList, List.contains_cons, List.contains_nil, true_or, or_true, true_and, Nat.zero_le, Nat.reduceAdd, Nat.reduceLeDiff, Nat.reduceLT, Nat.reduceBEq, Bool.true_or, Bool.or_true, Bool.false_or, Bool.or_false, ↓reduceIte, Bool.false_eq_true, Nat.add_zero, Nat.zero_add, Nat.reduceEqDiff, Nat.reduceSub, hf, w_X7_readInto]
  exact ⟨by decide, by decide, aN A, aB A, T, by unfold apPT; decide, hK.tX.1, hK.tX.2, hO, fun σ' f1 s1 v1 t1 => hQ σ' (Fr.z f1 (by omega) (by omega)) (hK.told f1 v1 t1.2)⟩
def q_town (A : AD) : Int32 × AD := match pRd (aN A) (aB A) with
  | (some _, _) => (-3, A)
  | (none, T) => (nI (tD T), setE (setW (setT A T) 0 (xF (aX A))) 0 (xG (aX A)))
def w_X11_town : WPt := fun args σ Q => match args with
  | [.ref x] => x = 1 ∧ PubI σ q_town Q
  | _ => False
set_option maxHeartbeats 1000000 in
theorem m_X11_town : Meets yX11_town cX11_town 1 (some .int) 6 w_X11_town := by
  refine Meets.mk (by decide) fun args σ Φ h => ?_
  unfold w_X11_town at h
  split at h
  rotate_left
  · exact h.elim
  rename_i x
  obtain ⟨x, rfl⟩ : ∃ q : Nat, q = x := ⟨x, rfl⟩
  obtain ⟨hx, A, hK, hA, hQ⟩ := h
  subst hx
  refine ⟨Nat.le_of_ble_eq_true rfl, fun C hC hR => ?_⟩
  have hf := cls_f hK
  have hN := hA.1
  have hD1 := hA.t.1
  have hD := hA.t.2.1
  have hS := hA.t.2.2.1
  have hW := hA.2.2.1.2.1
  have hE := hA.2.2.1.2.2.1
  have hT := hK.tT
  obtain ⟨T, hO⟩ := hK.tO
  refine r_X11_town_0 hC hR m_X7_readInto (by decide) m_X8_copyFrom (by decide) _ _ _ ?_
  simp only [T_X11_town_0, x_psh, x_ild, x_lld, x_ald, x_ist, x_ast, x_lst, x_inc, x_iadd, x_isub, x_imul, x_iand, x_ior, x_ixor, x_ishl, x_ishr, x_iushr, x_idiv, x_irem, x_ladd, x_land, x_lor, x_lshl, x_lshr, x_ineg, x_i2l, x_l2i, x_i2b, x_lcmp, x_dup, x_dup2, x_if_eq, x_if_ne, x_if_lt, x_if_ge, x_if_gt, x_if_le, x_ic_eq, x_ic_ne, x_ic_lt, x_ic_ge, x_ic_gt, x_ic_le, x_getI, x_getR, x_putI, x_putZ, x_putR, x_iald, x_bald, x_lald, x_iast, x_bast, x_last, x_alen, x_acp, x_mmax, x_mmin, x_callV, x_callS, x_iret, x_zret, x_lret, x_aret, x_vret, x_tsw, x_stop, zst1, zst2, zkill, zkl, zsplit, zmask, zent, zentL, List.getElem?_cons_zero, List.getElem?_cons_succ, List.set_cons_zero, List.set_cons_succ, List.set_nil, List.length_cons, List.length_nil, List.replicate, List.nil_append, List.cons_append, List.map_cons, List.map_nil, List.sum_cons, List.sum_nil, Value.category, Option.toList, List.contains_cons, List.contains_nil, true_or, or_true, true_and, Nat.zero_le, Nat.reduceAdd, Nat.reduceLeDiff, Nat.reduceLT, Nat.reduceBEq, Bool.true_or, Bool.or_true, Bool.false_or, Bool.or_false, ↓reduceIte, Bool.false_eq_true, Nat.add_zero, Nat.zero_add, Nat.reduceEqDiff, Nat.reduceSub, hf, w_X7_readInto, w_X8_copyFrom]
  refine ⟨by decide, by decide, aN A, aB A, T, by unfold apPT; decide, hK.tX.1, hK.tX.2, hO, fun σ1 f1 s1 v1 t1 => ?_⟩
  have hK1 : ClsR σ1 A := hK.told f1 v1 t1.2
  have hz1 : ZF σ σ1 1 56 := Fr.z f1 (by omega) (by omega)
  unfold q_town at hQ
  generalize hp : pRd (aN A) (aB A) = r at t1 hQ
  obtain ⟨o, T'⟩ := r
  cases o with
  | some p =>
    have hp96 : i2 (some p) ≠ -9 := by
      have := pRd_pl hA.1 (by rw [hp] : (pRd (aN A) (aB A)).1 = some p)
      exact z_m9 (by omega)
    exact ⟨fun q => absurd q hp96, fun _ => hQ σ1 hz1 hK1⟩
  | none =>
    refine ⟨fun _ => ?_, fun q => absurd rfl q⟩
    have g1 := cls_f hK1
    simp only [g1, x_psh, x_ild, x_lld, x_ald, x_ist, x_ast, x_lst, x_inc, x_iadd, x_isub, x_imul, x_iand, x_ior, x_ixor, x_ishl, x_ishr, x_iushr, x_idiv, x_irem, x_ladd, x_land, x_lor, x_lshl, x_lshr, x_ineg, x_i2l, x_l2i, x_i2b, x_lcmp, x_dup, x_dup2, x_if_eq, x_if_ne, x_if_lt, x_if_ge, x_if_gt, x_if_le, x_ic_eq, x_ic_ne, x_ic_lt, x_ic_ge, x_ic_gt, x_ic_le, x_getI, x_getR, x_putI, x_putZ, x_putR, x_iald, x_bald, x_lald, x_iast, x_bast, x_last, x_alen, x_acp, x_mmax, x_mmin, x_callV, x_callS, x_iret, x_zret, x_lret, x_aret, x_vret, x_tsw, x_stop, zst1, zst2, zkill, zkl, zsplit, zmask, zent, zentL, List.getElem?_cons_zero, List.getElem?_cons_succ, List.set_cons_zero, List.set_cons_succ, List.set_nil, List.length_cons, List.length_nil, List.replicate, List.nil_append, List.cons_append, List.map_cons, List.map_nil, List.sum_cons, List.sum_nil, Value.category, Option.toList, List.contains_cons, List.contains_nil, true_or, or_true, true_and, Nat.zero_le, Nat.reduceAdd, Nat.reduceLeDiff, Nat.reduceLT, Nat.reduceBEq, Bool.true_or, Bool.or_true, Bool.false_or, Bool.or_false, ↓reduceIte, Bool.false_eq_true, Nat.add_zero, Nat.zero_add, Nat.reduceEqDiff, Nat.reduceSub]
    refine ⟨by decide, by decide, by decide, T', hK1.tT.1, t1, by unfold apart5; decide, fun σ2 f2 t2 => ?_⟩
    have hK2 := hK1.town f2 t2.2
    have g2 := cls_f hK2
    simp only [g2, zd_sI, zR_sI]
    have hK3 : ClsR (sI σ2 15 1 0) (setW (setT A T') 0 (xF (aX A))) := hK2.walk (fr_one (by omega) (by omega)) ⟨by rw [zI_sI, if_pos rfl, pk_us]; rfl, by omega, fun k hk => absurd hk (by omega)⟩
    have hK4 : ClsR (sI (sI σ2 15 1 0) 17 1 0) (setE (setW (setT A T') 0 (xF (aX A))) 0 (xG (aX A))) := hK3.ear (fr_one (by omega) (by omega)) ⟨by rw [zI_sI, if_pos rfl, pk_us]; rfl, by omega, fun k hk => absurd hk (by omega)⟩
    have g4 := cls_f hK4
    simp only [g4]
    refine ⟨trivial, by decide, trivial, by decide, trivial, trivial, by decide, trivial, by decide, trivial, trivial, by decide, trivial, by decide, trivial, ?_⟩
    exact hQ _ (hz1.trans ((Fr.z f2 (by omega) (by omega)).trans ((Fr.z (fr_one (lo := 15) (hi := 16) (by omega) (by omega)) (by omega) (by omega)).trans (Fr.z (fr_one (lo := 17) (hi := 18) (by omega) (by omega)) (by omega) (by omega))))) hK4
