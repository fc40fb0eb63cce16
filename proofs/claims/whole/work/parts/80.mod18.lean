/-! the ear -/
theorem MdT.n {σ : ZS} {T : TD} (h : MdT σ T) {k : Nat} (hk : k < tD T) : zI σ 61 k = nI (tN T k) ∧ tN T k ≤ 7 := ⟨h.2.1.2.2.1 k hk, (h.2.2.2.2.2.1 k hk).1⟩
theorem MdT.e {σ : ZS} {T : TD} (h : MdT σ T) {k : Nat} (hk : k < 12) : zI σ 62 k = nI (tE T k) := h.2.1.2.2.2.1 k hk
def w_X12_sounding : WPt := fun args σ Q => match args with
  | [.ref x, .int h] => x = 56 ∧ ∃ T a, MdT σ T ∧ h = nI a ∧ a ≤ 8 ∧ Q (some (.int (nI (sndS T a)))) σ
  | _ => False
theorem m_X12_sounding : Meets yX12_sounding cX12_sounding 4 (some .int) 1 w_X12_sounding := by
  refine Meets.mk (by decide) fun args σ Φ h => ?_
  unfold w_X12_sounding at h
  split at h
  rotate_left
  · exact h.elim
  rename_i x h
  obtain ⟨x, rfl⟩ : ∃ q : Nat, q = x := ⟨x, rfl⟩
  obtain ⟨hx, T, a, hM, rfl, ha, hQ⟩ := h
  subst hx
  refine ⟨Nat.le_of_ble_eq_true rfl, fun C hC hR => ?_⟩
  have hD := hM.2.2.2.1
  have g := hM.1
  unfold ModS at g
  have e10 : zI σ 56 10 = nI (tD T) := hM.2.1.1
  refine r_X12_sounding_0 hC hR _ _ _ ?_
  simp only [T_X12_sounding_0, x_psh, x_ild, x_lld, x_ald, x_ist, x_ast, x_lst, x_inc, x_iadd, x_isub, x_imul, x_iand, x_ior, x_ixor, x_ishl, x_ishr, x_iushr, x_idiv, x_irem, x_ladd, x_land, x_lor, x_lshl, x_lshr, x_ineg, x_i2l, x_l2i, x_i2b, x_lcmp, x_dup, x_dup2, x_if_eq, x_if_ne, x_if_lt, x_if_ge, x_if_gt, x_if_le, x_ic_eq, x_ic_ne, x_ic_lt, x_ic_ge, x_ic_gt, x_ic_le, x_getI, x_getR, x_putI, x_putZ, x_putR, x_iald, x_bald, x_lald, x_iast, x_bast, x_last, x_alen, x_acp, x_mmax, x_mmin, x_callV, x_callS, x_iret, x_zret, x_lret, x_aret, x_vret, x_tsw, x_stop, zst1, zst2, zkill, zkl, zsplit, zmask, zent, zentL, List.getElem?_cons_zero, List.getElem?_cons_succ, List.set_cons_zero, List.set_cons_succ, List.set_nil, List.length_cons, List.length_nil, List.replicate, List.nil_append, List.cons_append, List.map_cons, List.map_nil, List.sum_cons, List.sum_nil, Value.category, Option.toList, List.contains_cons, List.contains_nil, true_or, or_true, true_and, Nat.zero_le, Nat.reduceAdd, Nat.reduceLeDiff, Nat.reduceLT, Nat.reduceBEq, Bool.true_or, Bool.or_true, Bool.false_or, Bool.or_false, ↓reduceIte, Bool.false_eq_true, Nat.add_zero, Nat.zero_add, Nat.reduceEqDiff, Nat.reduceSub, b2i_0, ne_eq, Nat.reduceEqDiff, not_false_eq_true, not_true_eq_false, true_and, and_true, true_implies, false_implies, implies_true, and_self]
  have key := zloop (P := fun d => WW C 4 [some (.ref 56), some (.int (nI a)), some (.int (nI (stS (fun d => decide (a = 8 ∨ a = tN T d)) d))), some (.int (nI d))] [] σ) (tD T) (fun d hd ih => ?_) ?_ 0 (by omega)
  · exact key
  · have hn := hM.n hd
    refine r_X12_sounding_4 hC hR _ _ _ ?_
    simp only [T_X12_sounding_4, x_psh, x_ild, x_lld, x_ald, x_ist, x_ast, x_lst, x_inc, x_iadd, x_isub, x_imul, x_iand, x_ior, x_ixor, x_ishl, x_ishr, x_iushr, x_idiv, x_irem, x_ladd, x_land, x_lor, x_lshl, x_lshr, x_ineg, x_i2l, x_l2i, x_i2b, x_lcmp, x_dup, x_dup2, x_if_eq, x_if_ne, x_if_lt, x_if_ge, x_if_gt, x_if_le, x_ic_eq, x_ic_ne, x_ic_lt, x_ic_ge, x_ic_gt, x_ic_le, x_getI, x_getR, x_putI, x_putZ, x_putR, x_iald, x_bald, x_lald, x_iast, x_bast, x_last, x_alen, x_acp, x_mmax, x_mmin, x_callV, x_callS, x_iret, x_zret, x_lret, x_aret, x_vret, x_tsw, x_stop, zst1, zst2, zkill, zkl, zsplit, zmask, zent, zentL, List.getElem?_cons_zero, List.getElem?_cons_succ, List.set_cons_zero, List.set_cons_succ, List.set_nil, List.length_cons, List.length_nil, List.replicate, List.nil_append, List.cons_append, List.map_cons, List.map_nil, List.sum_cons, List.sum_nil, Value.category, Option.toList, List.contains_cons, List.contains_nil, true_or, or_true, true_and, Nat.zero_le, Nat.reduceAdd, Nat.reduceLeDiff, Nat.reduceLT, Nat.reduceBEq, Bool.true_or, Bool.or_true, Bool.false_or, Bool.or_false, ↓reduceIte, Bool.false_eq_true, Nat.add_zero, Nat.zero_add, Nat.reduceEqDiff, Nat.reduceSub, g, e10, b2i_0, ne_eq, Nat.reduceEqDiff, not_false_eq_true, not_true_eq_false, true_and, and_true, true_implies, false_implies, implies_true, and_self]
    refine ⟨fun q => absurd q (nI_ge hd (by omega)), fun _ => ?_⟩
    rw [nI_clamp (by omega), hn.1, z_l8, nI_eq (by omega) (by omega), nI_eq (by omega) (by omega), z_l31, z_l1, z_p2 d (by omega), z_or, show (0 : Int32) = nI 0 from rfl, z_or, nI_add]
    rw [stS] at ih
    refine ⟨fun q => ?_, fun q => ⟨12, rfl, vp_in_nI (by omega) (by omega), fun q2 => ?_, fun q2 => ?_⟩⟩
    · rw [if_pos (by simp [q])] at ih
      exact ih
    · rw [if_neg (by simp [q]; omega)] at ih
      exact ih
    · rw [if_pos (by simp [q2])] at ih
      exact ih
  · refine r_X12_sounding_4 hC hR _ _ _ ?_
    simp only [T_X12_sounding_4, x_psh, x_ild, x_lld, x_ald, x_ist, x_ast, x_lst, x_inc, x_iadd, x_isub, x_imul, x_iand, x_ior, x_ixor, x_ishl, x_ishr, x_iushr, x_idiv, x_irem, x_ladd, x_land, x_lor, x_lshl, x_lshr, x_ineg, x_i2l, x_l2i, x_i2b, x_lcmp, x_dup, x_dup2, x_if_eq, x_if_ne, x_if_lt, x_if_ge, x_if_gt, x_if_le, x_ic_eq, x_ic_ne, x_ic_lt, x_ic_ge, x_ic_gt, x_ic_le, x_getI, x_getR, x_putI, x_putZ, x_putR, x_iald, x_bald, x_lald, x_iast, x_bast, x_last, x_alen, x_acp, x_mmax, x_mmin, x_callV, x_callS, x_iret, x_zret, x_lret, x_aret, x_vret, x_tsw, x_stop, zst1, zst2, zkill, zkl, zsplit, zmask, zent, zentL, List.getElem?_cons_zero, List.getElem?_cons_succ, List.set_cons_zero, List.set_cons_succ, List.set_nil, List.length_cons, List.length_nil, List.replicate, List.nil_append, List.cons_append, List.map_cons, List.map_nil, List.sum_cons, List.sum_nil, Value.category, Option.toList, List.contains_cons, List.contains_nil, true_or, or_true, true_and, Nat.zero_le, Nat.reduceAdd, Nat.reduceLeDiff, Nat.reduceLT, Nat.reduceBEq, Bool.true_or, Bool.or_true, Bool.false_or, Bool.or_false, ↓reduceIte, Bool.false_eq_true, Nat.add_zero, Nat.zero_add, Nat.reduceEqDiff, Nat.reduceSub, g, e10, b2i_0, ne_eq, Nat.reduceEqDiff, not_false_eq_true, not_true_eq_false, true_and, and_true, true_implies, false_implies, implies_true, and_self]
    exact ⟨fun _ => hQ, fun q => absurd (nI_le (Nat.le_refl _) (by omega)) q⟩
def w_X12_beside : WPt := fun args σ Q => match args with
  | [.ref x, .int h] => x = 56 ∧ ∃ T s, MdT σ T ∧ h = nI s ∧ s < 2 ^ 31 ∧ Q (some (.int (nI (arS T s)))) σ
  | _ => False
theorem b2i_1 (c : Prop) [Decidable c] : (b2i c = 1) = c := by
  unfold b2i
  split <;> simp_all
theorem m_X12_beside : Meets yX12_beside cX12_beside 4 (some .int) 1 w_X12_beside := by
  refine Meets.mk (by decide) fun args σ Φ h => ?_
  unfold w_X12_beside at h
  split at h
  rotate_left
  · exact h.elim
  rename_i x h
  obtain ⟨x, rfl⟩ : ∃ q : Nat, q = x := ⟨x, rfl⟩
  obtain ⟨hx, T, s, hM, rfl, hs, hQ⟩ := h
  subst hx
  refine ⟨Nat.le_of_ble_eq_true rfl, fun C hC hR => ?_⟩
  have hD := hM.2.2.2.1
  have g := hM.1
  unfold ModS at g
  have e10 : zI σ 56 10 = nI (tD T) := hM.2.1.1
  refine r_X12_beside_0 hC hR _ _ _ ?_
  simp only [T_X12_beside_0, x_psh, x_ild, x_lld, x_ald, x_ist, x_ast, x_lst, x_inc, x_iadd, x_isub, x_imul, x_iand, x_ior, x_ixor, x_ishl, x_ishr, x_iushr, x_idiv, x_irem, x_ladd, x_land, x_lor, x_lshl, x_lshr, x_ineg, x_i2l, x_l2i, x_i2b, x_lcmp, x_dup, x_dup2, x_if_eq, x_if_ne, x_if_lt, x_if_ge, x_if_gt, x_if_le, x_ic_eq, x_ic_ne, x_ic_lt, x_ic_ge, x_ic_gt, x_ic_le, x_getI, x_getR, x_putI, x_putZ, x_putR, x_iald, x_bald, x_lald, x_iast, x_bast, x_last, x_alen, x_acp, x_mmax, x_mmin, x_callV, x_callS, x_iret, x_zret, x_lret, x_aret, x_vret, x_tsw, x_stop, zst1, zst2, zkill, zkl, zsplit, zmask, zent, zentL, List.getElem?_cons_zero, List.getElem?_cons_succ, List.set_cons_zero, List.set_cons_succ, List.set_nil, List.length_cons, List.length_nil, List.replicate, List.nil_append, List.cons_append, List.map_cons, List.map_nil, List.sum_cons, List.sum_nil, Value.category, Option.toList, List.contains_cons, List.contains_nil, true_or, or_true, true_and, Nat.zero_le, Nat.reduceAdd, Nat.reduceLeDiff, Nat.reduceLT, Nat.reduceBEq, Bool.true_or, Bool.or_true, Bool.false_or, Bool.or_false, ↓reduceIte, Bool.false_eq_true, Nat.add_zero, Nat.zero_add, Nat.reduceEqDiff, Nat.reduceSub, b2i_0, ne_eq, Nat.reduceEqDiff, not_false_eq_true, not_true_eq_false, true_and, and_true, true_implies, false_implies, implies_true, and_self]
  have key := zloop (P := fun d => WW C 4 [some (.ref 56), some (.int (nI s)), some (.int (nI (orS (tE T) s d))), some (.int (nI d))] [] σ) (tD T) (fun d hd ih => ?_) ?_ 0 (by omega)
  · exact key
  · refine r_X12_beside_4 hC hR _ _ _ ?_
    simp only [T_X12_beside_4, x_psh, x_ild, x_lld, x_ald, x_ist, x_ast, x_lst, x_inc, x_iadd, x_isub, x_imul, x_iand, x_ior, x_ixor, x_ishl, x_ishr, x_iushr, x_idiv, x_irem, x_ladd, x_land, x_lor, x_lshl, x_lshr, x_ineg, x_i2l, x_l2i, x_i2b, x_lcmp, x_dup, x_dup2, x_if_eq, x_if_ne, x_if_lt, x_if_ge, x_if_gt, x_if_le, x_ic_eq, x_ic_ne, x_ic_lt, x_ic_ge, x_ic_gt, x_ic_le, x_getI, x_getR, x_putI, x_putZ, x_putR, x_iald, x_bald, x_lald, x_iast, x_bast, x_last, x_alen, x_acp, x_mmax, x_mmin, x_callV, x_callS, x_iret, x_zret, x_lret, x_aret, x_vret, x_tsw, x_stop, zst1, zst2, zkill, zkl, zsplit, zmask, zent, zentL, List.getElem?_cons_zero, List.getElem?_cons_succ, List.set_cons_zero, List.set_cons_succ, List.set_nil, List.length_cons, List.length_nil, List.replicate, List.nil_append, List.cons_append, List.map_cons, List.map_nil, List.sum_cons, List.sum_nil, Value.category, Option.toList, List.contains_cons, List.contains_nil, true_or, or_true, true_and, Nat.zero_le, Nat.reduceAdd, Nat.reduceLeDiff, Nat.reduceLT, Nat.reduceBEq, Bool.true_or, Bool.or_true, Bool.false_or, Bool.or_false, ↓reduceIte, Bool.false_eq_true, Nat.add_zero, Nat.zero_add, Nat.reduceEqDiff, Nat.reduceSub, g, e10, b2i_0, ne_eq, Nat.reduceEqDiff, not_false_eq_true, not_true_eq_false, true_and, and_true, true_implies, false_implies, implies_true, and_self]
    refine ⟨fun q => absurd q (nI_ge hd (by omega)), fun _ => ?_⟩
    rw [z_b1 hs (by omega), nI_clamp (by omega), hM.e (by omega), z_or, show (0 : Int32) = nI 0 from rfl, z_or, nI_i3]
    simp only [b2i_1]
    rw [orS] at ih
    refine ⟨fun q => ?_, fun q => ⟨12, rfl, vp_in_nI (by omega) (by omega), ?_⟩⟩
    · rw [if_neg q] at ih
      exact ih
    · rw [if_pos q] at ih
      exact ih
  · refine r_X12_beside_4 hC hR _ _ _ ?_
    simp only [T_X12_beside_4, x_psh, x_ild, x_lld, x_ald, x_ist, x_ast, x_lst, x_inc, x_iadd, x_isub, x_imul, x_iand, x_ior, x_ixor, x_ishl, x_ishr, x_iushr, x_idiv, x_irem, x_ladd, x_land, x_lor, x_lshl, x_lshr, x_ineg, x_i2l, x_l2i, x_i2b, x_lcmp, x_dup, x_dup2, x_if_eq, x_if_ne, x_if_lt, x_if_ge, x_if_gt, x_if_le, x_ic_eq, x_ic_ne, x_ic_lt, x_ic_ge, x_ic_gt, x_ic_le, x_getI, x_getR, x_putI, x_putZ, x_putR, x_iald, x_bald, x_lald, x_iast, x_bast, x_last, x_alen, x_acp, x_mmax, x_mmin, x_callV, x_callS, x_iret, x_zret, x_lret, x_aret, x_vret, x_tsw, x_stop, zst1, zst2, zkill, zkl, zsplit, zmask, zent, zentL, List.getElem?_cons_zero, List.getElem?_cons_succ, List.set_cons_zero, List.set_cons_succ, List.set_nil, List.length_cons, List.length_nil, List.replicate, List.nil_append, List.cons_append, List.map_cons, List.map_nil, List.sum_cons, List.sum_nil, Value.category, Option.toList, List.contains_cons, List.contains_nil, true_or, or_true, true_and, Nat.zero_le, Nat.reduceAdd, Nat.reduceLeDiff, Nat.reduceLT, Nat.reduceBEq, Bool.true_or, Bool.or_true, Bool.false_or, Bool.or_false, ↓reduceIte, Bool.false_eq_true, Nat.add_zero, Nat.zero_add, Nat.reduceEqDiff, Nat.reduceSub, g, e10, b2i_0, ne_eq, Nat.reduceEqDiff, not_false_eq_true, not_true_eq_false, true_and, and_true, true_implies, false_implies, implies_true, and_self]
    exact ⟨fun _ => hQ, fun q => absurd (nI_le (Nat.le_refl _) (by omega)) q⟩
theorem eF_lt (T : TD) (g : Nat → Nat) (i : Nat) : eF T g i < 2 ^ tD T := sndS_lt _ _
def w_X12_mayBe : WPt := fun args σ Q => match args with
  | [.ref x, .int d] => x = 56 ∧ PubM σ (q_mayBe · d) Q
  | _ => False
set_option maxHeartbeats 1000000 in
theorem m_X12_mayBe : Meets yX12_mayBe cX12_mayBe 5 (some .int) 2 w_X12_mayBe := by
  refine Meets.mk (by decide) fun args σ Φ h => ?_
  unfold w_X12_mayBe at h
  split at h
  rotate_left
  · exact h.elim
  rename_i x d
  obtain ⟨x, rfl⟩ : ∃ q : Nat, q = x := ⟨x, rfl⟩
  obtain ⟨hx, A, hK, hA, hQ⟩ := h
  subst hx
  refine ⟨Nat.le_of_ble_eq_true rfl, fun C hC hR => ?_⟩
  have hf := mod_f hK
  have hN := hA.1
  have hD1 := hA.t.1
  have hD := hA.t.2.1
  have hS := hA.t.2.2.1
  have hW := hA.2.2.1.2.1
  have hE := hA.2.2.1.2.2.1
  have hp := z_pow31 hD
  have hV := hK.2
  refine r_X12_mayBe_0 hC hR m_X12_in (by decide) m_X12_sounding (by decide) m_X12_beside (by decide) _ _ _ ?_
  simp only [T_X12_mayBe_0, x_psh, x_ild, x_lld, x_ald, x_ist, x_ast, x_lst, x_inc, x_iadd, x_isub, x_imul, x_iand, x_ior, x_ixor, x_ishl, x_ishr, x_iushr, x_idiv, x_irem, x_ladd, x_land, x_lor, x_lshl, x_lshr, x_ineg, x_i2l, x_l2i, x_i2b, x_lcmp, x_dup, x_dup2, x_if_eq, x_if_ne, x_if_lt, x_if_ge, x_if_gt, x_if_le, x_ic_eq, x_ic_ne, x_ic_lt, x_ic_ge, x_ic_gt, x_ic_le, x_getI, x_getR, x_putI, x_putZ, x_putR, x_iald, x_bald, x_lald, x_iast, x_bast, x_last, x_alen, x_acp, x_mmax, x_mmin, x_callV, x_callS, x_iret, x_zret, x_lret, x_aret, x_vret, x_tsw, x_stop, zst1, zst2, zkill, zkl, zsplit, zmask, zent, zentL, List.getElem?_cons_zero, List.getElem?_cons_succ, List.set_cons_zero, List.set_cons_succ, List.set_nil, List.length_cons, List.length_nil, List.replicate, List.nil_append, List.cons_append, List.map_cons, List.map_nil, List.sum_cons, List.sum_nil, Value.category, Option.toList, List.contains_cons, List.contains_nil, true_or, or_true, true_and, Nat.zero_le, Nat.reduceAdd, Nat.reduceLeDiff, Nat.reduceLT, Nat.reduceBEq, Bool.true_or, Bool.or_true, Bool.false_or, Bool.or_false, ↓reduceIte, Bool.false_eq_true, Nat.add_zero, Nat.zero_add, Nat.reduceEqDiff, Nat.reduceSub, hf, w_X12_in, b2i_0, ne_eq, Nat.reduceEqDiff, not_false_eq_true, not_true_eq_false, true_and, and_true, true_implies, false_implies, implies_true, and_self]
  unfold q_mayBe at hQ
  simp only [in_ix d (show xE (aX A) < 2 ^ 31 by omega), b2i_0, ne_eq, Nat.reduceEqDiff, not_false_eq_true, not_true_eq_false, true_and, and_true, true_implies, false_implies, implies_true, and_self]
  have hG : ∀ k, k < xE (aX A) → xG (aX A) k ≤ 8 := hA.2.2.1.2.2.2.2
  have hEr : ∀ k, k < xE (aX A) → zI σ 72 k = nI (xG (aX A) k) := fun k hk => hV.2.2.2.1.2 k hk
  have hM := MdT.of hK hA
  rcases ix_cs d (show xE (aX A) < 2 ^ 31 by omega) with ⟨i, hi, rfl, h1, h2⟩ | ⟨h1, h2⟩
  · simp only [h1] at hQ
    simp only [h2, w_X12_sounding, b2i_0, ne_eq, Nat.reduceEqDiff, not_false_eq_true, not_true_eq_false, true_and, and_true, true_implies, false_implies, implies_true, and_self]
    have hq := hQ σ (ZF.refl _ _ _) hK
    clear hQ
    generalize xE (aX A) = n at hq hi hG hEr hE hf
    have hFl := eF_lt (aT A) (xG (aX A))
    have hrl : ∀ j, rchS (aT A) (eF (aT A) (xG (aX A))) j < 2 ^ 31 := fun j => by
      have : rchS (aT A) (eF (aT A) (xG (aX A))) j < 2 ^ tD (aT A) := by
        cases j with
        | zero => exact hFl 0
        | succ j => exact Nat.lt_of_le_of_lt Nat.and_le_right (hFl _)
      omega
    have hol : ∀ j, opnS (aT A) (eF (aT A) (xG (aX A))) n j < 2 ^ 31 := fun j => by
      have : opnS (aT A) (eF (aT A) (xG (aX A))) n j < 2 ^ tD (aT A) := by
        cases j with
        | zero => exact hFl _
        | succ j => exact Nat.lt_of_le_of_lt Nat.and_le_right (hFl _)
      omega
    refine ⟨12, rfl, vp_in_nI (n := 0) (by omega) (by omega), aT A, xG (aX A) 0, hM, ?_, hG 0 (by omega), ?_⟩
    · rw [show (0 : Int32).toNatClampNeg = 0 from rfl, hEr 0 (by omega)]
    have down : ∀ r j, j + r = n - 1 - i → WW C 84 [some (.ref 56), some (.int (nI i)), some (.int (nI (rchS (aT A) (eF (aT A) (xG (aX A))) i))), some (.int (nI (opnS (aT A) (eF (aT A) (xG (aX A))) n j))), some (.int (iI ((n : Int) - 2 - j)))] [] σ := by
      intro r
      induction r with
      | zero =>
        intro j hj
        refine r_X12_mayBe_84 hC hR m_X12_in (by decide) m_X12_sounding (by decide) m_X12_beside (by decide) _ _ _ ?_
        simp only [T_X12_mayBe_84, x_psh, x_ild, x_lld, x_ald, x_ist, x_ast, x_lst, x_inc, x_iadd, x_isub, x_imul, x_iand, x_ior, x_ixor, x_ishl, x_ishr, x_iushr, x_idiv, x_irem, x_ladd, x_land, x_lor, x_lshl, x_lshr, x_ineg, x_i2l, x_l2i, x_i2b, x_lcmp, x_dup, x_dup2, x_if_eq, x_if_ne, x_if_lt, x_if_ge, x_if_gt, x_if_le, x_ic_eq, x_ic_ne, x_ic_lt, x_ic_ge, x_ic_gt, x_ic_le, x_getI, x_getR, x_putI, x_putZ, x_putR, x_iald, x_bald, x_lald, x_iast, x_bast, x_last, x_alen, x_acp, x_mmax, x_mmin, x_callV, x_callS, x_iret, x_zret, x_lret, x_aret, x_vret, x_tsw, x_stop, zst1, zst2, zkill, zkl, zsplit, zmask, zent, zentL, List.getElem?_cons_zero, List.getElem?_cons_succ, List.set_cons_zero, List.set_cons_succ, List.set_nil, List.length_cons, List.length_nil, List.replicate, List.nil_append, List.cons_append, List.map_cons, List.map_nil, List.sum_cons, List.sum_nil, Value.category, Option.toList, List.contains_cons, List.contains_nil, true_or, or_true, true_and, Nat.zero_le, Nat.reduceAdd, Nat.reduceLeDiff, Nat.reduceLT, Nat.reduceBEq, Bool.true_or, Bool.or_true, Bool.false_or, Bool.or_false, ↓reduceIte, Bool.false_eq_true, Nat.add_zero, Nat.zero_add, Nat.reduceEqDiff, Nat.reduceSub, b2i_0, ne_eq, Nat.reduceEqDiff, not_false_eq_true, not_true_eq_false, true_and, and_true, true_implies, false_implies, implies_true, and_self]
        rw [show nI i = iI i from iI_n i, iI_lt (by omega) (by omega), z_and]
        refine ⟨fun _ => ?_, fun q => absurd (by omega) q⟩
        have ej : j = n - 1 - i := by omega
        subst ej
        exact hq
      | succ r ih =>
        intro j hj
        refine r_X12_mayBe_84 hC hR m_X12_in (by decide) m_X12_sounding (by decide) m_X12_beside (by decide) _ _ _ ?_
        simp only [T_X12_mayBe_84, x_psh, x_ild, x_lld, x_ald, x_ist, x_ast, x_lst, x_inc, x_iadd, x_isub, x_imul, x_iand, x_ior, x_ixor, x_ishl, x_ishr, x_iushr, x_idiv, x_irem, x_ladd, x_land, x_lor, x_lshl, x_lshr, x_ineg, x_i2l, x_l2i, x_i2b, x_lcmp, x_dup, x_dup2, x_if_eq, x_if_ne, x_if_lt, x_if_ge, x_if_gt, x_if_le, x_ic_eq, x_ic_ne, x_ic_lt, x_ic_ge, x_ic_gt, x_ic_le, x_getI, x_getR, x_putI, x_putZ, x_putR, x_iald, x_bald, x_lald, x_iast, x_bast, x_last, x_alen, x_acp, x_mmax, x_mmin, x_callV, x_callS, x_iret, x_zret, x_lret, x_aret, x_vret, x_tsw, x_stop, zst1, zst2, zkill, zkl, zsplit, zmask, zent, zentL, List.getElem?_cons_zero, List.getElem?_cons_succ, List.set_cons_zero, List.set_cons_succ, List.set_nil, List.length_cons, List.length_nil, List.replicate, List.nil_append, List.cons_append, List.map_cons, List.map_nil, List.sum_cons, List.sum_nil, Value.category, Option.toList, List.contains_cons, List.contains_nil, true_or, or_true, true_and, Nat.zero_le, Nat.reduceAdd, Nat.reduceLeDiff, Nat.reduceLT, Nat.reduceBEq, Bool.true_or, Bool.or_true, Bool.false_or, Bool.or_false, ↓reduceIte, Bool.false_eq_true, Nat.add_zero, Nat.zero_add, Nat.reduceEqDiff, Nat.reduceSub, hf, w_X12_beside, w_X12_sounding, b2i_0, ne_eq, Nat.reduceEqDiff, not_false_eq_true, not_true_eq_false, true_and, and_true, true_implies, false_implies, implies_true, and_self]
        have e1 : iI ((n : Int) - 2 - j) = nI (n - 2 - j) := by rw [iI_n]; congr 1; omega
        rw [e1]
        refine ⟨fun q => absurd q (nI_nlt (by omega) (by omega)), fun _ => ⟨aT A, _, hM, rfl, hol j, 12, rfl, vp_in_nI (by omega) (by omega), aT A, xG (aX A) (n - 2 - j), hM, ?_, hG _ (by omega), ?_⟩⟩
        · rw [nI_clamp (by omega), hEr _ (by omega)]
        · have := ih (j + 1) (by omega)
          rw [opnS] at this
          rw [z_and, dn_dec]
          have e2 : dn (n - 2 - j) = iI ((n : Int) - 2 - ((j + 1 : Nat) : Int)) := by
            unfold dn
            rw [iI_n, show (1 : Int32) = iI 1 from rfl, iI_sub]
            congr 1
            omega
          rw [e2]
          exact this
    have up := zloop (P := fun j => WW C 32 [some (.ref 56), some (.int (nI i)), some (.int (nI (rchS (aT A) (eF (aT A) (xG (aX A))) j))), some (.int (nI (j + 1))), none] [] σ) i (fun j hj ih => ?_) ?_ 0 (by omega)
    · exact up
    · refine r_X12_mayBe_32 hC hR m_X12_in (by decide) m_X12_sounding (by decide) m_X12_beside (by decide) _ _ _ ?_
      simp only [T_X12_mayBe_32, x_psh, x_ild, x_lld, x_ald, x_ist, x_ast, x_lst, x_inc, x_iadd, x_isub, x_imul, x_iand, x_ior, x_ixor, x_ishl, x_ishr, x_iushr, x_idiv, x_irem, x_ladd, x_land, x_lor, x_lshl, x_lshr, x_ineg, x_i2l, x_l2i, x_i2b, x_lcmp, x_dup, x_dup2, x_if_eq, x_if_ne, x_if_lt, x_if_ge, x_if_gt, x_if_le, x_ic_eq, x_ic_ne, x_ic_lt, x_ic_ge, x_ic_gt, x_ic_le, x_getI, x_getR, x_putI, x_putZ, x_putR, x_iald, x_bald, x_lald, x_iast, x_bast, x_last, x_alen, x_acp, x_mmax, x_mmin, x_callV, x_callS, x_iret, x_zret, x_lret, x_aret, x_vret, x_tsw, x_stop, zst1, zst2, zkill, zkl, zsplit, zmask, zent, zentL, List.getElem?_cons_zero, List.getElem?_cons_succ, List.set_cons_zero, List.set_cons_succ, List.set_nil, List.length_cons, List.length_nil, List.replicate, List.nil_append, List.cons_append, List.map_cons, List.map_nil, List.sum_cons, List.sum_nil, Value.category, Option.toList, List.contains_cons, List.contains_nil, true_or, or_true, true_and, Nat.zero_le, Nat.reduceAdd, Nat.reduceLeDiff, Nat.reduceLT, Nat.reduceBEq, Bool.true_or, Bool.or_true, Bool.false_or, Bool.or_false, ↓reduceIte, Bool.false_eq_true, Nat.add_zero, Nat.zero_add, Nat.reduceEqDiff, Nat.reduceSub, hf, w_X12_beside, w_X12_sounding, b2i_0, ne_eq, Nat.reduceEqDiff, not_false_eq_true, not_true_eq_false, true_and, and_true, true_implies, false_implies, implies_true, and_self]
      refine ⟨fun q => absurd q (nI_nlt (by omega) (by omega)), fun _ => ⟨aT A, _, hM, rfl, hrl j, 12, rfl, vp_in_nI (by omega) (by omega), aT A, xG (aX A) (j + 1), hM, ?_, hG _ (by omega), ?_⟩⟩
      · rw [nI_clamp (by omega), hEr _ (by omega)]
      · rw [rchS] at ih
        rw [z_and, nI_i3]
        exact ih
    · refine r_X12_mayBe_32 hC hR m_X12_in (by decide) m_X12_sounding (by decide) m_X12_beside (by decide) _ _ _ ?_
      simp only [T_X12_mayBe_32, x_psh, x_ild, x_lld, x_ald, x_ist, x_ast, x_lst, x_inc, x_iadd, x_isub, x_imul, x_iand, x_ior, x_ixor, x_ishl, x_ishr, x_iushr, x_idiv, x_irem, x_ladd, x_land, x_lor, x_lshl, x_lshr, x_ineg, x_i2l, x_l2i, x_i2b, x_lcmp, x_dup, x_dup2, x_if_eq, x_if_ne, x_if_lt, x_if_ge, x_if_gt, x_if_le, x_ic_eq, x_ic_ne, x_ic_lt, x_ic_ge, x_ic_gt, x_ic_le, x_getI, x_getR, x_putI, x_putZ, x_putR, x_iald, x_bald, x_lald, x_iast, x_bast, x_last, x_alen, x_acp, x_mmax, x_mmin, x_callV, x_callS, x_iret, x_zret, x_lret, x_aret, x_vret, x_tsw, x_stop, zst1, zst2, zkill, zkl, zsplit, zmask, zent, zentL, List.getElem?_cons_zero, List.getElem?_cons_succ, List.set_cons_zero, List.set_cons_succ, List.set_nil, List.length_cons, List.length_nil, List.replicate, List.nil_append, List.cons_append, List.map_cons, List.map_nil, List.sum_cons, List.sum_nil, Value.category, Option.toList, List.contains_cons, List.contains_nil, true_or, or_true, true_and, Nat.zero_le, Nat.reduceAdd, Nat.reduceLeDiff, Nat.reduceLT, Nat.reduceBEq, Bool.true_or, Bool.or_true, Bool.false_or, Bool.or_false, ↓reduceIte, Bool.false_eq_true, Nat.add_zero, Nat.zero_add, Nat.reduceEqDiff, Nat.reduceSub, hf, w_X12_beside, w_X12_sounding, b2i_0, ne_eq, Nat.reduceEqDiff, not_false_eq_true, not_true_eq_false, true_and, and_true, true_implies, false_implies, implies_true, and_self]
      refine ⟨fun _ => ?_, fun q => absurd (nI_lt (by omega) (by omega)) q⟩
      have e1 : nI n - 1 = nI (n - 1) := pk_sub (b := 1) (by omega)
      have e2 : nI n - 2 = iI ((n : Int) - 2 - ((0 : Nat) : Int)) := by
        rw [iI_n, show (2 : Int32) = iI 2 from rfl, iI_sub]
        congr 1
        omega
      rw [e1, e2, nI_clamp (by omega)]
      refine ⟨12, rfl, vp_in_nI (by omega) (by omega), aT A, xG (aX A) (n - 1), hM, hEr _ (by omega), hG _ (by omega), ?_⟩
      exact down (n - 1 - i) 0 (by omega)
  · simp only [h1] at hQ
    simp only [h2, b2i_0, ne_eq, Nat.reduceEqDiff, not_false_eq_true, not_true_eq_false, true_and, and_true, true_implies, false_implies, implies_true, and_self]
    exact hQ σ (ZF.refl _ _ _) hK
