def w_X12_best : WPt := fun args σ Q => match args with
  | [.ref x, .int d, .int y] => x = 56 ∧ PubM σ (q_best · d y) Q
  | _ => False
set_option maxHeartbeats 1000000 in
theorem m_X12_best : Meets yX12_best cX12_best 4 (some .int) 4 w_X12_best := by
  refine Meets.mk (by decide) fun args σ Φ h => ?_
  unfold w_X12_best at h
  split at h
  rotate_left
  · exact h.elim
  rename_i x d y
  obtain ⟨x, rfl⟩ : ∃ q : Nat, q = x := ⟨x, rfl⟩
  obtain ⟨hx, A, hK, hA, hQ⟩ := h
  subst hx
  refine ⟨Nat.le_of_ble_eq_true rfl, fun C hC hR => ?_⟩
  have hf := mod_f hK
  have hN := hA.1
  have hD1 := hA.t.1
  have hD := hA.t.2.1
  have hS := hA.t.2.2.1
  have hW := hA.2.2.1.2.1
  have hE := hA.2.2.1.2.2.1
  have hp := z_pow31 hD
  have hV := hK.2
  refine r_X12_best_0 hC hR m_X12_isSong (by decide) m_X12_isDoor (by decide) m_X12_layWorth (by decide) m_X12_worthOf (by decide) _ _ _ ?_
  simp only [T_X12_best_0, x_psh, x_ild, x_lld, x_ald, x_ist, x_ast, x_lst, x_inc, x_iadd, x_isub, x_imul, x_iand, x_ior, x_ixor, x_ishl, x_ishr, x_iushr, x_idiv, x_irem, x_ladd, x_land, x_lor, x_lshl, x_lshr, x_ineg, x_i2l, x_l2i, x_i2b, x_lcmp, x_dup, x_dup2, x_if_eq, x_if_ne, x_if_lt, x_if_ge, x_if_gt, x_if_le, x_ic_eq, x_ic_ne, x_ic_lt, x_ic_ge, x_ic_gt, x_ic_le, x_getI, x_getR, x_putI, x_putZ, x_putR, x_iald, x_bald, x_lald, x_iast, x_bast, x_last, x_alen, x_acp, x_mmax, x_mmin, x_callV, x_callS, x_iret, x_zret, x_lret, x_aret, x_vret, x_tsw, x_stop, zst1, zst2, zkill, zkl, zsplit, zmask, zent, zentL, List.getElem?_cons_zero, List.getElem?_cons_succ, List.set_cons_zero, List.set_cons_succ, List.set_nil, List.length_cons, List.length_nil, List.replicate, List.nil_append, List.cons_append, List.map_cons, List.map_nil, List.sum_cons, List.sum_nil, Value.category, Option.toList, List.contains_cons, List.contains_nil, true_or, or_true, true_and, Nat.zero_le, Nat.reduceAdd, Nat.reduceLeDiff, Nat.reduceLT, Nat.reduceBEq, Bool.true_or, Bool.or_true, Bool.false_or, Bool.or_false, ↓reduceIte, Bool.false_eq_true, Nat.add_zero, Nat.zero_add, Nat.reduceEqDiff, Nat.reduceSub, hf, w_X12_isSong, w_X12_isDoor, w_X12_layWorth, b2i_0, ne_eq, Nat.reduceEqDiff, not_false_eq_true, not_true_eq_false, true_and, and_true, true_implies, false_implies, implies_true, and_self]
  unfold q_best at hQ
  refine ⟨tS (aT A), rfl, by omega, ?_⟩
  rcases ix_cs d (show tS (aT A) < 2 ^ 31 by omega) with ⟨k, hk, rfl, h1, h2⟩ | ⟨h1, h2⟩
  rotate_left
  · simp only [h1] at hQ
    simp only [h2, b2i_0, ne_eq, Nat.reduceEqDiff, not_false_eq_true, not_true_eq_false, true_and, and_true, true_implies, false_implies, implies_true, and_self]
    exact hQ σ (ZF.refl _ _ _) hK
  simp only [h1] at hQ
  simp only [h2, b2i_0, ne_eq, Nat.reduceEqDiff, not_false_eq_true, not_true_eq_false, true_and, and_true, true_implies, false_implies, implies_true, and_self]
  refine ⟨tD (aT A), rfl, hD, ?_⟩
  rcases ix_cs y (show tD (aT A) < 2 ^ 31 by omega) with ⟨j, hj, rfl, h3, h4⟩ | ⟨h3, h4⟩
  rotate_left
  · simp only [h3] at hQ
    simp only [h4, b2i_0, ne_eq, Nat.reduceEqDiff, not_false_eq_true, not_true_eq_false, true_and, and_true, true_implies, false_implies, implies_true, and_self]
    exact hQ σ (ZF.refl _ _ _) hK
  simp only [h3] at hQ
  simp only [h4, b2i_0, ne_eq, Nat.reduceEqDiff, not_false_eq_true, not_true_eq_false, true_and, and_true, true_implies, false_implies, implies_true, and_self]
  refine ⟨aT A, k, MdT.of hK hA, rfl, hk, fun σ1 hf1 hr => ?_⟩
  have hq := hf1.m (by omega)
  have hK1 := hq.r hK
  have g := mod_f hK1
  have hz := hQ σ1 hq.z hK1
  have hL := hA.l hk
  have hM1 := MdT.of hK1 hA
  have h2j : 2 ^ j < 2 ^ tD (aT A) := Nat.pow_lt_pow_right (by decide) hj
  have hv := hr (2 ^ j) j (Nat.two_pow_pos j) h2j hj
  rw [show dif (2 ^ tD (aT A) - 1) (2 ^ j) = clrB (2 ^ tD (aT A) - 1) j from rfl] at hv
  have hga : gnS (aT A) (aF (aT A) k) j (clrB (2 ^ tD (aT A) - 1) j) = gaS (aT A) (aF (aT A) k) j := rfl
  rw [hga] at hv
  have hgl : gaS (aT A) (aF (aT A) k) j ≤ 14 ∧ 1 ≤ gaS (aT A) (aF (aT A) k) j := gnS_le _ _ _ (Nat.lt_of_lt_of_le (clrB_lt (n := tD (aT A)) (by have := Nat.two_pow_pos (tD (aT A)); omega)) hp)
  simp only [g, w_X12_worthOf, x_psh, x_ild, x_lld, x_ald, x_ist, x_ast, x_lst, x_inc, x_iadd, x_isub, x_imul, x_iand, x_ior, x_ixor, x_ishl, x_ishr, x_iushr, x_idiv, x_irem, x_ladd, x_land, x_lor, x_lshl, x_lshr, x_ineg, x_i2l, x_l2i, x_i2b, x_lcmp, x_dup, x_dup2, x_if_eq, x_if_ne, x_if_lt, x_if_ge, x_if_gt, x_if_le, x_ic_eq, x_ic_ne, x_ic_lt, x_ic_ge, x_ic_gt, x_ic_le, x_getI, x_getR, x_putI, x_putZ, x_putR, x_iald, x_bald, x_lald, x_iast, x_bast, x_last, x_alen, x_acp, x_mmax, x_mmin, x_callV, x_callS, x_iret, x_zret, x_lret, x_aret, x_vret, x_tsw, x_stop, zst1, zst2, zkill, zkl, zsplit, zmask, zent, zentL, List.getElem?_cons_zero, List.getElem?_cons_succ, List.set_cons_zero, List.set_cons_succ, List.set_nil, List.length_cons, List.length_nil, List.replicate, List.nil_append, List.cons_append, List.map_cons, List.map_nil, List.sum_cons, List.sum_nil, Value.category, Option.toList, List.contains_cons, List.contains_nil, true_or, or_true, true_and, Nat.zero_le, Nat.reduceAdd, Nat.reduceLeDiff, Nat.reduceLT, Nat.reduceBEq, Bool.true_or, Bool.or_true, Bool.false_or, Bool.or_false, ↓reduceIte, Bool.false_eq_true, Nat.add_zero, Nat.zero_add, Nat.reduceEqDiff, Nat.reduceSub, b2i_0, ne_eq, Nat.reduceEqDiff, not_false_eq_true, not_true_eq_false, true_and, and_true, true_implies, false_implies, implies_true, and_self]
  rw [z_l31, z_l1, z_p2 j (by omega), z_l12, z_ix12, nI_clamp (by omega), hv]
  simp only [wvI_9 _ (show gaS (aT A) (aF (aT A) k) j < 20 by omega) hgl.2]
  unfold bwS at hz
  refine ⟨49152, rfl, vp_in_nI (by omega) (by omega), fun q => ⟨aT A, k, 0, j, hM1, rfl, hk, rfl, by omega, rfl, hj, ?_⟩, fun q => ?_⟩
  · rw [if_neg q] at hz
    have e : wvI (gaS (aT A) (aF (aT A) k) j) = nI (gaS (aT A) (aF (aT A) k) j - 2) := if_neg q
    rw [e, nI_add]
    exact hz
  · rw [if_pos q] at hz
    exact hz
/-- there is always a next door -/
theorem mx_hit {p : Nat → Bool} {v : Nat → Nat} : ∀ n, mxS p v n ≠ 1 → ∃ o, o < n ∧ p o = true ∧ v o = mxS p v n
  | 0, h => absurd rfl h
  | n + 1, h => by
    rw [mxS] at h ⊢
    by_cases hp : p n = true
    · rw [if_pos hp] at h ⊢
      by_cases hm : mxS p v n ≤ v n
      · rw [Nat.max_eq_right hm]
        exact ⟨n, by omega, hp, rfl⟩
      · rw [Nat.max_eq_left (by omega)] at h ⊢
        obtain ⟨o, h1, h2, h3⟩ := mx_hit n h
        exact ⟨o, by omega, h2, h3⟩
    · rw [if_neg hp] at h ⊢
      obtain ⟨o, h1, h2, h3⟩ := mx_hit n h
      exact ⟨o, by omega, h2, h3⟩
theorem nb_hit {T : TD} {F : Nat → Nat} {d r : Nat} (hr : r < 4096) (h0 : r ≠ 0) (hg : gnS T F d r ≠ 1) : ∃ e, nbS T F d r = some e ∧ e < tD T ∧ (tE T d &&& r).testBit e = true ∧ gtS T F e r = gnS T F d r ∧ ∀ o, o < e → ¬ ((tE T d &&& r).testBit o = true ∧ gtS T F o r = gnS T F d r) := by
  have hx := gnS_eq T F d hr h0
  rw [hx] at hg
  obtain ⟨o, h1, h2, h3⟩ := mx_hit _ hg
  rw [← hx] at h3
  generalize hP : (fun e => (tE T d &&& r).testBit e && decide (gtS T F e r = gnS T F d r)) = P
  have hPo : P o = true := by rw [← hP]; simp [h2, h3]
  have hlt : fstB P (tD T) < tD T := by
    refine Classical.byContradiction fun hc => ?_
    have := fstB_no P (tD T) o (by omega)
    rw [hPo] at this
    cases this
  have hy := fstB_yes P (tD T) hlt
  refine ⟨fstB P (tD T), ?_, hlt, ?_, ?_, fun o ho hc => ?_⟩
  · unfold nbS
    rw [hP, if_pos hlt]
  · rw [← hP] at hy
    simp only [Bool.and_eq_true, decide_eq_true_eq] at hy
    rw [hP] at hy
    exact hy.1
  · rw [← hP] at hy
    simp only [Bool.and_eq_true, decide_eq_true_eq] at hy
    rw [hP] at hy
    exact hy.2
  · have := fstB_no P (tD T) o ho
    rw [← hP] at this
    simp [hc.1, hc.2] at this
def w_X12_bestAt : WPt := fun args σ Q => match args with
  | [.ref x, .int d, .int y, .int z] => x = 56 ∧ PubM σ (q_bestAt · d y z) Q
  | _ => False
set_option maxHeartbeats 4000000 in
theorem m_X12_bestAt : Meets yX12_bestAt cX12_bestAt 11 (some .int) 4 w_X12_bestAt := by
  refine Meets.mk (by decide) fun args σ Φ h => ?_
  unfold w_X12_bestAt at h
  split at h
  rotate_left
  · exact h.elim
  rename_i x d y z
  obtain ⟨x, rfl⟩ : ∃ q : Nat, q = x := ⟨x, rfl⟩
  obtain ⟨hx, A, hK, hA, hQ⟩ := h
  subst hx
  refine ⟨Nat.le_of_ble_eq_true rfl, fun C hC hR => ?_⟩
  have hf := mod_f hK
  have hN := hA.1
  have hD1 := hA.t.1
  have hD := hA.t.2.1
  have hS := hA.t.2.2.1
  have hW := hA.2.2.1.2.1
  have hE := hA.2.2.1.2.2.1
  have hp := z_pow31 hD
  have hV := hK.2
  refine r_X12_bestAt_0 hC hR m_X12_isSong (by decide) m_X12_isDoor (by decide) m_X12_layWorth (by decide) m_X12_in (by decide) m_X12_worthOf (by decide) _ _ _ ?_
  simp only [T_X12_bestAt_0, x_psh, x_ild, x_lld, x_ald, x_ist, x_ast, x_lst, x_inc, x_iadd, x_isub, x_imul, x_iand, x_ior, x_ixor, x_ishl, x_ishr, x_iushr, x_idiv, x_irem, x_ladd, x_land, x_lor, x_lshl, x_lshr, x_ineg, x_i2l, x_l2i, x_i2b, x_lcmp, x_dup, x_dup2, x_if_eq, x_if_ne, x_if_lt, x_if_ge, x_if_gt, x_if_le, x_ic_eq, x_ic_ne, x_ic_lt, x_ic_ge, x_ic_gt, x_ic_le, x_getI, x_getR, x_putI, x_putZ, x_putR, x_iald, x_bald, x_lald, x_iast, x_bast, x_last, x_alen, x_acp, x_mmax, x_mmin, x_callV, x_callS, x_iret, x_zret, x_lret, x_aret, x_vret, x_tsw, x_stop, zst1, zst2, zkill, zkl, zsplit, zmask, zent, zentL, List.getElem?_cons_zero, List.getElem?_cons_succ, List.set_cons_zero, List.set_cons_succ, List.set_nil, List.length_cons, List.length_nil, List.replicate, List.nil_append, List.cons_append, List.map_cons, List.map_nil, List.sum_cons, List.sum_nil, Value.category, Option.toList, List.contains_cons, List.contains_nil, true_or, or_true, true_and, Nat.zero_le, Nat.reduceAdd, Nat.reduceLeDiff, Nat.reduceLT, Nat.reduceBEq, Bool.true_or, Bool.or_true, Bool.false_or, Bool.or_false, ↓reduceIte, Bool.false_eq_true, Nat.add_zero, Nat.zero_add, Nat.reduceEqDiff, Nat.reduceSub, hf, w_X12_isSong, w_X12_isDoor, w_X12_layWorth, b2i_0, ne_eq, Nat.reduceEqDiff, not_false_eq_true, not_true_eq_false, true_and, and_true, true_implies, false_implies, implies_true, and_self]
  unfold q_bestAt at hQ
  refine ⟨tS (aT A), rfl, by omega, ?_⟩
  rcases ix_cs d (show tS (aT A) < 2 ^ 31 by omega) with ⟨k, hk, rfl, h1, h2⟩ | ⟨h1, h2⟩
  rotate_left
  · simp only [h1] at hQ
    simp only [h2, b2i_0, ne_eq, Nat.reduceEqDiff, not_false_eq_true, not_true_eq_false, true_and, and_true, true_implies, false_implies, implies_true, and_self]
    exact hQ σ (ZF.refl _ _ _) hK
  simp only [h1] at hQ
  simp only [h2, b2i_0, ne_eq, Nat.reduceEqDiff, not_false_eq_true, not_true_eq_false, true_and, and_true, true_implies, false_implies, implies_true, and_self]
  refine ⟨tD (aT A), rfl, hD, ?_⟩
  rcases ix_cs y (show tD (aT A) < 2 ^ 31 by omega) with ⟨j, hj, rfl, h3, h4⟩ | ⟨h3, h4⟩
  rotate_left
  · simp only [h3] at hQ
    simp only [h4, b2i_0, ne_eq, Nat.reduceEqDiff, not_false_eq_true, not_true_eq_false, true_and, and_true, true_implies, false_implies, implies_true, and_self]
    exact hQ σ (ZF.refl _ _ _) hK
  simp only [h3] at hQ
  simp only [h4, b2i_0, ne_eq, Nat.reduceEqDiff, not_false_eq_true, not_true_eq_false, true_and, and_true, true_implies, false_implies, implies_true, and_self]
  refine ⟨aT A, k, MdT.of hK hA, rfl, hk, fun σ1 hf1 hr => ?_⟩
  have hq := hf1.m (by omega)
  have hK1 := hq.r hK
  have g := mod_f hK1
  have hz := hQ σ1 hq.z
  have hL := hA.l hk
  have hT := hA.t
  have hM1 := MdT.of hK1 hA
  have hEτ : ∀ j, j < 12 → zI σ1 62 j = nI (tE (aT A) j) := fun j hj => hM1.2.1.2.2.2.1 j hj
  have hp2 := Nat.two_pow_pos (tD (aT A))
  have h2j : 2 ^ j < 2 ^ tD (aT A) := Nat.pow_lt_pow_right (by decide) hj
  have hv := hr (2 ^ j) j (Nat.two_pow_pos j) h2j hj
  rw [show dif (2 ^ tD (aT A) - 1) (2 ^ j) = clrB (2 ^ tD (aT A) - 1) j from rfl] at hv
  have hga : gnS (aT A) (aF (aT A) k) j (clrB (2 ^ tD (aT A) - 1) j) = gaS (aT A) (aF (aT A) k) j := rfl
  rw [hga] at hv
  have hgl : gaS (aT A) (aF (aT A) k) j ≤ 14 ∧ 1 ≤ gaS (aT A) (aF (aT A) k) j := gnS_le _ _ _ (Nat.lt_of_lt_of_le (clrB_lt (n := tD (aT A)) (by omega)) hp)
  simp only [g, w_X12_in, x_psh, x_ild, x_lld, x_ald, x_ist, x_ast, x_lst, x_inc, x_iadd, x_isub, x_imul, x_iand, x_ior, x_ixor, x_ishl, x_ishr, x_iushr, x_idiv, x_irem, x_ladd, x_land, x_lor, x_lshl, x_lshr, x_ineg, x_i2l, x_l2i, x_i2b, x_lcmp, x_dup, x_dup2, x_if_eq, x_if_ne, x_if_lt, x_if_ge, x_if_gt, x_if_le, x_ic_eq, x_ic_ne, x_ic_lt, x_ic_ge, x_ic_gt, x_ic_le, x_getI, x_getR, x_putI, x_putZ, x_putR, x_iald, x_bald, x_lald, x_iast, x_bast, x_last, x_alen, x_acp, x_mmax, x_mmin, x_callV, x_callS, x_iret, x_zret, x_lret, x_aret, x_vret, x_tsw, x_stop, zst1, zst2, zkill, zkl, zsplit, zmask, zent, zentL, List.getElem?_cons_zero, List.getElem?_cons_succ, List.set_cons_zero, List.set_cons_succ, List.set_nil, List.length_cons, List.length_nil, List.replicate, List.nil_append, List.cons_append, List.map_cons, List.map_nil, List.sum_cons, List.sum_nil, Value.category, Option.toList, List.contains_cons, List.contains_nil, true_or, or_true, true_and, Nat.zero_le, Nat.reduceAdd, Nat.reduceLeDiff, Nat.reduceLT, Nat.reduceBEq, Bool.true_or, Bool.or_true, Bool.false_or, Bool.or_false, ↓reduceIte, Bool.false_eq_true, Nat.add_zero, Nat.zero_add, Nat.reduceEqDiff, Nat.reduceSub, b2i_0, ne_eq, Nat.reduceEqDiff, not_false_eq_true, not_true_eq_false, true_and, and_true, true_implies, false_implies, implies_true, and_self]
  rw [z_l31, z_l1, z_p2 j (by omega), z_l12, z_ix12, nI_clamp (by omega), hv]
  simp only [wvI_9 _ (show gaS (aT A) (aF (aT A) k) j < 20 by omega) hgl.2]
  rw [← z_l1]
  simp only [in_ix z (show tD (aT A) < 2 ^ 31 by omega)]
  refine ⟨49152, rfl, vp_in_nI (by omega) (by omega), fun q => ?_, fun q => ?_⟩
  · -- no round
    rcases ix_cs z (show tD (aT A) < 2 ^ 31 by omega) with ⟨i, hi, rfl, h5, h6⟩ | ⟨h5, h6⟩
    · simp only [h5] at hz
      have e : bsO (aT A) (aF (aT A) k) j i = none := if_pos q
      rw [e] at hz
      exact hz hK1
    · simp only [h5] at hz
      exact hz hK1
  rcases ix_cs z (show tD (aT A) < 2 ^ 31 by omega) with ⟨i, hi, rfl, h5, h6⟩ | ⟨h5, h6⟩
  rotate_left
  · simp only [h5] at hz
    simp only [h6, b2i_0, ne_eq, Nat.reduceEqDiff, not_false_eq_true, not_true_eq_false, true_and, and_true, true_implies, false_implies, implies_true, and_self]
    exact hz hK1
  simp only [h5] at hz
  simp only [h6, b2i_0, ne_eq, Nat.reduceEqDiff, not_false_eq_true, not_true_eq_false, true_and, and_true, true_implies, false_implies, implies_true, and_self]
  have e : bsO (aT A) (aF (aT A) k) j i = (bdS (aT A) (aF (aT A) k) j i).1 := if_neg q
  rw [e] at hz
  have hz := hz hK1
  clear hQ e
  generalize aT A = T at *
  generalize hF : aF T k = F at *
  -- the way, door by door
  have key : ∀ n m e s, m + n = i → (bdS T F j m).1 = some e → (bdS T F j m).2 = dif (2 ^ tD T - 1) s → s < 2 ^ tD T → 0 < s → ones s = m + 1 → gnS T F e (dif (2 ^ tD T - 1) s) ≠ 1 → WW C 71 [some (.ref 56), some (.int (nI k)), none, some (.int (nI i)), some (.int (nI s)), some (.int (nI e)), some (.int (nI (m + 1))), none, none, none, none] [] σ1 := by
    intro n
    induction n with
    | zero =>
      intro m e s hm he hs2 hs hs0 hos hg
      rw [show m = i by omega] at he
      rw [he] at hz
      refine r_X12_bestAt_71 hC hR m_X12_isSong (by decide) m_X12_isDoor (by decide) m_X12_layWorth (by decide) m_X12_in (by decide) m_X12_worthOf (by decide) _ _ _ ?_
      simp only [T_X12_bestAt_71, x_psh, x_ild, x_lld, x_ald, x_ist, x_ast, x_lst, x_inc, x_iadd, x_isub, x_imul, x_iand, x_ior, x_ixor, x_ishl, x_ishr, x_iushr, x_idiv, x_irem, x_ladd, x_land, x_lor, x_lshl, x_lshr, x_ineg, x_i2l, x_l2i, x_i2b, x_lcmp, x_dup, x_dup2, x_if_eq, x_if_ne, x_if_lt, x_if_ge, x_if_gt, x_if_le, x_ic_eq, x_ic_ne, x_ic_lt, x_ic_ge, x_ic_gt, x_ic_le, x_getI, x_getR, x_putI, x_putZ, x_putR, x_iald, x_bald, x_lald, x_iast, x_bast, x_last, x_alen, x_acp, x_mmax, x_mmin, x_callV, x_callS, x_iret, x_zret, x_lret, x_aret, x_vret, x_tsw, x_stop, zst1, zst2, zkill, zkl, zsplit, zmask, zent, zentL, List.getElem?_cons_zero, List.getElem?_cons_succ, List.set_cons_zero, List.set_cons_succ, List.set_nil, List.length_cons, List.length_nil, List.replicate, List.nil_append, List.cons_append, List.map_cons, List.map_nil, List.sum_cons, List.sum_nil, Value.category, Option.toList, List.contains_cons, List.contains_nil, true_or, or_true, true_and, Nat.zero_le, Nat.reduceAdd, Nat.reduceLeDiff, Nat.reduceLT, Nat.reduceBEq, Bool.true_or, Bool.or_true, Bool.false_or, Bool.or_false, ↓reduceIte, Bool.false_eq_true, Nat.add_zero, Nat.zero_add, Nat.reduceEqDiff, Nat.reduceSub, g, b2i_0, ne_eq, Nat.reduceEqDiff, not_false_eq_true, not_true_eq_false, true_and, and_true, true_implies, false_implies, implies_true, and_self]
      exact ⟨fun _ => hz, fun q => absurd (nI_lt (by omega) (by omega)) q⟩
    | succ n ihn =>
      intro m e s hm he hs2 hs hs0 hos hg
      have heD : e < tD T := (bdS_ok hj m).2 e he
      have hr4 : dif (2 ^ tD T - 1) s < 4096 := Nat.lt_of_lt_of_le (dif_lt (n := tD T) (by omega)) hp
      have hon := ones_dif hD hs
      have hrb : ∀ i, (dif (2 ^ tD T - 1) s).testBit i = (decide (i < tD T) && !s.testBit i) := fun i => by rw [dif_bit, Nat.testBit_two_pow_sub_one]
      have hwv := hr s e hs0 hs heD
      generalize hrr : dif (2 ^ tD T - 1) s = r at hr4 hon hg hs2 hrb hwv
      have hr0 : r ≠ 0 := by
        intro h0
        rw [h0] at hon
        have : ones 0 = 0 := by decide
        omega
      obtain ⟨e', n1, n2, n3, n4, n5⟩ := nb_hit hr4 hr0 hg
      have hgl2 := gnS_le T F e hr4
      have hEd := hT.e e
      have hnext : bdS T F j (m + 1) = (some e', clrB r e') := by
        rw [bdS, he, hs2]
        unfold bstS
        simp only [n1]
      have k89 : ∀ o, o ≤ tD T → ∀ nx : Int32, (o ≤ e' → nx = nI e') → WW C 89 [some (.ref 56), some (.int (nI k)), none, some (.int (nI i)), some (.int (nI s)), some (.int (nI e)), some (.int (nI (m + 1))), some (.int nx), some (.int (nI o - 1)), none, none] [] σ1 := by
        intro o
        induction o with
        | zero =>
          intro _ nx hnx
          obtain rfl := hnx (Nat.zero_le _)
          have h2e : 2 ^ e' < 2 ^ tD T := Nat.pow_lt_pow_right (by decide) n2
          have hsb : s.testBit e' = false := by
            rw [Nat.testBit_and, hrb, Bool.and_eq_true, Bool.and_eq_true] at n3
            simpa using n3.2.2
          have hso : s ||| 2 ^ e' < 2 ^ tD T := Nat.or_lt_two_pow hs h2e
          have hgt := or_gt hsb
          have hdo : dif (2 ^ tD T - 1) (s ||| 2 ^ e') = clrB r e' := by rw [dif_or, hrr]
          have hoc : ones (clrB r e') + 1 = ones r := ones_clr hr4 (by rw [Nat.testBit_and, Bool.and_eq_true] at n3; exact n3.2)
          have hod := ones_dif hD hso
          rw [hdo] at hod
          have := ihn (m + 1) e' (s ||| 2 ^ e') (by omega) (by rw [hnext]) (by rw [hnext, hdo]) hso (by omega) (by omega) (by
            rw [hdo]
            intro h1
            unfold gtS at n4
            rw [if_pos h1] at n4
            exact hg n4.symm)
          refine r_X12_bestAt_89 hC hR m_X12_isSong (by decide) m_X12_isDoor (by decide) m_X12_layWorth (by decide) m_X12_in (by decide) m_X12_worthOf (by decide) _ _ _ ?_
          simp only [T_X12_bestAt_89, x_psh, x_ild, x_lld, x_ald, x_ist, x_ast, x_lst, x_inc, x_iadd, x_isub, x_imul, x_iand, x_ior, x_ixor, x_ishl, x_ishr, x_iushr, x_idiv, x_irem, x_ladd, x_land, x_lor, x_lshl, x_lshr, x_ineg, x_i2l, x_l2i, x_i2b, x_lcmp, x_dup, x_dup2, x_if_eq, x_if_ne, x_if_lt, x_if_ge, x_if_gt, x_if_le, x_ic_eq, x_ic_ne, x_ic_lt, x_ic_ge, x_ic_gt, x_ic_le, x_getI, x_getR, x_putI, x_putZ, x_putR, x_iald, x_bald, x_lald, x_iast, x_bast, x_last, x_alen, x_acp, x_mmax, x_mmin, x_callV, x_callS, x_iret, x_zret, x_lret, x_aret, x_vret, x_tsw, x_stop, zst1, zst2, zkill, zkl, zsplit, zmask, zent, zentL, List.getElem?_cons_zero, List.getElem?_cons_succ, List.set_cons_zero, List.set_cons_succ, List.set_nil, List.length_cons, List.length_nil, List.replicate, List.nil_append, List.cons_append, List.map_cons, List.map_nil, List.sum_cons, List.sum_nil, Value.category, Option.toList, List.contains_cons, List.contains_nil, true_or, or_true, true_and, Nat.zero_le, Nat.reduceAdd, Nat.reduceLeDiff, Nat.reduceLT, Nat.reduceBEq, Bool.true_or, Bool.or_true, Bool.false_or, Bool.or_false, ↓reduceIte, Bool.false_eq_true, Nat.add_zero, Nat.zero_add, Nat.reduceEqDiff, Nat.reduceSub, g, b2i_0, ne_eq, Nat.reduceEqDiff, not_false_eq_true, not_true_eq_false, true_and, and_true, true_implies, false_implies, implies_true, and_self]
          rw [z_l31, z_l1, z_p2 e' (by omega), z_or]
          rw [← z_l1]
          simp only [nI_i3]
          exact ⟨fun _ => this, fun q => absurd (by decide) q⟩
        | succ o iho =>
          intro ho nx hnx
          have eo : nI (o + 1) - 1 = nI o := pk_sub (b := 1) (by omega)
          have em : nI o + -1 = nI o - 1 := (Int32.sub_eq_add_neg _ _).symm
          have h2o : 2 ^ o < 2 ^ tD T := Nat.pow_lt_pow_right (by decide) (by omega)
          have hso : s ||| 2 ^ o < 2 ^ tD T := Nat.or_lt_two_pow hs h2o
          have hgn := gnS_le T F o (r := clrB r o) (by have := clrB_le r o; omega)
          have hgt := gtS_le T F o hr4
          have k155 : ∀ gg, gg = (if (tE T e &&& r).testBit o then gnS T F o (clrB r o) else 1) → WW C 155 [some (.ref 56), some (.int (nI k)), none, some (.int (nI i)), some (.int (nI s)), some (.int (nI e)), some (.int (nI (m + 1))), some (.int nx), some (.int (nI o)), none, none] [.int (wvI gg)] σ1 := by
            intro gg hgg
            have hgb : gg ≤ 14 ∧ 1 ≤ gg := by
              rw [hgg]
              split <;> omega
            refine r_X12_bestAt_155 hC hR m_X12_isSong (by decide) m_X12_isDoor (by decide) m_X12_layWorth (by decide) m_X12_in (by decide) m_X12_worthOf (by decide) _ _ _ ?_
            simp only [T_X12_bestAt_155, x_psh, x_ild, x_lld, x_ald, x_ist, x_ast, x_lst, x_inc, x_iadd, x_isub, x_imul, x_iand, x_ior, x_ixor, x_ishl, x_ishr, x_iushr, x_idiv, x_irem, x_ladd, x_land, x_lor, x_lshl, x_lshr, x_ineg, x_i2l, x_l2i, x_i2b, x_lcmp, x_dup, x_dup2, x_if_eq, x_if_ne, x_if_lt, x_if_ge, x_if_gt, x_if_le, x_ic_eq, x_ic_ne, x_ic_lt, x_ic_ge, x_ic_gt, x_ic_le, x_getI, x_getR, x_putI, x_putZ, x_putR, x_iald, x_bald, x_lald, x_iast, x_bast, x_last, x_alen, x_acp, x_mmax, x_mmin, x_callV, x_callS, x_iret, x_zret, x_lret, x_aret, x_vret, x_tsw, x_stop, zst1, zst2, zkill, zkl, zsplit, zmask, zent, zentL, List.getElem?_cons_zero, List.getElem?_cons_succ, List.set_cons_zero, List.set_cons_succ, List.set_nil, List.length_cons, List.length_nil, List.replicate, List.nil_append, List.cons_append, List.map_cons, List.map_nil, List.sum_cons, List.sum_nil, Value.category, Option.toList, List.contains_cons, List.contains_nil, true_or, or_true, true_and, Nat.zero_le, Nat.reduceAdd, Nat.reduceLeDiff, Nat.reduceLT, Nat.reduceBEq, Bool.true_or, Bool.or_true, Bool.false_or, Bool.or_false, ↓reduceIte, Bool.false_eq_true, Nat.add_zero, Nat.zero_add, Nat.reduceEqDiff, Nat.reduceSub, g, w_X12_worthOf, b2i_0, ne_eq, Nat.reduceEqDiff, not_false_eq_true, not_true_eq_false, true_and, and_true, true_implies, false_implies, implies_true, and_self]
            rw [wvI_9 gg (by omega) hgb.2, em]
            have stay : o ≠ e' → WW C 89 [some (.ref 56), some (.int (nI k)), none, some (.int (nI i)), some (.int (nI s)), some (.int (nI e)), some (.int (nI (m + 1))), some (.int nx), some (.int (nI o - 1)), none, none] [] σ1 := fun h => iho (by omega) nx (fun h2 => hnx (by omega))
            refine ⟨fun q => stay ?_, fun q => ⟨T, k, m + 1, o, hM1, rfl, hk, rfl, by omega, rfl, by omega, ?_⟩⟩
            · intro ee
              rw [ee, if_pos n3] at hgg
              unfold gtS at n4
              rw [← hgg, if_pos q] at n4
              exact hg n4.symm
            · have hbit : (tE T e &&& r).testBit o = true := by
                refine Classical.byContradiction fun hc => ?_
                rw [if_neg hc] at hgg
                exact q hgg
              rw [if_pos hbit] at hgg
              have hw : (if (aF T k (m + 1)).testBit o = true then 1 else 0) = wtS T F o r := by
                unfold wtS
                rw [hF, show tD T - ones r = m + 1 by omega]
              have hgs : gg + wtS T F o r = gtS T F o r := by rw [gtS, ← hgg, if_neg q]
              rw [hw, wvI_add gg (by omega) (by omega) _ (by unfold wtS; split <;> omega), hgs, z_l12, z_ix12, nI_clamp (by omega), hwv, wvI_eq _ (by omega) _ (by omega) hgt.2 hgl2.2]
              refine ⟨49152, rfl, vp_in_nI (by omega) (by omega), fun q2 => stay (fun ee => ?_), fun q2 => ?_⟩
              · rw [ee] at q2
                exact q2 n4
              · have hle : e' ≤ o := by
                  refine Classical.byContradiction fun hc => ?_
                  exact n5 o (by omega) ⟨hbit, q2⟩
                exact iho (by omega) (nI o) (fun h2 => by rw [show o = e' by omega])
          have k125 : ∀ v : Int32, (v = 0 ∧ (tE T e &&& r).testBit o = false) ∨ (v = 1 ∧ (tE T e &&& r).testBit o = true) → WW C 125 [some (.ref 56), some (.int (nI k)), none, some (.int (nI i)), some (.int (nI s)), some (.int (nI e)), some (.int (nI (m + 1))), some (.int nx), some (.int (nI o)), none, none] [.int v] σ1 := by
            intro v hv
            refine r_X12_bestAt_125 hC hR m_X12_isSong (by decide) m_X12_isDoor (by decide) m_X12_layWorth (by decide) m_X12_in (by decide) m_X12_worthOf (by decide) _ _ _ ?_
            simp only [T_X12_bestAt_125, x_psh, x_ild, x_lld, x_ald, x_ist, x_ast, x_lst, x_inc, x_iadd, x_isub, x_imul, x_iand, x_ior, x_ixor, x_ishl, x_ishr, x_iushr, x_idiv, x_irem, x_ladd, x_land, x_lor, x_lshl, x_lshr, x_ineg, x_i2l, x_l2i, x_i2b, x_lcmp, x_dup, x_dup2, x_if_eq, x_if_ne, x_if_lt, x_if_ge, x_if_gt, x_if_le, x_ic_eq, x_ic_ne, x_ic_lt, x_ic_ge, x_ic_gt, x_ic_le, x_getI, x_getR, x_putI, x_putZ, x_putR, x_iald, x_bald, x_lald, x_iast, x_bast, x_last, x_alen, x_acp, x_mmax, x_mmin, x_callV, x_callS, x_iret, x_zret, x_lret, x_aret, x_vret, x_tsw, x_stop, zst1, zst2, zkill, zkl, zsplit, zmask, zent, zentL, List.getElem?_cons_zero, List.getElem?_cons_succ, List.set_cons_zero, List.set_cons_succ, List.set_nil, List.length_cons, List.length_nil, List.replicate, List.nil_append, List.cons_append, List.map_cons, List.map_nil, List.sum_cons, List.sum_nil, Value.category, Option.toList, List.contains_cons, List.contains_nil, true_or, or_true, true_and, Nat.zero_le, Nat.reduceAdd, Nat.reduceLeDiff, Nat.reduceLT, Nat.reduceBEq, Bool.true_or, Bool.or_true, Bool.false_or, Bool.or_false, ↓reduceIte, Bool.false_eq_true, Nat.add_zero, Nat.zero_add, Nat.reduceEqDiff, Nat.reduceSub, g, b2i_0, ne_eq, Nat.reduceEqDiff, not_false_eq_true, not_true_eq_false, true_and, and_true, true_implies, false_implies, implies_true, and_self]
            rcases hv with ⟨rfl, hv⟩ | ⟨rfl, hv⟩
            · refine ⟨fun _ => ?_, fun q => absurd rfl q⟩
              have := k155 1 (by rw [hv]; rfl)
              exact this
            · rw [z_l31, z_l1, z_p2 o (by omega), z_or, z_l12, z_ix12, nI_clamp (by omega)]
              refine ⟨fun q => absurd q (by decide), fun _ => ⟨49152, rfl, vp_in_nI (by omega) (by omega), ?_⟩⟩
              have hsb : s.testBit o = false := by
                rw [Nat.testBit_and, hrb, Bool.and_eq_true, Bool.and_eq_true] at hv
                simpa using hv.2.2
              have hgt := or_gt hsb
              rw [hr (s ||| 2 ^ o) o (by omega) hso (by omega), dif_or, hrr]
              exact k155 _ (by rw [if_pos hv])
          refine r_X12_bestAt_89 hC hR m_X12_isSong (by decide) m_X12_isDoor (by decide) m_X12_layWorth (by decide) m_X12_in (by decide) m_X12_worthOf (by decide) _ _ _ ?_
          simp only [T_X12_bestAt_89, x_psh, x_ild, x_lld, x_ald, x_ist, x_ast, x_lst, x_inc, x_iadd, x_isub, x_imul, x_iand, x_ior, x_ixor, x_ishl, x_ishr, x_iushr, x_idiv, x_irem, x_ladd, x_land, x_lor, x_lshl, x_lshr, x_ineg, x_i2l, x_l2i, x_i2b, x_lcmp, x_dup, x_dup2, x_if_eq, x_if_ne, x_if_lt, x_if_ge, x_if_gt, x_if_le, x_ic_eq, x_ic_ne, x_ic_lt, x_ic_ge, x_ic_gt, x_ic_le, x_getI, x_getR, x_putI, x_putZ, x_putR, x_iald, x_bald, x_lald, x_iast, x_bast, x_last, x_alen, x_acp, x_mmax, x_mmin, x_callV, x_callS, x_iret, x_zret, x_lret, x_aret, x_vret, x_tsw, x_stop, zst1, zst2, zkill, zkl, zsplit, zmask, zent, zentL, List.getElem?_cons_zero, List.getElem?_cons_succ, List.set_cons_zero, List.set_cons_succ, List.set_nil, List.length_cons, List.length_nil, List.replicate, List.nil_append, List.cons_append, List.map_cons, List.map_nil, List.sum_cons, List.sum_nil, Value.category, Option.toList, List.contains_cons, List.contains_nil, true_or, or_true, true_and, Nat.zero_le, Nat.reduceAdd, Nat.reduceLeDiff, Nat.reduceLT, Nat.reduceBEq, Bool.true_or, Bool.or_true, Bool.false_or, Bool.or_false, ↓reduceIte, Bool.false_eq_true, Nat.add_zero, Nat.zero_add, Nat.reduceEqDiff, Nat.reduceSub, g, b2i_0, ne_eq, Nat.reduceEqDiff, not_false_eq_true, not_true_eq_false, true_and, and_true, true_implies, false_implies, implies_true, and_self]
          rw [eo]
          rw [nI_clamp (by omega), hEτ e (by omega), z_b1 (by omega) (by omega), z_b1 (by omega) (by omega)]
          simp only [b2i_1, b2i_0]
          refine ⟨fun q => absurd q (nI_pos (by omega)), fun _ => ⟨12, rfl, vp_in_nI (by omega) (by omega), fun q => k125 0 (Or.inl ⟨rfl, ?_⟩), fun q => ⟨fun q2 => k125 0 (Or.inl ⟨rfl, ?_⟩), fun q2 => k125 1 (Or.inr ⟨rfl, ?_⟩)⟩⟩⟩
          · rw [Nat.testBit_and]
            simp [q]
          · rw [Nat.testBit_and, hrb]
            simp at q2
            simp [q2]
          · rw [Nat.testBit_and, hrb]
            simp at q2
            simp [q, q2, show o < tD T by omega]
      refine r_X12_bestAt_71 hC hR m_X12_isSong (by decide) m_X12_isDoor (by decide) m_X12_layWorth (by decide) m_X12_in (by decide) m_X12_worthOf (by decide) _ _ _ ?_
      simp only [T_X12_bestAt_71, x_psh, x_ild, x_lld, x_ald, x_ist, x_ast, x_lst, x_inc, x_iadd, x_isub, x_imul, x_iand, x_ior, x_ixor, x_ishl, x_ishr, x_iushr, x_idiv, x_irem, x_ladd, x_land, x_lor, x_lshl, x_lshr, x_ineg, x_i2l, x_l2i, x_i2b, x_lcmp, x_dup, x_dup2, x_if_eq, x_if_ne, x_if_lt, x_if_ge, x_if_gt, x_if_le, x_ic_eq, x_ic_ne, x_ic_lt, x_ic_ge, x_ic_gt, x_ic_le, x_getI, x_getR, x_putI, x_putZ, x_putR, x_iald, x_bald, x_lald, x_iast, x_bast, x_last, x_alen, x_acp, x_mmax, x_mmin, x_callV, x_callS, x_iret, x_zret, x_lret, x_aret, x_vret, x_tsw, x_stop, zst1, zst2, zkill, zkl, zsplit, zmask, zent, zentL, List.getElem?_cons_zero, List.getElem?_cons_succ, List.set_cons_zero, List.set_cons_succ, List.set_nil, List.length_cons, List.length_nil, List.replicate, List.nil_append, List.cons_append, List.map_cons, List.map_nil, List.sum_cons, List.sum_nil, Value.category, Option.toList, List.contains_cons, List.contains_nil, true_or, or_true, true_and, Nat.zero_le, Nat.reduceAdd, Nat.reduceLeDiff, Nat.reduceLT, Nat.reduceBEq, Bool.true_or, Bool.or_true, Bool.false_or, Bool.or_false, ↓reduceIte, Bool.false_eq_true, Nat.add_zero, Nat.zero_add, Nat.reduceEqDiff, Nat.reduceSub, g, b2i_0, ne_eq, Nat.reduceEqDiff, not_false_eq_true, not_true_eq_false, true_and, and_true, true_implies, false_implies, implies_true, and_self]
      exact ⟨fun q => absurd q (nI_nlt (by omega) (by omega)), fun _ => k89 (tD T) (Nat.le_refl _) (-9) (fun h => absurd h (by omega))⟩
  have := key i 0 j (2 ^ j) (by omega) rfl rfl h2j (Nat.two_pow_pos j) (by
    have := ones_dif hD h2j
    have h1 := ones_clr (r := 2 ^ tD T - 1) (e := j) (by omega) (by rw [Nat.testBit_two_pow_sub_one]; simp [hj])
    have h2 : ones (2 ^ tD T - 1) = tD T := ones_pow (tD T) (by omega)
    have h3 : dif (2 ^ tD T - 1) (2 ^ j) = clrB (2 ^ tD T - 1) j := rfl
    rw [h3] at this
    omega) q
  rw [Nat.zero_add] at this
  exact this
