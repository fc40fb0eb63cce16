def w_X12_song : WPt := fun args σ Q => match args with
  | [.ref x, .int d, .int y] => x = 56 ∧ PubM σ (q_song · d y) Q
  | _ => False
theorem m_X12_song : Meets yX12_song cX12_song 3 (some .int) 3 w_X12_song := by
  refine Meets.mk (by decide) fun args σ Φ h => ?_
  unfold w_X12_song at h
  split at h
  rotate_left
  · exact h.elim
  rename_i x d y
  obtain ⟨x, rfl⟩ : ∃ q : Nat, q = x := ⟨x, rfl⟩
  obtain ⟨hx, A, hK, hA, hQ⟩ := h
  subst hx
  refine ⟨Nat.le_of_ble_eq_true rfl, fun C hC hR => ?_⟩
  have hf := mod_f hK
  have hN := hA.1
  have hD1 := hA.t.1
  have hD := hA.t.2.1
  have hS := hA.t.2.2.1
  have hW := hA.2.2.1.2.1
  have hE := hA.2.2.1.2.2.1
  have hp := z_pow31 hD
  have hV := hK.2
  refine r_X12_song_0 hC hR m_X12_isSong (by decide) m_X12_in (by decide) _ _ _ ?_
  simp only [T_X12_song_0, x_psh, x_ild, x_lld, x_ald, x_ist, x_ast, x_lst, x_inc, x_iadd, x_isub, x_imul, x_iand, x_ior, x_ixor, x_ishl, x_ishr, x_iushr, x_idiv, x_irem, x_ladd, x_land, x_lor, x_lshl, x_lshr, x_ineg, x_i2l, x_l2i, x_i2b, x_lcmp, x_dup, x_dup2, x_if_eq, x_if_ne, x_if_lt, x_if_ge, x_if_gt, x_if_le, x_ic_eq, x_ic_ne, x_ic_lt, x_ic_ge, x_ic_gt, x_ic_le, x_getI, x_getR, x_putI, x_putZ, x_putR, x_iald, x_bald, x_lald, x_iast, x_bast, x_last, x_alen, x_acp, x_mmax, x_mmin, x_callV, x_callS, x_iret, x_zret, x_lret, x_aret, x_vret, x_tsw, x_stop, zst1, zst2, zkill, zkl, zsplit, zmask, zent, zentL, List.getElem?_cons_zero, List.getElem?_cons_succ, List.set_cons_zero, List.set_cons_succ, List.set_nil, List.length_cons, List.length_nil, List.replicate, List.nil_append, List.cons_append, List.map_cons, List.map_nil, List.sum_cons, List.sum_nil, Value.category, Option.toList, List.contains_cons, List.contains_nil, true_or, or_true, true_and, Nat.zero_le, Nat.reduceAdd, Nat.reduceLeDiff, Nat.reduceLT, Nat.reduceBEq, Bool.true_or, Bool.or_true, Bool.false_or, Bool.or_false, ↓reduceIte, Bool.false_eq_true, Nat.add_zero, Nat.zero_add, Nat.reduceEqDiff, Nat.reduceSub, hf, w_X12_isSong, w_X12_in]
  unfold q_song at hQ
  refine ⟨tS (aT A), rfl, by omega, ?_⟩
  rcases ix_cs d (show tS (aT A) < 2 ^ 31 by omega) with ⟨k, hk, rfl, h1, h2⟩ | ⟨h1, h2⟩
  · simp only [h1] at hQ
    simp only [h2, b2i_0, ne_eq, Nat.reduceEqDiff, not_false_eq_true, not_true_eq_false, true_and, and_true, true_implies, false_implies, implies_true, and_self]
    have hL := hA.l hk
    refine ⟨4, rfl, vp_in_nI (by omega) (by omega), ?_⟩
    simp only [nI_clamp (show k < 2 ^ 31 by omega), hV.1.2.2.2.2.1 k hk, in_ix y (show tL (aT A) k < 2 ^ 31 by omega)]
    rcases ix_cs y (show tL (aT A) k < 2 ^ 31 by omega) with ⟨i, hi, rfl, h3, h4⟩ | ⟨h3, h4⟩
    · simp only [h3] at hQ
      simp only [h4, b2i_0, ne_eq, Nat.reduceEqDiff, not_false_eq_true, not_true_eq_false, true_and, and_true, true_implies, false_implies, implies_true, and_self]
      rw [z_l6, pk_mul, nI_add, nI_clamp (by omega), hV.1.2.2.2.2.2 k i hk hi]
      exact ⟨24, rfl, vp_in_nI (by omega) (by omega), hQ σ (ZF.refl _ _ _) hK⟩
    · simp only [h3] at hQ
      simp only [h4, b2i_0, ne_eq, Nat.reduceEqDiff, not_false_eq_true, not_true_eq_false, true_and, and_true, true_implies, false_implies, implies_true, and_self]
      exact hQ σ (ZF.refl _ _ _) hK
  · simp only [h1] at hQ
    simp only [h2, b2i_0, ne_eq, Nat.reduceEqDiff, not_false_eq_true, not_true_eq_false, true_and, and_true, true_implies, false_implies, implies_true, and_self]
    exact hQ σ (ZF.refl _ _ _) hK
def w_X12_spring : WPt := fun args σ Q => match args with
  | [.ref x] => x = 56 ∧ PubM σ q_spring Q
  | _ => False
set_option maxHeartbeats 1000000 in
theorem m_X12_spring : Meets yX12_spring cX12_spring 3 (some .int) 1 w_X12_spring := by
  refine Meets.mk (by decide) fun args σ Φ h => ?_
  unfold w_X12_spring at h
  split at h
  rotate_left
  · exact h.elim
  rename_i x
  obtain ⟨x, rfl⟩ : ∃ q : Nat, q = x := ⟨x, rfl⟩
  obtain ⟨hx, A, hK, hA, hQ⟩ := h
  subst hx
  refine ⟨Nat.le_of_ble_eq_true rfl, fun C hC hR => ?_⟩
  have hf := mod_f hK
  have hN := hA.1
  have hD1 := hA.t.1
  have hD := hA.t.2.1
  have hS := hA.t.2.2.1
  have hW := hA.2.2.1.2.1
  have hE := hA.2.2.1.2.2.1
  have hp := z_pow31 hD
  have hV := hK.2
  refine r_X12_spring_0 hC hR _ _ _ ?_
  simp only [T_X12_spring_0, x_psh, x_ild, x_lld, x_ald, x_ist, x_ast, x_lst, x_inc, x_iadd, x_isub, x_imul, x_iand, x_ior, x_ixor, x_ishl, x_ishr, x_iushr, x_idiv, x_irem, x_ladd, x_land, x_lor, x_lshl, x_lshr, x_ineg, x_i2l, x_l2i, x_i2b, x_lcmp, x_dup, x_dup2, x_if_eq, x_if_ne, x_if_lt, x_if_ge, x_if_gt, x_if_le, x_ic_eq, x_ic_ne, x_ic_lt, x_ic_ge, x_ic_gt, x_ic_le, x_getI, x_getR, x_putI, x_putZ, x_putR, x_iald, x_bald, x_lald, x_iast, x_bast, x_last, x_alen, x_acp, x_mmax, x_mmin, x_callV, x_callS, x_iret, x_zret, x_lret, x_aret, x_vret, x_tsw, x_stop, zst1, zst2, zkill, zkl, zsplit, zmask, zent, zentL, List.getElem?_cons_zero, List.getElem?_cons_succ, List.set_cons_zero, List.set_cons_succ, List.set_nil, List.length_cons, List.length_nil, List.replicate, List.nil_append, List.cons_append, List.map_cons, List.map_nil, List.sum_cons, List.sum_nil, Value.category, Option.toList, List.contains_cons, List.contains_nil, true_or, or_true, true_and, Nat.zero_le, Nat.reduceAdd, Nat.reduceLeDiff, Nat.reduceLT, Nat.reduceBEq, Bool.true_or, Bool.or_true, Bool.false_or, Bool.or_false, ↓reduceIte, Bool.false_eq_true, Nat.add_zero, Nat.zero_add, Nat.reduceEqDiff, Nat.reduceSub, hf]
  have e1 : nI (tD (aT A)) - 1 = nI (tD (aT A) - 1) := pk_sub (b := 1) (by omega)
  rw [e1, nI_clamp (by omega), hV.1.2.2.1 (tD (aT A) - 1) (by omega)]
  refine ⟨by decide, 12, rfl, vp_in_nI (by omega) (by omega), ?_⟩
  have key : ∀ d, d < tD (aT A) → ∀ τ, IF σ τ 61 → (∀ i, i < tD (aT A) → zI τ 61 i = nI (if d < i then tN (aT A) (i - 1) else tN (aT A) i)) → WW C 19 [some (.ref 56), some (.int (nI (tN (aT A) (tD (aT A) - 1)))), some (.int (nI d))] [] τ := by
    intro d
    induction d with
    | zero =>
      intro hd τ hi hr
      have g : ModS τ := hK.1.of hi.1 hi.2.1
      unfold ModS at g
      refine r_X12_spring_19 hC hR _ _ _ ?_
      simp only [T_X12_spring_19, x_psh, x_ild, x_lld, x_ald, x_ist, x_ast, x_lst, x_inc, x_iadd, x_isub, x_imul, x_iand, x_ior, x_ixor, x_ishl, x_ishr, x_iushr, x_idiv, x_irem, x_ladd, x_land, x_lor, x_lshl, x_lshr, x_ineg, x_i2l, x_l2i, x_i2b, x_lcmp, x_dup, x_dup2, x_if_eq, x_if_ne, x_if_lt, x_if_ge, x_if_gt, x_if_le, x_ic_eq, x_ic_ne, x_ic_lt, x_ic_ge, x_ic_gt, x_ic_le, x_getI, x_getR, x_putI, x_putZ, x_putR, x_iald, x_bald, x_lald, x_iast, x_bast, x_last, x_alen, x_acp, x_mmax, x_mmin, x_callV, x_callS, x_iret, x_zret, x_lret, x_aret, x_vret, x_tsw, x_stop, zst1, zst2, zkill, zkl, zsplit, zmask, zent, zentL, List.getElem?_cons_zero, List.getElem?_cons_succ, List.set_cons_zero, List.set_cons_succ, List.set_nil, List.length_cons, List.length_nil, List.replicate, List.nil_append, List.cons_append, List.map_cons, List.map_nil, List.sum_cons, List.sum_nil, Value.category, Option.toList, List.contains_cons, List.contains_nil, true_or, or_true, true_and, Nat.zero_le, Nat.reduceAdd, Nat.reduceLeDiff, Nat.reduceLT, Nat.reduceBEq, Bool.true_or, Bool.or_true, Bool.false_or, Bool.or_false, ↓reduceIte, Bool.false_eq_true, Nat.add_zero, Nat.zero_add, Nat.reduceEqDiff, Nat.reduceSub, g]
      refine ⟨fun _ => ⟨by decide, 12, rfl, vp_in_nI (n := 0) (by omega) (by omega), ?_⟩, fun q => absurd (show nI 0 ≤ 0 by decide) q⟩
      rw [show (0 : Int32).toNatClampNeg = 0 from rfl]
      have hz : ZF σ (sI τ 61 0 (nI (tN (aT A) (tD (aT A) - 1)))) 56 82 := ⟨hi.1, fun i q => ⟨by rw [zR_sI, hi.2.1], by rw [zI_off _ _ _ (by omega)]; exact hi.2.2.2 i (by omega), by show zJ τ i = zJ σ i; rw [hi.2.2.1]⟩⟩
      have ho : ∀ i : Nat, i ≠ 61 → zI (sI τ 61 0 (nI (tN (aT A) (tD (aT A) - 1)))) i = zI σ i := fun i q => by rw [zI_off _ _ _ q]; exact hi.2.2.2 i q
      have o56 := ho 56 (by decide)
      refine hQ _ hz ⟨(hK.1.of hi.1 hi.2.1).of rfl rfl, ⟨?_, ?_, fun i hd => ?_, ?_, ?_, ?_⟩, hV.2.1.of ?_ ?_, hV.2.2.1.of ?_ ?_, hV.2.2.2.1.of ?_ ?_, hV.2.2.2.2.1.of ?_, hV.2.2.2.2.2.of ?_⟩
      · rw [o56]; exact hV.1.1
      · rw [o56]; exact hV.1.2.1
      · rw [zI_at]
        show _ = nI (trnN (aT A) i)
        unfold trnN
        by_cases q : i = 0
        · rw [if_pos q, if_pos q]
        · rw [if_neg q, if_neg q, hr i hd, if_pos (by omega)]
      · rw [ho 62 (by decide)]; exact hV.1.2.2.2.1
      · rw [ho 64 (by decide)]; exact hV.1.2.2.2.2.1
      · rw [ho 63 (by decide)]; exact hV.1.2.2.2.2.2
      all_goals first
        | (rw [o56]; done)
        | (exact ho _ (by decide))
        | (intro i h1 h2; exact ho i (by omega))
    | succ d ih =>
      intro hd τ hi hr
      have g : ModS τ := hK.1.of hi.1 hi.2.1
      unfold ModS at g
      refine r_X12_spring_19 hC hR _ _ _ ?_
      simp only [T_X12_spring_19, x_psh, x_ild, x_lld, x_ald, x_ist, x_ast, x_lst, x_inc, x_iadd, x_isub, x_imul, x_iand, x_ior, x_ixor, x_ishl, x_ishr, x_iushr, x_idiv, x_irem, x_ladd, x_land, x_lor, x_lshl, x_lshr, x_ineg, x_i2l, x_l2i, x_i2b, x_lcmp, x_dup, x_dup2, x_if_eq, x_if_ne, x_if_lt, x_if_ge, x_if_gt, x_if_le, x_ic_eq, x_ic_ne, x_ic_lt, x_ic_ge, x_ic_gt, x_ic_le, x_getI, x_getR, x_putI, x_putZ, x_putR, x_iald, x_bald, x_lald, x_iast, x_bast, x_last, x_alen, x_acp, x_mmax, x_mmin, x_callV, x_callS, x_iret, x_zret, x_lret, x_aret, x_vret, x_tsw, x_stop, zst1, zst2, zkill, zkl, zsplit, zmask, zent, zentL, List.getElem?_cons_zero, List.getElem?_cons_succ, List.set_cons_zero, List.set_cons_succ, List.set_nil, List.length_cons, List.length_nil, List.replicate, List.nil_append, List.cons_append, List.map_cons, List.map_nil, List.sum_cons, List.sum_nil, Value.category, Option.toList, List.contains_cons, List.contains_nil, true_or, or_true, true_and, Nat.zero_le, Nat.reduceAdd, Nat.reduceLeDiff, Nat.reduceLT, Nat.reduceBEq, Bool.true_or, Bool.or_true, Bool.false_or, Bool.or_false, ↓reduceIte, Bool.false_eq_true, Nat.add_zero, Nat.zero_add, Nat.reduceEqDiff, Nat.reduceSub, g, zd_sI]
      have e2 : nI (d + 1) - 1 = nI d := pk_sub (b := 1) (by omega)
      refine ⟨fun q => absurd (show nI (d + 1) ≤ nI 0 from q) (nI_ge (by omega) (by omega)), fun _ => ⟨by decide, by decide, 12, rfl, ?_, 12, rfl, vp_in_nI (by omega) (by omega), ?_⟩⟩
      · rw [e2]; exact vp_in_nI (by omega) (by omega)
      · rw [e2, nI_clamp (by omega), nI_clamp (by omega), hr d (by omega), if_neg (by omega), dn_dec, dn_s]
        refine ih (by omega) _ (hi.trans if_one) (fun i h => ?_)
        rw [zI_at]
        by_cases q : i = d + 1
        · rw [if_pos q, if_pos (by omega), show i - 1 = d by omega]
        · rw [if_neg q, hr i h]
          by_cases q2 : d + 1 < i
          · rw [if_pos q2, if_pos (by omega)]
          · rw [if_neg q2, if_neg (by omega)]
  exact key (tD (aT A) - 1) (by omega) σ (IF.refl _ _) (fun i hi => by rw [if_neg (by omega)]; exact hV.1.2.2.1 i hi)
def w_X12_go : WPt := fun args σ Q => match args with
  | [.ref x, .int d] => x = 56 ∧ PubM σ (q_go · d) Q
  | _ => False
set_option maxHeartbeats 1000000 in
theorem m_X12_go : Meets yX12_go cX12_go 2 (some .int) 3 w_X12_go := by
  refine Meets.mk (by decide) fun args σ Φ h => ?_
  unfold w_X12_go at h
  split at h
  rotate_left
  · exact h.elim
  rename_i x d
  obtain ⟨x, rfl⟩ : ∃ q : Nat, q = x := ⟨x, rfl⟩
  obtain ⟨hx, A, hK, hA, hQ⟩ := h
  subst hx
  refine ⟨Nat.le_of_ble_eq_true rfl, fun C hC hR => ?_⟩
  have hf := mod_f hK
  have hN := hA.1
  have hD1 := hA.t.1
  have hD := hA.t.2.1
  have hS := hA.t.2.2.1
  have hW := hA.2.2.1.2.1
  have hE := hA.2.2.1.2.2.1
  have hp := z_pow31 hD
  have hV := hK.2
  refine r_X12_go_0 hC hR m_X12_isDoor (by decide) _ _ _ ?_
  simp only [T_X12_go_0, x_psh, x_ild, x_lld, x_ald, x_ist, x_ast, x_lst, x_inc, x_iadd, x_isub, x_imul, x_iand, x_ior, x_ixor, x_ishl, x_ishr, x_iushr, x_idiv, x_irem, x_ladd, x_land, x_lor, x_lshl, x_lshr, x_ineg, x_i2l, x_l2i, x_i2b, x_lcmp, x_dup, x_dup2, x_if_eq, x_if_ne, x_if_lt, x_if_ge, x_if_gt, x_if_le, x_ic_eq, x_ic_ne, x_ic_lt, x_ic_ge, x_ic_gt, x_ic_le, x_getI, x_getR, x_putI, x_putZ, x_putR, x_iald, x_bald, x_lald, x_iast, x_bast, x_last, x_alen, x_acp, x_mmax, x_mmin, x_callV, x_callS, x_iret, x_zret, x_lret, x_aret, x_vret, x_tsw, x_stop, zst1, zst2, zkill, zkl, zsplit, zmask, zent, zentL, List.getElem?_cons_zero, List.getElem?_cons_succ, List.set_cons_zero, List.set_cons_succ, List.set_nil, List.length_cons, List.length_nil, List.replicate, List.nil_append, List.cons_append, List.map_cons, List.map_nil, List.sum_cons, List.sum_nil, Value.category, Option.toList, List.contains_cons, List.contains_nil, true_or, or_true, true_and, Nat.zero_le, Nat.reduceAdd, Nat.reduceLeDiff, Nat.reduceLT, Nat.reduceBEq, Bool.true_or, Bool.or_true, Bool.false_or, Bool.or_false, ↓reduceIte, Bool.false_eq_true, Nat.add_zero, Nat.zero_add, Nat.reduceEqDiff, Nat.reduceSub, hf, w_X12_isDoor]
  unfold q_go at hQ
  have hFl : ∀ k, k < xW (aX A) → xF (aX A) k < tD (aT A) := hA.2.2.1.2.2.2.1
  refine ⟨tD (aT A), rfl, hD, ?_⟩
  rcases ix_cs d (show tD (aT A) < 2 ^ 31 by omega) with ⟨k, hk, rfl, h1, h2⟩ | ⟨h1, h2⟩
  · simp only [h1] at hQ
    simp only [h2, b2i_0, ne_eq, Nat.reduceEqDiff, not_false_eq_true, not_true_eq_false, true_and, and_true, true_implies, false_implies, implies_true, and_self]
    have key : ¬ (0 < xW (aX A) ∧ (tE (aT A) (xF (aX A) (xW (aX A) - 1))).testBit k = false) → WW C 43 [some (.ref 56), some (.int (nI k))] [] σ := by
      intro hn
      rw [if_neg hn] at hQ
      refine r_X12_go_43 hC hR m_X12_isDoor (by decide) _ _ _ ?_
      simp only [T_X12_go_43, x_psh, x_ild, x_lld, x_ald, x_ist, x_ast, x_lst, x_inc, x_iadd, x_isub, x_imul, x_iand, x_ior, x_ixor, x_ishl, x_ishr, x_iushr, x_idiv, x_irem, x_ladd, x_land, x_lor, x_lshl, x_lshr, x_ineg, x_i2l, x_l2i, x_i2b, x_lcmp, x_dup, x_dup2, x_if_eq, x_if_ne, x_if_lt, x_if_ge, x_if_gt, x_if_le, x_ic_eq, x_ic_ne, x_ic_lt, x_ic_ge, x_ic_gt, x_ic_le, x_getI, x_getR, x_putI, x_putZ, x_putR, x_iald, x_bald, x_lald, x_iast, x_bast, x_last, x_alen, x_acp, x_mmax, x_mmin, x_callV, x_callS, x_iret, x_zret, x_lret, x_aret, x_vret, x_tsw, x_stop, zst1, zst2, zkill, zkl, zsplit, zmask, zent, zentL, List.getElem?_cons_zero, List.getElem?_cons_succ, List.set_cons_zero, List.set_cons_succ, List.set_nil, List.length_cons, List.length_nil, List.replicate, List.nil_append, List.cons_append, List.map_cons, List.map_nil, List.sum_cons, List.sum_nil, Value.category, Option.toList, List.contains_cons, List.contains_nil, true_or, or_true, true_and, Nat.zero_le, Nat.reduceAdd, Nat.reduceLeDiff, Nat.reduceLT, Nat.reduceBEq, Bool.true_or, Bool.or_true, Bool.false_or, Bool.or_false, ↓reduceIte, Bool.false_eq_true, Nat.add_zero, Nat.zero_add, Nat.reduceEqDiff, Nat.reduceSub, hf]
      rw [z_l24, nI_eq (by omega) (by omega)]
      refine ⟨fun q => ?_, fun q => ?_⟩
      · rw [if_neg q] at hQ
        refine ⟨by decide, 24, rfl, vp_in_nI (by omega) (by omega), ?_⟩
        simp only [hf, zd_sI, nI_clamp (show xW (aX A) < 2 ^ 31 by omega), zI_off σ (i := 66) (xW (aX A)) (nI k) (show (56 : Nat) ≠ 66 by decide), zI_at, ↓reduceIte, b2i_0, ne_eq, Nat.reduceEqDiff, not_false_eq_true, not_true_eq_false, true_and, and_true, true_implies, false_implies, implies_true, and_self]
        rw [nI_i3]
        refine hQ _ (ZF.trans (zf_one (by decide) (by decide)) (zf_one (by decide) (by decide))) ⟨hK.1.of rfl rfl, hV.1.of ?_ ?_ ?_, hV.2.1.of ?_ ?_, hV.2.2.1.add ?_ ?_, hV.2.2.2.1.of ?_ ?_, hV.2.2.2.2.1.of ?_, hV.2.2.2.2.2.of ?_⟩
        all_goals first
          | (intro i h1 h2; (repeat rw [zI_off _ _ _ (by omega)]); done)
          | ((repeat rw [zI_off _ _ _ (by decide)]); done)
          | (rw [zI_at, if_neg (by decide)]; (repeat rw [zI_off _ _ _ (by decide)]); done)
          | (rw [zI_at, if_neg (by decide)]; done)
          | (rw [zI_at, if_pos rfl]; done)
          | (rw [zI_at, if_pos rfl]; rfl)
          | (intro k; rw [zI_off _ _ _ (by decide), zI_at]; done)
          | (intro k; rw [zI_at]; done)
          | (rw [zI_off _ _ _ (by decide), zI_at, if_neg (by decide)]; done)
      · rw [if_pos q] at hQ
        exact hQ σ (ZF.refl _ _ _) hK
    have e0 : (nI (xW (aX A)) ≤ 0) = (xW (aX A) = 0) := by
      apply propext
      rw [show (0 : Int32) = nI 0 from rfl, nI_leI (by omega) (by omega)]
      omega
    simp only [e0]
    refine ⟨fun q => key (by omega), fun q => ?_⟩
    have e1 : nI (xW (aX A)) - 1 = nI (xW (aX A) - 1) := pk_sub (b := 1) (by omega)
    have hF := hFl (xW (aX A) - 1) (by omega)
    have hEE := hA.e hF
    refine ⟨24, rfl, by rw [e1]; exact vp_in_nI (by omega) (by omega), ?_⟩
    rw [e1, nI_clamp (by omega), hV.2.2.1.2 (xW (aX A) - 1) (by omega), nI_clamp (by omega), hK.e (by omega), z_b1 (by omega) (by omega)]
    refine ⟨12, rfl, vp_in_nI (by omega) (by omega), ?_⟩
    simp only [b2i_0]
    refine ⟨fun q2 => key (by rintro ⟨-, h⟩; rw [h] at q2; simp at q2), fun q2 => ?_⟩
    rw [if_pos ⟨by omega, by simpa using q2⟩] at hQ
    exact hQ σ (ZF.refl _ _ _) hK
  · simp only [h1] at hQ
    simp only [h2, b2i_0, ne_eq, Nat.reduceEqDiff, not_false_eq_true, not_true_eq_false, true_and, and_true, true_implies, false_implies, implies_true, and_self]
    exact hQ σ (ZF.refl _ _ _) hK
