def w_X12_write : WPt := fun args σ Q => match args with
  | [.ref x, .int n, .long v] => x = 56 ∧ PubM σ (q_write · n v) Q
  | _ => False
theorem in_wr (x : Int32) : ((1 : Int64) ≤ x.toInt64 ∧ x.toInt64 ≤ 8) = (1 ≤ x ∧ x ≤ 8) := by
  rw [show (1 : Int64) = (1 : Int32).toInt64 from rfl, show (8 : Int64) = (8 : Int32).toInt64 from rfl, i64_le, i64_le]
set_option maxHeartbeats 1000000 in
theorem m_X12_write : Meets yX12_write cX12_write 5 (some .int) 2 w_X12_write := by
  refine Meets.mk (by decide) fun args σ Φ h => ?_
  unfold w_X12_write at h
  split at h
  rotate_left
  · exact h.elim
  rename_i x n v
  obtain ⟨x, rfl⟩ : ∃ q : Nat, q = x := ⟨x, rfl⟩
  obtain ⟨hx, A, hK, hA, hQ⟩ := h
  subst hx
  refine ⟨Nat.le_of_ble_eq_true rfl, fun C hC hR => ?_⟩
  have hf := mod_f hK
  have hN := hA.1
  have hD1 := hA.t.1
  have hD := hA.t.2.1
  have hS := hA.t.2.2.1
  have hW := hA.2.2.1.2.1
  have hE := hA.2.2.1.2.2.1
  have hp := z_pow31 hD
  have hV := hK.2
  refine r_X12_write_0 hC hR m_X12_in (by decide) _ _ _ ?_
  simp only [T_X12_write_0, x_psh, x_ild, x_lld, x_ald, x_ist, x_ast, x_lst, x_inc, x_iadd, x_isub, x_imul, x_iand, x_ior, x_ixor, x_ishl, x_ishr, x_iushr, x_idiv, x_irem, x_ladd, x_land, x_lor, x_lshl, x_lshr, x_ineg, x_i2l, x_l2i, x_i2b, x_lcmp, x_dup, x_dup2, x_if_eq, x_if_ne, x_if_lt, x_if_ge, x_if_gt, x_if_le, x_ic_eq, x_ic_ne, x_ic_lt, x_ic_ge, x_ic_gt, x_ic_le, x_getI, x_getR, x_putI, x_putZ, x_putR, x_iald, x_bald, x_lald, x_iast, x_bast, x_last, x_alen, x_acp, x_mmax, x_mmin, x_callV, x_callS, x_iret, x_zret, x_lret, x_aret, x_vret, x_tsw, x_stop, zst1, zst2, zkill, zkl, zsplit, zmask, zent, zentL, List.getElem?_cons_zero, List.getElem?_cons_succ, List.set_cons_zero, List.set_cons_succ, List.set_nil, List.length_cons, List.length_nil, List.replicate, List.nil_append, List.cons_append, List.map_cons, List.map_nil, List.sum_cons, List.sum_nil, Value.category, Option.toList, List.contains_cons, List.contains_nil, true_or, or_true, true_and, Nat.zero_le, Nat.reduceAdd, Nat.reduceLeDiff, Nat.reduceLT, Nat.reduceBEq, Bool.true_or, Bool.or_true, Bool.false_or, Bool.or_false, ↓reduceIte, Bool.false_eq_true, Nat.add_zero, Nat.zero_add, Nat.reduceEqDiff, Nat.reduceSub, hf, w_X12_in]
  simp only [in_wr, b2i_0, ne_eq, Nat.reduceEqDiff, not_false_eq_true, not_true_eq_false, true_and, and_true, true_implies, false_implies, implies_true, and_self]
  rcases i_wr n with ⟨h1, h2⟩ | ⟨h1, h3, h2⟩ | ⟨k, hk, rfl, h2⟩
  · simp only [q_write, h2] at hQ
    exact ⟨fun q => absurd h1 (Int32.not_lt.mpr (Decidable.not_not.mp q).1), fun _ => hQ σ (ZF.refl _ _ _) hK⟩
  · simp only [q_write, h2] at hQ
    exact ⟨fun q => absurd (Decidable.not_not.mp q).2 h3, fun _ => hQ σ (ZF.refl _ _ _) hK⟩
  · simp only [q_write, h2] at hQ
    refine ⟨fun _ => ?_, fun q => absurd ⟨by rw [z_l1]; exact nI_le (by omega) (by omega), by rw [z_l8]; exact nI_le (by omega) (by omega)⟩ q⟩
    rw [nI_add, z_l96, nI_leI (by omega) (by omega)]
    refine ⟨fun q => ?_, fun q => ?_⟩
    · rw [if_neg (by omega)] at hQ
      have key : ∀ r j : Nat, r + j = k + 1 → ∀ τ, ModR τ (setB A (aN A + j) (apB (aB A) (aN A) (k + 1) v)) → ZF σ τ 56 82 → WW C 34 [some (.ref 56), none, some (.long v), none, some (.int (dn r))] [] τ := by
        intro r
        induction r with
        | zero =>
          intro j hj τ hm hz
          have g := mod_f hm
          refine r_X12_write_34 hC hR m_X12_in (by decide) _ _ _ ?_
          simp only [T_X12_write_34, x_psh, x_ild, x_lld, x_ald, x_ist, x_ast, x_lst, x_inc, x_iadd, x_isub, x_imul, x_iand, x_ior, x_ixor, x_ishl, x_ishr, x_iushr, x_idiv, x_irem, x_ladd, x_land, x_lor, x_lshl, x_lshr, x_ineg, x_i2l, x_l2i, x_i2b, x_lcmp, x_dup, x_dup2, x_if_eq, x_if_ne, x_if_lt, x_if_ge, x_if_gt, x_if_le, x_ic_eq, x_ic_ne, x_ic_lt, x_ic_ge, x_ic_gt, x_ic_le, x_getI, x_getR, x_putI, x_putZ, x_putR, x_iald, x_bald, x_lald, x_iast, x_bast, x_last, x_alen, x_acp, x_mmax, x_mmin, x_callV, x_callS, x_iret, x_zret, x_lret, x_aret, x_vret, x_tsw, x_stop, zst1, zst2, zkill, zkl, zsplit, zmask, zent, zentL, List.getElem?_cons_zero, List.getElem?_cons_succ, List.set_cons_zero, List.set_cons_succ, List.set_nil, List.length_cons, List.length_nil, List.replicate, List.nil_append, List.cons_append, List.map_cons, List.map_nil, List.sum_cons, List.sum_nil, Value.category, Option.toList, List.contains_cons, List.contains_nil, true_or, or_true, true_and, Nat.zero_le, Nat.reduceAdd, Nat.reduceLeDiff, Nat.reduceLT, Nat.reduceBEq, Bool.true_or, Bool.or_true, Bool.false_or, Bool.or_false, ↓reduceIte, Bool.false_eq_true, Nat.add_zero, Nat.zero_add, Nat.reduceEqDiff, Nat.reduceSub, g]
          refine ⟨fun _ => ?_, fun q => absurd dn_0 q⟩
          have ej : j = k + 1 := by omega
          subst ej
          exact hQ τ hz hm
        | succ r ih =>
          intro j hj τ hm hz
          have g := mod_f hm
          rw [dn_s]
          refine r_X12_write_34 hC hR m_X12_in (by decide) _ _ _ ?_
          simp only [T_X12_write_34, x_psh, x_ild, x_lld, x_ald, x_ist, x_ast, x_lst, x_inc, x_iadd, x_isub, x_imul, x_iand, x_ior, x_ixor, x_ishl, x_ishr, x_iushr, x_idiv, x_irem, x_ladd, x_land, x_lor, x_lshl, x_lshr, x_ineg, x_i2l, x_l2i, x_i2b, x_lcmp, x_dup, x_dup2, x_if_eq, x_if_ne, x_if_lt, x_if_ge, x_if_gt, x_if_le, x_ic_eq, x_ic_ne, x_ic_lt, x_ic_ge, x_ic_gt, x_ic_le, x_getI, x_getR, x_putI, x_putZ, x_putR, x_iald, x_bald, x_lald, x_iast, x_bast, x_last, x_alen, x_acp, x_mmax, x_mmin, x_callV, x_callS, x_iret, x_zret, x_lret, x_aret, x_vret, x_tsw, x_stop, zst1, zst2, zkill, zkl, zsplit, zmask, zent, zentL, List.getElem?_cons_zero, List.getElem?_cons_succ, List.set_cons_zero, List.set_cons_succ, List.set_nil, List.length_cons, List.length_nil, List.replicate, List.nil_append, List.cons_append, List.map_cons, List.map_nil, List.sum_cons, List.sum_nil, Value.category, Option.toList, List.contains_cons, List.contains_nil, true_or, or_true, true_and, Nat.zero_le, Nat.reduceAdd, Nat.reduceLeDiff, Nat.reduceLT, Nat.reduceBEq, Bool.true_or, Bool.or_true, Bool.false_or, Bool.or_false, ↓reduceIte, Bool.false_eq_true, Nat.add_zero, Nat.zero_add, Nat.reduceEqDiff, Nat.reduceSub, g]
          refine ⟨fun q => absurd q (nI_pos (by omega)), fun _ => ⟨by decide, 96, rfl, vp_in_nI (show aN A + j < 96 by omega) (by omega), ?_⟩⟩
          have e1 : ((v >>> ((8 * nI r).toInt64 &&& 63)) &&& 255).toInt32 = nI (byN v r) := by_mod (wsh v r)
          have ea : aN (setB A (aN A + j) (apB (aB A) (aN A) (k + 1) v)) = aN A + j := rfl
          simp only [ea, nI_clamp (show aN A + j < 2 ^ 31 by omega), e1, g, zd_sI, zI_off τ (i := 65) (aN A + j) (nI (byN v r)) (show (56 : Nat) ≠ 65 by decide), nI_i3, dn_dec, true_and]
          have hV2 := hm.2
          refine ih (j + 1) (by omega) _ ⟨hm.1.of rfl rfl, hV2.1.of ?_ ?_ ?_, ⟨?_, fun i hi => ?_⟩, hV2.2.2.1.of ?_ ?_, hV2.2.2.2.1.of ?_ ?_, hV2.2.2.2.2.1.of ?_, hV2.2.2.2.2.2.of ?_⟩ (hz.trans (ZF.trans (zf_one (by decide) (by decide)) (zf_one (by decide) (by decide))))
          rotate_left 4
          · rw [zI_off _ _ _ (by decide), zI_at]
            replace hi : i < aN A + (j + 1) := hi
            show _ = nI (apB (aB A) (aN A) (k + 1) v i)
            by_cases q : i = aN A + j
            · rw [if_pos q]
              unfold apB
              rw [if_neg (by omega), show aN A + (k + 1) - 1 - i = r by omega]
            · rw [if_neg q]
              exact hV2.2.1.2 i (show i < aN A + j by omega)
          all_goals first
            | (intro i h1 h2; (repeat rw [zI_off _ _ _ (by omega)]); done)
            | ((repeat rw [zI_off _ _ _ (by decide)]); done)
            | (rw [zI_at, if_neg (by decide)]; (repeat rw [zI_off _ _ _ (by decide)]); done)
            | (rw [zI_at, if_neg (by decide)]; done)
            | (rw [zI_at, if_pos rfl]; done)
            | (rw [zI_at, if_pos rfl]; rfl)
            | (intro k; rw [zI_off _ _ _ (by decide), zI_at]; done)
            | (intro k; rw [zI_at]; done)
            | (rw [zI_off _ _ _ (by decide), zI_at, if_neg (by decide)]; done)
      refine key (k + 1) 0 (by omega) σ ⟨hK.1, hV.1, ⟨hV.2.1.1, fun i hi => ?_⟩, hV.2.2.1, hV.2.2.2.1, hV.2.2.2.2⟩ (ZF.refl _ _ _)
      show _ = nI (apB (aB A) (aN A) (k + 1) v i)
      replace hi : i < aN A := hi
      unfold apB
      rw [if_pos hi]
      exact hV.2.1.2 i hi
    · rw [if_pos (by omega)] at hQ
      exact hQ σ (ZF.refl _ _ _) hK
def w_X12_let : WPt := fun args σ Q => match args with
  | [.ref x, .int d, .int y] => x = 56 ∧ PubM σ (q_let · d y) Q
  | _ => False
theorem m_X12_let : Meets yX12_let cX12_let 4 (some .int) 3 w_X12_let := by
  refine Meets.mk (by decide) fun args σ Φ h => ?_
  unfold w_X12_let at h
  split at h
  rotate_left
  · exact h.elim
  rename_i x d y
  obtain ⟨x, rfl⟩ : ∃ q : Nat, q = x := ⟨x, rfl⟩
  obtain ⟨hx, A, hK, hA, hQ⟩ := h
  subst hx
  refine ⟨Nat.le_of_ble_eq_true rfl, fun C hC hR => ?_⟩
  have hf := mod_f hK
  have hN := hA.1
  have hD1 := hA.t.1
  have hD := hA.t.2.1
  have hS := hA.t.2.2.1
  have hW := hA.2.2.1.2.1
  have hE := hA.2.2.1.2.2.1
  have hp := z_pow31 hD
  have hV := hK.2
  refine r_X12_let_0 hC hR m_X12_isDoor (by decide) m_X12_in (by decide) _ _ _ ?_
  simp only [T_X12_let_0, x_psh, x_ild, x_lld, x_ald, x_ist, x_ast, x_lst, x_inc, x_iadd, x_isub, x_imul, x_iand, x_ior, x_ixor, x_ishl, x_ishr, x_iushr, x_idiv, x_irem, x_ladd, x_land, x_lor, x_lshl, x_lshr, x_ineg, x_i2l, x_l2i, x_i2b, x_lcmp, x_dup, x_dup2, x_if_eq, x_if_ne, x_if_lt, x_if_ge, x_if_gt, x_if_le, x_ic_eq, x_ic_ne, x_ic_lt, x_ic_ge, x_ic_gt, x_ic_le, x_getI, x_getR, x_putI, x_putZ, x_putR, x_iald, x_bald, x_lald, x_iast, x_bast, x_last, x_alen, x_acp, x_mmax, x_mmin, x_callV, x_callS, x_iret, x_zret, x_lret, x_aret, x_vret, x_tsw, x_stop, zst1, zst2, zkill, zkl, zsplit, zmask, zent, zentL, List.getElem?_cons_zero, List.getElem?_cons_succ, List.set_cons_zero, List.set_cons_succ, List.set_nil, List.length_cons, List.length_nil, List.replicate, List.nil_append, List.cons_append, List.map_cons, List.map_nil, List.sum_cons, List.sum_nil, Value.category, Option.toList, List.contains_cons, List.contains_nil, true_or, or_true, true_and, Nat.zero_le, Nat.reduceAdd, Nat.reduceLeDiff, Nat.reduceLT, Nat.reduceBEq, Bool.true_or, Bool.or_true, Bool.false_or, Bool.or_false, ↓reduceIte, Bool.false_eq_true, Nat.add_zero, Nat.zero_add, Nat.reduceEqDiff, Nat.reduceSub, hf, w_X12_isDoor, w_X12_in]
  unfold q_let at hQ
  simp only [in_7, b2i_0, ne_eq, Nat.reduceEqDiff, not_false_eq_true, not_true_eq_false, true_and, and_true, true_implies, false_implies, implies_true, and_self]
  refine ⟨tD (aT A), rfl, hD, ?_⟩
  rcases ix_cs d (show tD (aT A) < 2 ^ 31 by omega) with ⟨k, hk, rfl, h1, h2⟩ | ⟨h1, h2⟩
  · simp only [h1] at hQ
    simp only [h2, b2i_0, ne_eq, Nat.reduceEqDiff, not_false_eq_true, not_true_eq_false, true_and, and_true, true_implies, false_implies, implies_true, and_self]
    rcases ix_cs y (show 8 < 2 ^ 31 by omega) with ⟨v, hv, rfl, h3, h4⟩ | ⟨h3, h4⟩
    · simp only [h3] at hQ
      simp only [h4, b2i_0, ne_eq, Nat.reduceEqDiff, not_false_eq_true, not_true_eq_false, true_and, and_true, true_implies, false_implies, implies_true, and_self]
      refine ⟨12, rfl, vp_in_nI (by omega) (by omega), 12, rfl, vp_in_nI (by omega) (by omega), ?_⟩
      rw [nI_clamp (by omega), hV.1.2.2.1 k hk]
      refine hQ _ (zf_one (by decide) (by decide)) ⟨hK.1.of rfl rfl, ⟨?_, ?_, fun i hi => ?_, ?_, ?_, ?_⟩, hV.2.1.of ?_ ?_, hV.2.2.1.of ?_ ?_, hV.2.2.2.1.of ?_ ?_, hV.2.2.2.2.1.of ?_, hV.2.2.2.2.2.of ?_⟩
      · exact hV.1.1
      · exact hV.1.2.1
      · rw [zI_at]
        show _ = nI (va_up (tN (aT A)) k v i)
        unfold va_up
        by_cases q : i = k
        · rw [if_pos q, if_pos q]
        · rw [if_neg q, if_neg q]
          exact hV.1.2.2.1 i hi
      · exact hV.1.2.2.2.1
      · exact hV.1.2.2.2.2.1
      · exact hV.1.2.2.2.2.2
      all_goals first
        | (intro i h1 h2; (repeat rw [zI_off _ _ _ (by omega)]); done)
        | ((repeat rw [zI_off _ _ _ (by decide)]); done)
        | (rw [zI_at, if_neg (by decide)]; (repeat rw [zI_off _ _ _ (by decide)]); done)
        | (rw [zI_at, if_neg (by decide)]; done)
        | (rw [zI_at, if_pos rfl]; done)
        | (rw [zI_at, if_pos rfl]; rfl)
        | (intro k; rw [zI_off _ _ _ (by decide), zI_at]; done)
        | (intro k; rw [zI_at]; done)
        | (rw [zI_off _ _ _ (by decide), zI_at, if_neg (by decide)]; done)
    · simp only [h3] at hQ
      simp only [h4, b2i_0, ne_eq, Nat.reduceEqDiff, not_false_eq_true, not_true_eq_false, true_and, and_true, true_implies, false_implies, implies_true, and_self]
      exact hQ σ (ZF.refl _ _ _) hK
  · simp only [h1] at hQ
    simp only [h2, b2i_0, ne_eq, Nat.reduceEqDiff, not_false_eq_true, not_true_eq_false, true_and, and_true, true_implies, false_implies, implies_true, and_self]
    exact hQ σ (ZF.refl _ _ _) hK
