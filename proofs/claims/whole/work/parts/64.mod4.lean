theorem AOk.e {A : AD} (h : AOk A) {k : Nat} (hk : k < tD (aT A)) : tE (aT A) k < 2 ^ tD (aT A) := (h.t.2.2.2.1 k hk).2.1
theorem AOk.n {A : AD} (h : AOk A) {k : Nat} (hk : k < tD (aT A)) : tN (aT A) k ≤ 7 := (h.t.2.2.2.1 k hk).1
theorem ModR.e {σ : ZS} {A : AD} (h : ModR σ A) {k : Nat} (hk : k < 12) : zI σ 62 k = nI (tE (aT A) k) := h.2.1.2.2.2.1 k hk
theorem z_b1 {a k : Nat} (ha : a < 2 ^ 31) (hk : k < 32) : (nI a >>> (nI k &&& 31)) &&& 1 = b2i (a.testBit k = true) := by
  rw [z_l31, z_shr ha hk, z_l1, z_and, z_bit1, b2i_nI]
def w_X12_street : WPt := fun args σ Q => match args with
  | [.ref x, .int d, .int y] => x = 56 ∧ PubM σ (q_street · d y) Q
  | _ => False
theorem m_X12_street : Meets yX12_street cX12_street 3 (some .int) 3 w_X12_street := by
  refine Meets.mk (by decide) fun args σ Φ h => ?_
  unfold w_X12_street at h
  split at h
  rotate_left
  · exact h.elim
  rename_i x d y
  obtain ⟨x, rfl⟩ : ∃ q : Nat, q = x := ⟨x, rfl⟩
  obtain ⟨hx, A, hK, hA, hQ⟩ := h
  subst hx
  refine ⟨Nat.le_of_ble_eq_true rfl, fun C hC hR => ?_⟩
  have hf := mod_f hK
  have hN := hA.1
  have hD1 := hA.t.1
  have hD := hA.t.2.1
  have hS := hA.t.2.2.1
  have hW := hA.2.2.1.2.1
  have hE := hA.2.2.1.2.2.1
  have hp := z_pow31 hD
  have hV := hK.2
  refine r_X12_street_0 hC hR m_X12_isDoor (by decide) _ _ _ ?_
  simp only [T_X12_street_0, x_psh, x_ild, x_lld, x_ald, x_ist, x_ast, x_lst, x_inc, x_iadd, x_isub, x_imul, x_iand, x_ior, x_ixor, x_ishl, x_ishr, x_iushr, x_idiv, x_irem, x_ladd, x_land, x_lor, x_lshl, x_lshr, x_ineg, x_i2l, x_l2i, x_i2b, x_lcmp, x_dup, x_dup2, x_if_eq, x_if_ne, x_if_lt, x_if_ge, x_if_gt, x_if_le, x_ic_eq, x_ic_ne, x_ic_lt, x_ic_ge, x_ic_gt, x_ic_le, x_getI, x_getR, x_putI, x_putZ, x_putR, x_iald, x_bald, x_lald, x_iast, x_bast, x_last, x_alen, x_acp, x_mmax, x_mmin, x_callV, x_callS, x_iret, x_zret, x_lret, x_aret, x_vret, x_tsw, x_stop, zst1, zst2, zkill, zkl, zsplit, zmask, zent, zentL, List.getElem?_cons_zero, List.getElem?_cons_succ, List.set_cons_zero, List.set_cons_succ, List.set_nil, List.length_cons, List.length_nil, List.replicate, List.nil_append, List.cons_append, List.map_cons, List.map_nil, List.sum_cons, List.sum_nil, Value.category, Option.toList, List.contains_cons, List.contains_nil, true_or, or_true, true_and, Nat.zero_le, Nat.reduceAdd, Nat.reduceLeDiff, Nat.reduceLT, Nat.reduceBEq, Bool.true_or, Bool.or_true, Bool.false_or, Bool.or_false, ↓reduceIte, Bool.false_eq_true, Nat.add_zero, Nat.zero_add, Nat.reduceEqDiff, Nat.reduceSub, hf, w_X12_isDoor]
  unfold q_street at hQ
  refine ⟨tD (aT A), rfl, hD, ?_⟩
  rcases ix_cs d (show tD (aT A) < 2 ^ 31 by omega) with ⟨k, hk, rfl, h1, h2⟩ | ⟨h1, h2⟩
  · simp only [h1] at hQ
    simp only [h2, b2i_0, ne_eq, Nat.reduceEqDiff, not_false_eq_true, not_true_eq_false, true_and, and_true, true_implies, false_implies, implies_true, and_self]
    refine ⟨tD (aT A), rfl, hD, ?_⟩
    rcases ix_cs y (show tD (aT A) < 2 ^ 31 by omega) with ⟨j, hj, rfl, h3, h4⟩ | ⟨h3, h4⟩
    · simp only [h3] at hQ
      simp only [h4, b2i_0, ne_eq, Nat.reduceEqDiff, not_false_eq_true, not_true_eq_false, true_and, and_true, true_implies, false_implies, implies_true, and_self]
      refine ⟨12, rfl, vp_in_nI (by omega) (by omega), ?_⟩
      have := hA.e hk
      rw [nI_clamp (by omega), hK.e (by omega), z_b1 (by omega) (by omega)]
      exact hQ σ (ZF.refl _ _ _) hK
    · simp only [h3] at hQ
      simp only [h4, b2i_0, ne_eq, Nat.reduceEqDiff, not_false_eq_true, not_true_eq_false, true_and, and_true, true_implies, false_implies, implies_true, and_self]
      exact hQ σ (ZF.refl _ _ _) hK
  · simp only [h1] at hQ
    simp only [h2, b2i_0, ne_eq, Nat.reduceEqDiff, not_false_eq_true, not_true_eq_false, true_and, and_true, true_implies, false_implies, implies_true, and_self]
    exact hQ σ (ZF.refl _ _ _) hK
def w_X12_road : WPt := fun args σ Q => match args with
  | [.ref x, .int d, .int y, .int z] => x = 56 ∧ PubM σ (q_road · d y z) Q
  | _ => False
set_option maxHeartbeats 2000000 in
theorem m_X12_road : Meets yX12_road cX12_road 5 (some .int) 3 w_X12_road := by
  refine Meets.mk (by decide) fun args σ Φ h => ?_
  unfold w_X12_road at h
  split at h
  rotate_left
  · exact h.elim
  rename_i x d y z
  obtain ⟨x, rfl⟩ : ∃ q : Nat, q = x := ⟨x, rfl⟩
  obtain ⟨hx, A, hK, hA, hQ⟩ := h
  subst hx
  refine ⟨Nat.le_of_ble_eq_true rfl, fun C hC hR => ?_⟩
  have hf := mod_f hK
  have hN := hA.1
  have hD1 := hA.t.1
  have hD := hA.t.2.1
  have hS := hA.t.2.2.1
  have hW := hA.2.2.1.2.1
  have hE := hA.2.2.1.2.2.1
  have hp := z_pow31 hD
  have hV := hK.2
  refine r_X12_road_0 hC hR m_X12_isDoor (by decide) _ _ _ ?_
  simp only [T_X12_road_0, x_psh, x_ild, x_lld, x_ald, x_ist, x_ast, x_lst, x_inc, x_iadd, x_isub, x_imul, x_iand, x_ior, x_ixor, x_ishl, x_ishr, x_iushr, x_idiv, x_irem, x_ladd, x_land, x_lor, x_lshl, x_lshr, x_ineg, x_i2l, x_l2i, x_i2b, x_lcmp, x_dup, x_dup2, x_if_eq, x_if_ne, x_if_lt, x_if_ge, x_if_gt, x_if_le, x_ic_eq, x_ic_ne, x_ic_lt, x_ic_ge, x_ic_gt, x_ic_le, x_getI, x_getR, x_putI, x_putZ, x_putR, x_iald, x_bald, x_lald, x_iast, x_bast, x_last, x_alen, x_acp, x_mmax, x_mmin, x_callV, x_callS, x_iret, x_zret, x_lret, x_aret, x_vret, x_tsw, x_stop, zst1, zst2, zkill, zkl, zsplit, zmask, zent, zentL, List.getElem?_cons_zero, List.getElem?_cons_succ, List.set_cons_zero, List.set_cons_succ, List.set_nil, List.length_cons, List.length_nil, List.replicate, List.nil_append, List.cons_append, List.map_cons, List.map_nil, List.sum_cons, List.sum_nil, Value.category, Option.toList, List.contains_cons, List.contains_nil, true_or, or_true, true_and, Nat.zero_le, Nat.reduceAdd, Nat.reduceLeDiff, Nat.reduceLT, Nat.reduceBEq, Bool.true_or, Bool.or_true, Bool.false_or, Bool.or_false, ↓reduceIte, Bool.false_eq_true, Nat.add_zero, Nat.zero_add, Nat.reduceEqDiff, Nat.reduceSub, hf, w_X12_isDoor]
  unfold q_road at hQ
  refine ⟨tD (aT A), rfl, hD, ?_⟩
  rcases ix_cs d (show tD (aT A) < 2 ^ 31 by omega) with ⟨k, hk, rfl, h1, h2⟩ | ⟨h1, h2⟩
  · simp only [h1] at hQ
    simp only [h2, b2i_0, ne_eq, Nat.reduceEqDiff, not_false_eq_true, not_true_eq_false, true_and, and_true, true_implies, false_implies, implies_true, and_self]
    refine ⟨tD (aT A), rfl, hD, ?_⟩
    rcases ix_cs y (show tD (aT A) < 2 ^ 31 by omega) with ⟨j, hj, rfl, h3, h4⟩ | ⟨h3, h4⟩
    · simp only [h3] at hQ
      simp only [h4, b2i_0, ne_eq, Nat.reduceEqDiff, not_false_eq_true, not_true_eq_false, true_and, and_true, true_implies, false_implies, implies_true, and_self]
      have ek : (nI k = nI j) = (k = j) := propext (nI_eq (by omega) (by omega))
      simp only [ek]
      by_cases e : k = j
      · simp only [if_pos e] at hQ
        exact ⟨fun q => absurd e q, fun _ => hQ σ (ZF.refl _ _ _) hK⟩
      · simp only [if_neg e] at hQ
        refine ⟨fun _ => ?_, fun q => absurd q e⟩
        have ha := hA.e hk
        have hb := hA.e hj
        have hek := hK.e (show k < 12 by omega)
        have hej := hK.e (show j < 12 by omega)
        have ik : vp_in (nI k) 12 := vp_in_nI (by omega) (by omega)
        have ij : vp_in (nI j) 12 := vp_in_nI (by omega) (by omega)
        have ck := nI_clamp (show k < 2 ^ 31 by omega)
        have cj := nI_clamp (show j < 2 ^ 31 by omega)
        have hb1 : (nI (tE (aT A) k) >>> (nI j &&& nI 31)) &&& nI 1 = b2i ((tE (aT A) k).testBit j = true) := z_b1 (by omega) (by omega)
        have fin : ∀ va vb : Nat, (∀ i, jnE (aT A) k j (!decide (z = 0)) i = if i = k then va else if i = j then vb else tE (aT A) i) → Φ (some (.int (b2i ((tE (aT A) k).testBit j = true)))) (sI (sI (sI σ 62 k (nI va)) 62 j (nI vb)) 56 16 0) := by
          intro va vb hj2
          refine hQ _ (ZF.trans (ZF.trans (zf_one (by decide) (by decide)) (zf_one (by decide) (by decide))) (zf_one (by decide) (by decide))) ⟨hK.1.of rfl rfl, ⟨?_, ?_, ?_, fun i hi => ?_, ?_, ?_⟩, hV.2.1.of ?_ ?_, ⟨?_, fun k hk => absurd hk (by show ¬ k < 0; omega)⟩, hV.2.2.2.1.of ?_ ?_, hV.2.2.2.2.1.of ?_, hV.2.2.2.2.2.of ?_⟩
          · exact hV.1.1
          · exact hV.1.2.1
          · exact hV.1.2.2.1
          · rw [zI_off _ _ _ (by decide), zI_at]
            show _ = nI (jnE (aT A) k j (!decide (z = 0)) i)
            rw [hj2 i, zI_at]
            by_cases q : i = j
            · rw [if_pos q, if_neg (by omega), if_pos q]
            · rw [if_neg q, if_neg q]
              by_cases q2 : i = k
              · rw [if_pos q2, if_pos q2]
              · rw [if_neg q2, if_neg q2]
                exact hK.e hi
          · exact hV.1.2.2.2.2.1
          · exact hV.1.2.2.2.2.2
          all_goals first
            | (intro i h1 h2; (repeat rw [zI_off _ _ _ (by omega)]); done)
            | ((repeat rw [zI_off _ _ _ (by decide)]); done)
            | (rw [zI_at, if_neg (by decide)]; (repeat rw [zI_off _ _ _ (by decide)]); done)
            | (rw [zI_at, if_neg (by decide)]; done)
            | (rw [zI_at, if_pos rfl]; done)
            | (rw [zI_at, if_pos rfl]; rfl)
            | (intro k; rw [zI_off _ _ _ (by decide), zI_at]; done)
            | (intro k; rw [zI_at]; done)
            | (rw [zI_off _ _ _ (by decide), zI_at, if_neg (by decide)]; done)
        have key : ∀ va vb : Nat, (∀ i, jnE (aT A) k j (!decide (z = 0)) i = if i = k then va else if i = j then vb else tE (aT A) i) → (z = 0 → vb = clrB (tE (aT A) j) k) → (¬ z = 0 → vb = tE (aT A) j ||| 2 ^ k) → WW C 72 [some (.ref 56), some (.int (nI k)), some (.int (nI j)), some (.int z), some (.int (b2i ((tE (aT A) k).testBit j = true)))] [.int (nI va), .int (nI k), .ref (62 : Nat)] σ := by
          intro va vb h5 h6 h7
          refine r_X12_road_72 hC hR m_X12_isDoor (by decide) _ _ _ ?_
          simp only [T_X12_road_72, x_psh, x_ild, x_lld, x_ald, x_ist, x_ast, x_lst, x_inc, x_iadd, x_isub, x_imul, x_iand, x_ior, x_ixor, x_ishl, x_ishr, x_iushr, x_idiv, x_irem, x_ladd, x_land, x_lor, x_lshl, x_lshr, x_ineg, x_i2l, x_l2i, x_i2b, x_lcmp, x_dup, x_dup2, x_if_eq, x_if_ne, x_if_lt, x_if_ge, x_if_gt, x_if_le, x_ic_eq, x_ic_ne, x_ic_lt, x_ic_ge, x_ic_gt, x_ic_le, x_getI, x_getR, x_putI, x_putZ, x_putR, x_iald, x_bald, x_lald, x_iast, x_bast, x_last, x_alen, x_acp, x_mmax, x_mmin, x_callV, x_callS, x_iret, x_zret, x_lret, x_aret, x_vret, x_tsw, x_stop, zst1, zst2, zkill, zkl, zsplit, zmask, zent, zentL, List.getElem?_cons_zero, List.getElem?_cons_succ, List.set_cons_zero, List.set_cons_succ, List.set_nil, List.length_cons, List.length_nil, List.replicate, List.nil_append, List.cons_append, List.map_cons, List.map_nil, List.sum_cons, List.sum_nil, Value.category, Option.toList, List.contains_cons, List.contains_nil, true_or, or_true, true_and, Nat.zero_le, Nat.reduceAdd, Nat.reduceLeDiff, Nat.reduceLT, Nat.reduceBEq, Bool.true_or, Bool.or_true, Bool.false_or, Bool.or_false, ↓reduceIte, Bool.false_eq_true, Nat.add_zero, Nat.zero_add, Nat.reduceEqDiff, Nat.reduceSub, hf, zd_sI, zR_sI]
          have hj3 : zI (sI σ 62 k (nI va)) 62 j = nI (tE (aT A) j) := by rw [zI_at, if_neg (fun q => e q.symm)]; exact hej
          refine ⟨12, rfl, ik, by decide, fun q => ?_, fun q => ?_⟩
          · refine ⟨by decide, 12, rfl, ij, 12, rfl, ij, ?_⟩
            rw [ck, cj, hj3, z_l31, z_l1, z_p2 k (by omega), z_clr' (by omega) (by omega), ← h6 q]
            exact fin va vb h5
          · refine ⟨by decide, 12, rfl, ij, 12, rfl, ij, ?_⟩
            rw [ck, cj, hj3, z_l31, z_l1, z_p2 k (by omega), z_or, ← h7 q]
            exact fin va vb h5
        refine ⟨12, rfl, ik, fun q => ⟨12, rfl, ik, ?_⟩, fun q => ⟨12, rfl, ik, ?_⟩⟩
        · rw [ck, hek, z_l31, z_l1, hb1, z_p2 j (by omega), z_clr' (by omega) (by omega)]
          exact key _ _ (fun i => by simp [jnE, q]) (fun _ => rfl) (fun h => absurd q h)
        · rw [ck, hek, z_l31, z_l1, hb1, z_p2 j (by omega), z_or]
          exact key _ _ (fun i => by simp [jnE, q]) (fun h => absurd h q) (fun _ => rfl)
    · simp only [h3] at hQ
      simp only [h4, b2i_0, ne_eq, Nat.reduceEqDiff, not_false_eq_true, not_true_eq_false, true_and, and_true, true_implies, false_implies, implies_true, and_self]
      exact hQ σ (ZF.refl _ _ _) hK
  · simp only [h1] at hQ
    simp only [h2, b2i_0, ne_eq, Nat.reduceEqDiff, not_false_eq_true, not_true_eq_false, true_and, and_true, true_implies, false_implies, implies_true, and_self]
    exact hQ σ (ZF.refl _ _ _) hK
