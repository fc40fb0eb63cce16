theorem z_rem1089 {a : Nat} (ha : a < 2 ^ 31) : nI a - nI a / nI 1089 * nI 1089 = nI (a % 1089) := pk_rem ha (by decide) (by decide)
theorem z_div1089 {a : Nat} (ha : a < 2 ^ 31) : nI a / nI 1089 = nI (a / 1089) := pk_div ha (by decide) (by decide)
theorem z_rem1089' {a : Nat} (ha : a < 2 ^ 31) : nI a - nI (a / 1089) * nI 1089 = nI (a % 1089) := by rw [← z_div1089 ha]; exact z_rem1089 ha
theorem z_rem33 {a : Nat} (ha : a < 2 ^ 31) : nI a - nI a / nI 33 * nI 33 = nI (a % 33) := pk_rem ha (by decide) (by decide)
theorem z_div33 {a : Nat} (ha : a < 2 ^ 31) : nI a / nI 33 = nI (a / 33) := pk_div ha (by decide) (by decide)
def rcR (σ : ZS) (rc : Nat → Nat) : Prop := ∀ p, p < 13068 → zI σ 71 p = nI (rc p) ∧ rc p < 2 ^ 31
def w_X12_bothOn : WPt := fun args σ Q => match args with
  | [.ref x, .int a, .int b, .int c, .int e] => x = 56 ∧ ∃ T k j q n rc, MdT σ T ∧ a = nI k ∧ k < tS T ∧ b = nI j ∧ j < tS T ∧ c = nI q ∧ q < 1089 * tD T ∧ e = nI n ∧ n < 2 ^ 31 ∧ rcR σ rc ∧ ∀ σ', IF σ σ' 71 → rcR σ' (boS T k j q n rc (tD T)) → Q none σ'
  | _ => False
set_option maxHeartbeats 4000000 in
theorem m_X12_bothOn : Meets yX12_bothOn cX12_bothOn 7 none 4 w_X12_bothOn := by
  refine Meets.mk (by decide) fun args σ Φ h => ?_
  unfold w_X12_bothOn at h
  split at h
  rotate_left
  · exact h.elim
  rename_i x a b c e
  obtain ⟨x, rfl⟩ : ∃ q : Nat, q = x := ⟨x, rfl⟩
  obtain ⟨hx, T, k, j, q, n, rc, hM, rfl, hk, rfl, hj, rfl, hq, rfl, hn, hrc, hQ⟩ := h
  subst hx
  refine ⟨Nat.le_of_ble_eq_true rfl, fun C hC hR => ?_⟩
  have hT := hM.2.2
  have hD := hT.2.1
  have hS := hT.2.2.1
  have hL := hT.2.2.2.2.2.1 k hk
  have hL2 := hT.2.2.2.2.2.1 j hj
  have hMτ : ∀ τ, IF σ τ 71 → MdT τ T := fun τ hf => hM.q (hf.m (by omega))
  have hgτ : ∀ τ, IF σ τ 71 → ModS τ ∧ zI τ 56 10 = nI (tD T) := fun τ hf => ⟨(hMτ τ hf).1, (hMτ τ hf).2.1.1⟩
  have hEτ : ∀ τ, IF σ τ 71 → ∀ j, j < 12 → zI τ 62 j = nI (tE T j) := fun τ hf j hj => (hMτ τ hf).2.1.2.2.2.1 j hj
  unfold ModS at hgτ
  have hput : ∀ τ, IF σ τ 71 → ∀ q v, IF σ (sI τ 71 q v) 71 := fun τ hf q v => hf.trans if_one
  have key := zloop (P := fun o => ∀ τ, IF σ τ 71 → rcR τ (boS T k j q n rc o) → WW C 3 [some (.ref 56), some (.int (nI k)), some (.int (nI j)), some (.int (nI q)), some (.int (nI n)), some (.int (nI o)), none] [] τ) (tD T) (fun o ho ih τ hf hr => ?_) (fun τ hf hr => ?_) 0 (by omega)
  · refine r_X12_bothOn_0 hC hR m_X12_stateOf (by decide) _ _ _ ?_
    simp only [T_X12_bothOn_0, x_psh, x_ild, x_lld, x_ald, x_ist, x_ast, x_lst, x_inc, x_iadd, x_isub, x_imul, x_iand, x_ior, x_ixor, x_ishl, x_ishr, x_iushr, x_idiv, x_irem, x_ladd, x_land, x_lor, x_lshl, x_lshr, x_ineg, x_i2l, x_l2i, x_i2b, x_lcmp, x_dup, x_dup2, x_if_eq, x_if_ne, x_if_lt, x_if_ge, x_if_gt, x_if_le, x_ic_eq, x_ic_ne, x_ic_lt, x_ic_ge, x_ic_gt, x_ic_le, x_getI, x_getR, x_putI, x_putZ, x_putR, x_iald, x_bald, x_lald, x_iast, x_bast, x_last, x_alen, x_acp, x_mmax, x_mmin, x_callV, x_callS, x_iret, x_zret, x_lret, x_aret, x_vret, x_tsw, x_stop, zst1, zst2, zkill, zkl, zsplit, zmask, zent, zentL, List.getElem?_cons_zero, List.getElem?_cons_succ, List.set_cons_zero, List.set_cons_succ, List.set_nil, List.length_cons, List.length_nil, List.replicate, List.nil_append, List.cons_append, List.map_cons, List.map_nil, List.sum_cons, List.sum_nil, Value.category, Option.toList, List.contains_cons, List.contains_nil, true_or, or_true, true_and, Nat.zero_le, Nat.reduceAdd, Nat.reduceLeDiff, Nat.reduceLT, Nat.reduceBEq, Bool.true_or, Bool.or_true, Bool.false_or, Bool.or_false, ↓reduceIte, Bool.false_eq_true, Nat.add_zero, Nat.zero_add, Nat.reduceEqDiff, Nat.reduceSub, b2i_0, ne_eq, Nat.reduceEqDiff, not_false_eq_true, not_true_eq_false, true_and, and_true, true_implies, false_implies, implies_true, and_self]
    exact key σ (IF.refl _ _) hrc
  · have g := hgτ τ hf
    have hEd := hT.e (q / 1089)
    have hst : stQ T k j q o < 13068 := by
      have a := so_le (T := T) (k := k) (s := q % 1089 / 33) (d := o) hL.1 hL.2.1
      have b := so_le (T := T) (k := j) (s := q % 33) (d := o) hL2.1 hL2.2.1
      unfold stQ
      omega
    refine r_X12_bothOn_3 hC hR m_X12_stateOf (by decide) _ _ _ ?_
    simp only [T_X12_bothOn_3, x_psh, x_ild, x_lld, x_ald, x_ist, x_ast, x_lst, x_inc, x_iadd, x_isub, x_imul, x_iand, x_ior, x_ixor, x_ishl, x_ishr, x_iushr, x_idiv, x_irem, x_ladd, x_land, x_lor, x_lshl, x_lshr, x_ineg, x_i2l, x_l2i, x_i2b, x_lcmp, x_dup, x_dup2, x_if_eq, x_if_ne, x_if_lt, x_if_ge, x_if_gt, x_if_le, x_ic_eq, x_ic_ne, x_ic_lt, x_ic_ge, x_ic_gt, x_ic_le, x_getI, x_getR, x_putI, x_putZ, x_putR, x_iald, x_bald, x_lald, x_iast, x_bast, x_last, x_alen, x_acp, x_mmax, x_mmin, x_callV, x_callS, x_iret, x_zret, x_lret, x_aret, x_vret, x_tsw, x_stop, zst1, zst2, zkill, zkl, zsplit, zmask, zent, zentL, List.getElem?_cons_zero, List.getElem?_cons_succ, List.set_cons_zero, List.set_cons_succ, List.set_nil, List.length_cons, List.length_nil, List.replicate, List.nil_append, List.cons_append, List.map_cons, List.map_nil, List.sum_cons, List.sum_nil, Value.category, Option.toList, List.contains_cons, List.contains_nil, true_or, or_true, true_and, Nat.zero_le, Nat.reduceAdd, Nat.reduceLeDiff, Nat.reduceLT, Nat.reduceBEq, Bool.true_or, Bool.or_true, Bool.false_or, Bool.or_false, ↓reduceIte, Bool.false_eq_true, Nat.add_zero, Nat.zero_add, Nat.reduceEqDiff, Nat.reduceSub, g, w_X12_stateOf, b2i_0, ne_eq, Nat.reduceEqDiff, not_false_eq_true, not_true_eq_false, true_and, and_true, true_implies, false_implies, implies_true, and_self]
    rw [z_l1089, z_div1089 (by omega), nI_clamp (show q / 1089 < 2 ^ 31 by omega), hEτ τ hf _ (by omega), z_b1 (by omega) (by omega)]
    simp only [b2i_1, nI_i3]
    rw [boS] at ih
    refine ⟨fun q => absurd q (nI_ge (by omega) (by omega)), fun _ => ⟨by decide, 12, rfl, vp_in_nI (by omega) (by omega), fun q3 => ?_, fun q3 => ⟨by decide, by decide, T, k, q % 1089 / 33, o, hMτ τ hf, rfl, hk, ?_, by omega, rfl, ho, by decide, T, j, q % 33, o, hMτ τ hf, rfl, hj, ?_, by omega, rfl, ho, ?_⟩⟩⟩
    · rw [if_neg (fun h => q3 h.1)] at ih
      exact ih τ hf hr
    · rw [z_rem1089' (by omega), z_l33, z_div33 (by omega)]
    · rw [z_l33, z_rem33 (by omega)]
    · have e1 : nI 1089 * nI o + 33 * nI (soN T k (q % 1089 / 33) o) + nI (soN T j (q % 33) o) = nI (stQ T k j q o) := by
        rw [z_l33, pk_mul, pk_mul, nI_add, nI_add]
        rfl
      have hrr := hr _ hst
      rw [e1, nI_clamp (by omega), hrr.1]
      have e0 : (nI (boS T k j q n rc o (stQ T k j q o)) = 0) = (boS T k j q n rc o (stQ T k j q o) = 0) := propext (nI_eq (b := 0) hrr.2 (by omega))
      simp only [e0]
      refine ⟨13068, rfl, vp_in_nI (by omega) (by omega), fun q4 => ⟨13068, rfl, vp_in_nI (by omega) (by omega), 13068, rfl, vp_in_nI (by omega) (by omega), ?_⟩, fun q4 => ⟨13068, rfl, vp_in_nI (by omega) (by omega), ?_⟩⟩
      · rw [if_neg (fun h => q4 h.2)] at ih
        refine ih _ (hput τ hf _ _) (fun p hp => ?_)
        rw [zI_at]
        by_cases e : p = stQ T k j q o
        · rw [if_pos e, e]; exact ⟨rfl, hrr.2⟩
        · rw [if_neg e]; exact hr p hp
      · rw [if_pos ⟨q3, q4⟩] at ih
        refine ih _ (hput τ hf _ _) (fun p hp => ?_)
        rw [zI_at]
        by_cases e : p = stQ T k j q o
        · rw [if_pos e, e, up_at]; exact ⟨rfl, hn⟩
        · rw [if_neg e, up_off _ _ e]; exact hr p hp
  · have g := hgτ τ hf
    refine r_X12_bothOn_3 hC hR m_X12_stateOf (by decide) _ _ _ ?_
    simp only [T_X12_bothOn_3, x_psh, x_ild, x_lld, x_ald, x_ist, x_ast, x_lst, x_inc, x_iadd, x_isub, x_imul, x_iand, x_ior, x_ixor, x_ishl, x_ishr, x_iushr, x_idiv, x_irem, x_ladd, x_land, x_lor, x_lshl, x_lshr, x_ineg, x_i2l, x_l2i, x_i2b, x_lcmp, x_dup, x_dup2, x_if_eq, x_if_ne, x_if_lt, x_if_ge, x_if_gt, x_if_le, x_ic_eq, x_ic_ne, x_ic_lt, x_ic_ge, x_ic_gt, x_ic_le, x_getI, x_getR, x_putI, x_putZ, x_putR, x_iald, x_bald, x_lald, x_iast, x_bast, x_last, x_alen, x_acp, x_mmax, x_mmin, x_callV, x_callS, x_iret, x_zret, x_lret, x_aret, x_vret, x_tsw, x_stop, zst1, zst2, zkill, zkl, zsplit, zmask, zent, zentL, List.getElem?_cons_zero, List.getElem?_cons_succ, List.set_cons_zero, List.set_cons_succ, List.set_nil, List.length_cons, List.length_nil, List.replicate, List.nil_append, List.cons_append, List.map_cons, List.map_nil, List.sum_cons, List.sum_nil, Value.category, Option.toList, List.contains_cons, List.contains_nil, true_or, or_true, true_and, Nat.zero_le, Nat.reduceAdd, Nat.reduceLeDiff, Nat.reduceLT, Nat.reduceBEq, Bool.true_or, Bool.or_true, Bool.false_or, Bool.or_false, ↓reduceIte, Bool.false_eq_true, Nat.add_zero, Nat.zero_add, Nat.reduceEqDiff, Nat.reduceSub, g, b2i_0, ne_eq, Nat.reduceEqDiff, not_false_eq_true, not_true_eq_false, true_and, and_true, true_implies, false_implies, implies_true, and_self]
    exact ⟨fun _ => hQ τ hf hr, fun q => absurd (nI_le (Nat.le_refl _) (by omega)) q⟩
def w_X12_both : WPt := fun args σ Q => match args with
  | [.ref x, .int d, .int y] => x = 56 ∧ PubM σ (q_both · d y) Q
  | _ => False
set_option maxHeartbeats 4000000 in
theorem m_X12_both : Meets yX12_both cX12_both 6 (some .int) 5 w_X12_both := by
  refine Meets.mk (by decide) fun args σ Φ h => ?_
  unfold w_X12_both at h
  split at h
  rotate_left
  · exact h.elim
  rename_i x d y
  obtain ⟨x, rfl⟩ : ∃ q : Nat, q = x := ⟨x, rfl⟩
  obtain ⟨hx, A, hK, hA, hQ⟩ := h
  subst hx
  refine ⟨Nat.le_of_ble_eq_true rfl, fun C hC hR => ?_⟩
  have hf := mod_f hK
  have hN := hA.1
  have hD1 := hA.t.1
  have hD := hA.t.2.1
  have hS := hA.t.2.2.1
  have hW := hA.2.2.1.2.1
  have hE := hA.2.2.1.2.2.1
  have hp := z_pow31 hD
  have hV := hK.2
  refine r_X12_both_0 hC hR m_X12_isSong (by decide) m_X12_stateOf (by decide) m_X12_bothOn (by decide) _ _ _ ?_
  simp only [T_X12_both_0, x_psh, x_ild, x_lld, x_ald, x_ist, x_ast, x_lst, x_inc, x_iadd, x_isub, x_imul, x_iand, x_ior, x_ixor, x_ishl, x_ishr, x_iushr, x_idiv, x_irem, x_ladd, x_land, x_lor, x_lshl, x_lshr, x_ineg, x_i2l, x_l2i, x_i2b, x_lcmp, x_dup, x_dup2, x_if_eq, x_if_ne, x_if_lt, x_if_ge, x_if_gt, x_if_le, x_ic_eq, x_ic_ne, x_ic_lt, x_ic_ge, x_ic_gt, x_ic_le, x_getI, x_getR, x_putI, x_putZ, x_putR, x_iald, x_bald, x_lald, x_iast, x_bast, x_last, x_alen, x_acp, x_mmax, x_mmin, x_callV, x_callS, x_iret, x_zret, x_lret, x_aret, x_vret, x_tsw, x_stop, zst1, zst2, zkill, zkl, zsplit, zmask, zent, zentL, List.getElem?_cons_zero, List.getElem?_cons_succ, List.set_cons_zero, List.set_cons_succ, List.set_nil, List.length_cons, List.length_nil, List.replicate, List.nil_append, List.cons_append, List.map_cons, List.map_nil, List.sum_cons, List.sum_nil, Value.category, Option.toList, List.contains_cons, List.contains_nil, true_or, or_true, true_and, Nat.zero_le, Nat.reduceAdd, Nat.reduceLeDiff, Nat.reduceLT, Nat.reduceBEq, Bool.true_or, Bool.or_true, Bool.false_or, Bool.or_false, ↓reduceIte, Bool.false_eq_true, Nat.add_zero, Nat.zero_add, Nat.reduceEqDiff, Nat.reduceSub, hf, w_X12_isSong, b2i_0, ne_eq, Nat.reduceEqDiff, not_false_eq_true, not_true_eq_false, true_and, and_true, true_implies, false_implies, implies_true, and_self]
  unfold q_both at hQ
  refine ⟨tS (aT A), rfl, by omega, ?_⟩
  rcases ix_cs d (show tS (aT A) < 2 ^ 31 by omega) with ⟨k, hk, rfl, h1, h2⟩ | ⟨h1, h2⟩
  rotate_left
  · simp only [h1] at hQ
    simp only [h2, b2i_0, ne_eq, Nat.reduceEqDiff, not_false_eq_true, not_true_eq_false, true_and, and_true, true_implies, false_implies, implies_true, and_self]
    exact hQ σ (ZF.refl _ _ _) hK
  simp only [h1] at hQ
  simp only [h2, b2i_0, ne_eq, Nat.reduceEqDiff, not_false_eq_true, not_true_eq_false, true_and, and_true, true_implies, false_implies, implies_true, and_self]
  refine ⟨tS (aT A), rfl, by omega, ?_⟩
  rcases ix_cs y (show tS (aT A) < 2 ^ 31 by omega) with ⟨j, hj, rfl, h3, h4⟩ | ⟨h3, h4⟩
  rotate_left
  · simp only [h3] at hQ
    simp only [h4, b2i_0, ne_eq, Nat.reduceEqDiff, not_false_eq_true, not_true_eq_false, true_and, and_true, true_implies, false_implies, implies_true, and_self]
    exact hQ σ (ZF.refl _ _ _) hK
  simp only [h3] at hQ
  simp only [h4, b2i_0, ne_eq, Nat.reduceEqDiff, not_false_eq_true, not_true_eq_false, true_and, and_true, true_implies, false_implies, implies_true, and_self]
  have hM := MdT.of hK hA
  have hT := hA.t
  have hL := hA.l hk
  have hL2 := hA.l hj
  have hz : ∀ τ, IF σ τ 71 → Φ (some (.int (i2 (mtS (aT A) (sF (aT A) k) (sF (aT A) j) (tL (aT A) k) (tL (aT A) j) (tL (aT A) k + tL (aT A) j + 25))))) τ := fun τ hf => by
    have hq := hf.m (by omega)
    exact hQ τ hq.z (hq.r hK)
  clear hQ
  generalize aT A = T at *
  have hMτ : ∀ τ, IF σ τ 71 → MdT τ T := fun τ hf => hM.q (hf.m (by omega))
  have hgτ : ∀ τ, IF σ τ 71 → ModS τ ∧ zI τ 56 10 = nI (tD T) := fun τ hf => ⟨(hMτ τ hf).1, (hMτ τ hf).2.1.1⟩
  unfold ModS at hgτ
  have hput : ∀ τ, IF σ τ 71 → ∀ q v, IF σ (sI τ 71 q v) 71 := fun τ hf q v => hf.trans if_one
  have hrw := rw_lt (T := T) (k := k) (j := j) hL.1 hL.2 hL2.1 hL2.2
  -- level by level
  have pass : ∀ f n, n + f = 13069 → ∀ τ rc, IF σ τ 71 → rcR τ rc → rcI T k j n 0 rc → WW C 91 [some (.ref 56), some (.int (nI k)), some (.int (nI j)), some (.int 1), some (.int (nI (n + 1))), none] [] τ := by
    intro f
    induction f with
    | zero =>
      intro n hn τ rc hf hr hI
      have := rc_bound hI
      omega
    | succ f ihf =>
      intro n hn τ0 rc0 hf0 hr0 hI0
      have k100 := zloop (P := fun p => ∀ τ rc (v : Int32), IF σ τ 71 → rcR τ rc → rcI T k j n p rc → (v = 0 ∧ ∀ q, q < p → rc q ≠ n + 1) ∨ (v = 1 ∧ ∃ q, q < 13068 ∧ rc q = n + 1) → WW C 100 [some (.ref 56), some (.int (nI k)), some (.int (nI j)), some (.int v), some (.int (nI (n + 1))), some (.int (nI p))] [] τ) 13068 (fun p hp ih τ rc v hf hr hI hv => ?_) (fun τ rc v hf hr hI hv => ?_) 0 (by omega)
      · refine r_X12_both_91 hC hR m_X12_isSong (by decide) m_X12_stateOf (by decide) m_X12_bothOn (by decide) _ _ _ ?_
        simp only [T_X12_both_91, x_psh, x_ild, x_lld, x_ald, x_ist, x_ast, x_lst, x_inc, x_iadd, x_isub, x_imul, x_iand, x_ior, x_ixor, x_ishl, x_ishr, x_iushr, x_idiv, x_irem, x_ladd, x_land, x_lor, x_lshl, x_lshr, x_ineg, x_i2l, x_l2i, x_i2b, x_lcmp, x_dup, x_dup2, x_if_eq, x_if_ne, x_if_lt, x_if_ge, x_if_gt, x_if_le, x_ic_eq, x_ic_ne, x_ic_lt, x_ic_ge, x_ic_gt, x_ic_le, x_getI, x_getR, x_putI, x_putZ, x_putR, x_iald, x_bald, x_lald, x_iast, x_bast, x_last, x_alen, x_acp, x_mmax, x_mmin, x_callV, x_callS, x_iret, x_zret, x_lret, x_aret, x_vret, x_tsw, x_stop, zst1, zst2, zkill, zkl, zsplit, zmask, zent, zentL, List.getElem?_cons_zero, List.getElem?_cons_succ, List.set_cons_zero, List.set_cons_succ, List.set_nil, List.length_cons, List.length_nil, List.replicate, List.nil_append, List.cons_append, List.map_cons, List.map_nil, List.sum_cons, List.sum_nil, Value.category, Option.toList, List.contains_cons, List.contains_nil, true_or, or_true, true_and, Nat.zero_le, Nat.reduceAdd, Nat.reduceLeDiff, Nat.reduceLT, Nat.reduceBEq, Bool.true_or, Bool.or_true, Bool.false_or, Bool.or_false, ↓reduceIte, Bool.false_eq_true, Nat.add_zero, Nat.zero_add, Nat.reduceEqDiff, Nat.reduceSub, b2i_0, ne_eq, Nat.reduceEqDiff, not_false_eq_true, not_true_eq_false, true_and, and_true, true_implies, false_implies, implies_true, and_self]
        exact ⟨fun q => absurd q (by decide), fun _ => k100 τ0 rc0 0 hf0 hr0 hI0 (Or.inl ⟨rfl, fun q hq => absurd hq (Nat.not_lt_zero q)⟩)⟩
      · have g := hgτ τ hf
        have hrp := hr p hp
        refine r_X12_both_100 hC hR m_X12_isSong (by decide) m_X12_stateOf (by decide) m_X12_bothOn (by decide) _ _ _ ?_
        simp only [T_X12_both_100, x_psh, x_ild, x_lld, x_ald, x_ist, x_ast, x_lst, x_inc, x_iadd, x_isub, x_imul, x_iand, x_ior, x_ixor, x_ishl, x_ishr, x_iushr, x_idiv, x_irem, x_ladd, x_land, x_lor, x_lshl, x_lshr, x_ineg, x_i2l, x_l2i, x_i2b, x_lcmp, x_dup, x_dup2, x_if_eq, x_if_ne, x_if_lt, x_if_ge, x_if_gt, x_if_le, x_ic_eq, x_ic_ne, x_ic_lt, x_ic_ge, x_ic_gt, x_ic_le, x_getI, x_getR, x_putI, x_putZ, x_putR, x_iald, x_bald, x_lald, x_iast, x_bast, x_last, x_alen, x_acp, x_mmax, x_mmin, x_callV, x_callS, x_iret, x_zret, x_lret, x_aret, x_vret, x_tsw, x_stop, zst1, zst2, zkill, zkl, zsplit, zmask, zent, zentL, List.getElem?_cons_zero, List.getElem?_cons_succ, List.set_cons_zero, List.set_cons_succ, List.set_nil, List.length_cons, List.length_nil, List.replicate, List.nil_append, List.cons_append, List.map_cons, List.map_nil, List.sum_cons, List.sum_nil, Value.category, Option.toList, List.contains_cons, List.contains_nil, true_or, or_true, true_and, Nat.zero_le, Nat.reduceAdd, Nat.reduceLeDiff, Nat.reduceLT, Nat.reduceBEq, Bool.true_or, Bool.or_true, Bool.false_or, Bool.or_false, ↓reduceIte, Bool.false_eq_true, Nat.add_zero, Nat.zero_add, Nat.reduceEqDiff, Nat.reduceSub, g, w_X12_bothOn, b2i_0, ne_eq, Nat.reduceEqDiff, not_false_eq_true, not_true_eq_false, true_and, and_true, true_implies, false_implies, implies_true, and_self]
        rw [z_l13068, nI_clamp (by omega), hrp.1, nI_eq hrp.2 (by omega), z_l1089, z_rem1089 (by omega), z_l1088, nI_eq (by omega) (by omega)]
        simp only [nI_i3]
        refine ⟨fun q => absurd q (nI_ge (by omega) (by omega)), fun _ => ⟨13068, rfl, vp_in_nI (by omega) (by omega), fun q => ?_, fun q => ⟨by decide, fun q2 => ?_, fun q2 => ?_⟩⟩⟩
        · refine ih τ rc v hf hr (rc_skip hI q) ?_
          rcases hv with ⟨v1, v2⟩ | hv
          · refine Or.inl ⟨v1, fun a ha => ?_⟩
            by_cases e : a = p
            · rw [e]; exact q
            · exact v2 a (by omega)
          · exact Or.inr hv
        · have ho := rc_on hI q q2
          refine ⟨T, k, j, p, n + 2, rc, hMτ τ hf, rfl, hk, rfl, hj, rfl, hrw n p (hI.2.1 p n q).1, rfl, by omega, hr, fun σ' hf' hr' => ?_⟩
          exact ih σ' _ 1 (hf.trans hf') hr' ho.1 (Or.inr ⟨rfl, p, hp, ho.2⟩)
        · have := hz τ hf
          rw [bt_found hT hL.1 hL.2 hL2.1 hL2.2 (hI.2.1 p n q).1 q2 (fun m hm q => hI.2.2.2.1 m q hm)] at this
          exact this
      · have g := hgτ τ hf
        refine r_X12_both_100 hC hR m_X12_isSong (by decide) m_X12_stateOf (by decide) m_X12_bothOn (by decide) _ _ _ ?_
        simp only [T_X12_both_100, x_psh, x_ild, x_lld, x_ald, x_ist, x_ast, x_lst, x_inc, x_iadd, x_isub, x_imul, x_iand, x_ior, x_ixor, x_ishl, x_ishr, x_iushr, x_idiv, x_irem, x_ladd, x_land, x_lor, x_lshl, x_lshr, x_ineg, x_i2l, x_l2i, x_i2b, x_lcmp, x_dup, x_dup2, x_if_eq, x_if_ne, x_if_lt, x_if_ge, x_if_gt, x_if_le, x_ic_eq, x_ic_ne, x_ic_lt, x_ic_ge, x_ic_gt, x_ic_le, x_getI, x_getR, x_putI, x_putZ, x_putR, x_iald, x_bald, x_lald, x_iast, x_bast, x_last, x_alen, x_acp, x_mmax, x_mmin, x_callV, x_callS, x_iret, x_zret, x_lret, x_aret, x_vret, x_tsw, x_stop, zst1, zst2, zkill, zkl, zsplit, zmask, zent, zentL, List.getElem?_cons_zero, List.getElem?_cons_succ, List.set_cons_zero, List.set_cons_succ, List.set_nil, List.length_cons, List.length_nil, List.replicate, List.nil_append, List.cons_append, List.map_cons, List.map_nil, List.sum_cons, List.sum_nil, Value.category, Option.toList, List.contains_cons, List.contains_nil, true_or, or_true, true_and, Nat.zero_le, Nat.reduceAdd, Nat.reduceLeDiff, Nat.reduceLT, Nat.reduceBEq, Bool.true_or, Bool.or_true, Bool.false_or, Bool.or_false, ↓reduceIte, Bool.false_eq_true, Nat.add_zero, Nat.zero_add, Nat.reduceEqDiff, Nat.reduceSub, g, b2i_0, ne_eq, Nat.reduceEqDiff, not_false_eq_true, not_true_eq_false, true_and, and_true, true_implies, false_implies, implies_true, and_self]
        refine ⟨fun _ => ?_, fun q => absurd (by decide) q⟩
        simp only [nI_i3]
        rcases hv with ⟨rfl, v2⟩ | ⟨rfl, v2⟩
        · have := hz τ hf
          rw [bt_none hT hL.1 hL.2 hL2.1 hL2.2 (rc_end hD hL.1 hL.2 hL2.1 hL2.2 hI v2)] at this
          refine r_X12_both_91 hC hR m_X12_isSong (by decide) m_X12_stateOf (by decide) m_X12_bothOn (by decide) _ _ _ ?_
          simp only [T_X12_both_91, x_psh, x_ild, x_lld, x_ald, x_ist, x_ast, x_lst, x_inc, x_iadd, x_isub, x_imul, x_iand, x_ior, x_ixor, x_ishl, x_ishr, x_iushr, x_idiv, x_irem, x_ladd, x_land, x_lor, x_lshl, x_lshr, x_ineg, x_i2l, x_l2i, x_i2b, x_lcmp, x_dup, x_dup2, x_if_eq, x_if_ne, x_if_lt, x_if_ge, x_if_gt, x_if_le, x_ic_eq, x_ic_ne, x_ic_lt, x_ic_ge, x_ic_gt, x_ic_le, x_getI, x_getR, x_putI, x_putZ, x_putR, x_iald, x_bald, x_lald, x_iast, x_bast, x_last, x_alen, x_acp, x_mmax, x_mmin, x_callV, x_callS, x_iret, x_zret, x_lret, x_aret, x_vret, x_tsw, x_stop, zst1, zst2, zkill, zkl, zsplit, zmask, zent, zentL, List.getElem?_cons_zero, List.getElem?_cons_succ, List.set_cons_zero, List.set_cons_succ, List.set_nil, List.length_cons, List.length_nil, List.replicate, List.nil_append, List.cons_append, List.map_cons, List.map_nil, List.sum_cons, List.sum_nil, Value.category, Option.toList, List.contains_cons, List.contains_nil, true_or, or_true, true_and, Nat.zero_le, Nat.reduceAdd, Nat.reduceLeDiff, Nat.reduceLT, Nat.reduceBEq, Bool.true_or, Bool.or_true, Bool.false_or, Bool.or_false, ↓reduceIte, Bool.false_eq_true, Nat.add_zero, Nat.zero_add, Nat.reduceEqDiff, Nat.reduceSub, b2i_0, ne_eq, Nat.reduceEqDiff, not_false_eq_true, not_true_eq_false, true_and, and_true, true_implies, false_implies, implies_true, and_self]
          exact this
        · exact ihf (n + 1) (by omega) τ rc hf hr (rc_next hD hL.1 hL.2 hL2.1 hL2.2 hI v2)
  -- the first states
  have k42 := zloop (P := fun d => ∀ τ rc, IF σ τ 71 → rcR τ rc → (∀ q, rc q = 0 ∨ rc q = 1) → (∀ q, rc q = 1 ↔ ∃ d', d' < d ∧ q = inQ T k j d') → WW C 42 [some (.ref 56), some (.int (nI k)), some (.int (nI j)), some (.int (nI d)), none, none] [] τ) (tD T) (fun d hd ih τ rc hf hr h01 hrc => ?_) (fun τ rc hf hr h01 hrc => ?_) 0 (by omega)
  · have k20 := zloop (P := fun p => ∀ τ, IF σ τ 71 → (∀ q, q < p → zI τ 71 q = 0) → WW C 20 [some (.ref 56), some (.int (nI k)), some (.int (nI j)), some (.int (nI p)), none, none] [] τ) 13068 (fun p hp ih τ hf h0 => ?_) (fun τ hf h0 => ?_) 0 (by omega)
    · exact k20 σ (IF.refl _ _) (fun q hq => absurd hq (Nat.not_lt_zero q))
    · have g := hgτ τ hf
      refine r_X12_both_20 hC hR m_X12_isSong (by decide) m_X12_stateOf (by decide) m_X12_bothOn (by decide) _ _ _ ?_
      simp only [T_X12_both_20, x_psh, x_ild, x_lld, x_ald, x_ist, x_ast, x_lst, x_inc, x_iadd, x_isub, x_imul, x_iand, x_ior, x_ixor, x_ishl, x_ishr, x_iushr, x_idiv, x_irem, x_ladd, x_land, x_lor, x_lshl, x_lshr, x_ineg, x_i2l, x_l2i, x_i2b, x_lcmp, x_dup, x_dup2, x_if_eq, x_if_ne, x_if_lt, x_if_ge, x_if_gt, x_if_le, x_ic_eq, x_ic_ne, x_ic_lt, x_ic_ge, x_ic_gt, x_ic_le, x_getI, x_getR, x_putI, x_putZ, x_putR, x_iald, x_bald, x_lald, x_iast, x_bast, x_last, x_alen, x_acp, x_mmax, x_mmin, x_callV, x_callS, x_iret, x_zret, x_lret, x_aret, x_vret, x_tsw, x_stop, zst1, zst2, zkill, zkl, zsplit, zmask, zent, zentL, List.getElem?_cons_zero, List.getElem?_cons_succ, List.set_cons_zero, List.set_cons_succ, List.set_nil, List.length_cons, List.length_nil, List.replicate, List.nil_append, List.cons_append, List.map_cons, List.map_nil, List.sum_cons, List.sum_nil, Value.category, Option.toList, List.contains_cons, List.contains_nil, true_or, or_true, true_and, Nat.zero_le, Nat.reduceAdd, Nat.reduceLeDiff, Nat.reduceLT, Nat.reduceBEq, Bool.true_or, Bool.or_true, Bool.false_or, Bool.or_false, ↓reduceIte, Bool.false_eq_true, Nat.add_zero, Nat.zero_add, Nat.reduceEqDiff, Nat.reduceSub, g, b2i_0, ne_eq, Nat.reduceEqDiff, not_false_eq_true, not_true_eq_false, true_and, and_true, true_implies, false_implies, implies_true, and_self]
      rw [z_l13068, nI_clamp (by omega)]
      simp only [nI_i3]
      refine ⟨fun q => absurd q (nI_ge (by omega) (by omega)), fun _ => ⟨13068, rfl, vp_in_nI (by omega) (by omega), ih _ (hput τ hf _ _) (fun q hq => ?_)⟩⟩
      rw [zI_at]
      by_cases e : q = p
      · rw [if_pos e]
      · rw [if_neg e]; exact h0 q (by omega)
    · refine r_X12_both_20 hC hR m_X12_isSong (by decide) m_X12_stateOf (by decide) m_X12_bothOn (by decide) _ _ _ ?_
      simp only [T_X12_both_20, x_psh, x_ild, x_lld, x_ald, x_ist, x_ast, x_lst, x_inc, x_iadd, x_isub, x_imul, x_iand, x_ior, x_ixor, x_ishl, x_ishr, x_iushr, x_idiv, x_irem, x_ladd, x_land, x_lor, x_lshl, x_lshr, x_ineg, x_i2l, x_l2i, x_i2b, x_lcmp, x_dup, x_dup2, x_if_eq, x_if_ne, x_if_lt, x_if_ge, x_if_gt, x_if_le, x_ic_eq, x_ic_ne, x_ic_lt, x_ic_ge, x_ic_gt, x_ic_le, x_getI, x_getR, x_putI, x_putZ, x_putR, x_iald, x_bald, x_lald, x_iast, x_bast, x_last, x_alen, x_acp, x_mmax, x_mmin, x_callV, x_callS, x_iret, x_zret, x_lret, x_aret, x_vret, x_tsw, x_stop, zst1, zst2, zkill, zkl, zsplit, zmask, zent, zentL, List.getElem?_cons_zero, List.getElem?_cons_succ, List.set_cons_zero, List.set_cons_succ, List.set_nil, List.length_cons, List.length_nil, List.replicate, List.nil_append, List.cons_append, List.map_cons, List.map_nil, List.sum_cons, List.sum_nil, Value.category, Option.toList, List.contains_cons, List.contains_nil, true_or, or_true, true_and, Nat.zero_le, Nat.reduceAdd, Nat.reduceLeDiff, Nat.reduceLT, Nat.reduceBEq, Bool.true_or, Bool.or_true, Bool.false_or, Bool.or_false, ↓reduceIte, Bool.false_eq_true, Nat.add_zero, Nat.zero_add, Nat.reduceEqDiff, Nat.reduceSub, b2i_0, ne_eq, Nat.reduceEqDiff, not_false_eq_true, not_true_eq_false, true_and, and_true, true_implies, false_implies, implies_true, and_self]
      exact ⟨fun _ => k42 τ (fun _ => 0) hf (fun p hp => ⟨h0 p hp, Nat.two_pow_pos 31⟩) (fun q => Or.inl rfl) (fun q => ⟨fun h => (by cases h), fun ⟨d', h, _⟩ => absurd h (Nat.not_lt_zero d')⟩), fun q => absurd (by decide) q⟩
  · have g := hgτ τ hf
    have hst : inQ T k j d < 13068 := by
      have a := so_le (T := T) (k := k) (s := 0) (d := d) hL.1 hL.2
      have b := so_le (T := T) (k := j) (s := 0) (d := d) hL2.1 hL2.2
      unfold inQ
      omega
    have e1 : (1089 : Int32) * nI d + 33 * nI (soN T k 0 d) + nI (soN T j 0 d) = nI (inQ T k j d) := by
      rw [z_l1089, z_l33, pk_mul, pk_mul, nI_add, nI_add]
      rfl
    refine r_X12_both_42 hC hR m_X12_isSong (by decide) m_X12_stateOf (by decide) m_X12_bothOn (by decide) _ _ _ ?_
    simp only [T_X12_both_42, x_psh, x_ild, x_lld, x_ald, x_ist, x_ast, x_lst, x_inc, x_iadd, x_isub, x_imul, x_iand, x_ior, x_ixor, x_ishl, x_ishr, x_iushr, x_idiv, x_irem, x_ladd, x_land, x_lor, x_lshl, x_lshr, x_ineg, x_i2l, x_l2i, x_i2b, x_lcmp, x_dup, x_dup2, x_if_eq, x_if_ne, x_if_lt, x_if_ge, x_if_gt, x_if_le, x_ic_eq, x_ic_ne, x_ic_lt, x_ic_ge, x_ic_gt, x_ic_le, x_getI, x_getR, x_putI, x_putZ, x_putR, x_iald, x_bald, x_lald, x_iast, x_bast, x_last, x_alen, x_acp, x_mmax, x_mmin, x_callV, x_callS, x_iret, x_zret, x_lret, x_aret, x_vret, x_tsw, x_stop, zst1, zst2, zkill, zkl, zsplit, zmask, zent, zentL, List.getElem?_cons_zero, List.getElem?_cons_succ, List.set_cons_zero, List.set_cons_succ, List.set_nil, List.length_cons, List.length_nil, List.replicate, List.nil_append, List.cons_append, List.map_cons, List.map_nil, List.sum_cons, List.sum_nil, Value.category, Option.toList, List.contains_cons, List.contains_nil, true_or, or_true, true_and, Nat.zero_le, Nat.reduceAdd, Nat.reduceLeDiff, Nat.reduceLT, Nat.reduceBEq, Bool.true_or, Bool.or_true, Bool.false_or, Bool.or_false, ↓reduceIte, Bool.false_eq_true, Nat.add_zero, Nat.zero_add, Nat.reduceEqDiff, Nat.reduceSub, g, w_X12_stateOf, b2i_0, ne_eq, Nat.reduceEqDiff, not_false_eq_true, not_true_eq_false, true_and, and_true, true_implies, false_implies, implies_true, and_self]
    simp only [nI_i3]
    refine ⟨fun q => absurd q (nI_ge (by omega) (by omega)), fun _ => ⟨T, k, 0, d, hMτ τ hf, rfl, hk, rfl, by omega, rfl, hd, T, j, 0, d, hMτ τ hf, rfl, hj, rfl, by omega, rfl, hd, 13068, rfl, ?_⟩⟩
    rw [e1, nI_clamp (by omega)]
    refine ⟨vp_in_nI (by omega) (by omega), ih _ (va_up rc (inQ T k j d) 1) (hput τ hf _ _) (fun p hp => ?_) (fun q => ?_) (fun q => ?_)⟩
    · rw [zI_at]
      by_cases e : p = inQ T k j d
      · rw [if_pos e, e, up_at]; exact ⟨rfl, by omega⟩
      · rw [if_neg e, up_off _ _ e]; exact hr p hp
    · by_cases e : q = inQ T k j d
      · rw [e, up_at]; exact Or.inr rfl
      · rw [up_off _ _ e]; exact h01 q
    · by_cases e : q = inQ T k j d
      · rw [e, up_at]
        exact ⟨fun _ => ⟨d, by omega, rfl⟩, fun _ => rfl⟩
      · rw [up_off _ _ e, hrc q]
        constructor
        · rintro ⟨d', h, e2⟩
          exact ⟨d', by omega, e2⟩
        · rintro ⟨d', h, e2⟩
          refine ⟨d', ?_, e2⟩
          have : d' ≠ d := fun h => e (by rw [e2, h])
          omega
  · have g := hgτ τ hf
    refine r_X12_both_42 hC hR m_X12_isSong (by decide) m_X12_stateOf (by decide) m_X12_bothOn (by decide) _ _ _ ?_
    simp only [T_X12_both_42, x_psh, x_ild, x_lld, x_ald, x_ist, x_ast, x_lst, x_inc, x_iadd, x_isub, x_imul, x_iand, x_ior, x_ixor, x_ishl, x_ishr, x_iushr, x_idiv, x_irem, x_ladd, x_land, x_lor, x_lshl, x_lshr, x_ineg, x_i2l, x_l2i, x_i2b, x_lcmp, x_dup, x_dup2, x_if_eq, x_if_ne, x_if_lt, x_if_ge, x_if_gt, x_if_le, x_ic_eq, x_ic_ne, x_ic_lt, x_ic_ge, x_ic_gt, x_ic_le, x_getI, x_getR, x_putI, x_putZ, x_putR, x_iald, x_bald, x_lald, x_iast, x_bast, x_last, x_alen, x_acp, x_mmax, x_mmin, x_callV, x_callS, x_iret, x_zret, x_lret, x_aret, x_vret, x_tsw, x_stop, zst1, zst2, zkill, zkl, zsplit, zmask, zent, zentL, List.getElem?_cons_zero, List.getElem?_cons_succ, List.set_cons_zero, List.set_cons_succ, List.set_nil, List.length_cons, List.length_nil, List.replicate, List.nil_append, List.cons_append, List.map_cons, List.map_nil, List.sum_cons, List.sum_nil, Value.category, Option.toList, List.contains_cons, List.contains_nil, true_or, or_true, true_and, Nat.zero_le, Nat.reduceAdd, Nat.reduceLeDiff, Nat.reduceLT, Nat.reduceBEq, Bool.true_or, Bool.or_true, Bool.false_or, Bool.or_false, ↓reduceIte, Bool.false_eq_true, Nat.add_zero, Nat.zero_add, Nat.reduceEqDiff, Nat.reduceSub, g, b2i_0, ne_eq, Nat.reduceEqDiff, not_false_eq_true, not_true_eq_false, true_and, and_true, true_implies, false_implies, implies_true, and_self]
    refine ⟨fun _ => pass 13069 0 (by omega) τ rc hf hr ⟨fun q => ?_, fun q m h => ?_, fun m q hm hrw2 => ?_, fun m q hm => absurd hm (Nat.not_lt_zero m), fun q hq => absurd hq (Nat.not_lt_zero q), fun m hm => absurd hm (Nat.not_lt_zero m)⟩, fun q => absurd (nI_le (Nat.le_refl _) (by omega)) q⟩
    · rcases h01 q with h | h <;> omega
    · have hm : m = 0 := by rcases h01 q with h' | h' <;> omega
      subst hm
      exact ⟨(hrc q).mp h, fun m' hm' => absurd hm' (Nat.not_lt_zero m')⟩
    · rw [show m = 0 by omega] at hrw2
      have := (hrc q).mpr hrw2
      omega
