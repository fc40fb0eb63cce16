/-! frames -/
def Fr (σ σ' : ZS) (lo hi : Nat) : Prop := zd σ' = zd σ ∧ zR σ' = zR σ ∧ (∀ i, (i < lo ∨ hi ≤ i) → zI σ' i = zI σ i) ∧ (∀ i, (i < lo ∨ hi ≤ i) → zJ σ' i = zJ σ i)
theorem Fr.refl (σ : ZS) (lo hi : Nat) : Fr σ σ lo hi := ⟨rfl, rfl, fun _ _ => rfl, fun _ _ => rfl⟩
theorem Fr.trans {σ σ1 σ2 : ZS} {lo hi : Nat} (h : Fr σ σ1 lo hi) (h2 : Fr σ1 σ2 lo hi) : Fr σ σ2 lo hi := ⟨h2.1.trans h.1, h2.2.1.trans h.2.1, fun i hi => (h2.2.2.1 i hi).trans (h.2.2.1 i hi), fun i hi => (h2.2.2.2 i hi).trans (h.2.2.2 i hi)⟩
theorem Fr.mono {σ σ1 : ZS} {lo hi lo' hi' : Nat} (h : Fr σ σ1 lo hi) (h1 : lo' ≤ lo) (h2 : hi ≤ hi') : Fr σ σ1 lo' hi' := ⟨h.1, h.2.1, fun i q => h.2.2.1 i (by omega), fun i q => h.2.2.2 i (by omega)⟩
theorem Fr.sI {σ σ1 : ZS} {lo hi i j : Nat} {v : Int32} (h : Fr σ σ1 lo hi) (h1 : lo ≤ i) (h2 : i < hi) : Fr σ (sI σ1 i j v) lo hi := ⟨h.1, h.2.1, fun a q => by rw [zI_sI, if_neg (by omega)]; exact h.2.2.1 a q, h.2.2.2⟩
theorem Fr.sIr {σ σ1 : ZS} {lo hi i : Nat} {r : Nat → Int32} (h : Fr σ σ1 lo hi) (h1 : lo ≤ i) (h2 : i < hi) : Fr σ (sIr σ1 i r) lo hi := ⟨h.1, h.2.1, fun a q => by rw [zI_sIr, if_neg (by omega)]; exact h.2.2.1 a q, h.2.2.2⟩
theorem Fr.sJ {σ σ1 : ZS} {lo hi i j : Nat} {v : Int64} (h : Fr σ σ1 lo hi) (h1 : lo ≤ i) (h2 : i < hi) : Fr σ (sJ σ1 i j v) lo hi := ⟨h.1, h.2.1, h.2.2.1, fun a q => by rw [zJ_sJ, if_neg (by omega)]; exact h.2.2.2 a q⟩
theorem TownS.of {σ σ' : ZS} {t : Nat} (h : TownS σ t) (h1 : zd σ' = zd σ) (h2 : zR σ' = zR σ) : TownS σ' t := by unfold TownS at *; rw [h1, h2]; exact h
theorem TownR.fr {σ σ' : ZS} {t lo hi : Nat} {T : TD} (h : TownR σ t T) (hf : Fr σ σ' lo hi) (hd : t + 5 ≤ lo ∨ hi ≤ t) : TownR σ' t T := by
  refine ⟨h.1.of hf.1 hf.2.1, ?_⟩
  have e := hf.2.2.1
  unfold TownV
  rw [e t (by omega), e (t + 1) (by omega), e (t + 2) (by omega), e (t + 3) (by omega), e (t + 4) (by omega)]
  exact h.2
def w_X8_signOf : WPt := fun args σ Q => match args with
  | [.ref t, .int s, .int i] => ∃ T k, TownR σ t T ∧ s = nI k ∧ k < tS T ∧ (∀ j, j < tL T k → i = nI j → Q (some (.int (nI (tG T (6 * k + j))))) σ) ∧ (¬ (0 ≤ i ∧ i < nI (tL T k)) → Q (some (.int (-9))) σ)
  | _ => False
theorem m_X8_signOf : Meets yX8_signOf cX8_signOf 3 (some .int) 2 w_X8_signOf := by
  refine Meets.mk (by decide) fun args σ Φ h => ?_
  unfold w_X8_signOf at h
  split at h
  rotate_left
  · exact h.elim
  rename_i t s i
  obtain ⟨t, rfl⟩ : ∃ q : Nat, q = t := ⟨t, rfl⟩
  obtain ⟨T, k, ⟨⟨s1, s2, s3, s4, s5, s6, s7, s8, s9⟩, v1, v2, v3, v4, v5, v6, v7, v8⟩, rfl, hk, hQ1, hQ2⟩ := h
  refine ⟨Nat.le_of_ble_eq_true rfl, fun C hC hR => ?_⟩
  have hL := (v7 k hk).2
  refine r_X8_signOf_0 hC hR m_X8_isSong (by decide) _ _ _ ?_
  simp only [T_X8_signOf_0, x_psh, x_ild, x_lld, x_ald, x_ist, x_ast, x_lst, x_inc, x_iadd, x_isub, x_imul, x_iand, x_ior, x_ixor, x_ishl, x_ishr, x_iushr, x_idiv, x_irem, x_ladd, x_land, x_lor, x_lshl, x_lshr, x_ineg, x_i2l, x_l2i, x_i2b, x_lcmp, x_dup, x_dup2, x_if_eq, x_if_ne, x_if_lt, x_if_ge, x_if_gt, x_if_le, x_ic_eq, x_ic_ne, x_ic_lt, x_ic_ge, x_ic_gt, x_ic_le, x_getI, x_getR, x_putI, x_putZ, x_putR, x_iald, x_bald, x_lald, x_iast, x_bast, x_last, x_alen, x_acp, x_mmax, x_mmin, x_callV, x_callS, x_iret, x_zret, x_lret, x_aret, x_vret, x_tsw, x_stop, zst1, zst2, zkill, zkl, zsplit, zmask, zent, zentL, List.getElem?_cons_zero, List.getElem?_cons_succ, List.set_cons_zero, List.set_cons_succ, List.set_nil, List.length_cons, List.length_nil, List.replicate, List.nil_append, List.cons_append, List.map_cons, List.map_nil, List.sum_cons, List.sum_nil, Value.category, Option.toList, List.contains_cons, List.contains_nil, true_or, or_true, true_and, Nat.zero_le, Nat.reduceAdd, Nat.reduceLeDiff, Nat.reduceLT, Nat.reduceBEq, Bool.true_or, Bool.or_true, Bool.false_or, Bool.or_false, ↓reduceIte, Bool.false_eq_true, Nat.add_zero, Nat.zero_add, Nat.reduceEqDiff, Nat.reduceSub, w_X8_isSong, b2i_0, s1, v2]
  refine ⟨fun q => absurd ⟨nI_pos' (by omega), nI_lt hk (by omega)⟩ q, fun _ => ⟨fun q => hQ2 fun q2 => absurd q (Int32.not_lt.mpr q2.1), fun q => ⟨by rw [s8]; omega, 4, by rw [s8]; exact s4, vp_in_nI (by omega) (by omega), ?_⟩⟩⟩
  rw [s8, nI_clamp (by omega), (v7 k hk).1]
  refine ⟨fun q1 => hQ2 fun q2 => absurd q2.2 (Int32.not_lt.mpr q1), fun q1 => ?_⟩
  obtain ⟨j, hj, rfl⟩ := z_ge0 i q
  have hj2 : j < tL T k := by
    rcases Nat.lt_or_ge j (tL T k) with h | h
    · exact h
    · exact absurd (nI_le h (by omega)) q1
  have e : nI k * 6 + nI j = nI (6 * k + j) := by rw [z_l6, pk_mul, nI_add, Nat.mul_comm]
  rw [e, s9]
  refine ⟨by omega, 24, s5, vp_in_nI (by omega) (by omega), ?_⟩
  rw [nI_clamp (by omega), (v8 k j hk hj2).1]
  exact hQ1 j hj2 rfl
def w_X8_lengthOf : WPt := fun args σ Q => match args with
  | [.ref t, .int s] => ∃ T k, TownR σ t T ∧ s = nI k ∧ k < tS T ∧ Q (some (.int (nI (tL T k)))) σ
  | _ => False
theorem m_X8_lengthOf : Meets yX8_lengthOf cX8_lengthOf 2 (some .int) 2 w_X8_lengthOf := by
  refine Meets.mk (by decide) fun args σ Φ h => ?_
  unfold w_X8_lengthOf at h
  split at h
  rotate_left
  · exact h.elim
  rename_i t s
  obtain ⟨t, rfl⟩ : ∃ q : Nat, q = t := ⟨t, rfl⟩
  obtain ⟨T, k, ⟨⟨s1, s2, s3, s4, s5, s6, s7, s8, s9⟩, v1, v2, v3, v4, v5, v6, v7, v8⟩, rfl, hk, hQ⟩ := h
  refine ⟨Nat.le_of_ble_eq_true rfl, fun C hC hR => ?_⟩
  refine r_X8_lengthOf_0 hC hR m_X8_isSong (by decide) _ _ _ ?_
  simp only [T_X8_lengthOf_0, x_psh, x_ild, x_lld, x_ald, x_ist, x_ast, x_lst, x_inc, x_iadd, x_isub, x_imul, x_iand, x_ior, x_ixor, x_ishl, x_ishr, x_iushr, x_idiv, x_irem, x_ladd, x_land, x_lor, x_lshl, x_lshr, x_ineg, x_i2l, x_l2i, x_i2b, x_lcmp, x_dup, x_dup2, x_if_eq, x_if_ne, x_if_lt, x_if_ge, x_if_gt, x_if_le, x_ic_eq, x_ic_ne, x_ic_lt, x_ic_ge, x_ic_gt, x_ic_le, x_getI, x_getR, x_putI, x_putZ, x_putR, x_iald, x_bald, x_lald, x_iast, x_bast, x_last, x_alen, x_acp, x_mmax, x_mmin, x_callV, x_callS, x_iret, x_zret, x_lret, x_aret, x_vret, x_tsw, x_stop, zst1, zst2, zkill, zkl, zsplit, zmask, zent, zentL, List.getElem?_cons_zero, List.getElem?_cons_succ, List.set_cons_zero, List.set_cons_succ, List.set_nil, List.length_cons, List.length_nil, List.replicate, List.nil_append, List.cons_append, List.map_cons, List.map_nil, List.sum_cons, List.sum_nil, Value.category, Option.toList, List.contains_cons, List.contains_nil, true_or, or_true, true_and, Nat.zero_le, Nat.reduceAdd, Nat.reduceLeDiff, Nat.reduceLT, Nat.reduceBEq, Bool.true_or, Bool.or_true, Bool.false_or, Bool.or_false, ↓reduceIte, Bool.false_eq_true, Nat.add_zero, Nat.zero_add, Nat.reduceEqDiff, Nat.reduceSub, w_X8_isSong, b2i_0, s1, v2]
  refine ⟨fun q => absurd ⟨nI_pos' (by omega), nI_lt hk (by omega)⟩ q, fun _ => ⟨by rw [s8]; omega, 4, by rw [s8]; exact s4, vp_in_nI (by omega) (by omega), ?_⟩⟩
  rw [s8, nI_clamp (by omega), (v7 k hk).1]
  exact hQ
def w_X8_sounds : WPt := fun args σ Q => match args with
  | [.ref t, .int d, .int g] => ∃ T k a, TownR σ t T ∧ d = nI k ∧ k < tD T ∧ g = nI a ∧ a ≤ 8 ∧ Q (some (.int (b2i (a = 8 ∨ a = tN T k)))) σ
  | _ => False
theorem m_X8_sounds : Meets yX8_sounds cX8_sounds 3 (some .boolean) 2 w_X8_sounds := by
  refine Meets.mk (by decide) fun args σ Φ h => ?_
  unfold w_X8_sounds at h
  split at h
  rotate_left
  · exact h.elim
  rename_i t d g
  obtain ⟨t, rfl⟩ : ∃ q : Nat, q = t := ⟨t, rfl⟩
  obtain ⟨T, k, a, ⟨⟨s1, s2, s3, s4, s5, s6, s7, s8, s9⟩, v1, v2, v3, v4, v5, v6, v7, v8⟩, rfl, hk, rfl, ha, hQ⟩ := h
  refine ⟨Nat.le_of_ble_eq_true rfl, fun C hC hR => ?_⟩
  have hN := (v5 k hk).2
  refine r_X8_sounds_0 hC hR m_X8_isDoor (by decide) _ _ _ ?_
  simp only [T_X8_sounds_0, x_psh, x_ild, x_lld, x_ald, x_ist, x_ast, x_lst, x_inc, x_iadd, x_isub, x_imul, x_iand, x_ior, x_ixor, x_ishl, x_ishr, x_iushr, x_idiv, x_irem, x_ladd, x_land, x_lor, x_lshl, x_lshr, x_ineg, x_i2l, x_l2i, x_i2b, x_lcmp, x_dup, x_dup2, x_if_eq, x_if_ne, x_if_lt, x_if_ge, x_if_gt, x_if_le, x_ic_eq, x_ic_ne, x_ic_lt, x_ic_ge, x_ic_gt, x_ic_le, x_getI, x_getR, x_putI, x_putZ, x_putR, x_iald, x_bald, x_lald, x_iast, x_bast, x_last, x_alen, x_acp, x_mmax, x_mmin, x_callV, x_callS, x_iret, x_zret, x_lret, x_aret, x_vret, x_tsw, x_stop, zst1, zst2, zkill, zkl, zsplit, zmask, zent, zentL, List.getElem?_cons_zero, List.getElem?_cons_succ, List.set_cons_zero, List.set_cons_succ, List.set_nil, List.length_cons, List.length_nil, List.replicate, List.nil_append, List.cons_append, List.map_cons, List.map_nil, List.sum_cons, List.sum_nil, Value.category, Option.toList, List.contains_cons, List.contains_nil, true_or, or_true, true_and, Nat.zero_le, Nat.reduceAdd, Nat.reduceLeDiff, Nat.reduceLT, Nat.reduceBEq, Bool.true_or, Bool.or_true, Bool.false_or, Bool.or_false, ↓reduceIte, Bool.false_eq_true, Nat.add_zero, Nat.zero_add, Nat.reduceEqDiff, Nat.reduceSub, w_X8_isDoor, b2i_0, s1, v1]
  refine ⟨fun q => absurd ⟨nI_pos' (by omega), nI_lt hk (by omega)⟩ q, fun _ => ⟨fun q => ?_, fun q => ⟨by rw [s6]; omega, 12, by rw [s6]; exact s2, vp_in_nI (by omega) (by omega), ?_⟩⟩⟩
  · rw [z_l8, nI_eq (by omega) (by omega)] at q
    rw [b2i_t (Or.inl q)] at hQ
    exact hQ
  · rw [z_l8, nI_eq (by omega) (by omega)] at q
    rw [s6, nI_clamp (by omega), (v5 k hk).1, nI_eq (by omega) (by omega)]
    refine ⟨fun q2 => ?_, fun q2 => ?_⟩
    · rw [b2i_f (fun h => h.elim q q2)] at hQ; exact hQ
    · rw [b2i_t (Or.inr q2)] at hQ; exact hQ
def sndS (T : TD) (a : Nat) : Nat := stS (fun d => decide (a = 8 ∨ a = tN T d)) (tD T)
def w_X8_doorsThatSound : WPt := fun args σ Q => match args with
  | [.ref t, .int g] => ∃ T a, TownR σ t T ∧ g = nI a ∧ a ≤ 8 ∧ Q (some (.int (nI (sndS T a)))) σ
  | _ => False
theorem m_X8_doorsThatSound : Meets yX8_doorsThatSound cX8_doorsThatSound 4 (some .int) 3 w_X8_doorsThatSound := by
  refine Meets.mk (by decide) fun args σ Φ h => ?_
  unfold w_X8_doorsThatSound at h
  split at h
  rotate_left
  · exact h.elim
  rename_i t g
  obtain ⟨t, rfl⟩ : ∃ q : Nat, q = t := ⟨t, rfl⟩
  obtain ⟨T, a, hT, rfl, ha, hQ⟩ := h
  refine ⟨Nat.le_of_ble_eq_true rfl, fun C hC hR => ?_⟩
  refine r_X8_doorsThatSound_0 hC hR m_X8_sounds (by decide) _ _ _ ?_
  simp only [T_X8_doorsThatSound_0, x_psh, x_ild, x_lld, x_ald, x_ist, x_ast, x_lst, x_inc, x_iadd, x_isub, x_imul, x_iand, x_ior, x_ixor, x_ishl, x_ishr, x_iushr, x_idiv, x_irem, x_ladd, x_land, x_lor, x_lshl, x_lshr, x_ineg, x_i2l, x_l2i, x_i2b, x_lcmp, x_dup, x_dup2, x_if_eq, x_if_ne, x_if_lt, x_if_ge, x_if_gt, x_if_le, x_ic_eq, x_ic_ne, x_ic_lt, x_ic_ge, x_ic_gt, x_ic_le, x_getI, x_getR, x_putI, x_putZ, x_putR, x_iald, x_bald, x_lald, x_iast, x_bast, x_last, x_alen, x_acp, x_mmax, x_mmin, x_callV, x_callS, x_iret, x_zret, x_lret, x_aret, x_vret, x_tsw, x_stop, zst1, zst2, zkill, zkl, zsplit, zmask, zent, zentL, List.getElem?_cons_zero, List.getElem?_cons_succ, List.set_cons_zero, List.set_cons_succ, List.set_nil, List.length_cons, List.length_nil, List.replicate, List.nil_append, List.cons_append, List.map_cons, List.map_nil, List.sum_cons, List.sum_nil, Value.category, Option.toList, List.contains_cons, List.contains_nil, true_or, or_true, true_and, Nat.zero_le, Nat.reduceAdd, Nat.reduceLeDiff, Nat.reduceLT, Nat.reduceBEq, Bool.true_or, Bool.or_true, Bool.false_or, Bool.or_false, ↓reduceIte, Bool.false_eq_true, Nat.add_zero, Nat.zero_add, Nat.reduceEqDiff, Nat.reduceSub]
  have h12 := hT.2.2.2.1
  refine zloop (P := fun k => WW C 4 [some (.ref t), some (.int (nI a)), some (.int (nI (stS (fun d => decide (a = 8 ∨ a = tN T d)) k))), some (.int (nI k))] [] σ) (tD T) (fun k hk ih => ?_) ?_ 0 (by omega)
  · have ⟨⟨s1, s2, s3, s4, s5, s6, s7, s8, s9⟩, v1, v2, v3, v4, v5, v6, v7, v8⟩ := hT
    refine r_X8_doorsThatSound_4 hC hR m_X8_sounds (by decide) _ _ _ ?_
    simp only [T_X8_doorsThatSound_4, x_psh, x_ild, x_lld, x_ald, x_ist, x_ast, x_lst, x_inc, x_iadd, x_isub, x_imul, x_iand, x_ior, x_ixor, x_ishl, x_ishr, x_iushr, x_idiv, x_irem, x_ladd, x_land, x_lor, x_lshl, x_lshr, x_ineg, x_i2l, x_l2i, x_i2b, x_lcmp, x_dup, x_dup2, x_if_eq, x_if_ne, x_if_lt, x_if_ge, x_if_gt, x_if_le, x_ic_eq, x_ic_ne, x_ic_lt, x_ic_ge, x_ic_gt, x_ic_le, x_getI, x_getR, x_putI, x_putZ, x_putR, x_iald, x_bald, x_lald, x_iast, x_bast, x_last, x_alen, x_acp, x_mmax, x_mmin, x_callV, x_callS, x_iret, x_zret, x_lret, x_aret, x_vret, x_tsw, x_stop, zst1, zst2, zkill, zkl, zsplit, zmask, zent, zentL, List.getElem?_cons_zero, List.getElem?_cons_succ, List.set_cons_zero, List.set_cons_succ, List.set_nil, List.length_cons, List.length_nil, List.replicate, List.nil_append, List.cons_append, List.map_cons, List.map_nil, List.sum_cons, List.sum_nil, Value.category, Option.toList, List.contains_cons, List.contains_nil, true_or, or_true, true_and, Nat.zero_le, Nat.reduceAdd, Nat.reduceLeDiff, Nat.reduceLT, Nat.reduceBEq, Bool.true_or, Bool.or_true, Bool.false_or, Bool.or_false, ↓reduceIte, Bool.false_eq_true, Nat.add_zero, Nat.zero_add, Nat.reduceEqDiff, Nat.reduceSub, w_X8_sounds]
    rw [v1]
    refine ⟨s1, fun q => absurd q (nI_ge hk (by omega)), fun _ => ⟨s1, T, k, a, hT, rfl, hk, rfl, ha, ?_⟩⟩
    have e1 : nI k + 1 = nI (k + 1) := nI_1 k
    rw [b2i_0, e1, z_l31, z_l1, z_p2 k (by omega), z_or]
    refine ⟨fun hb => ?_, fun hb => ?_⟩
    · rw [show stS (fun d => decide (a = 8 ∨ a = tN T d)) k = stS (fun d => decide (a = 8 ∨ a = tN T d)) (k + 1) by rw [stS, if_neg (by simpa using hb), Nat.or_zero]]
      exact ih
    · rw [show stS (fun d => decide (a = 8 ∨ a = tN T d)) k ||| 2 ^ k = stS (fun d => decide (a = 8 ∨ a = tN T d)) (k + 1) by rw [stS, if_pos (by rw [decide_eq_true_iff]; exact Decidable.not_not.mp hb)]]
      exact ih
  · have ⟨⟨s1, s2, s3, s4, s5, s6, s7, s8, s9⟩, v1, v2, v3, v4, v5, v6, v7, v8⟩ := hT
    refine r_X8_doorsThatSound_4 hC hR m_X8_sounds (by decide) _ _ _ ?_
    simp only [T_X8_doorsThatSound_4, x_psh, x_ild, x_lld, x_ald, x_ist, x_ast, x_lst, x_inc, x_iadd, x_isub, x_imul, x_iand, x_ior, x_ixor, x_ishl, x_ishr, x_iushr, x_idiv, x_irem, x_ladd, x_land, x_lor, x_lshl, x_lshr, x_ineg, x_i2l, x_l2i, x_i2b, x_lcmp, x_dup, x_dup2, x_if_eq, x_if_ne, x_if_lt, x_if_ge, x_if_gt, x_if_le, x_ic_eq, x_ic_ne, x_ic_lt, x_ic_ge, x_ic_gt, x_ic_le, x_getI, x_getR, x_putI, x_putZ, x_putR, x_iald, x_bald, x_lald, x_iast, x_bast, x_last, x_alen, x_acp, x_mmax, x_mmin, x_callV, x_callS, x_iret, x_zret, x_lret, x_aret, x_vret, x_tsw, x_stop, zst1, zst2, zkill, zkl, zsplit, zmask, zent, zentL, List.getElem?_cons_zero, List.getElem?_cons_succ, List.set_cons_zero, List.set_cons_succ, List.set_nil, List.length_cons, List.length_nil, List.replicate, List.nil_append, List.cons_append, List.map_cons, List.map_nil, List.sum_cons, List.sum_nil, Value.category, Option.toList, List.contains_cons, List.contains_nil, true_or, or_true, true_and, Nat.zero_le, Nat.reduceAdd, Nat.reduceLeDiff, Nat.reduceLT, Nat.reduceBEq, Bool.true_or, Bool.or_true, Bool.false_or, Bool.or_false, ↓reduceIte, Bool.false_eq_true, Nat.add_zero, Nat.zero_add, Nat.reduceEqDiff, Nat.reduceSub, w_X8_sounds]
    rw [v1]
    exact ⟨s1, fun q => hQ, fun q => absurd (nI_le (Nat.le_refl _) (by omega)) q⟩
def w_X8_isJoined : WPt := fun args σ Q => match args with
  | [.ref t, .int d, .int o] => ∃ T a c, TownR σ t T ∧ d = nI a ∧ a < tD T ∧ o = nI c ∧ c < 32 ∧ Q (some (.int (b2i ((tE T a).testBit c = true)))) σ
  | _ => False
theorem m_X8_isJoined : Meets yX8_isJoined cX8_isJoined 3 (some .boolean) 3 w_X8_isJoined := by
  refine Meets.mk (by decide) fun args σ Φ h => ?_
  unfold w_X8_isJoined at h
  split at h
  rotate_left
  · exact h.elim
  rename_i t d o
  obtain ⟨t, rfl⟩ : ∃ q : Nat, q = t := ⟨t, rfl⟩
  obtain ⟨T, a, c, hT, rfl, ha, rfl, hc, hQ⟩ := h
  refine ⟨Nat.le_of_ble_eq_true rfl, fun C hC hR => ?_⟩
  have h12 := hT.2.2.2.1
  have hp := hT.d31
  have hE := (hT.2.2.2.2.2.2.1 a ha).2
  refine r_X8_isJoined_0 hC hR m_X8_joinedTo (by decide) m_X11_has (by decide) _ _ _ ?_
  simp only [T_X8_isJoined_0, x_psh, x_ild, x_lld, x_ald, x_ist, x_ast, x_lst, x_inc, x_iadd, x_isub, x_imul, x_iand, x_ior, x_ixor, x_ishl, x_ishr, x_iushr, x_idiv, x_irem, x_ladd, x_land, x_lor, x_lshl, x_lshr, x_ineg, x_i2l, x_l2i, x_i2b, x_lcmp, x_dup, x_dup2, x_if_eq, x_if_ne, x_if_lt, x_if_ge, x_if_gt, x_if_le, x_ic_eq, x_ic_ne, x_ic_lt, x_ic_ge, x_ic_gt, x_ic_le, x_getI, x_getR, x_putI, x_putZ, x_putR, x_iald, x_bald, x_lald, x_iast, x_bast, x_last, x_alen, x_acp, x_mmax, x_mmin, x_callV, x_callS, x_iret, x_zret, x_lret, x_aret, x_vret, x_tsw, x_stop, zst1, zst2, zkill, zkl, zsplit, zmask, zent, zentL, List.getElem?_cons_zero, List.getElem?_cons_succ, List.set_cons_zero, List.set_cons_succ, List.set_nil, List.length_cons, List.length_nil, List.replicate, List.nil_append, List.cons_append, List.map_cons, List.map_nil, List.sum_cons, List.sum_nil, Value.category, Option.toList, List.contains_cons, List.contains_nil, true_or, or_true, true_and, Nat.zero_le, Nat.reduceAdd, Nat.reduceLeDiff, Nat.reduceLT, Nat.reduceBEq, Bool.true_or, Bool.or_true, Bool.false_or, Bool.or_false, ↓reduceIte, Bool.false_eq_true, Nat.add_zero, Nat.zero_add, Nat.reduceEqDiff, Nat.reduceSub, w_X8_joinedTo, w_X11_has]
  refine ⟨hT.1.1, T, hT, fun k hk e => ?_, fun q => absurd ⟨nI_pos' (by omega), nI_lt ha (by omega)⟩ q⟩
  have e2 : a = k := (nI_eq (by omega) (by omega)).mp e
  subst e2
  exact ⟨tE T a, c, rfl, rfl, by omega, hc, by rw [b2i_01]; trivial, hQ⟩
def w_X8_isJoinedToAll : WPt := fun args σ Q => match args with
  | [.ref t, .int d] => ∃ T a, TownR σ t T ∧ d = nI a ∧ a < tD T ∧ Q (some (.int (b2i (tE T a ||| 2 ^ a = 2 ^ tD T - 1)))) σ
  | _ => False
theorem m_X8_isJoinedToAll : Meets yX8_isJoinedToAll cX8_isJoinedToAll 2 (some .boolean) 2 w_X8_isJoinedToAll := by
  refine Meets.mk (by decide) fun args σ Φ h => ?_
  unfold w_X8_isJoinedToAll at h
  split at h
  rotate_left
  · exact h.elim
  rename_i t d
  obtain ⟨t, rfl⟩ : ∃ q : Nat, q = t := ⟨t, rfl⟩
  obtain ⟨T, a, hT, rfl, ha, hQ⟩ := h
  refine ⟨Nat.le_of_ble_eq_true rfl, fun C hC hR => ?_⟩
  have h12 := hT.2.2.2.1
  have hp := hT.d31
  have ⟨⟨s1, s2, s3, s4, s5, s6, s7, s8, s9⟩, v1, v2, v3, v4, v5, v6, v7, v8⟩ := hT
  have hE := (v6 a ha).2
  have hpa : 2 ^ a < 2 ^ tD T := Nat.pow_lt_pow_right (by decide) ha
  have hor : tE T a ||| 2 ^ a < 2 ^ tD T := Nat.or_lt_two_pow hE hpa
  refine r_X8_isJoinedToAll_0 hC hR m_X8_isDoor (by decide) m_X8_allDoors (by decide) _ _ _ ?_
  simp only [T_X8_isJoinedToAll_0, x_psh, x_ild, x_lld, x_ald, x_ist, x_ast, x_lst, x_inc, x_iadd, x_isub, x_imul, x_iand, x_ior, x_ixor, x_ishl, x_ishr, x_iushr, x_idiv, x_irem, x_ladd, x_land, x_lor, x_lshl, x_lshr, x_ineg, x_i2l, x_l2i, x_i2b, x_lcmp, x_dup, x_dup2, x_if_eq, x_if_ne, x_if_lt, x_if_ge, x_if_gt, x_if_le, x_ic_eq, x_ic_ne, x_ic_lt, x_ic_ge, x_ic_gt, x_ic_le, x_getI, x_getR, x_putI, x_putZ, x_putR, x_iald, x_bald, x_lald, x_iast, x_bast, x_last, x_alen, x_acp, x_mmax, x_mmin, x_callV, x_callS, x_iret, x_zret, x_lret, x_aret, x_vret, x_tsw, x_stop, zst1, zst2, zkill, zkl, zsplit, zmask, zent, zentL, List.getElem?_cons_zero, List.getElem?_cons_succ, List.set_cons_zero, List.set_cons_succ, List.set_nil, List.length_cons, List.length_nil, List.replicate, List.nil_append, List.cons_append, List.map_cons, List.map_nil, List.sum_cons, List.sum_nil, Value.category, Option.toList, List.contains_cons, List.contains_nil, true_or, or_true, true_and, Nat.zero_le, Nat.reduceAdd, Nat.reduceLeDiff, Nat.reduceLT, Nat.reduceBEq, Bool.true_or, Bool.or_true, Bool.false_or, Bool.or_false, ↓reduceIte, Bool.false_eq_true, Nat.add_zero, Nat.zero_add, Nat.reduceEqDiff, Nat.reduceSub, w_X8_isDoor, w_X8_allDoors, b2i_0, s1, v1]
  refine ⟨fun q => absurd ⟨nI_pos' (by omega), nI_lt ha (by omega)⟩ q, fun _ => ⟨by rw [s7]; omega, 12, by rw [s7]; exact s3, vp_in_nI (by omega) (by omega), tD T, rfl, h12, ?_⟩⟩
  rw [s7, nI_clamp (by omega), (v6 a ha).1, z_l31, z_l1, z_p2 a (by omega), z_or, nI_eq (by omega) (by omega)]
  refine ⟨fun q => ?_, fun q => ?_⟩
  · rw [b2i_f q] at hQ; exact hQ
  · rw [b2i_t q] at hQ; exact hQ
def anyB (p : Nat → Bool) : Nat → Bool
  | 0 => false
  | k + 1 => anyB p k || p k
theorem anyB_iff (p : Nat → Bool) : ∀ n, anyB p n = true ↔ ∃ k, k < n ∧ p k = true
  | 0 => by simp [anyB]
  | n + 1 => by
    rw [anyB, Bool.or_eq_true, anyB_iff p n]
    constructor
    · rintro (⟨k, h1, h2⟩ | h)
      · exact ⟨k, by omega, h2⟩
      · exact ⟨n, by omega, h⟩
    · rintro ⟨k, h1, h2⟩
      by_cases e : k = n
      · subst e; exact Or.inr h2
      · exact Or.inl ⟨k, by omega, h2⟩
def roomS (T : TD) : Bool := anyB (fun a => decide (tE T a ||| 2 ^ a ≠ 2 ^ tD T - 1)) (tD T)
def w_X8_hasRoomForStreet : WPt := fun args σ Q => match args with
  | [.ref t] => ∃ T, TownR σ t T ∧ Q (some (.int (b2i (roomS T = true)))) σ
  | _ => False
theorem m_X8_hasRoomForStreet : Meets yX8_hasRoomForStreet cX8_hasRoomForStreet 2 (some .boolean) 3 w_X8_hasRoomForStreet := by
  refine Meets.mk (by decide) fun args σ Φ h => ?_
  unfold w_X8_hasRoomForStreet at h
  split at h
  rotate_left
  · exact h.elim
  rename_i t
  obtain ⟨t, rfl⟩ : ∃ q : Nat, q = t := ⟨t, rfl⟩
  obtain ⟨T, hT, hQ⟩ := h
  refine ⟨Nat.le_of_ble_eq_true rfl, fun C hC hR => ?_⟩
  refine r_X8_hasRoomForStreet_0 hC hR m_X8_isJoinedToAll (by decide) _ _ _ ?_
  simp only [T_X8_hasRoomForStreet_0, x_psh, x_ild, x_lld, x_ald, x_ist, x_ast, x_lst, x_inc, x_iadd, x_isub, x_imul, x_iand, x_ior, x_ixor, x_ishl, x_ishr, x_iushr, x_idiv, x_irem, x_ladd, x_land, x_lor, x_lshl, x_lshr, x_ineg, x_i2l, x_l2i, x_i2b, x_lcmp, x_dup, x_dup2, x_if_eq, x_if_ne, x_if_lt, x_if_ge, x_if_gt, x_if_le, x_ic_eq, x_ic_ne, x_ic_lt, x_ic_ge, x_ic_gt, x_ic_le, x_getI, x_getR, x_putI, x_putZ, x_putR, x_iald, x_bald, x_lald, x_iast, x_bast, x_last, x_alen, x_acp, x_mmax, x_mmin, x_callV, x_callS, x_iret, x_zret, x_lret, x_aret, x_vret, x_tsw, x_stop, zst1, zst2, zkill, zkl, zsplit, zmask, zent, zentL, List.getElem?_cons_zero, List.getElem?_cons_succ, List.set_cons_zero, List.set_cons_succ, List.set_nil, List.length_cons, List.length_nil, List.replicate, List.nil_append, List.cons_append, List.map_cons, List.map_nil, List.sum_cons, List.sum_nil, Value.category, Option.toList, List.contains_cons, List.contains_nil, true_or, or_true, true_and, Nat.zero_le, Nat.reduceAdd, Nat.reduceLeDiff, Nat.reduceLT, Nat.reduceBEq, Bool.true_or, Bool.or_true, Bool.false_or, Bool.or_false, ↓reduceIte, Bool.false_eq_true, Nat.add_zero, Nat.zero_add, Nat.reduceEqDiff, Nat.reduceSub]
  have h12 := hT.2.2.2.1
  have key := zloop (P := fun k => anyB (fun a => decide (tE T a ||| 2 ^ a ≠ 2 ^ tD T - 1)) k = false → WW C 2 [some (.ref t), some (.int (nI k))] [] σ) (tD T) (fun k hk ih hno => ?_) ?_ 0 (by omega)
  · exact key rfl
  · have ⟨⟨s1, s2, s3, s4, s5, s6, s7, s8, s9⟩, v1, v2, v3, v4, v5, v6, v7, v8⟩ := hT
    refine r_X8_hasRoomForStreet_2 hC hR m_X8_isJoinedToAll (by decide) _ _ _ ?_
    simp only [T_X8_hasRoomForStreet_2, x_psh, x_ild, x_lld, x_ald, x_ist, x_ast, x_lst, x_inc, x_iadd, x_isub, x_imul, x_iand, x_ior, x_ixor, x_ishl, x_ishr, x_iushr, x_idiv, x_irem, x_ladd, x_land, x_lor, x_lshl, x_lshr, x_ineg, x_i2l, x_l2i, x_i2b, x_lcmp, x_dup, x_dup2, x_if_eq, x_if_ne, x_if_lt, x_if_ge, x_if_gt, x_if_le, x_ic_eq, x_ic_ne, x_ic_lt, x_ic_ge, x_ic_gt, x_ic_le, x_getI, x_getR, x_putI, x_putZ, x_putR, x_iald, x_bald, x_lald, x_iast, x_bast, x_last, x_alen, x_acp, x_mmax, x_mmin, x_callV, x_callS, x_iret, x_zret, x_lret, x_aret, x_vret, x_tsw, x_stop, zst1, zst2, zkill, zkl, zsplit, zmask, zent, zentL, List.getElem?_cons_zero, List.getElem?_cons_succ, List.set_cons_zero, List.set_cons_succ, List.set_nil, List.length_cons, List.length_nil, List.replicate, List.nil_append, List.cons_append, List.map_cons, List.map_nil, List.sum_cons, List.sum_nil, Value.category, Option.toList, List.contains_cons, List.contains_nil, true_or, or_true, true_and, Nat.zero_le, Nat.reduceAdd, Nat.reduceLeDiff, Nat.reduceLT, Nat.reduceBEq, Bool.true_or, Bool.or_true, Bool.false_or, Bool.or_false, ↓reduceIte, Bool.false_eq_true, Nat.add_zero, Nat.zero_add, Nat.reduceEqDiff, Nat.reduceSub, w_X8_isJoinedToAll]
    rw [v1]
    refine ⟨s1, fun q => absurd q (nI_ge hk (by omega)), fun _ => ⟨s1, T, k, hT, rfl, hk, ?_⟩⟩
    have e1 : nI k + 1 = nI (k + 1) := nI_1 k
    rw [b2i_0, e1]
    refine ⟨fun hb => ih ?_, fun hb => ?_⟩
    · rw [anyB, hno]
      have hb : ¬ ¬ tE T k ||| 2 ^ k = 2 ^ tD T - 1 := hb
      simpa using hb
    · rw [b2i_t (c := roomS T = true) ((anyB_iff _ _).mpr ⟨k, hk, by rw [decide_eq_true_iff]; exact hb⟩)] at hQ
      exact hQ
  · intro hno
    have ⟨⟨s1, s2, s3, s4, s5, s6, s7, s8, s9⟩, v1, v2, v3, v4, v5, v6, v7, v8⟩ := hT
    refine r_X8_hasRoomForStreet_2 hC hR m_X8_isJoinedToAll (by decide) _ _ _ ?_
    simp only [T_X8_hasRoomForStreet_2, x_psh, x_ild, x_lld, x_ald, x_ist, x_ast, x_lst, x_inc, x_iadd, x_isub, x_imul, x_iand, x_ior, x_ixor, x_ishl, x_ishr, x_iushr, x_idiv, x_irem, x_ladd, x_land, x_lor, x_lshl, x_lshr, x_ineg, x_i2l, x_l2i, x_i2b, x_lcmp, x_dup, x_dup2, x_if_eq, x_if_ne, x_if_lt, x_if_ge, x_if_gt, x_if_le, x_ic_eq, x_ic_ne, x_ic_lt, x_ic_ge, x_ic_gt, x_ic_le, x_getI, x_getR, x_putI, x_putZ, x_putR, x_iald, x_bald, x_lald, x_iast, x_bast, x_last, x_alen, x_acp, x_mmax, x_mmin, x_callV, x_callS, x_iret, x_zret, x_lret, x_aret, x_vret, x_tsw, x_stop, zst1, zst2, zkill, zkl, zsplit, zmask, zent, zentL, List.getElem?_cons_zero, List.getElem?_cons_succ, List.set_cons_zero, List.set_cons_succ, List.set_nil, List.length_cons, List.length_nil, List.replicate, List.nil_append, List.cons_append, List.map_cons, List.map_nil, List.sum_cons, List.sum_nil, Value.category, Option.toList, List.contains_cons, List.contains_nil, true_or, or_true, true_and, Nat.zero_le, Nat.reduceAdd, Nat.reduceLeDiff, Nat.reduceLT, Nat.reduceBEq, Bool.true_or, Bool.or_true, Bool.false_or, Bool.or_false, ↓reduceIte, Bool.false_eq_true, Nat.add_zero, Nat.zero_add, Nat.reduceEqDiff, Nat.reduceSub, w_X8_isJoinedToAll]
    rw [v1]
    refine ⟨s1, fun q => ?_, fun q => absurd (nI_le (Nat.le_refl _) (by omega)) q⟩
    rw [b2i_f (show ¬ roomS T = true by unfold roomS; rw [hno]; simp)] at hQ
    exact hQ
