/-! TOWN: what it holds -/
/-- doors, songs, notes, streets (as sets), lengths, signs -/
abbrev TD : Type := Nat × Nat × (Nat → Nat) × (Nat → Nat) × (Nat → Nat) × (Nat → Nat)
def tD (T : TD) : Nat := T.1
def tS (T : TD) : Nat := T.2.1
def tN (T : TD) : Nat → Nat := T.2.2.1
def tE (T : TD) : Nat → Nat := T.2.2.2.1
def tL (T : TD) : Nat → Nat := T.2.2.2.2.1
def tG (T : TD) : Nat → Nat := T.2.2.2.2.2
def TownS (σ : ZS) (t : Nat) : Prop := zd σ t = some (0, 5) ∧ zd σ (t + 1) = some (1, 12) ∧ zd σ (t + 2) = some (1, 12) ∧ zd σ (t + 3) = some (1, 4) ∧ zd σ (t + 4) = some (1, 24) ∧ zR σ t 2 = t + 1 ∧ zR σ t 3 = t + 2 ∧ zR σ t 4 = t + 3 ∧ zR σ t 5 = t + 4
def TownV (σ : ZS) (t : Nat) (T : TD) : Prop := zI σ t 0 = nI (tD T) ∧ zI σ t 1 = nI (tS T) ∧ tD T ≤ 12 ∧ tS T ≤ 4 ∧ (∀ k, k < tD T → zI σ (t + 1) k = nI (tN T k) ∧ tN T k ≤ 7) ∧ (∀ k, k < tD T → zI σ (t + 2) k = nI (tE T k) ∧ tE T k < 2 ^ tD T) ∧ (∀ k, k < tS T → zI σ (t + 3) k = nI (tL T k) ∧ tL T k ≤ 6) ∧ (∀ k i, k < tS T → i < tL T k → zI σ (t + 4) (6 * k + i) = nI (tG T (6 * k + i)) ∧ tG T (6 * k + i) ≤ 8)
def TownR (σ : ZS) (t : Nat) (T : TD) : Prop := TownS σ t ∧ TownV σ t T
theorem TownR.d31 {σ : ZS} {t : Nat} {T : TD} (h : TownR σ t T) : 2 ^ tD T ≤ 4096 := z_pow31 h.2.2.2.1
/-! leaves -/
def w_X11_has : WPt := fun args σ Q => match args with
  | [.int x, .int y] => ∃ a k : Nat, x = nI a ∧ y = nI k ∧ a < 2 ^ 31 ∧ k < 32 ∧ Q (some (.int (b2i (a.testBit k = true)))) σ
  | _ => False
theorem m_X11_has : Meets yX11_has cX11_has 2 (some .boolean) 1 w_X11_has := by
  refine Meets.mk (by decide) fun args σ Φ h => ?_
  unfold w_X11_has at h
  split at h
  rotate_left
  · exact h.elim
  rename_i x y
  obtain ⟨a, k, rfl, rfl, ha, hk, hQ⟩ := h
  refine ⟨Nat.le_of_ble_eq_true rfl, fun C hC hR => ?_⟩
  refine r_X11_has_0 hC hR _ _ _ ?_
  simp only [T_X11_has_0, x_psh, x_ild, x_lld, x_ald, x_ist, x_ast, x_lst, x_inc, x_iadd, x_isub, x_imul, x_iand, x_ior, x_ixor, x_ishl, x_ishr, x_iushr, x_idiv, x_irem, x_ladd, x_land, x_lor, x_lshl, x_lshr, x_ineg, x_i2l, x_l2i, x_i2b, x_lcmp, x_dup, x_dup2, x_if_eq, x_if_ne, x_if_lt, x_if_ge, x_if_gt, x_if_le, x_ic_eq, x_ic_ne, x_ic_lt, x_ic_ge, x_ic_gt, x_ic_le, x_getI, x_getR, x_putI, x_putZ, x_putR, x_iald, x_bald, x_lald, x_iast, x_bast, x_last, x_alen, x_acp, x_mmax, x_mmin, x_callV, x_callS, x_iret, x_zret, x_lret, x_aret, x_vret, x_tsw, x_stop, zst1, zst2, zkill, zkl, zsplit, zmask, zent, zentL, List.getElem?_cons_zero, List.getElem?_cons_succ, List.set_cons_zero, List.set_cons_succ, List.set_nil, List.length_cons, List.length_nil, List.replicate, List.nil_append, List.cons_append, List.map_cons, List.map_nil, List.sum_cons, List.sum_nil, Value.category, Option.toList, List.contains_cons, List.contains_nil, true_or, or_true, true_and, Nat.zero_le, Nat.reduceAdd, Nat.reduceLeDiff, Nat.reduceLT, Nat.reduceBEq, Bool.true_or, Bool.or_true, Bool.false_or, Bool.or_false, ↓reduceIte, Bool.false_eq_true, Nat.add_zero, Nat.zero_add, Nat.reduceEqDiff, Nat.reduceSub]
  rw [z_l31, z_l1, z_shr ha hk, z_and, z_bit1]
  cases hb : a.testBit k
  · simp only [hb, b2i_f (c := false = true) (by simp)] at hQ
    exact ⟨fun _ => hQ, fun q => absurd rfl q⟩
  · simp only [hb, b2i_t (c := true = true) rfl] at hQ
    exact ⟨fun q => absurd q (by decide), fun _ => hQ⟩
def w_X8_isDoor : WPt := fun args σ Q => match args with
  | [.ref t, .int d] => zd σ t = some (0, 5) ∧ Q (some (.int (b2i (0 ≤ d ∧ d < zI σ t 0)))) σ
  | _ => False
theorem m_X8_isDoor : Meets yX8_isDoor cX8_isDoor 2 (some .boolean) 1 w_X8_isDoor := by
  refine Meets.mk (by decide) fun args σ Φ h => ?_
  unfold w_X8_isDoor at h
  split at h
  rotate_left
  · exact h.elim
  rename_i t d
  obtain ⟨t, rfl⟩ : ∃ q : Nat, q = t := ⟨t, rfl⟩
  obtain ⟨hz, hQ⟩ := h
  refine ⟨Nat.le_of_ble_eq_true rfl, fun C hC hR => ?_⟩
  refine r_X8_isDoor_0 hC hR _ _ _ ?_
  simp only [T_X8_isDoor_0, x_psh, x_ild, x_lld, x_ald, x_ist, x_ast, x_lst, x_inc, x_iadd, x_isub, x_imul, x_iand, x_ior, x_ixor, x_ishl, x_ishr, x_iushr, x_idiv, x_irem, x_ladd, x_land, x_lor, x_lshl, x_lshr, x_ineg, x_i2l, x_l2i, x_i2b, x_lcmp, x_dup, x_dup2, x_if_eq, x_if_ne, x_if_lt, x_if_ge, x_if_gt, x_if_le, x_ic_eq, x_ic_ne, x_ic_lt, x_ic_ge, x_ic_gt, x_ic_le, x_getI, x_getR, x_putI, x_putZ, x_putR, x_iald, x_bald, x_lald, x_iast, x_bast, x_last, x_alen, x_acp, x_mmax, x_mmin, x_callV, x_callS, x_iret, x_zret, x_lret, x_aret, x_vret, x_tsw, x_stop, zst1, zst2, zkill, zkl, zsplit, zmask, zent, zentL, List.getElem?_cons_zero, List.getElem?_cons_succ, List.set_cons_zero, List.set_cons_succ, List.set_nil, List.length_cons, List.length_nil, List.replicate, List.nil_append, List.cons_append, List.map_cons, List.map_nil, List.sum_cons, List.sum_nil, Value.category, Option.toList, List.contains_cons, List.contains_nil, true_or, or_true, true_and, Nat.zero_le, Nat.reduceAdd, Nat.reduceLeDiff, Nat.reduceLT, Nat.reduceBEq, Bool.true_or, Bool.or_true, Bool.false_or, Bool.or_false, ↓reduceIte, Bool.false_eq_true, Nat.add_zero, Nat.zero_add, Nat.reduceEqDiff, Nat.reduceSub]
  refine ⟨fun h0 => ?_, fun h0 => ⟨hz, fun h1 => ?_, fun h1 => ?_⟩⟩
  · rw [b2i_f (fun q => absurd h0 (Int32.not_lt.mpr q.1))] at hQ; exact hQ
  · rw [b2i_f (fun q => absurd q.2 (Int32.not_lt.mpr h1))] at hQ; exact hQ
  · rw [b2i_t ⟨Int32.not_lt.mp h0, Int32.not_le.mp h1⟩] at hQ; exact hQ
def w_X8_isSong : WPt := fun args σ Q => match args with
  | [.ref t, .int d] => zd σ t = some (0, 5) ∧ Q (some (.int (b2i (0 ≤ d ∧ d < zI σ t 1)))) σ
  | _ => False
theorem m_X8_isSong : Meets yX8_isSong cX8_isSong 2 (some .boolean) 1 w_X8_isSong := by
  refine Meets.mk (by decide) fun args σ Φ h => ?_
  unfold w_X8_isSong at h
  split at h
  rotate_left
  · exact h.elim
  rename_i t d
  obtain ⟨t, rfl⟩ : ∃ q : Nat, q = t := ⟨t, rfl⟩
  obtain ⟨hz, hQ⟩ := h
  refine ⟨Nat.le_of_ble_eq_true rfl, fun C hC hR => ?_⟩
  refine r_X8_isSong_0 hC hR _ _ _ ?_
  simp only [T_X8_isSong_0, x_psh, x_ild, x_lld, x_ald, x_ist, x_ast, x_lst, x_inc, x_iadd, x_isub, x_imul, x_iand, x_ior, x_ixor, x_ishl, x_ishr, x_iushr, x_idiv, x_irem, x_ladd, x_land, x_lor, x_lshl, x_lshr, x_ineg, x_i2l, x_l2i, x_i2b, x_lcmp, x_dup, x_dup2, x_if_eq, x_if_ne, x_if_lt, x_if_ge, x_if_gt, x_if_le, x_ic_eq, x_ic_ne, x_ic_lt, x_ic_ge, x_ic_gt, x_ic_le, x_getI, x_getR, x_putI, x_putZ, x_putR, x_iald, x_bald, x_lald, x_iast, x_bast, x_last, x_alen, x_acp, x_mmax, x_mmin, x_callV, x_callS, x_iret, x_zret, x_lret, x_aret, x_vret, x_tsw, x_stop, zst1, zst2, zkill, zkl, zsplit, zmask, zent, zentL, List.getElem?_cons_zero, List.getElem?_cons_succ, List.set_cons_zero, List.set_cons_succ, List.set_nil, List.length_cons, List.length_nil, List.replicate, List.nil_append, List.cons_append, List.map_cons, List.map_nil, List.sum_cons, List.sum_nil, Value.category, Option.toList, List.contains_cons, List.contains_nil, true_or, or_true, true_and, Nat.zero_le, Nat.reduceAdd, Nat.reduceLeDiff, Nat.reduceLT, Nat.reduceBEq, Bool.true_or, Bool.or_true, Bool.false_or, Bool.or_false, ↓reduceIte, Bool.false_eq_true, Nat.add_zero, Nat.zero_add, Nat.reduceEqDiff, Nat.reduceSub]
  refine ⟨fun h0 => ?_, fun h0 => ⟨hz, fun h1 => ?_, fun h1 => ?_⟩⟩
  · rw [b2i_f (fun q => absurd h0 (Int32.not_lt.mpr q.1))] at hQ; exact hQ
  · rw [b2i_f (fun q => absurd q.2 (Int32.not_lt.mpr h1))] at hQ; exact hQ
  · rw [b2i_t ⟨Int32.not_lt.mp h0, Int32.not_le.mp h1⟩] at hQ; exact hQ
def w_X8_allDoors : WPt := fun args σ Q => match args with
  | [.ref t] => ∃ D : Nat, zd σ t = some (0, 5) ∧ zI σ t 0 = nI D ∧ D ≤ 12 ∧ Q (some (.int (nI (2 ^ D - 1)))) σ
  | _ => False
theorem m_X8_allDoors : Meets yX8_allDoors cX8_allDoors 1 (some .int) 1 w_X8_allDoors := by
  refine Meets.mk (by decide) fun args σ Φ h => ?_
  unfold w_X8_allDoors at h
  split at h
  rotate_left
  · exact h.elim
  rename_i t
  obtain ⟨t, rfl⟩ : ∃ q : Nat, q = t := ⟨t, rfl⟩
  obtain ⟨D, hz, hD, hD12, hQ⟩ := h
  refine ⟨Nat.le_of_ble_eq_true rfl, fun C hC hR => ?_⟩
  refine r_X8_allDoors_0 hC hR _ _ _ ?_
  simp only [T_X8_allDoors_0, x_psh, x_ild, x_lld, x_ald, x_ist, x_ast, x_lst, x_inc, x_iadd, x_isub, x_imul, x_iand, x_ior, x_ixor, x_ishl, x_ishr, x_iushr, x_idiv, x_irem, x_ladd, x_land, x_lor, x_lshl, x_lshr, x_ineg, x_i2l, x_l2i, x_i2b, x_lcmp, x_dup, x_dup2, x_if_eq, x_if_ne, x_if_lt, x_if_ge, x_if_gt, x_if_le, x_ic_eq, x_ic_ne, x_ic_lt, x_ic_ge, x_ic_gt, x_ic_le, x_getI, x_getR, x_putI, x_putZ, x_putR, x_iald, x_bald, x_lald, x_iast, x_bast, x_last, x_alen, x_acp, x_mmax, x_mmin, x_callV, x_callS, x_iret, x_zret, x_lret, x_aret, x_vret, x_tsw, x_stop, zst1, zst2, zkill, zkl, zsplit, zmask, zent, zentL, List.getElem?_cons_zero, List.getElem?_cons_succ, List.set_cons_zero, List.set_cons_succ, List.set_nil, List.length_cons, List.length_nil, List.replicate, List.nil_append, List.cons_append, List.map_cons, List.map_nil, List.sum_cons, List.sum_nil, Value.category, Option.toList, List.contains_cons, List.contains_nil, true_or, or_true, true_and, Nat.zero_le, Nat.reduceAdd, Nat.reduceLeDiff, Nat.reduceLT, Nat.reduceBEq, Bool.true_or, Bool.or_true, Bool.false_or, Bool.or_false, ↓reduceIte, Bool.false_eq_true, Nat.add_zero, Nat.zero_add, Nat.reduceEqDiff, Nat.reduceSub]
  rw [hD, z_l31, z_l1, z_p2 D (by omega), z_p2m D (by omega)]
  exact ⟨hz, hQ⟩
/-- streets of a door, or none -/
def w_X8_joinedTo : WPt := fun args σ Q => match args with
  | [.ref t, .int d] => ∃ T, TownR σ t T ∧ (∀ k, k < tD T → d = nI k → Q (some (.int (nI (tE T k)))) σ) ∧ (¬ (0 ≤ d ∧ d < nI (tD T)) → Q (some (.int (nI 0))) σ)
  | _ => False
theorem m_X8_joinedTo : Meets yX8_joinedTo cX8_joinedTo 2 (some .int) 2 w_X8_joinedTo := by
  refine Meets.mk (by decide) fun args σ Φ h => ?_
  unfold w_X8_joinedTo at h
  split at h
  rotate_left
  · exact h.elim
  rename_i t d
  obtain ⟨t, rfl⟩ : ∃ q : Nat, q = t := ⟨t, rfl⟩
  obtain ⟨T, ⟨⟨s1, s2, s3, s4, s5, s6, s7, s8, s9⟩, v1, v2, v3, v4, v5, v6, v7, v8⟩, hQ1, hQ2⟩ := h
  refine ⟨Nat.le_of_ble_eq_true rfl, fun C hC hR => ?_⟩
  refine r_X8_joinedTo_0 hC hR m_X8_isDoor (by decide) _ _ _ ?_
  simp only [T_X8_joinedTo_0, x_psh, x_ild, x_lld, x_ald, x_ist, x_ast, x_lst, x_inc, x_iadd, x_isub, x_imul, x_iand, x_ior, x_ixor, x_ishl, x_ishr, x_iushr, x_idiv, x_irem, x_ladd, x_land, x_lor, x_lshl, x_lshr, x_ineg, x_i2l, x_l2i, x_i2b, x_lcmp, x_dup, x_dup2, x_if_eq, x_if_ne, x_if_lt, x_if_ge, x_if_gt, x_if_le, x_ic_eq, x_ic_ne, x_ic_lt, x_ic_ge, x_ic_gt, x_ic_le, x_getI, x_getR, x_putI, x_putZ, x_putR, x_iald, x_bald, x_lald, x_iast, x_bast, x_last, x_alen, x_acp, x_mmax, x_mmin, x_callV, x_callS, x_iret, x_zret, x_lret, x_aret, x_vret, x_tsw, x_stop, zst1, zst2, zkill, zkl, zsplit, zmask, zent, zentL, List.getElem?_cons_zero, List.getElem?_cons_succ, List.set_cons_zero, List.set_cons_succ, List.set_nil, List.length_cons, List.length_nil, List.replicate, List.nil_append, List.cons_append, List.map_cons, List.map_nil, List.sum_cons, List.sum_nil, Value.category, Option.toList, List.contains_cons, List.contains_nil, true_or, or_true, true_and, Nat.zero_le, Nat.reduceAdd, Nat.reduceLeDiff, Nat.reduceLT, Nat.reduceBEq, Bool.true_or, Bool.or_true, Bool.false_or, Bool.or_false, ↓reduceIte, Bool.false_eq_true, Nat.add_zero, Nat.zero_add, Nat.reduceEqDiff, Nat.reduceSub, w_X8_isDoor, b2i_0, s1, v1]
  rcases z_ix d (n := tD T) (by omega) with ⟨k, hk, rfl⟩ | hd
  · refine ⟨fun q => absurd ⟨nI_pos' (by omega), nI_lt hk (by omega)⟩ q, fun q => ⟨by rw [s7]; omega, 12, by rw [s7]; exact s3, vp_in_nI (by omega) (by omega), ?_⟩⟩
    rw [s7, nI_clamp (by omega), (v6 k hk).1]
    exact hQ1 k hk rfl
  · have hn : ¬ (0 ≤ d ∧ d < nI (tD T)) := by
      rintro ⟨q1, q2⟩
      rcases hd with hd | hd
      · exact absurd hd (Int32.not_lt.mpr q1)
      · exact absurd q2 (Int32.not_lt.mpr hd.2)
    exact ⟨fun _ => hQ2 hn, fun q => absurd hn q⟩

def w_X8_around : WPt := fun args σ Q => match args with
  | [.ref t, .int x] => ∃ T s, TownR σ t T ∧ x = nI s ∧ s < 2 ^ 31 ∧ Q (some (.int (nI (orS (tE T) s (tD T))))) σ
  | _ => False
theorem m_X8_around : Meets yX8_around cX8_around 4 (some .int) 2 w_X8_around := by
  refine Meets.mk (by decide) fun args σ Φ h => ?_
  unfold w_X8_around at h
  split at h
  rotate_left
  · exact h.elim
  rename_i t x
  obtain ⟨t, rfl⟩ : ∃ q : Nat, q = t := ⟨t, rfl⟩
  obtain ⟨T, s, hT, rfl, hs, hQ⟩ := h
  refine ⟨Nat.le_of_ble_eq_true rfl, fun C hC hR => ?_⟩
  refine r_X8_around_0 hC hR m_X11_has (by decide) _ _ _ ?_
  simp only [T_X8_around_0, x_psh, x_ild, x_lld, x_ald, x_ist, x_ast, x_lst, x_inc, x_iadd, x_isub, x_imul, x_iand, x_ior, x_ixor, x_ishl, x_ishr, x_iushr, x_idiv, x_irem, x_ladd, x_land, x_lor, x_lshl, x_lshr, x_ineg, x_i2l, x_l2i, x_i2b, x_lcmp, x_dup, x_dup2, x_if_eq, x_if_ne, x_if_lt, x_if_ge, x_if_gt, x_if_le, x_ic_eq, x_ic_ne, x_ic_lt, x_ic_ge, x_ic_gt, x_ic_le, x_getI, x_getR, x_putI, x_putZ, x_putR, x_iald, x_bald, x_lald, x_iast, x_bast, x_last, x_alen, x_acp, x_mmax, x_mmin, x_callV, x_callS, x_iret, x_zret, x_lret, x_aret, x_vret, x_tsw, x_stop, zst1, zst2, zkill, zkl, zsplit, zmask, zent, zentL, List.getElem?_cons_zero, List.getElem?_cons_succ, List.set_cons_zero, List.set_cons_succ, List.set_nil, List.length_cons, List.length_nil, List.replicate, List.nil_append, List.cons_append, List.map_cons, List.map_nil, List.sum_cons, List.sum_nil, Value.category, Option.toList, List.contains_cons, List.contains_nil, true_or, or_true, true_and, Nat.zero_le, Nat.reduceAdd, Nat.reduceLeDiff, Nat.reduceLT, Nat.reduceBEq, Bool.true_or, Bool.or_true, Bool.false_or, Bool.or_false, ↓reduceIte, Bool.false_eq_true, Nat.add_zero, Nat.zero_add, Nat.reduceEqDiff, Nat.reduceSub]
  have h12 := hT.2.2.2.1
  have hd := hT.d31
  refine zloop (P := fun k => WW C 4 [some (.ref t), some (.int (nI s)), some (.int (nI (orS (tE T) s k))), some (.int (nI k))] [] σ) (tD T) (fun k hk ih => ?_) ?_ 0 (by omega)
  · obtain ⟨⟨s1, s2, s3, s4, s5, s6, s7, s8, s9⟩, v1, v2, v3, v4, v5, v6, v7, v8⟩ := hT
    refine r_X8_around_4 hC hR m_X11_has (by decide) _ _ _ ?_
    simp only [T_X8_around_4, x_psh, x_ild, x_lld, x_ald, x_ist, x_ast, x_lst, x_inc, x_iadd, x_isub, x_imul, x_iand, x_ior, x_ixor, x_ishl, x_ishr, x_iushr, x_idiv, x_irem, x_ladd, x_land, x_lor, x_lshl, x_lshr, x_ineg, x_i2l, x_l2i, x_i2b, x_lcmp, x_dup, x_dup2, x_if_eq, x_if_ne, x_if_lt, x_if_ge, x_if_gt, x_if_le, x_ic_eq, x_ic_ne, x_ic_lt, x_ic_ge, x_ic_gt, x_ic_le, x_getI, x_getR, x_putI, x_putZ, x_putR, x_iald, x_bald, x_lald, x_iast, x_bast, x_last, x_alen, x_acp, x_mmax, x_mmin, x_callV, x_callS, x_iret, x_zret, x_lret, x_aret, x_vret, x_tsw, x_stop, zst1, zst2, zkill, zkl, zsplit, zmask, zent, zentL, List.getElem?_cons_zero, List.getElem?_cons_succ, List.set_cons_zero, List.set_cons_succ, List.set_nil, List.length_cons, List.length_nil, List.replicate, List.nil_append, List.cons_append, List.map_cons, List.map_nil, List.sum_cons, List.sum_nil, Value.category, Option.toList, List.contains_cons, List.contains_nil, true_or, or_true, true_and, Nat.zero_le, Nat.reduceAdd, Nat.reduceLeDiff, Nat.reduceLT, Nat.reduceBEq, Bool.true_or, Bool.or_true, Bool.false_or, Bool.or_false, ↓reduceIte, Bool.false_eq_true, Nat.add_zero, Nat.zero_add, Nat.reduceEqDiff, Nat.reduceSub, w_X11_has]
    rw [v1]
    refine ⟨s1, fun q => absurd q (nI_ge hk (by omega)), fun _ => ⟨fun q => ?_, fun q => ⟨s, k, rfl, rfl, hs, by omega, ?_⟩⟩⟩
    · rw [z_l31, z_shr hs (by omega)] at q
      have q' : s >>> k = 0 := (nI_eq (Nat.lt_of_le_of_lt (by rw [Nat.shiftRight_eq_div_pow]; exact Nat.div_le_self _ _) hs) (by decide)).mp q
      have e := orS_stop (f := tE T) (z_shr0 q') (tD T - k)
      rw [show k + (tD T - k) = tD T by omega] at e
      rw [← e]
      exact hQ
    · rw [b2i_0]
      have e1 : nI k + 1 = nI (k + 1) := nI_1 k
      refine ⟨fun hb => ?_, fun hb => ⟨s1, by rw [s7]; omega, 12, by rw [s7]; exact s3, vp_in_nI (by omega) (by omega), ?_⟩⟩
      · rw [e1, show orS (tE T) s k = orS (tE T) s (k + 1) by rw [orS, if_neg hb, Nat.or_zero]]
        exact ih
      · rw [e1, s7, nI_clamp (by omega), (v6 k hk).1, z_or, show orS (tE T) s k ||| tE T k = orS (tE T) s (k + 1) by rw [orS, if_pos (by simpa using hb)]]
        exact ih
  · obtain ⟨⟨s1, s2, s3, s4, s5, s6, s7, s8, s9⟩, v1, v2, v3, v4, v5, v6, v7, v8⟩ := hT
    refine r_X8_around_4 hC hR m_X11_has (by decide) _ _ _ ?_
    simp only [T_X8_around_4, x_psh, x_ild, x_lld, x_ald, x_ist, x_ast, x_lst, x_inc, x_iadd, x_isub, x_imul, x_iand, x_ior, x_ixor, x_ishl, x_ishr, x_iushr, x_idiv, x_irem, x_ladd, x_land, x_lor, x_lshl, x_lshr, x_ineg, x_i2l, x_l2i, x_i2b, x_lcmp, x_dup, x_dup2, x_if_eq, x_if_ne, x_if_lt, x_if_ge, x_if_gt, x_if_le, x_ic_eq, x_ic_ne, x_ic_lt, x_ic_ge, x_ic_gt, x_ic_le, x_getI, x_getR, x_putI, x_putZ, x_putR, x_iald, x_bald, x_lald, x_iast, x_bast, x_last, x_alen, x_acp, x_mmax, x_mmin, x_callV, x_callS, x_iret, x_zret, x_lret, x_aret, x_vret, x_tsw, x_stop, zst1, zst2, zkill, zkl, zsplit, zmask, zent, zentL, List.getElem?_cons_zero, List.getElem?_cons_succ, List.set_cons_zero, List.set_cons_succ, List.set_nil, List.length_cons, List.length_nil, List.replicate, List.nil_append, List.cons_append, List.map_cons, List.map_nil, List.sum_cons, List.sum_nil, Value.category, Option.toList, List.contains_cons, List.contains_nil, true_or, or_true, true_and, Nat.zero_le, Nat.reduceAdd, Nat.reduceLeDiff, Nat.reduceLT, Nat.reduceBEq, Bool.true_or, Bool.or_true, Bool.false_or, Bool.or_false, ↓reduceIte, Bool.false_eq_true, Nat.add_zero, Nat.zero_add, Nat.reduceEqDiff, Nat.reduceSub, w_X11_has]
    rw [v1]
    exact ⟨s1, fun q => hQ, fun q => absurd (nI_le (Nat.le_refl _) (by omega)) q⟩
