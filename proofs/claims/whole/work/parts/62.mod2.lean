/-- rows of the memory behind one change -/
theorem zI_at (σ : ZS) (i j : Nat) (v : Int32) (k : Nat) : zI (sI σ i j v) i k = if k = j then v else zI σ i k := by
  rw [zI_sI, if_pos rfl]
  by_cases h : k = j
  · subst h; rw [if_pos rfl, pk_us]
  · rw [if_neg h, pk_un h]
theorem zI_off (σ : ZS) {i : Nat} (j : Nat) (v : Int32) {a : Nat} (h : a ≠ i) : zI (sI σ i j v) a = zI σ a := by rw [zI_sI, if_neg h]
theorem zf_one {σ : ZS} {i j lo hi : Nat} {v : Int32} (h1 : lo ≤ i) (h2 : i < hi) : ZF σ (sI σ i j v) lo hi := Fr.z (fr_one h1 h2) (Nat.le_refl _) (Nat.le_refl _)
theorem MTV.of {σ σ' : ZS} {T : TD} (h : MTV σ T) (e1 : zI σ' 56 10 = zI σ 56 10) (e2 : zI σ' 56 11 = zI σ 56 11) (e3 : ∀ i, 61 ≤ i → i ≤ 64 → zI σ' i = zI σ i) : MTV σ' T := by
  unfold MTV at *
  rw [e1, e2, e3 61 (by decide) (by decide), e3 62 (by decide) (by decide), e3 63 (by decide) (by decide), e3 64 (by decide) (by decide)]
  exact h
theorem MKV.of {σ σ' : ZS} {s : Nat} {o : Option SD} (h : MKV σ s o) (e : ∀ i, 74 ≤ i → i ≤ 81 → zI σ' i = zI σ i) : MKV σ' s o := by
  unfold MKV at *
  rw [e 74 (by decide) (by decide), e 75 (by decide) (by decide), e 76 (by decide) (by decide), e 77 (by decide) (by decide), e 78 (by decide) (by decide), e 79 (by decide) (by decide), e 80 (by decide) (by decide), e 81 (by decide) (by decide)]
  exact h
theorem RowV.of {n : Nat} {f : Nat → Nat} {v v' : Int32} {a a' : Nat → Int32} (h : RowV n f v a) (e1 : v' = v) (e2 : a' = a) : RowV n f v' a' := by rw [e1, e2]; exact h
theorem RowV.add {n x : Nat} {f : Nat → Nat} {v v' : Int32} {a a' : Nat → Int32} (h : RowV n f v a) (e1 : v' = nI (n + 1)) (e2 : ∀ k, a' k = if k = n then nI x else a k) : RowV (n + 1) (va_up f n x) v' a' := by
  refine ⟨e1, fun k hk => ?_⟩
  rw [e2]
  unfold va_up
  by_cases q : k = n
  · rw [if_pos q, if_pos q]
  · rw [if_neg q, if_neg q]
    exact h.2 k (by omega)
def w_X12_wipe : WPt := fun args σ Q => match args with
  | [.ref x] => x = 56 ∧ PubM σ q_wipe Q
  | _ => False
theorem m_X12_wipe : Meets yX12_wipe cX12_wipe 2 (some .int) 1 w_X12_wipe := by
  refine Meets.mk (by decide) fun args σ Φ h => ?_
  unfold w_X12_wipe at h
  split at h
  rotate_left
  · exact h.elim
  rename_i x
  obtain ⟨x, rfl⟩ : ∃ q : Nat, q = x := ⟨x, rfl⟩
  obtain ⟨hx, A, hK, hA, hQ⟩ := h
  subst hx
  refine ⟨Nat.le_of_ble_eq_true rfl, fun C hC hR => ?_⟩
  have hf := mod_f hK
  have hN := hA.1
  have hD1 := hA.t.1
  have hD := hA.t.2.1
  have hS := hA.t.2.2.1
  have hW := hA.2.2.1.2.1
  have hE := hA.2.2.1.2.2.1
  have hp := z_pow31 hD
  have hV := hK.2
  refine r_X12_wipe_0 hC hR _ _ _ ?_
  simp only [T_X12_wipe_0, x_psh, x_ild, x_lld, x_ald, x_ist, x_ast, x_lst, x_inc, x_iadd, x_isub, x_imul, x_iand, x_ior, x_ixor, x_ishl, x_ishr, x_iushr, x_idiv, x_irem, x_ladd, x_land, x_lor, x_lshl, x_lshr, x_ineg, x_i2l, x_l2i, x_i2b, x_lcmp, x_dup, x_dup2, x_if_eq, x_if_ne, x_if_lt, x_if_ge, x_if_gt, x_if_le, x_ic_eq, x_ic_ne, x_ic_lt, x_ic_ge, x_ic_gt, x_ic_le, x_getI, x_getR, x_putI, x_putZ, x_putR, x_iald, x_bald, x_lald, x_iast, x_bast, x_last, x_alen, x_acp, x_mmax, x_mmin, x_callV, x_callS, x_iret, x_zret, x_lret, x_aret, x_vret, x_tsw, x_stop, zst1, zst2, zkill, zkl, zsplit, zmask, zent, zentL, List.getElem?_cons_zero, List.getElem?_cons_succ, List.set_cons_zero, List.set_cons_succ, List.set_nil, List.length_cons, List.length_nil, List.replicate, List.nil_append, List.cons_append, List.map_cons, List.map_nil, List.sum_cons, List.sum_nil, Value.category, Option.toList, List.contains_cons, List.contains_nil, true_or, or_true, true_and, Nat.zero_le, Nat.reduceAdd, Nat.reduceLeDiff, Nat.reduceLT, Nat.reduceBEq, Bool.true_or, Bool.or_true, Bool.false_or, Bool.or_false, ↓reduceIte, Bool.false_eq_true, Nat.add_zero, Nat.zero_add, Nat.reduceEqDiff, Nat.reduceSub, hf]
  refine hQ _ (zf_one (by decide) (by decide)) ⟨hK.1.of rfl rfl, hV.1.of ?_ ?_ ?_, ⟨?_, fun k hk => absurd hk (by show ¬ k < 0; omega)⟩, hV.2.2.1.of ?_ ?_, hV.2.2.2.1.of ?_ ?_, hV.2.2.2.2.1.of ?_, hV.2.2.2.2.2.of ?_⟩
  all_goals first
    | (intro i h1 h2; (repeat rw [zI_off _ _ _ (by omega)]); done)
    | ((repeat rw [zI_off _ _ _ (by decide)]); done)
    | (rw [zI_at, if_neg (by decide)]; (repeat rw [zI_off _ _ _ (by decide)]); done)
    | (rw [zI_at, if_neg (by decide)]; done)
    | (rw [zI_at, if_pos rfl]; done)
    | (rw [zI_at, if_pos rfl]; rfl)
    | (intro k; rw [zI_off _ _ _ (by decide), zI_at]; done)
    | (intro k; rw [zI_at]; done)
    | (rw [zI_off _ _ _ (by decide), zI_at, if_neg (by decide)]; done)
def w_X12_home : WPt := fun args σ Q => match args with
  | [.ref x] => x = 56 ∧ PubM σ q_home Q
  | _ => False
theorem m_X12_home : Meets yX12_home cX12_home 2 (some .int) 1 w_X12_home := by
  refine Meets.mk (by decide) fun args σ Φ h => ?_
  unfold w_X12_home at h
  split at h
  rotate_left
  · exact h.elim
  rename_i x
  obtain ⟨x, rfl⟩ : ∃ q : Nat, q = x := ⟨x, rfl⟩
  obtain ⟨hx, A, hK, hA, hQ⟩ := h
  subst hx
  refine ⟨Nat.le_of_ble_eq_true rfl, fun C hC hR => ?_⟩
  have hf := mod_f hK
  have hN := hA.1
  have hD1 := hA.t.1
  have hD := hA.t.2.1
  have hS := hA.t.2.2.1
  have hW := hA.2.2.1.2.1
  have hE := hA.2.2.1.2.2.1
  have hp := z_pow31 hD
  have hV := hK.2
  refine r_X12_home_0 hC hR _ _ _ ?_
  simp only [T_X12_home_0, x_psh, x_ild, x_lld, x_ald, x_ist, x_ast, x_lst, x_inc, x_iadd, x_isub, x_imul, x_iand, x_ior, x_ixor, x_ishl, x_ishr, x_iushr, x_idiv, x_irem, x_ladd, x_land, x_lor, x_lshl, x_lshr, x_ineg, x_i2l, x_l2i, x_i2b, x_lcmp, x_dup, x_dup2, x_if_eq, x_if_ne, x_if_lt, x_if_ge, x_if_gt, x_if_le, x_ic_eq, x_ic_ne, x_ic_lt, x_ic_ge, x_ic_gt, x_ic_le, x_getI, x_getR, x_putI, x_putZ, x_putR, x_iald, x_bald, x_lald, x_iast, x_bast, x_last, x_alen, x_acp, x_mmax, x_mmin, x_callV, x_callS, x_iret, x_zret, x_lret, x_aret, x_vret, x_tsw, x_stop, zst1, zst2, zkill, zkl, zsplit, zmask, zent, zentL, List.getElem?_cons_zero, List.getElem?_cons_succ, List.set_cons_zero, List.set_cons_succ, List.set_nil, List.length_cons, List.length_nil, List.replicate, List.nil_append, List.cons_append, List.map_cons, List.map_nil, List.sum_cons, List.sum_nil, Value.category, Option.toList, List.contains_cons, List.contains_nil, true_or, or_true, true_and, Nat.zero_le, Nat.reduceAdd, Nat.reduceLeDiff, Nat.reduceLT, Nat.reduceBEq, Bool.true_or, Bool.or_true, Bool.false_or, Bool.or_false, ↓reduceIte, Bool.false_eq_true, Nat.add_zero, Nat.zero_add, Nat.reduceEqDiff, Nat.reduceSub, hf]
  refine hQ _ (zf_one (by decide) (by decide)) ⟨hK.1.of rfl rfl, hV.1.of ?_ ?_ ?_, hV.2.1.of ?_ ?_, ⟨?_, fun k hk => absurd hk (by show ¬ k < 0; omega)⟩, hV.2.2.2.1.of ?_ ?_, hV.2.2.2.2.1.of ?_, hV.2.2.2.2.2.of ?_⟩
  all_goals first
    | (intro i h1 h2; (repeat rw [zI_off _ _ _ (by omega)]); done)
    | ((repeat rw [zI_off _ _ _ (by decide)]); done)
    | (rw [zI_at, if_neg (by decide)]; (repeat rw [zI_off _ _ _ (by decide)]); done)
    | (rw [zI_at, if_neg (by decide)]; done)
    | (rw [zI_at, if_pos rfl]; done)
    | (rw [zI_at, if_pos rfl]; rfl)
    | (intro k; rw [zI_off _ _ _ (by decide), zI_at]; done)
    | (intro k; rw [zI_at]; done)
    | (rw [zI_off _ _ _ (by decide), zI_at, if_neg (by decide)]; done)
def w_X12_deaf : WPt := fun args σ Q => match args with
  | [.ref x] => x = 56 ∧ PubM σ q_deaf Q
  | _ => False
theorem m_X12_deaf : Meets yX12_deaf cX12_deaf 2 (some .int) 1 w_X12_deaf := by
  refine Meets.mk (by decide) fun args σ Φ h => ?_
  unfold w_X12_deaf at h
  split at h
  rotate_left
  · exact h.elim
  rename_i x
  obtain ⟨x, rfl⟩ : ∃ q : Nat, q = x := ⟨x, rfl⟩
  obtain ⟨hx, A, hK, hA, hQ⟩ := h
  subst hx
  refine ⟨Nat.le_of_ble_eq_true rfl, fun C hC hR => ?_⟩
  have hf := mod_f hK
  have hN := hA.1
  have hD1 := hA.t.1
  have hD := hA.t.2.1
  have hS := hA.t.2.2.1
  have hW := hA.2.2.1.2.1
  have hE := hA.2.2.1.2.2.1
  have hp := z_pow31 hD
  have hV := hK.2
  refine r_X12_deaf_0 hC hR _ _ _ ?_
  simp only [T_X12_deaf_0, x_psh, x_ild, x_lld, x_ald, x_ist, x_ast, x_lst, x_inc, x_iadd, x_isub, x_imul, x_iand, x_ior, x_ixor, x_ishl, x_ishr, x_iushr, x_idiv, x_irem, x_ladd, x_land, x_lor, x_lshl, x_lshr, x_ineg, x_i2l, x_l2i, x_i2b, x_lcmp, x_dup, x_dup2, x_if_eq, x_if_ne, x_if_lt, x_if_ge, x_if_gt, x_if_le, x_ic_eq, x_ic_ne, x_ic_lt, x_ic_ge, x_ic_gt, x_ic_le, x_getI, x_getR, x_putI, x_putZ, x_putR, x_iald, x_bald, x_lald, x_iast, x_bast, x_last, x_alen, x_acp, x_mmax, x_mmin, x_callV, x_callS, x_iret, x_zret, x_lret, x_aret, x_vret, x_tsw, x_stop, zst1, zst2, zkill, zkl, zsplit, zmask, zent, zentL, List.getElem?_cons_zero, List.getElem?_cons_succ, List.set_cons_zero, List.set_cons_succ, List.set_nil, List.length_cons, List.length_nil, List.replicate, List.nil_append, List.cons_append, List.map_cons, List.map_nil, List.sum_cons, List.sum_nil, Value.category, Option.toList, List.contains_cons, List.contains_nil, true_or, or_true, true_and, Nat.zero_le, Nat.reduceAdd, Nat.reduceLeDiff, Nat.reduceLT, Nat.reduceBEq, Bool.true_or, Bool.or_true, Bool.false_or, Bool.or_false, ↓reduceIte, Bool.false_eq_true, Nat.add_zero, Nat.zero_add, Nat.reduceEqDiff, Nat.reduceSub, hf]
  refine hQ _ (zf_one (by decide) (by decide)) ⟨hK.1.of rfl rfl, hV.1.of ?_ ?_ ?_, hV.2.1.of ?_ ?_, hV.2.2.1.of ?_ ?_, ⟨?_, fun k hk => absurd hk (by show ¬ k < 0; omega)⟩, hV.2.2.2.2.1.of ?_, hV.2.2.2.2.2.of ?_⟩
  all_goals first
    | (intro i h1 h2; (repeat rw [zI_off _ _ _ (by omega)]); done)
    | ((repeat rw [zI_off _ _ _ (by decide)]); done)
    | (rw [zI_at, if_neg (by decide)]; (repeat rw [zI_off _ _ _ (by decide)]); done)
    | (rw [zI_at, if_neg (by decide)]; done)
    | (rw [zI_at, if_pos rfl]; done)
    | (rw [zI_at, if_pos rfl]; rfl)
    | (intro k; rw [zI_off _ _ _ (by decide), zI_at]; done)
    | (intro k; rw [zI_at]; done)
    | (rw [zI_off _ _ _ (by decide), zI_at, if_neg (by decide)]; done)
def w_X12_note : WPt := fun args σ Q => match args with
  | [.ref x, .int d] => x = 56 ∧ PubM σ (q_note · d) Q
  | _ => False
theorem m_X12_note : Meets yX12_note cX12_note 2 (some .int) 3 w_X12_note := by
  refine Meets.mk (by decide) fun args σ Φ h => ?_
  unfold w_X12_note at h
  split at h
  rotate_left
  · exact h.elim
  rename_i x d
  obtain ⟨x, rfl⟩ : ∃ q : Nat, q = x := ⟨x, rfl⟩
  obtain ⟨hx, A, hK, hA, hQ⟩ := h
  subst hx
  refine ⟨Nat.le_of_ble_eq_true rfl, fun C hC hR => ?_⟩
  have hf := mod_f hK
  have hN := hA.1
  have hD1 := hA.t.1
  have hD := hA.t.2.1
  have hS := hA.t.2.2.1
  have hW := hA.2.2.1.2.1
  have hE := hA.2.2.1.2.2.1
  have hp := z_pow31 hD
  have hV := hK.2
  refine r_X12_note_0 hC hR m_X12_isDoor (by decide) _ _ _ ?_
  simp only [T_X12_note_0, x_psh, x_ild, x_lld, x_ald, x_ist, x_ast, x_lst, x_inc, x_iadd, x_isub, x_imul, x_iand, x_ior, x_ixor, x_ishl, x_ishr, x_iushr, x_idiv, x_irem, x_ladd, x_land, x_lor, x_lshl, x_lshr, x_ineg, x_i2l, x_l2i, x_i2b, x_lcmp, x_dup, x_dup2, x_if_eq, x_if_ne, x_if_lt, x_if_ge, x_if_gt, x_if_le, x_ic_eq, x_ic_ne, x_ic_lt, x_ic_ge, x_ic_gt, x_ic_le, x_getI, x_getR, x_putI, x_putZ, x_putR, x_iald, x_bald, x_lald, x_iast, x_bast, x_last, x_alen, x_acp, x_mmax, x_mmin, x_callV, x_callS, x_iret, x_zret, x_lret, x_aret, x_vret, x_tsw, x_stop, zst1, zst2, zkill, zkl, zsplit, zmask, zent, zentL, List.getElem?_cons_zero, List.getElem?_cons_succ, List.set_cons_zero, List.set_cons_succ, List.set_nil, List.length_cons, List.length_nil, List.replicate, List.nil_append, List.cons_append, List.map_cons, List.map_nil, List.sum_cons, List.sum_nil, Value.category, Option.toList, List.contains_cons, List.contains_nil, true_or, or_true, true_and, Nat.zero_le, Nat.reduceAdd, Nat.reduceLeDiff, Nat.reduceLT, Nat.reduceBEq, Bool.true_or, Bool.or_true, Bool.false_or, Bool.or_false, ↓reduceIte, Bool.false_eq_true, Nat.add_zero, Nat.zero_add, Nat.reduceEqDiff, Nat.reduceSub, hf, w_X12_isDoor]
  unfold q_note at hQ
  refine ⟨tD (aT A), rfl, hD, ?_⟩
  rcases ix_cs d (show tD (aT A) < 2 ^ 31 by omega) with ⟨k, hk, rfl, h1, h2⟩ | ⟨h1, h2⟩
  · simp only [h1] at hQ
    simp only [h2, b2i_0, ne_eq, Nat.reduceEqDiff, not_false_eq_true, not_true_eq_false, true_and, and_true, true_implies, false_implies, implies_true, and_self]
    refine ⟨12, rfl, vp_in_nI (by omega) (by omega), ?_⟩
    rw [nI_clamp (by omega), hV.1.2.2.1 k hk]
    exact hQ σ (ZF.refl _ _ _) hK
  · simp only [h1] at hQ
    simp only [h2, b2i_0, ne_eq, Nat.reduceEqDiff, not_false_eq_true, not_true_eq_false, true_and, and_true, true_implies, false_implies, implies_true, and_self]
    exact hQ σ (ZF.refl _ _ _) hK
def w_X12_at : WPt := fun args σ Q => match args with
  | [.ref x, .int d] => x = 56 ∧ PubM σ (q_at · d) Q
  | _ => False
theorem m_X12_at : Meets yX12_at cX12_at 2 (some .int) 2 w_X12_at := by
  refine Meets.mk (by decide) fun args σ Φ h => ?_
  unfold w_X12_at at h
  split at h
  rotate_left
  · exact h.elim
  rename_i x d
  obtain ⟨x, rfl⟩ : ∃ q : Nat, q = x := ⟨x, rfl⟩
  obtain ⟨hx, A, hK, hA, hQ⟩ := h
  subst hx
  refine ⟨Nat.le_of_ble_eq_true rfl, fun C hC hR => ?_⟩
  have hf := mod_f hK
  have hN := hA.1
  have hD1 := hA.t.1
  have hD := hA.t.2.1
  have hS := hA.t.2.2.1
  have hW := hA.2.2.1.2.1
  have hE := hA.2.2.1.2.2.1
  have hp := z_pow31 hD
  have hV := hK.2
  refine r_X12_at_0 hC hR m_X12_in (by decide) _ _ _ ?_
  simp only [T_X12_at_0, x_psh, x_ild, x_lld, x_ald, x_ist, x_ast, x_lst, x_inc, x_iadd, x_isub, x_imul, x_iand, x_ior, x_ixor, x_ishl, x_ishr, x_iushr, x_idiv, x_irem, x_ladd, x_land, x_lor, x_lshl, x_lshr, x_ineg, x_i2l, x_l2i, x_i2b, x_lcmp, x_dup, x_dup2, x_if_eq, x_if_ne, x_if_lt, x_if_ge, x_if_gt, x_if_le, x_ic_eq, x_ic_ne, x_ic_lt, x_ic_ge, x_ic_gt, x_ic_le, x_getI, x_getR, x_putI, x_putZ, x_putR, x_iald, x_bald, x_lald, x_iast, x_bast, x_last, x_alen, x_acp, x_mmax, x_mmin, x_callV, x_callS, x_iret, x_zret, x_lret, x_aret, x_vret, x_tsw, x_stop, zst1, zst2, zkill, zkl, zsplit, zmask, zent, zentL, List.getElem?_cons_zero, List.getElem?_cons_succ, List.set_cons_zero, List.set_cons_succ, List.set_nil, List.length_cons, List.length_nil, List.replicate, List.nil_append, List.cons_append, List.map_cons, List.map_nil, List.sum_cons, List.sum_nil, Value.category, Option.toList, List.contains_cons, List.contains_nil, true_or, or_true, true_and, Nat.zero_le, Nat.reduceAdd, Nat.reduceLeDiff, Nat.reduceLT, Nat.reduceBEq, Bool.true_or, Bool.or_true, Bool.false_or, Bool.or_false, ↓reduceIte, Bool.false_eq_true, Nat.add_zero, Nat.zero_add, Nat.reduceEqDiff, Nat.reduceSub, hf, w_X12_in]
  unfold q_at at hQ
  simp only [in_ix d (show xW (aX A) < 2 ^ 31 by omega), b2i_0, ne_eq, Nat.reduceEqDiff, not_false_eq_true, not_true_eq_false, true_and, and_true, true_implies, false_implies, implies_true, and_self]
  rcases ix_cs d (show xW (aX A) < 2 ^ 31 by omega) with ⟨k, hk, rfl, h1, h2⟩ | ⟨h1, h2⟩
  · simp only [h1] at hQ
    simp only [h2, b2i_0, ne_eq, Nat.reduceEqDiff, not_false_eq_true, not_true_eq_false, true_and, and_true, true_implies, false_implies, implies_true, and_self]
    refine ⟨24, rfl, vp_in_nI (by omega) (by omega), ?_⟩
    rw [nI_clamp (by omega), hV.2.2.1.2 k hk]
    exact hQ σ (ZF.refl _ _ _) hK
  · simp only [h1] at hQ
    simp only [h2, b2i_0, ne_eq, Nat.reduceEqDiff, not_false_eq_true, not_true_eq_false, true_and, and_true, true_implies, false_implies, implies_true, and_self]
    exact hQ σ (ZF.refl _ _ _) hK
def w_X12_hear : WPt := fun args σ Q => match args with
  | [.ref x, .int d] => x = 56 ∧ PubM σ (q_hear · d) Q
  | _ => False
theorem m_X12_hear : Meets yX12_hear cX12_hear 2 (some .int) 2 w_X12_hear := by
  refine Meets.mk (by decide) fun args σ Φ h => ?_
  unfold w_X12_hear at h
  split at h
  rotate_left
  · exact h.elim
  rename_i x d
  obtain ⟨x, rfl⟩ : ∃ q : Nat, q = x := ⟨x, rfl⟩
  obtain ⟨hx, A, hK, hA, hQ⟩ := h
  subst hx
  refine ⟨Nat.le_of_ble_eq_true rfl, fun C hC hR => ?_⟩
  have hf := mod_f hK
  have hN := hA.1
  have hD1 := hA.t.1
  have hD := hA.t.2.1
  have hS := hA.t.2.2.1
  have hW := hA.2.2.1.2.1
  have hE := hA.2.2.1.2.2.1
  have hp := z_pow31 hD
  have hV := hK.2
  refine r_X12_hear_0 hC hR m_X12_in (by decide) _ _ _ ?_
  simp only [T_X12_hear_0, x_psh, x_ild, x_lld, x_ald, x_ist, x_ast, x_lst, x_inc, x_iadd, x_isub, x_imul, x_iand, x_ior, x_ixor, x_ishl, x_ishr, x_iushr, x_idiv, x_irem, x_ladd, x_land, x_lor, x_lshl, x_lshr, x_ineg, x_i2l, x_l2i, x_i2b, x_lcmp, x_dup, x_dup2, x_if_eq, x_if_ne, x_if_lt, x_if_ge, x_if_gt, x_if_le, x_ic_eq, x_ic_ne, x_ic_lt, x_ic_ge, x_ic_gt, x_ic_le, x_getI, x_getR, x_putI, x_putZ, x_putR, x_iald, x_bald, x_lald, x_iast, x_bast, x_last, x_alen, x_acp, x_mmax, x_mmin, x_callV, x_callS, x_iret, x_zret, x_lret, x_aret, x_vret, x_tsw, x_stop, zst1, zst2, zkill, zkl, zsplit, zmask, zent, zentL, List.getElem?_cons_zero, List.getElem?_cons_succ, List.set_cons_zero, List.set_cons_succ, List.set_nil, List.length_cons, List.length_nil, List.replicate, List.nil_append, List.cons_append, List.map_cons, List.map_nil, List.sum_cons, List.sum_nil, Value.category, Option.toList, List.contains_cons, List.contains_nil, true_or, or_true, true_and, Nat.zero_le, Nat.reduceAdd, Nat.reduceLeDiff, Nat.reduceLT, Nat.reduceBEq, Bool.true_or, Bool.or_true, Bool.false_or, Bool.or_false, ↓reduceIte, Bool.false_eq_true, Nat.add_zero, Nat.zero_add, Nat.reduceEqDiff, Nat.reduceSub, hf, w_X12_in, zd_sI, zR_sI]
  unfold q_hear at hQ
  simp only [in_8, b2i_0, ne_eq, Nat.reduceEqDiff, not_false_eq_true, not_true_eq_false, true_and, and_true, true_implies, false_implies, implies_true, and_self]
  rcases ix_cs d (show 9 < 2 ^ 31 by omega) with ⟨k, hk, rfl, h1, h2⟩ | ⟨h1, h2⟩
  · simp only [h1] at hQ
    simp only [h2, b2i_0, ne_eq, Nat.reduceEqDiff, not_false_eq_true, not_true_eq_false, true_and, and_true, true_implies, false_implies, implies_true, and_self]
    rw [z_l12, nI_eq (by omega) (by omega)]
    refine ⟨fun q => ?_, fun q => ?_⟩
    · rw [if_neg q] at hQ
      refine ⟨12, rfl, vp_in_nI (by omega) (by omega), ?_⟩
      simp only [hf, zd_sI, nI_clamp (show xE (aX A) < 2 ^ 31 by omega), zI_off σ (i := 72) (xE (aX A)) (nI k) (show (56 : Nat) ≠ 72 by decide), zI_at, ↓reduceIte, b2i_0, ne_eq, Nat.reduceEqDiff, not_false_eq_true, not_true_eq_false, true_and, and_true, true_implies, false_implies, implies_true, and_self]
      rw [nI_i3]
      refine hQ _ (ZF.trans (zf_one (by decide) (by decide)) (zf_one (by decide) (by decide))) ⟨hK.1.of rfl rfl, hV.1.of ?_ ?_ ?_, hV.2.1.of ?_ ?_, hV.2.2.1.of ?_ ?_, hV.2.2.2.1.add ?_ ?_, hV.2.2.2.2.1.of ?_, hV.2.2.2.2.2.of ?_⟩
      all_goals first
        | (intro i h1 h2; (repeat rw [zI_off _ _ _ (by omega)]); done)
        | ((repeat rw [zI_off _ _ _ (by decide)]); done)
        | (rw [zI_at, if_neg (by decide)]; (repeat rw [zI_off _ _ _ (by decide)]); done)
        | (rw [zI_at, if_neg (by decide)]; done)
        | (rw [zI_at, if_pos rfl]; done)
        | (rw [zI_at, if_pos rfl]; rfl)
        | (intro k; rw [zI_off _ _ _ (by decide), zI_at]; done)
        | (intro k; rw [zI_at]; done)
        | (rw [zI_off _ _ _ (by decide), zI_at, if_neg (by decide)]; done)
    · rw [if_pos q] at hQ
      exact hQ σ (ZF.refl _ _ _) hK
  · simp only [h1] at hQ
    simp only [h2, b2i_0, ne_eq, Nat.reduceEqDiff, not_false_eq_true, not_true_eq_false, true_and, and_true, true_implies, false_implies, implies_true, and_self]
    exact hQ σ (ZF.refl _ _ _) hK
