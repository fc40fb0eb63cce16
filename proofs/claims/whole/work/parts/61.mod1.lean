theorem lg_lt (x y : Int64) : (lg_cmp x y < 0) = (x < y) := by
  unfold lg_cmp
  have h : (1 : Int32) < 0 ↔ False := by decide
  have h2 : (-1 : Int32) < 0 ↔ True := by decide
  have h3 : (0 : Int32) < 0 ↔ False := by decide
  apply propext
  have e1 := @Int64.lt_iff_toInt_lt x y
  have e2 := @Int64.lt_iff_toInt_lt y x
  have e3 := @Int64.toInt_inj x y
  split
  next g =>
    rw [h]
    have : y.toInt < x.toInt := e2.mp g
    exact ⟨False.elim, fun q => by have := e1.mp q; omega⟩
  next g =>
    have g' : ¬ y.toInt < x.toInt := fun q => g (e2.mpr q)
    split
    next n =>
      rw [h3]
      have := e3.mpr n
      exact ⟨False.elim, fun q => by have := e1.mp q; omega⟩
    next n =>
      rw [h2]
      have : x.toInt ≠ y.toInt := fun q => n (e3.mp q)
      exact ⟨fun _ => e1.mpr (by omega), fun _ => trivial⟩
theorem lg_gt (x y : Int64) : (0 < lg_cmp x y) = (y < x) := by
  unfold lg_cmp
  have h : (0 : Int32) < 1 ↔ True := by decide
  have h2 : (0 : Int32) < -1 ↔ False := by decide
  have h3 : (0 : Int32) < 0 ↔ False := by decide
  apply propext
  have e2 := @Int64.lt_iff_toInt_lt y x
  have e3 := @Int64.toInt_inj x y
  split
  next g =>
    rw [h]
    exact ⟨fun _ => g, fun _ => trivial⟩
  next g =>
    split
    next n =>
      rw [h3]
      exact ⟨False.elim, fun q => absurd q g⟩
    next n =>
      rw [h2]
      exact ⟨False.elim, fun q => absurd q g⟩
def w_X12_in : WPt := fun args σ Q => match args with
  | [.long v, .long a, .long b] => Q (some (.int (b2i (a ≤ v ∧ v ≤ b)))) σ
  | _ => False
theorem m_X12_in : Meets yX12_in cX12_in 6 (some .boolean) 1 w_X12_in := by
  refine Meets.mk (by decide) fun args σ Φ h => ?_
  unfold w_X12_in at h
  split at h
  rotate_left
  · exact h.elim
  rename_i v a b
  refine ⟨Nat.le_of_ble_eq_true rfl, fun C hC hR => ?_⟩
  refine r_X12_in_0 hC hR _ _ _ ?_
  simp only [T_X12_in_0, x_psh, x_ild, x_lld, x_ald, x_ist, x_ast, x_lst, x_inc, x_iadd, x_isub, x_imul, x_iand, x_ior, x_ixor, x_ishl, x_ishr, x_iushr, x_idiv, x_irem, x_ladd, x_land, x_lor, x_lshl, x_lshr, x_ineg, x_i2l, x_l2i, x_i2b, x_lcmp, x_dup, x_dup2, x_if_eq, x_if_ne, x_if_lt, x_if_ge, x_if_gt, x_if_le, x_ic_eq, x_ic_ne, x_ic_lt, x_ic_ge, x_ic_gt, x_ic_le, x_getI, x_getR, x_putI, x_putZ, x_putR, x_iald, x_bald, x_lald, x_iast, x_bast, x_last, x_alen, x_acp, x_mmax, x_mmin, x_callV, x_callS, x_iret, x_zret, x_lret, x_aret, x_vret, x_tsw, x_stop, zst1, zst2, zkill, zkl, zsplit, zmask, zent, zentL, List.getElem?_cons_zero, List.getElem?_cons_succ, List.set_cons_zero, List.set_cons_succ, List.set_nil, List.length_cons, List.length_nil, List.replicate, List.nil_append, List.cons_append, List.map_cons, List.map_nil, List.sum_cons, List.sum_nil, Value.category, Option.toList, List.contains_cons, List.contains_nil, true_or, or_true, true_and, Nat.zero_le, Nat.reduceAdd, Nat.reduceLeDiff, Nat.reduceLT, Nat.reduceBEq, Bool.true_or, Bool.or_true, Bool.false_or, Bool.or_false, ↓reduceIte, Bool.false_eq_true, Nat.add_zero, Nat.zero_add, Nat.reduceEqDiff, Nat.reduceSub, lg_lt, lg_gt]
  refine ⟨fun q => ?_, fun q => ⟨fun q2 => ?_, fun q2 => ?_⟩⟩
  · rw [b2i_f (fun c => absurd q (Int64.not_lt.mpr c.1))] at h
    exact h
  · rw [b2i_f (fun c => absurd q2 (Int64.not_lt.mpr c.2))] at h
    exact h
  · rw [b2i_t ⟨Int64.not_lt.mp q, Int64.not_lt.mp q2⟩] at h
    exact h
theorem i64_le (a b : Int32) : a.toInt64 ≤ b.toInt64 ↔ a ≤ b := by
  rw [Int64.le_iff_toInt_le, Int32.le_iff_toInt_le, Int32.toInt_toInt64, Int32.toInt_toInt64]
/-- within bounds, as an index -/
theorem in_ix (x : Int32) {n : Nat} (h : n < 2 ^ 31) : ((0 : Int64) ≤ x.toInt64 ∧ x.toInt64 ≤ (nI n - 1).toInt64) = (0 ≤ x ∧ x < nI n) := by
  apply propext
  rw [show (0 : Int64) = (0 : Int32).toInt64 from rfl, i64_le, i64_le]
  rw [show nI n - 1 = iI ((n : Int) - 1) by rw [iI_n, show (1 : Int32) = iI 1 from rfl, iI_sub]]
  rw [Int32.le_iff_toInt_le (x := x), Int32.lt_iff_toInt_lt, iI_toInt (by omega) (by omega), nI_toInt h]
  constructor
  · rintro ⟨q, r⟩; exact ⟨q, by omega⟩
  · rintro ⟨q, r⟩; exact ⟨q, by omega⟩
theorem in_lit (x : Int32) {n : Nat} {c : Int64} (h : n < 2 ^ 31) (hc : c = (nI n - 1).toInt64) : ((0 : Int64) ≤ x.toInt64 ∧ x.toInt64 ≤ c) = (0 ≤ x ∧ x < nI n) := by
  rw [hc]
  exact in_ix x h
theorem in_7 (x : Int32) : ((0 : Int64) ≤ x.toInt64 ∧ x.toInt64 ≤ 7) = (0 ≤ x ∧ x < nI 8) := in_lit x (by decide) (by decide)
theorem in_8 (x : Int32) : ((0 : Int64) ≤ x.toInt64 ∧ x.toInt64 ≤ 8) = (0 ≤ x ∧ x < nI 9) := in_lit x (by decide) (by decide)
theorem in_23 (x : Int32) : ((0 : Int64) ≤ x.toInt64 ∧ x.toInt64 ≤ 23) = (0 ≤ x ∧ x < nI 24) := in_lit x (by decide) (by decide)
theorem in_1 (x : Int32) : ((0 : Int64) ≤ x.toInt64 ∧ x.toInt64 ≤ 1) = (0 ≤ x ∧ x < nI 2) := in_lit x (by decide) (by decide)
theorem in_12 (x : Int32) : ((0 : Int64) ≤ x.toInt64 ∧ x.toInt64 ≤ 12) = (0 ≤ x ∧ x < nI 13) := in_lit x (by decide) (by decide)
def w_X12_isDoor : WPt := fun args σ Q => match args with
  | [.ref x, .int d] => x = 56 ∧ zd σ 56 = some (0, 9) ∧ ∃ n, zI σ 56 10 = nI n ∧ n ≤ 12 ∧ Q (some (.int (b2i (0 ≤ d ∧ d < nI n)))) σ
  | _ => False
theorem m_X12_isDoor : Meets yX12_isDoor cX12_isDoor 2 (some .boolean) 2 w_X12_isDoor := by
  refine Meets.mk (by decide) fun args σ Φ h => ?_
  unfold w_X12_isDoor at h
  split at h
  rotate_left
  · exact h.elim
  rename_i x d
  obtain ⟨x, rfl⟩ : ∃ q : Nat, q = x := ⟨x, rfl⟩
  obtain ⟨hx, hz, n, hn, hn12, hQ⟩ := h
  subst hx
  refine ⟨Nat.le_of_ble_eq_true rfl, fun C hC hR => ?_⟩
  refine r_X12_isDoor_0 hC hR m_X12_in (by decide) _ _ _ ?_
  simp only [T_X12_isDoor_0, x_psh, x_ild, x_lld, x_ald, x_ist, x_ast, x_lst, x_inc, x_iadd, x_isub, x_imul, x_iand, x_ior, x_ixor, x_ishl, x_ishr, x_iushr, x_idiv, x_irem, x_ladd, x_land, x_lor, x_lshl, x_lshr, x_ineg, x_i2l, x_l2i, x_i2b, x_lcmp, x_dup, x_dup2, x_if_eq, x_if_ne, x_if_lt, x_if_ge, x_if_gt, x_if_le, x_ic_eq, x_ic_ne, x_ic_lt, x_ic_ge, x_ic_gt, x_ic_le, x_getI, x_getR, x_putI, x_putZ, x_putR, x_iald, x_bald, x_lald, x_iast, x_bast, x_last, x_alen, x_acp, x_mmax, x_mmin, x_callV, x_callS, x_iret, x_zret, x_lret, x_aret, x_vret, x_tsw, x_stop, zst1, zst2, zkill, zkl, zsplit, zmask, zent, zentL, List.getElem?_cons_zero, List.getElem?_cons_succ, List.set_cons_zero, List.set_cons_succ, List.set_nil, List.length_cons, List.length_nil, List.replicate, List.nil_append, List.cons_append, List.map_cons, List.map_nil, List.sum_cons, List.sum_nil, Value.category, Option.toList, List.contains_cons, List.contains_nil, true_or, or_true, true_and, Nat.zero_le, Nat.reduceAdd, Nat.reduceLeDiff, Nat.reduceLT, Nat.reduceBEq, Bool.true_or, Bool.or_true, Bool.false_or, Bool.or_false, ↓reduceIte, Bool.false_eq_true, Nat.add_zero, Nat.zero_add, Nat.reduceEqDiff, Nat.reduceSub, hn, w_X12_in, hz]
  simp only [in_ix d (show n < 2 ^ 31 by omega), b2i_01, true_and]
  exact hQ
def w_X12_isSong : WPt := fun args σ Q => match args with
  | [.ref x, .int d] => x = 56 ∧ zd σ 56 = some (0, 9) ∧ ∃ n, zI σ 56 11 = nI n ∧ n ≤ 12 ∧ Q (some (.int (b2i (0 ≤ d ∧ d < nI n)))) σ
  | _ => False
theorem m_X12_isSong : Meets yX12_isSong cX12_isSong 2 (some .boolean) 2 w_X12_isSong := by
  refine Meets.mk (by decide) fun args σ Φ h => ?_
  unfold w_X12_isSong at h
  split at h
  rotate_left
  · exact h.elim
  rename_i x d
  obtain ⟨x, rfl⟩ : ∃ q : Nat, q = x := ⟨x, rfl⟩
  obtain ⟨hx, hz, n, hn, hn12, hQ⟩ := h
  subst hx
  refine ⟨Nat.le_of_ble_eq_true rfl, fun C hC hR => ?_⟩
  refine r_X12_isSong_0 hC hR m_X12_in (by decide) _ _ _ ?_
  simp only [T_X12_isSong_0, x_psh, x_ild, x_lld, x_ald, x_ist, x_ast, x_lst, x_inc, x_iadd, x_isub, x_imul, x_iand, x_ior, x_ixor, x_ishl, x_ishr, x_iushr, x_idiv, x_irem, x_ladd, x_land, x_lor, x_lshl, x_lshr, x_ineg, x_i2l, x_l2i, x_i2b, x_lcmp, x_dup, x_dup2, x_if_eq, x_if_ne, x_if_lt, x_if_ge, x_if_gt, x_if_le, x_ic_eq, x_ic_ne, x_ic_lt, x_ic_ge, x_ic_gt, x_ic_le, x_getI, x_getR, x_putI, x_putZ, x_putR, x_iald, x_bald, x_lald, x_iast, x_bast, x_last, x_alen, x_acp, x_mmax, x_mmin, x_callV, x_callS, x_iret, x_zret, x_lret, x_aret, x_vret, x_tsw, x_stop, zst1, zst2, zkill, zkl, zsplit, zmask, zent, zentL, List.getElem?_cons_zero, List.getElem?_cons_succ, List.set_cons_zero, List.set_cons_succ, List.set_nil, List.length_cons, List.length_nil, List.replicate, List.nil_append, List.cons_append, List.map_cons, List.map_nil, List.sum_cons, List.sum_nil, Value.category, Option.toList, List.contains_cons, List.contains_nil, true_or, or_true, true_and, Nat.zero_le, Nat.reduceAdd, Nat.reduceLeDiff, Nat.reduceLT, Nat.reduceBEq, Bool.true_or, Bool.or_true, Bool.false_or, Bool.or_false, ↓reduceIte, Bool.false_eq_true, Nat.add_zero, Nat.zero_add, Nat.reduceEqDiff, Nat.reduceSub, hn, w_X12_in, hz]
  simp only [in_ix d (show n < 2 ^ 31 by omega), b2i_01, true_and]
  exact hQ
def w_X12_isAny : WPt := fun args σ Q => match args with
  | [.ref x, .int d] => x = 56 ∧ zd σ 56 = some (0, 9) ∧ ∃ n, zI σ 56 10 = nI n ∧ n ≤ 12 ∧ Q (some (.int (b2i ((dmS d n).isSome = true)))) σ
  | _ => False
theorem m_X12_isAny : Meets yX12_isAny cX12_isAny 2 (some .boolean) 3 w_X12_isAny := by
  refine Meets.mk (by decide) fun args σ Φ h => ?_
  unfold w_X12_isAny at h
  split at h
  rotate_left
  · exact h.elim
  rename_i x d
  obtain ⟨x, rfl⟩ : ∃ q : Nat, q = x := ⟨x, rfl⟩
  obtain ⟨hx, hz, n, hn, hn12, hQ⟩ := h
  subst hx
  refine ⟨Nat.le_of_ble_eq_true rfl, fun C hC hR => ?_⟩
  refine r_X12_isAny_0 hC hR m_X12_isDoor (by decide) _ _ _ ?_
  simp only [T_X12_isAny_0, x_psh, x_ild, x_lld, x_ald, x_ist, x_ast, x_lst, x_inc, x_iadd, x_isub, x_imul, x_iand, x_ior, x_ixor, x_ishl, x_ishr, x_iushr, x_idiv, x_irem, x_ladd, x_land, x_lor, x_lshl, x_lshr, x_ineg, x_i2l, x_l2i, x_i2b, x_lcmp, x_dup, x_dup2, x_if_eq, x_if_ne, x_if_lt, x_if_ge, x_if_gt, x_if_le, x_ic_eq, x_ic_ne, x_ic_lt, x_ic_ge, x_ic_gt, x_ic_le, x_getI, x_getR, x_putI, x_putZ, x_putR, x_iald, x_bald, x_lald, x_iast, x_bast, x_last, x_alen, x_acp, x_mmax, x_mmin, x_callV, x_callS, x_iret, x_zret, x_lret, x_aret, x_vret, x_tsw, x_stop, zst1, zst2, zkill, zkl, zsplit, zmask, zent, zentL, List.getElem?_cons_zero, List.getElem?_cons_succ, List.set_cons_zero, List.set_cons_succ, List.set_nil, List.length_cons, List.length_nil, List.replicate, List.nil_append, List.cons_append, List.map_cons, List.map_nil, List.sum_cons, List.sum_nil, Value.category, Option.toList, List.contains_cons, List.contains_nil, true_or, or_true, true_and, Nat.zero_le, Nat.reduceAdd, Nat.reduceLeDiff, Nat.reduceLT, Nat.reduceBEq, Bool.true_or, Bool.or_true, Bool.false_or, Bool.or_false, ↓reduceIte, Bool.false_eq_true, Nat.add_zero, Nat.zero_add, Nat.reduceEqDiff, Nat.reduceSub, w_X12_isDoor, hz]
  simp only [b2i_0, ne_eq, Nat.reduceEqDiff, not_false_eq_true, not_true_eq_false, true_and, and_true, true_implies, false_implies, implies_true, and_self, or_true, true_or]
  unfold dmS at hQ
  refine ⟨fun q => ?_, fun q => ⟨n, hn, hn12, ?_⟩⟩
  · rw [if_pos q, b2i_t (by rfl)] at hQ
    exact hQ
  · rw [if_neg q] at hQ
    rcases ix_cs d (show n < 2 ^ 31 by omega) with ⟨k, hk, rfl, h1, h2⟩ | ⟨h1, h2⟩
    · rw [h1, b2i_t (by rfl)] at hQ
      simp only [h2, b2i_0, ne_eq, Nat.reduceEqDiff, not_false_eq_true, not_true_eq_false, true_and, and_true, true_implies, false_implies, implies_true, and_self]
      exact hQ
    · rw [h1, b2i_f (by simp)] at hQ
      simp only [h2, b2i_0, ne_eq, Nat.reduceEqDiff, not_false_eq_true, not_true_eq_false, true_and, and_true, true_implies, false_implies, implies_true, and_self]
      exact hQ
