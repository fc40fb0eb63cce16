/-! a song begun -/
def bgP (T : TD) (k y d : Nat) : Nat → Bool := fun j => decide (1 ≤ j) && (decide (j = 1) || y.testBit (j - 1)) && (fxS T k 0 (j - 1)).testBit d
def beN (T : TD) (k s d : Nat) : Nat := if (goS T k s d).testBit (tL T k - 1) then 64 else 2 * goS T k s d
theorem goS_bit (T : TD) (k s d i : Nat) : (goS T k s d).testBit i = ((decide (i = 0) || s.testBit (i - 1)) && (decide (i < tL T k) && tkB T k (tN T d) i)) := by
  unfold goS tkS
  rw [Nat.testBit_and, stS_bit]
  congr 1
  cases i with
  | zero => rw [Nat.testBit_zero]; simp
  | succ i =>
    rw [Nat.testBit_succ, show (2 * s + 1) / 2 = s by omega]
    simp
theorem beg_go {T : TD} {k y d : Nat} (hd : d < tD T) : stS (bgP T k y d) (tL T k + 1) = 2 * goS T k (y / 2) d := by
  apply Nat.eq_of_testBit_eq
  intro j
  rw [stS_bit]
  cases j with
  | zero => rw [Nat.testBit_zero]; simp [bgP]
  | succ i =>
    rw [Nat.testBit_succ, show 2 * goS T k (y / 2) d / 2 = goS T k (y / 2) d by omega, goS_bit]
    unfold bgP
    rw [show i + 1 - 1 = i by omega, fxS_bit hd]
    unfold ftB tkB sgS
    have e : (tG T (6 * k + i) = tN T d) ↔ (tN T d = tG T (6 * k + i)) := eq_comm
    have e2 : (decide (i + 1 = 1) || y.testBit i) = (decide (i = 0) || (y / 2).testBit (i - 1)) := by
      cases i with
      | zero => simp
      | succ i => rw [show i + 1 - 1 = i by omega, Nat.testBit_div_two]; simp
    rw [e2]
    generalize (decide (i = 0) || (y / 2).testBit (i - 1)) = c
    by_cases h1 : i < tL T k <;> by_cases h2 : tG T (6 * k + i) = 8 <;> by_cases h3 : tN T d = tG T (6 * k + i) <;> cases c <;> simp [e, h1, h2, h3]
def w_X12_begin : WPt := fun args σ Q => match args with
  | [.ref x, .int a, .int b, .int c] => x = 56 ∧ ∃ T k y d, MdT σ T ∧ a = nI k ∧ k < tS T ∧ b = nI y ∧ y < 64 ∧ c = nI d ∧ d < tD T ∧ Q (some (.int (nI (beN T k (y / 2) d)))) σ
  | _ => False
set_option maxHeartbeats 1000000 in
theorem m_X12_begin : Meets yX12_begin cX12_begin 7 (some .int) 2 w_X12_begin := by
  refine Meets.mk (by decide) fun args σ Φ h => ?_
  unfold w_X12_begin at h
  split at h
  rotate_left
  · exact h.elim
  rename_i x a b c
  obtain ⟨x, rfl⟩ : ∃ q : Nat, q = x := ⟨x, rfl⟩
  obtain ⟨hx, T, k, y, d, hM, rfl, hk, rfl, hy, rfl, hd, hQ⟩ := h
  subst hx
  refine ⟨Nat.le_of_ble_eq_true rfl, fun C hC hR => ?_⟩
  have hT := hM.2.2
  have hD := hT.2.1
  have hS := hT.2.2.1
  have hL := hT.2.2.2.2.2.1 k hk
  have g := hM.1
  unfold ModS at g
  have hsz : zI σ 64 k = nI (tL T k) := hM.2.1.2.2.2.2.1 k hk
  refine r_X12_begin_0 hC hR m_X12_fits (by decide) _ _ _ ?_
  simp only [T_X12_begin_0, x_psh, x_ild, x_lld, x_ald, x_ist, x_ast, x_lst, x_inc, x_iadd, x_isub, x_imul, x_iand, x_ior, x_ixor, x_ishl, x_ishr, x_iushr, x_idiv, x_irem, x_ladd, x_land, x_lor, x_lshl, x_lshr, x_ineg, x_i2l, x_l2i, x_i2b, x_lcmp, x_dup, x_dup2, x_if_eq, x_if_ne, x_if_lt, x_if_ge, x_if_gt, x_if_le, x_ic_eq, x_ic_ne, x_ic_lt, x_ic_ge, x_ic_gt, x_ic_le, x_getI, x_getR, x_putI, x_putZ, x_putR, x_iald, x_bald, x_lald, x_iast, x_bast, x_last, x_alen, x_acp, x_mmax, x_mmin, x_callV, x_callS, x_iret, x_zret, x_lret, x_aret, x_vret, x_tsw, x_stop, zst1, zst2, zkill, zkl, zsplit, zmask, zent, zentL, List.getElem?_cons_zero, List.getElem?_cons_succ, List.set_cons_zero, List.set_cons_succ, List.set_nil, List.length_cons, List.length_nil, List.replicate, List.nil_append, List.cons_append, List.map_cons, List.map_nil, List.sum_cons, List.sum_nil, Value.category, Option.toList, List.contains_cons, List.contains_nil, true_or, or_true, true_and, Nat.zero_le, Nat.reduceAdd, Nat.reduceLeDiff, Nat.reduceLT, Nat.reduceBEq, Bool.true_or, Bool.or_true, Bool.false_or, Bool.or_false, ↓reduceIte, Bool.false_eq_true, Nat.add_zero, Nat.zero_add, Nat.reduceEqDiff, Nat.reduceSub, b2i_0, ne_eq, Nat.reduceEqDiff, not_false_eq_true, not_true_eq_false, true_and, and_true, true_implies, false_implies, implies_true, and_self]
  have key := zloop (P := fun i => WW C 6 [some (.ref 56), some (.int (nI k)), some (.int (nI y)), some (.int (nI d)), some (.int (nI (stS (bgP T k y d) (i + 1)))), some (.int (nI i)), none] [] σ) (tL T k) (fun i hi ih => ?_) ?_ 0 (by omega)
  · have e0 : stS (bgP T k y d) (0 + 1) = 0 := by simp [stS, bgP]
    rw [e0] at key
    exact key
  · have hst : stS (bgP T k y d) (i + 1 + 1) = stS (bgP T k y d) (i + 1) ||| (if bgP T k y d (i + 1) then 2 ^ (i + 1) else 0) := rfl
    have hbp : bgP T k y d (i + 1) = ((decide (i = 0) || y.testBit i) && (fxS T k 0 i).testBit d) := by
      unfold bgP
      simp
    rw [hst, hbp] at ih
    have k37 : ∀ v : Int32, (v = 0 ∧ (decide (i = 0) || y.testBit i) = false) ∨ (v = 1 ∧ (decide (i = 0) || y.testBit i) = true) → WW C 37 [some (.ref 56), some (.int (nI k)), some (.int (nI y)), some (.int (nI d)), some (.int (nI (stS (bgP T k y d) (i + 1)))), some (.int (nI i)), none] [.int v] σ := by
      intro v hv
      refine r_X12_begin_37 hC hR m_X12_fits (by decide) _ _ _ ?_
      simp only [T_X12_begin_37, x_psh, x_ild, x_lld, x_ald, x_ist, x_ast, x_lst, x_inc, x_iadd, x_isub, x_imul, x_iand, x_ior, x_ixor, x_ishl, x_ishr, x_iushr, x_idiv, x_irem, x_ladd, x_land, x_lor, x_lshl, x_lshr, x_ineg, x_i2l, x_l2i, x_i2b, x_lcmp, x_dup, x_dup2, x_if_eq, x_if_ne, x_if_lt, x_if_ge, x_if_gt, x_if_le, x_ic_eq, x_ic_ne, x_ic_lt, x_ic_ge, x_ic_gt, x_ic_le, x_getI, x_getR, x_putI, x_putZ, x_putR, x_iald, x_bald, x_lald, x_iast, x_bast, x_last, x_alen, x_acp, x_mmax, x_mmin, x_callV, x_callS, x_iret, x_zret, x_lret, x_aret, x_vret, x_tsw, x_stop, zst1, zst2, zkill, zkl, zsplit, zmask, zent, zentL, List.getElem?_cons_zero, List.getElem?_cons_succ, List.set_cons_zero, List.set_cons_succ, List.set_nil, List.length_cons, List.length_nil, List.replicate, List.nil_append, List.cons_append, List.map_cons, List.map_nil, List.sum_cons, List.sum_nil, Value.category, Option.toList, List.contains_cons, List.contains_nil, true_or, or_true, true_and, Nat.zero_le, Nat.reduceAdd, Nat.reduceLeDiff, Nat.reduceLT, Nat.reduceBEq, Bool.true_or, Bool.or_true, Bool.false_or, Bool.or_false, ↓reduceIte, Bool.false_eq_true, Nat.add_zero, Nat.zero_add, Nat.reduceEqDiff, Nat.reduceSub, g, w_X12_fits, b2i_0, ne_eq, Nat.reduceEqDiff, not_false_eq_true, not_true_eq_false, true_and, and_true, true_implies, false_implies, implies_true, and_self]
      rw [nI_i3, z_l31, z_l1, z_p2 (i + 1) (by omega), z_or, show (0 : Int32) = nI 0 from rfl, z_or]
      rcases hv with ⟨rfl, hv⟩ | ⟨rfl, hv⟩
      · rw [hv] at ih
        exact ⟨fun _ => ih, fun q => absurd rfl q⟩
      · refine ⟨fun q => absurd q (by decide), fun _ => ⟨T, k, i, d, 0, hM, rfl, hk, rfl, hi, rfl, hd, rfl, by omega, ?_⟩⟩
        rw [hv, Bool.true_and] at ih
        refine ⟨fun q => ?_, fun q => ?_⟩
        · rw [if_neg q] at ih
          exact ih
        · rw [if_pos (Decidable.not_not.mp q)] at ih
          exact ih
    refine r_X12_begin_6 hC hR m_X12_fits (by decide) _ _ _ ?_
    simp only [T_X12_begin_6, x_psh, x_ild, x_lld, x_ald, x_ist, x_ast, x_lst, x_inc, x_iadd, x_isub, x_imul, x_iand, x_ior, x_ixor, x_ishl, x_ishr, x_iushr, x_idiv, x_irem, x_ladd, x_land, x_lor, x_lshl, x_lshr, x_ineg, x_i2l, x_l2i, x_i2b, x_lcmp, x_dup, x_dup2, x_if_eq, x_if_ne, x_if_lt, x_if_ge, x_if_gt, x_if_le, x_ic_eq, x_ic_ne, x_ic_lt, x_ic_ge, x_ic_gt, x_ic_le, x_getI, x_getR, x_putI, x_putZ, x_putR, x_iald, x_bald, x_lald, x_iast, x_bast, x_last, x_alen, x_acp, x_mmax, x_mmin, x_callV, x_callS, x_iret, x_zret, x_lret, x_aret, x_vret, x_tsw, x_stop, zst1, zst2, zkill, zkl, zsplit, zmask, zent, zentL, List.getElem?_cons_zero, List.getElem?_cons_succ, List.set_cons_zero, List.set_cons_succ, List.set_nil, List.length_cons, List.length_nil, List.replicate, List.nil_append, List.cons_append, List.map_cons, List.map_nil, List.sum_cons, List.sum_nil, Value.category, Option.toList, List.contains_cons, List.contains_nil, true_or, or_true, true_and, Nat.zero_le, Nat.reduceAdd, Nat.reduceLeDiff, Nat.reduceLT, Nat.reduceBEq, Bool.true_or, Bool.or_true, Bool.false_or, Bool.or_false, ↓reduceIte, Bool.false_eq_true, Nat.add_zero, Nat.zero_add, Nat.reduceEqDiff, Nat.reduceSub, g, b2i_0, ne_eq, Nat.reduceEqDiff, not_false_eq_true, not_true_eq_false, true_and, and_true, true_implies, false_implies, implies_true, and_self]
    rw [nI_clamp (by omega), hsz, z_b1 (a := y) (k := i) (by omega) (by omega)]
    simp only [b2i_1]
    have e0 : (nI i = 0) = (i = 0) := propext (nI_eq (a := i) (b := 0) (by omega) (by omega))
    simp only [e0]
    refine ⟨4, rfl, vp_in_nI (by omega) (by omega), fun q => absurd q (nI_ge hi (by omega)), fun _ => ⟨fun q => k37 1 (Or.inr ⟨rfl, by simp [q]⟩), fun q => ⟨fun q2 => k37 0 (Or.inl ⟨rfl, by simp [q, q2]⟩), fun q2 => k37 1 (Or.inr ⟨rfl, by simp [q2]⟩)⟩⟩⟩
  · have hlt : stS (bgP T k y d) (tL T k + 1) < 2 ^ 31 := Nat.lt_of_lt_of_le (stS_lt _) (Nat.pow_le_pow_right (by decide) (by omega))
    refine r_X12_begin_6 hC hR m_X12_fits (by decide) _ _ _ ?_
    simp only [T_X12_begin_6, x_psh, x_ild, x_lld, x_ald, x_ist, x_ast, x_lst, x_inc, x_iadd, x_isub, x_imul, x_iand, x_ior, x_ixor, x_ishl, x_ishr, x_iushr, x_idiv, x_irem, x_ladd, x_land, x_lor, x_lshl, x_lshr, x_ineg, x_i2l, x_l2i, x_i2b, x_lcmp, x_dup, x_dup2, x_if_eq, x_if_ne, x_if_lt, x_if_ge, x_if_gt, x_if_le, x_ic_eq, x_ic_ne, x_ic_lt, x_ic_ge, x_ic_gt, x_ic_le, x_getI, x_getR, x_putI, x_putZ, x_putR, x_iald, x_bald, x_lald, x_iast, x_bast, x_last, x_alen, x_acp, x_mmax, x_mmin, x_callV, x_callS, x_iret, x_zret, x_lret, x_aret, x_vret, x_tsw, x_stop, zst1, zst2, zkill, zkl, zsplit, zmask, zent, zentL, List.getElem?_cons_zero, List.getElem?_cons_succ, List.set_cons_zero, List.set_cons_succ, List.set_nil, List.length_cons, List.length_nil, List.replicate, List.nil_append, List.cons_append, List.map_cons, List.map_nil, List.sum_cons, List.sum_nil, Value.category, Option.toList, List.contains_cons, List.contains_nil, true_or, or_true, true_and, Nat.zero_le, Nat.reduceAdd, Nat.reduceLeDiff, Nat.reduceLT, Nat.reduceBEq, Bool.true_or, Bool.or_true, Bool.false_or, Bool.or_false, ↓reduceIte, Bool.false_eq_true, Nat.add_zero, Nat.zero_add, Nat.reduceEqDiff, Nat.reduceSub, g, b2i_0, ne_eq, Nat.reduceEqDiff, not_false_eq_true, not_true_eq_false, true_and, and_true, true_implies, false_implies, implies_true, and_self]
    rw [nI_clamp (by omega), hsz, z_b1 hlt (by omega)]
    simp only [b2i_1]
    refine ⟨4, rfl, vp_in_nI (by omega) (by omega), fun _ => ⟨4, rfl, vp_in_nI (by omega) (by omega), ?_⟩, fun q => absurd (nI_le (Nat.le_refl _) (by omega)) q⟩
    have hb : (stS (bgP T k y d) (tL T k + 1)).testBit (tL T k) = (goS T k (y / 2) d).testBit (tL T k - 1) := by
      rw [beg_go hd]
      have e : tL T k = (tL T k - 1) + 1 := by omega
      rw [e, Nat.testBit_succ, show 2 * goS T k (y / 2) d / 2 = goS T k (y / 2) d by omega, ← e]
    rw [hb]
    unfold beN at hQ
    refine ⟨fun q => ?_, fun q => ?_⟩
    · rw [if_neg q] at hQ
      rw [beg_go hd]
      exact hQ
    · rw [if_pos q] at hQ
      exact hQ
def soN (T : TD) (k s d : Nat) : Nat := if s = 32 then 32 else beN T k s d / 2
def w_X12_stateOf : WPt := fun args σ Q => match args with
  | [.ref x, .int a, .int b, .int c] => x = 56 ∧ ∃ T k s d, MdT σ T ∧ a = nI k ∧ k < tS T ∧ b = nI s ∧ s ≤ 32 ∧ c = nI d ∧ d < tD T ∧ Q (some (.int (nI (soN T k s d)))) σ
  | _ => False
theorem beN_le {T : TD} {k s d : Nat} (h1 : 1 ≤ tL T k) (h6 : tL T k ≤ 6) : beN T k s d ≤ 64 := by
  unfold beN
  split
  · exact Nat.le_refl _
  next hb =>
    have := goS_safe h1 h6 (by simpa using hb : (goS T k s d).testBit (tL T k - 1) = false)
    omega
theorem m_X12_stateOf : Meets yX12_stateOf cX12_stateOf 4 (some .int) 3 w_X12_stateOf := by
  refine Meets.mk (by decide) fun args σ Φ h => ?_
  unfold w_X12_stateOf at h
  split at h
  rotate_left
  · exact h.elim
  rename_i x a b c
  obtain ⟨x, rfl⟩ : ∃ q : Nat, q = x := ⟨x, rfl⟩
  obtain ⟨hx, T, k, s, d, hM, rfl, hk, rfl, hs, rfl, hd, hQ⟩ := h
  subst hx
  refine ⟨Nat.le_of_ble_eq_true rfl, fun C hC hR => ?_⟩
  have hT := hM.2.2
  have hL := hT.2.2.2.2.2.1 k hk
  have g := hM.1
  unfold ModS at g
  have hb := beN_le (T := T) (k := k) (s := s) (d := d) hL.1 hL.2.1
  refine r_X12_stateOf_0 hC hR m_X12_begin (by decide) _ _ _ ?_
  simp only [T_X12_stateOf_0, x_psh, x_ild, x_lld, x_ald, x_ist, x_ast, x_lst, x_inc, x_iadd, x_isub, x_imul, x_iand, x_ior, x_ixor, x_ishl, x_ishr, x_iushr, x_idiv, x_irem, x_ladd, x_land, x_lor, x_lshl, x_lshr, x_ineg, x_i2l, x_l2i, x_i2b, x_lcmp, x_dup, x_dup2, x_if_eq, x_if_ne, x_if_lt, x_if_ge, x_if_gt, x_if_le, x_ic_eq, x_ic_ne, x_ic_lt, x_ic_ge, x_ic_gt, x_ic_le, x_getI, x_getR, x_putI, x_putZ, x_putR, x_iald, x_bald, x_lald, x_iast, x_bast, x_last, x_alen, x_acp, x_mmax, x_mmin, x_callV, x_callS, x_iret, x_zret, x_lret, x_aret, x_vret, x_tsw, x_stop, zst1, zst2, zkill, zkl, zsplit, zmask, zent, zentL, List.getElem?_cons_zero, List.getElem?_cons_succ, List.set_cons_zero, List.set_cons_succ, List.set_nil, List.length_cons, List.length_nil, List.replicate, List.nil_append, List.cons_append, List.map_cons, List.map_nil, List.sum_cons, List.sum_nil, Value.category, Option.toList, List.contains_cons, List.contains_nil, true_or, or_true, true_and, Nat.zero_le, Nat.reduceAdd, Nat.reduceLeDiff, Nat.reduceLT, Nat.reduceBEq, Bool.true_or, Bool.or_true, Bool.false_or, Bool.or_false, ↓reduceIte, Bool.false_eq_true, Nat.add_zero, Nat.zero_add, Nat.reduceEqDiff, Nat.reduceSub, g, w_X12_begin, b2i_0, ne_eq, Nat.reduceEqDiff, not_false_eq_true, not_true_eq_false, true_and, and_true, true_implies, false_implies, implies_true, and_self]
  rw [z_l32, nI_eq (by omega) (by omega)]
  unfold soN at hQ
  refine ⟨fun q => ⟨T, k, 2 * s, d, hM, rfl, hk, by rw [z_l2, pk_mul], by omega, rfl, hd, by decide, ?_⟩, fun q => ?_⟩
  · rw [if_neg q] at hQ
    rw [show 2 * s / 2 = s by omega, z_l2, pk_div (by omega) (by omega) (by omega)]
    exact hQ
  · rw [if_pos q] at hQ
    exact hQ
