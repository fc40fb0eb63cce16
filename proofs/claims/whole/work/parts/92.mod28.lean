def w_X12_round : WPt := fun args σ Q => match args with
  | [.ref x, .int d, .int y, .int z] => x = 56 ∧ PubM σ (q_round · d y z) Q
  | _ => False
theorem sdd_bad {T : TD} {d y z : Int32} (h : ix d (tS T) = none ∨ ix y (tD T) = none ∨ ix z (tD T) = none) : sdd T d y z = none := by
  unfold sdd
  rcases h with h | h | h
  · rw [h]
  · rw [h]; cases ix d (tS T) <;> rfl
  · rw [h]; cases ix d (tS T) <;> cases ix y (tD T) <;> rfl
set_option maxHeartbeats 1000000 in
theorem m_X12_round : Meets yX12_round cX12_round 4 (some .int) 5 w_X12_round := by
  refine Meets.mk (by decide) fun args σ Φ h => ?_
  unfold w_X12_round at h
  split at h
  rotate_left
  · exact h.elim
  rename_i x d y z
  obtain ⟨x, rfl⟩ : ∃ q : Nat, q = x := ⟨x, rfl⟩
  obtain ⟨hx, A, hK, hA, hQ⟩ := h
  subst hx
  refine ⟨Nat.le_of_ble_eq_true rfl, fun C hC hR => ?_⟩
  have hf := mod_f hK
  have hN := hA.1
  have hD1 := hA.t.1
  have hD := hA.t.2.1
  have hS := hA.t.2.2.1
  have hW := hA.2.2.1.2.1
  have hE := hA.2.2.1.2.2.1
  have hp := z_pow31 hD
  have hV := hK.2
  refine r_X12_round_0 hC hR m_X12_isSong (by decide) m_X12_isDoor (by decide) m_X12_roundOf (by decide) _ _ _ ?_
  simp only [T_X12_round_0, x_psh, x_ild, x_lld, x_ald, x_ist, x_ast, x_lst, x_inc, x_iadd, x_isub, x_imul, x_iand, x_ior, x_ixor, x_ishl, x_ishr, x_iushr, x_idiv, x_irem, x_ladd, x_land, x_lor, x_lshl, x_lshr, x_ineg, x_i2l, x_l2i, x_i2b, x_lcmp, x_dup, x_dup2, x_if_eq, x_if_ne, x_if_lt, x_if_ge, x_if_gt, x_if_le, x_ic_eq, x_ic_ne, x_ic_lt, x_ic_ge, x_ic_gt, x_ic_le, x_getI, x_getR, x_putI, x_putZ, x_putR, x_iald, x_bald, x_lald, x_iast, x_bast, x_last, x_alen, x_acp, x_mmax, x_mmin, x_callV, x_callS, x_iret, x_zret, x_lret, x_aret, x_vret, x_tsw, x_stop, zst1, zst2, zkill, zkl, zsplit, zmask, zent, zentL, List.getElem?_cons_zero, List.getElem?_cons_succ, List.set_cons_zero, List.set_cons_succ, List.set_nil, List.length_cons, List.length_nil, List.replicate, List.nil_append, List.cons_append, List.map_cons, List.map_nil, List.sum_cons, List.sum_nil, Value.category, Option.toList, List.contains_cons, List.contains_nil, true_or, or_true, true_and, Nat.zero_le, Nat.reduceAdd, Nat.reduceLeDiff, Nat.reduceLT, Nat.reduceBEq, Bool.true_or, Bool.or_true, Bool.false_or, Bool.or_false, ↓reduceIte, Bool.false_eq_true, Nat.add_zero, Nat.zero_add, Nat.reduceEqDiff, Nat.reduceSub, hf, w_X12_isSong, w_X12_isDoor, w_X12_roundOf, b2i_0, ne_eq, Nat.reduceEqDiff, not_false_eq_true, not_true_eq_false, true_and, and_true, true_implies, false_implies, implies_true, and_self]
  unfold q_round at hQ
  refine ⟨tS (aT A), rfl, by omega, ?_⟩
  rcases ix_cs d (show tS (aT A) < 2 ^ 31 by omega) with ⟨k, hk, rfl, h1, h2⟩ | ⟨h1, h2⟩
  rotate_left
  · simp only [sdd_bad (Or.inl h1)] at hQ
    simp only [h2, b2i_0, ne_eq, Nat.reduceEqDiff, not_false_eq_true, not_true_eq_false, true_and, and_true, true_implies, false_implies, implies_true, and_self]
    exact hQ σ (ZF.refl _ _ _) hK
  simp only [h2, b2i_0, ne_eq, Nat.reduceEqDiff, not_false_eq_true, not_true_eq_false, true_and, and_true, true_implies, false_implies, implies_true, and_self]
  refine ⟨tD (aT A), rfl, hD, ?_⟩
  rcases ix_cs y (show tD (aT A) < 2 ^ 31 by omega) with ⟨fr, hfr, rfl, h3, h4⟩ | ⟨h3, h4⟩
  rotate_left
  · simp only [sdd_bad (Or.inr (Or.inl h3))] at hQ
    simp only [h4, b2i_0, ne_eq, Nat.reduceEqDiff, not_false_eq_true, not_true_eq_false, true_and, and_true, true_implies, false_implies, implies_true, and_self]
    exact hQ σ (ZF.refl _ _ _) hK
  simp only [h4, b2i_0, ne_eq, Nat.reduceEqDiff, not_false_eq_true, not_true_eq_false, true_and, and_true, true_implies, false_implies, implies_true, and_self]
  refine ⟨tD (aT A), rfl, hD, ?_⟩
  rcases ix_cs z (show tD (aT A) < 2 ^ 31 by omega) with ⟨to, hto, rfl, h5, h6⟩ | ⟨h5, h6⟩
  rotate_left
  · simp only [sdd_bad (Or.inr (Or.inr h5))] at hQ
    simp only [h6, b2i_0, ne_eq, Nat.reduceEqDiff, not_false_eq_true, not_true_eq_false, true_and, and_true, true_implies, false_implies, implies_true, and_self]
    exact hQ σ (ZF.refl _ _ _) hK
  simp only [h6, b2i_0, ne_eq, Nat.reduceEqDiff, not_false_eq_true, not_true_eq_false, true_and, and_true, true_implies, false_implies, implies_true, and_self]
  have hsd : sdd (aT A) (nI k) (nI fr) (nI to) = some (k, fr, to) := by
    unfold sdd
    rw [h1, h3, h5]
  simp only [hsd] at hQ
  refine ⟨aT A, k, fr, to, MdT.of hK hA, rfl, hk, rfl, hfr, rfl, hto, fun σ1 lf hf1 hr hl => ?_⟩
  have hq := hf1.m (by omega)
  exact hQ σ1 hq.z (hq.r hK)
def w_X12_roundAt : WPt := fun args σ Q => match args with
  | [.ref x, .int d, .int y, .int z, .int i] => x = 56 ∧ PubM σ (q_roundAt · d y z i) Q
  | _ => False
theorem in_0 (i m : Int32) : ((0 : Int64) ≤ i.toInt64 ∧ i.toInt64 ≤ m.toInt64) = (0 ≤ i ∧ i ≤ m) := by
  apply propext
  rw [show (0 : Int64) = (0 : Int32).toInt64 from rfl, i64_le, i64_le]
set_option maxHeartbeats 4000000 in
theorem m_X12_roundAt : Meets yX12_roundAt cX12_roundAt 14 (some .int) 5 w_X12_roundAt := by
  refine Meets.mk (by decide) fun args σ Φ h => ?_
  unfold w_X12_roundAt at h
  split at h
  rotate_left
  · exact h.elim
  rename_i x d y z i
  obtain ⟨x, rfl⟩ : ∃ q : Nat, q = x := ⟨x, rfl⟩
  obtain ⟨hx, A, hK, hA, hQ⟩ := h
  subst hx
  refine ⟨Nat.le_of_ble_eq_true rfl, fun C hC hR => ?_⟩
  have hf := mod_f hK
  have hN := hA.1
  have hD1 := hA.t.1
  have hD := hA.t.2.1
  have hS := hA.t.2.2.1
  have hW := hA.2.2.1.2.1
  have hE := hA.2.2.1.2.2.1
  have hp := z_pow31 hD
  have hV := hK.2
  refine r_X12_roundAt_0 hC hR m_X12_isSong (by decide) m_X12_isDoor (by decide) m_X12_roundOf (by decide) m_X12_in (by decide) m_X12_begin (by decide) _ _ _ ?_
  simp only [T_X12_roundAt_0, x_psh, x_ild, x_lld, x_ald, x_ist, x_ast, x_lst, x_inc, x_iadd, x_isub, x_imul, x_iand, x_ior, x_ixor, x_ishl, x_ishr, x_iushr, x_idiv, x_irem, x_ladd, x_land, x_lor, x_lshl, x_lshr, x_ineg, x_i2l, x_l2i, x_i2b, x_lcmp, x_dup, x_dup2, x_if_eq, x_if_ne, x_if_lt, x_if_ge, x_if_gt, x_if_le, x_ic_eq, x_ic_ne, x_ic_lt, x_ic_ge, x_ic_gt, x_ic_le, x_getI, x_getR, x_putI, x_putZ, x_putR, x_iald, x_bald, x_lald, x_iast, x_bast, x_last, x_alen, x_acp, x_mmax, x_mmin, x_callV, x_callS, x_iret, x_zret, x_lret, x_aret, x_vret, x_tsw, x_stop, zst1, zst2, zkill, zkl, zsplit, zmask, zent, zentL, List.getElem?_cons_zero, List.getElem?_cons_succ, List.set_cons_zero, List.set_cons_succ, List.set_nil, List.length_cons, List.length_nil, List.replicate, List.nil_append, List.cons_append, List.map_cons, List.map_nil, List.sum_cons, List.sum_nil, Value.category, Option.toList, List.contains_cons, List.contains_nil, true_or, or_true, true_and, Nat.zero_le, Nat.reduceAdd, Nat.reduceLeDiff, Nat.reduceLT, Nat.reduceBEq, Bool.true_or, Bool.or_true, Bool.false_or, Bool.or_false, ↓reduceIte, Bool.false_eq_true, Nat.add_zero, Nat.zero_add, Nat.reduceEqDiff, Nat.reduceSub, hf, w_X12_isSong, w_X12_isDoor, w_X12_roundOf, w_X12_in, b2i_0, ne_eq, Nat.reduceEqDiff, not_false_eq_true, not_true_eq_false, true_and, and_true, true_implies, false_implies, implies_true, and_self]
  unfold q_roundAt at hQ
  refine ⟨tS (aT A), rfl, by omega, ?_⟩
  rcases ix_cs d (show tS (aT A) < 2 ^ 31 by omega) with ⟨k, hk, rfl, h1, h2⟩ | ⟨h1, h2⟩
  rotate_left
  · simp only [sdd_bad (Or.inl h1)] at hQ
    simp only [h2, b2i_0, ne_eq, Nat.reduceEqDiff, not_false_eq_true, not_true_eq_false, true_and, and_true, true_implies, false_implies, implies_true, and_self]
    exact hQ σ (ZF.refl _ _ _) hK
  simp only [h2, b2i_0, ne_eq, Nat.reduceEqDiff, not_false_eq_true, not_true_eq_false, true_and, and_true, true_implies, false_implies, implies_true, and_self]
  refine ⟨tD (aT A), rfl, hD, ?_⟩
  rcases ix_cs y (show tD (aT A) < 2 ^ 31 by omega) with ⟨fr, hfr, rfl, h3, h4⟩ | ⟨h3, h4⟩
  rotate_left
  · simp only [sdd_bad (Or.inr (Or.inl h3))] at hQ
    simp only [h4, b2i_0, ne_eq, Nat.reduceEqDiff, not_false_eq_true, not_true_eq_false, true_and, and_true, true_implies, false_implies, implies_true, and_self]
    exact hQ σ (ZF.refl _ _ _) hK
  simp only [h4, b2i_0, ne_eq, Nat.reduceEqDiff, not_false_eq_true, not_true_eq_false, true_and, and_true, true_implies, false_implies, implies_true, and_self]
  refine ⟨tD (aT A), rfl, hD, ?_⟩
  rcases ix_cs z (show tD (aT A) < 2 ^ 31 by omega) with ⟨to, hto, rfl, h5, h6⟩ | ⟨h5, h6⟩
  rotate_left
  · simp only [sdd_bad (Or.inr (Or.inr h5))] at hQ
    simp only [h6, b2i_0, ne_eq, Nat.reduceEqDiff, not_false_eq_true, not_true_eq_false, true_and, and_true, true_implies, false_implies, implies_true, and_self]
    exact hQ σ (ZF.refl _ _ _) hK
  simp only [h6, b2i_0, ne_eq, Nat.reduceEqDiff, not_false_eq_true, not_true_eq_false, true_and, and_true, true_implies, false_implies, implies_true, and_self]
  have hsd : sdd (aT A) (nI k) (nI fr) (nI to) = some (k, fr, to) := by
    unfold sdd
    rw [h1, h3, h5]
  simp only [hsd] at hQ
  refine ⟨aT A, k, fr, to, MdT.of hK hA, rfl, hk, rfl, hfr, rfl, hto, fun σ1 lf hf1 hr hl => ?_⟩
  have hq := hf1.m (by omega)
  have hK1 := hq.r hK
  have hz := hQ σ1 hq.z hK1
  have hT := hA.t
  have hL := hA.l hk
  have hM1 := MdT.of hK1 hA
  have g := mod_f hK1
  have hb := beN_le (T := aT A) (k := k) (s := 0) (d := fr) hL.1 hL.2
  simp only [in_0, b2i_0, ne_eq, Nat.reduceEqDiff, not_false_eq_true, not_true_eq_false, true_and, and_true, true_implies, false_implies, implies_true, and_self]
  clear hQ hsd
  have hEτ : ∀ j, j < 12 → zI σ1 62 j = nI (tE (aT A) j) := fun j hj => hM1.2.1.2.2.2.1 j hj
  have hrd := rd_ok hD hL.1 hL.2 hfr hto hl
  generalize aT A = T at *
  unfold rdS
  generalize fwR T k fr to = R at hrd hz ⊢
  obtain ⟨ro, B⟩ := R
  rcases hrd with ⟨c1, c2⟩ | ⟨c1, e, c2, c3, c4, s, c5, c6, c7⟩
  · have c2 : ro = none := c2
    subst c2
    have : (0 ≤ i ∧ i ≤ i2 (Option.map (stpR B) none)) = False := by
      refine eq_false ?_
      rintro ⟨q1, q2⟩
      exact absurd (show (0 : Int32) ≤ -9 from Int32.le_trans q1 q2) (by decide)
    simp only [this, b2i_0, ne_eq, Nat.reduceEqDiff, not_false_eq_true, not_true_eq_false, true_and, and_true, true_implies, false_implies, implies_true, and_self]
    have hz2 : (if i < 0 then (-9 : Int32) else i2 (dowS B none i.toNatClampNeg)) = -9 := by
      split <;> rfl
    simp only [hz2] at hz
    exact hz
  · have c2 : ro = some e := c2
    subst c2
    have c3 : lf (64 * fr + beN T k 0 fr) = stpR B e := c3
    have c4 : stpR B e < 384 := c4
    generalize hm : stpR B e = m at c3 c4
    show (¬¬(0 ≤ i ∧ i ≤ nI (stpR B e)) → _) ∧ (¬(0 ≤ i ∧ i ≤ nI (stpR B e)) → _)
    rw [hm]
    simp only [Decidable.not_not]
    by_cases hi0 : i < 0
    · refine ⟨fun q => absurd hi0 (Int32.not_lt.mpr q.1), fun _ => ?_⟩
      simp only [if_pos hi0] at hz
      exact hz
    obtain ⟨p, hp, rfl⟩ := nI_of hi0
    simp only [if_neg hi0] at hz
    rw [nI_clamp hp] at hz
    rw [nI_leI hp (by omega)]
    by_cases hpm : m < p
    · refine ⟨fun q => absurd q.2 (by omega), fun _ => ?_⟩
      unfold dowS at hz
      simp only at hz
      rw [hm, if_neg (by omega)] at hz
      exact hz
    refine ⟨fun _ => ?_, fun q => absurd ⟨nI_pos' (by omega), by omega⟩ q⟩
    simp only [g, w_X12_begin, x_psh, x_ild, x_lld, x_ald, x_ist, x_ast, x_lst, x_inc, x_iadd, x_isub, x_imul, x_iand, x_ior, x_ixor, x_ishl, x_ishr, x_iushr, x_idiv, x_irem, x_ladd, x_land, x_lor, x_lshl, x_lshr, x_ineg, x_i2l, x_l2i, x_i2b, x_lcmp, x_dup, x_dup2, x_if_eq, x_if_ne, x_if_lt, x_if_ge, x_if_gt, x_if_le, x_ic_eq, x_ic_ne, x_ic_lt, x_ic_ge, x_ic_gt, x_ic_le, x_getI, x_getR, x_putI, x_putZ, x_putR, x_iald, x_bald, x_lald, x_iast, x_bast, x_last, x_alen, x_acp, x_mmax, x_mmin, x_callV, x_callS, x_iret, x_zret, x_lret, x_aret, x_vret, x_tsw, x_stop, zst1, zst2, zkill, zkl, zsplit, zmask, zent, zentL, List.getElem?_cons_zero, List.getElem?_cons_succ, List.set_cons_zero, List.set_cons_succ, List.set_nil, List.length_cons, List.length_nil, List.replicate, List.nil_append, List.cons_append, List.map_cons, List.map_nil, List.sum_cons, List.sum_nil, Value.category, Option.toList, List.contains_cons, List.contains_nil, true_or, or_true, true_and, Nat.zero_le, Nat.reduceAdd, Nat.reduceLeDiff, Nat.reduceLT, Nat.reduceBEq, Bool.true_or, Bool.or_true, Bool.false_or, Bool.or_false, ↓reduceIte, Bool.false_eq_true, Nat.add_zero, Nat.zero_add, Nat.reduceEqDiff, Nat.reduceSub, b2i_0, ne_eq, Nat.reduceEqDiff, not_false_eq_true, not_true_eq_false, true_and, and_true, true_implies, false_implies, implies_true, and_self]
    refine ⟨T, k, 0, fr, hM1, rfl, hk, rfl, by omega, rfl, hfr, ?_⟩
    have c5 : ∀ j, j ≤ stpR B e → s j < 384 ∧ s j / 32 < tD T ∧ lf (2 * s j) = stpR B e - j ∧ dowS B (some e) j = some (s j / 32) := c5
    have c7 : ∀ j, j < stpR B e → sucS T k (s j) (s (j + 1) / 32) = some (s (j + 1)) ∧ ∀ o r, o < s (j + 1) / 32 → sucS T k (s j) o = some r → lf (2 * r) ≠ stpR B e - (j + 1) := c7
    rw [hm] at c5 c7
    have key := zloop (P := fun j => WW C 62 [some (.ref 56), some (.int (nI k)), none, none, some (.int (nI p)), some (.int (nI (s j / 32))), some (.int (nI (2 * (s j % 32)))), some (.int (nI j)), none, none, none, none, none, none] [] σ1) p (fun j hj ih => ?_) ?_ 0 (by omega)
    · rw [show s 0 / 32 = fr by omega, show 2 * (s 0 % 32) = beN T k 0 fr by omega] at key
      exact key
    · obtain ⟨d1, d2, d3, -⟩ := c5 j (by omega)
      obtain ⟨f1, f2, f3, -⟩ := c5 (j + 1) (by omega)
      obtain ⟨u1, u2⟩ := c7 j (by omega)
      -- the doors, from the last to the first
      have k101 : ∀ o, o ≤ tD T → ∀ nx bh : Int32, (o ≤ s (j + 1) / 32 → nx = nI (s (j + 1) / 32) ∧ bh = nI (2 * (s (j + 1) % 32))) → WW C 101 [some (.ref 56), some (.int (nI k)), none, none, some (.int (nI p)), some (.int (nI (s j / 32))), some (.int (nI (2 * (s j % 32)))), some (.int (nI j)), some (.int (nI (m - (j + 1)))), some (.int nx), some (.int bh), some (.int (nI o - 1)), none, none] [] σ1 := by
        intro o
        induction o with
        | zero =>
          intro _ nx bh hnb
          obtain ⟨rfl, rfl⟩ := hnb (Nat.zero_le _)
          refine r_X12_roundAt_101 hC hR m_X12_isSong (by decide) m_X12_isDoor (by decide) m_X12_roundOf (by decide) m_X12_in (by decide) m_X12_begin (by decide) _ _ _ ?_
          simp only [T_X12_roundAt_101, x_psh, x_ild, x_lld, x_ald, x_ist, x_ast, x_lst, x_inc, x_iadd, x_isub, x_imul, x_iand, x_ior, x_ixor, x_ishl, x_ishr, x_iushr, x_idiv, x_irem, x_ladd, x_land, x_lor, x_lshl, x_lshr, x_ineg, x_i2l, x_l2i, x_i2b, x_lcmp, x_dup, x_dup2, x_if_eq, x_if_ne, x_if_lt, x_if_ge, x_if_gt, x_if_le, x_ic_eq, x_ic_ne, x_ic_lt, x_ic_ge, x_ic_gt, x_ic_le, x_getI, x_getR, x_putI, x_putZ, x_putR, x_iald, x_bald, x_lald, x_iast, x_bast, x_last, x_alen, x_acp, x_mmax, x_mmin, x_callV, x_callS, x_iret, x_zret, x_lret, x_aret, x_vret, x_tsw, x_stop, zst1, zst2, zkill, zkl, zsplit, zmask, zent, zentL, List.getElem?_cons_zero, List.getElem?_cons_succ, List.set_cons_zero, List.set_cons_succ, List.set_nil, List.length_cons, List.length_nil, List.replicate, List.nil_append, List.cons_append, List.map_cons, List.map_nil, List.sum_cons, List.sum_nil, Value.category, Option.toList, List.contains_cons, List.contains_nil, true_or, or_true, true_and, Nat.zero_le, Nat.reduceAdd, Nat.reduceLeDiff, Nat.reduceLT, Nat.reduceBEq, Bool.true_or, Bool.or_true, Bool.false_or, Bool.or_false, ↓reduceIte, Bool.false_eq_true, Nat.add_zero, Nat.zero_add, Nat.reduceEqDiff, Nat.reduceSub, g, b2i_0, ne_eq, Nat.reduceEqDiff, not_false_eq_true, not_true_eq_false, true_and, and_true, true_implies, false_implies, implies_true, and_self]
          simp only [nI_i3]
          exact ⟨fun _ => ih, fun q => absurd (by decide) q⟩
        | succ o iho =>
          intro ho nx bh hnb
          have eo : nI (o + 1) - 1 = nI o := pk_sub (b := 1) (by omega)
          have em : nI o + -1 = nI o - 1 := (Int32.sub_eq_add_neg _ _).symm
          have hEd := hT.e (s j / 32)
          -- whether it goes on
          have k168 : ∀ b, b ≤ 64 → ∀ v : Int32, (v = 0 ∧ o ≠ s (j + 1) / 32) ∨ (v = 1 ∧ s (j + 1) / 32 ≤ o ∧ (o = s (j + 1) / 32 → b = 2 * (s (j + 1) % 32))) → WW C 168 [some (.ref 56), some (.int (nI k)), none, none, some (.int (nI p)), some (.int (nI (s j / 32))), some (.int (nI (2 * (s j % 32)))), some (.int (nI j)), some (.int (nI (m - (j + 1)))), some (.int nx), some (.int bh), some (.int (nI o)), some (.int (nI b)), none] [.int v] σ1 := by
            intro b hb v hv
            refine r_X12_roundAt_168 hC hR m_X12_isSong (by decide) m_X12_isDoor (by decide) m_X12_roundOf (by decide) m_X12_in (by decide) m_X12_begin (by decide) _ _ _ ?_
            simp only [T_X12_roundAt_168, x_psh, x_ild, x_lld, x_ald, x_ist, x_ast, x_lst, x_inc, x_iadd, x_isub, x_imul, x_iand, x_ior, x_ixor, x_ishl, x_ishr, x_iushr, x_idiv, x_irem, x_ladd, x_land, x_lor, x_lshl, x_lshr, x_ineg, x_i2l, x_l2i, x_i2b, x_lcmp, x_dup, x_dup2, x_if_eq, x_if_ne, x_if_lt, x_if_ge, x_if_gt, x_if_le, x_ic_eq, x_ic_ne, x_ic_lt, x_ic_ge, x_ic_gt, x_ic_le, x_getI, x_getR, x_putI, x_putZ, x_putR, x_iald, x_bald, x_lald, x_iast, x_bast, x_last, x_alen, x_acp, x_mmax, x_mmin, x_callV, x_callS, x_iret, x_zret, x_lret, x_aret, x_vret, x_tsw, x_stop, zst1, zst2, zkill, zkl, zsplit, zmask, zent, zentL, List.getElem?_cons_zero, List.getElem?_cons_succ, List.set_cons_zero, List.set_cons_succ, List.set_nil, List.length_cons, List.length_nil, List.replicate, List.nil_append, List.cons_append, List.map_cons, List.map_nil, List.sum_cons, List.sum_nil, Value.category, Option.toList, List.contains_cons, List.contains_nil, true_or, or_true, true_and, Nat.zero_le, Nat.reduceAdd, Nat.reduceLeDiff, Nat.reduceLT, Nat.reduceBEq, Bool.true_or, Bool.or_true, Bool.false_or, Bool.or_false, ↓reduceIte, Bool.false_eq_true, Nat.add_zero, Nat.zero_add, Nat.reduceEqDiff, Nat.reduceSub, b2i_0, ne_eq, Nat.reduceEqDiff, not_false_eq_true, not_true_eq_false, true_and, and_true, true_implies, false_implies, implies_true, and_self]
            rw [em]
            rcases hv with ⟨rfl, hv⟩ | ⟨rfl, hv1, hv2⟩
            · have := iho (by omega) nx bh (fun h => hnb (by omega))
              exact ⟨fun _ => ⟨fun _ => this, fun q => absurd rfl q⟩, fun q => absurd rfl q⟩
            · have := iho (by omega) (nI o) (nI b) (fun h => by
                have e : o = s (j + 1) / 32 := by omega
                rw [hv2 e, ← e]
                exact ⟨rfl, rfl⟩)
              exact ⟨fun q => absurd q (by decide), fun _ => ⟨fun q => absurd q (by decide), fun _ => this⟩⟩
          have k136 : ∀ b, (b = 64 ∧ sucS T k (s j) o = none) ∨ (∃ r, b < 64 ∧ 64 * o + b = 2 * r ∧ sucS T k (s j) o = some r) → WW C 136 [some (.ref 56), some (.int (nI k)), none, none, some (.int (nI p)), some (.int (nI (s j / 32))), some (.int (nI (2 * (s j % 32)))), some (.int (nI j)), some (.int (nI (m - (j + 1)))), some (.int nx), some (.int bh), some (.int (nI o)), none, none] [.int (nI b)] σ1 := by
            intro b hb
            refine r_X12_roundAt_136 hC hR m_X12_isSong (by decide) m_X12_isDoor (by decide) m_X12_roundOf (by decide) m_X12_in (by decide) m_X12_begin (by decide) _ _ _ ?_
            simp only [T_X12_roundAt_136, x_psh, x_ild, x_lld, x_ald, x_ist, x_ast, x_lst, x_inc, x_iadd, x_isub, x_imul, x_iand, x_ior, x_ixor, x_ishl, x_ishr, x_iushr, x_idiv, x_irem, x_ladd, x_land, x_lor, x_lshl, x_lshr, x_ineg, x_i2l, x_l2i, x_i2b, x_lcmp, x_dup, x_dup2, x_if_eq, x_if_ne, x_if_lt, x_if_ge, x_if_gt, x_if_le, x_ic_eq, x_ic_ne, x_ic_lt, x_ic_ge, x_ic_gt, x_ic_le, x_getI, x_getR, x_putI, x_putZ, x_putR, x_iald, x_bald, x_lald, x_iast, x_bast, x_last, x_alen, x_acp, x_mmax, x_mmin, x_callV, x_callS, x_iret, x_zret, x_lret, x_aret, x_vret, x_tsw, x_stop, zst1, zst2, zkill, zkl, zsplit, zmask, zent, zentL, List.getElem?_cons_zero, List.getElem?_cons_succ, List.set_cons_zero, List.set_cons_succ, List.set_nil, List.length_cons, List.length_nil, List.replicate, List.nil_append, List.cons_append, List.map_cons, List.map_nil, List.sum_cons, List.sum_nil, Value.category, Option.toList, List.contains_cons, List.contains_nil, true_or, or_true, true_and, Nat.zero_le, Nat.reduceAdd, Nat.reduceLeDiff, Nat.reduceLT, Nat.reduceBEq, Bool.true_or, Bool.or_true, Bool.false_or, Bool.or_false, ↓reduceIte, Bool.false_eq_true, Nat.add_zero, Nat.zero_add, Nat.reduceEqDiff, Nat.reduceSub, g, b2i_0, ne_eq, Nat.reduceEqDiff, not_false_eq_true, not_true_eq_false, true_and, and_true, true_implies, false_implies, implies_true, and_self]
            rcases hb with ⟨rfl, hb⟩ | ⟨r, hb1, hb2, hb3⟩
            · rw [z_l64]
              refine ⟨fun _ => k168 64 (by omega) 0 (Or.inl ⟨rfl, fun e => ?_⟩), fun q => absurd rfl q⟩
              rw [e, u1] at hb
              cases hb
            · have hrr := suc_ok hL.1 hL.2 (by omega) hb3
              have l1 := hr (2 * r) (by omega)
              rw [z_l64, nI_eq (by omega) (by omega), z_ix64, nI_clamp (by omega), hb2, l1.1, nI_eq (by omega) (by omega)]
              refine ⟨fun q => absurd q (by omega), fun _ => ⟨768, rfl, vp_in_nI (by omega) (by omega), fun q2 => k168 b (by omega) 0 (Or.inl ⟨rfl, fun e => ?_⟩), fun q2 => k168 b (by omega) 1 (Or.inr ⟨rfl, ?_, fun e => ?_⟩)⟩⟩
              · rw [e, u1] at hb3
                cases hb3
                exact q2 f3
              · refine Classical.byContradiction fun hc => ?_
                exact u2 o r (by omega) hb3 q2
              · rw [e, u1] at hb3
                cases hb3
                omega
          refine r_X12_roundAt_101 hC hR m_X12_isSong (by decide) m_X12_isDoor (by decide) m_X12_roundOf (by decide) m_X12_in (by decide) m_X12_begin (by decide) _ _ _ ?_
          simp only [T_X12_roundAt_101, x_psh, x_ild, x_lld, x_ald, x_ist, x_ast, x_lst, x_inc, x_iadd, x_isub, x_imul, x_iand, x_ior, x_ixor, x_ishl, x_ishr, x_iushr, x_idiv, x_irem, x_ladd, x_land, x_lor, x_lshl, x_lshr, x_ineg, x_i2l, x_l2i, x_i2b, x_lcmp, x_dup, x_dup2, x_if_eq, x_if_ne, x_if_lt, x_if_ge, x_if_gt, x_if_le, x_ic_eq, x_ic_ne, x_ic_lt, x_ic_ge, x_ic_gt, x_ic_le, x_getI, x_getR, x_putI, x_putZ, x_putR, x_iald, x_bald, x_lald, x_iast, x_bast, x_last, x_alen, x_acp, x_mmax, x_mmin, x_callV, x_callS, x_iret, x_zret, x_lret, x_aret, x_vret, x_tsw, x_stop, zst1, zst2, zkill, zkl, zsplit, zmask, zent, zentL, List.getElem?_cons_zero, List.getElem?_cons_succ, List.set_cons_zero, List.set_cons_succ, List.set_nil, List.length_cons, List.length_nil, List.replicate, List.nil_append, List.cons_append, List.map_cons, List.map_nil, List.sum_cons, List.sum_nil, Value.category, Option.toList, List.contains_cons, List.contains_nil, true_or, or_true, true_and, Nat.zero_le, Nat.reduceAdd, Nat.reduceLeDiff, Nat.reduceLT, Nat.reduceBEq, Bool.true_or, Bool.or_true, Bool.false_or, Bool.or_false, ↓reduceIte, Bool.false_eq_true, Nat.add_zero, Nat.zero_add, Nat.reduceEqDiff, Nat.reduceSub, g, w_X12_begin, b2i_0, ne_eq, Nat.reduceEqDiff, not_false_eq_true, not_true_eq_false, true_and, and_true, true_implies, false_implies, implies_true, and_self]
          rw [eo]
          rw [nI_clamp (show s j / 32 < 2 ^ 31 by omega), hEτ _ (by omega), z_b1 (by omega) (by omega)]
          simp only [b2i_1]
          refine ⟨fun q => absurd q (nI_pos (by omega)), fun _ => ⟨12, rfl, vp_in_nI (by omega) (by omega), fun q3 => ?_, fun q3 => ⟨T, k, 2 * (s j % 32), o, hM1, rfl, hk, rfl, by omega, rfl, by omega, ?_⟩⟩⟩
          · refine k136 64 (Or.inl ⟨rfl, ?_⟩)
            unfold sucS
            rw [if_neg q3]
          · refine k136 _ ?_
            unfold sucS
            rw [if_pos q3, show 2 * (s j % 32) / 2 = s j % 32 by omega]
            rcases be_st (T := T) (k := k) (s := s j % 32) (d := o) hL.1 hL.2 with ⟨b1, b2⟩ | ⟨r, b1, b2, b3⟩
            · exact Or.inl ⟨b2, b1⟩
            · exact Or.inr ⟨r, b2, b3, b1⟩
      have hs2 : 64 * (s j / 32) + 2 * (s j % 32) = 2 * s j := by omega
      have l1 := hr (2 * s j) (by omega)
      refine r_X12_roundAt_62 hC hR m_X12_isSong (by decide) m_X12_isDoor (by decide) m_X12_roundOf (by decide) m_X12_in (by decide) m_X12_begin (by decide) _ _ _ ?_
      simp only [T_X12_roundAt_62, x_psh, x_ild, x_lld, x_ald, x_ist, x_ast, x_lst, x_inc, x_iadd, x_isub, x_imul, x_iand, x_ior, x_ixor, x_ishl, x_ishr, x_iushr, x_idiv, x_irem, x_ladd, x_land, x_lor, x_lshl, x_lshr, x_ineg, x_i2l, x_l2i, x_i2b, x_lcmp, x_dup, x_dup2, x_if_eq, x_if_ne, x_if_lt, x_if_ge, x_if_gt, x_if_le, x_ic_eq, x_ic_ne, x_ic_lt, x_ic_ge, x_ic_gt, x_ic_le, x_getI, x_getR, x_putI, x_putZ, x_putR, x_iald, x_bald, x_lald, x_iast, x_bast, x_last, x_alen, x_acp, x_mmax, x_mmin, x_callV, x_callS, x_iret, x_zret, x_lret, x_aret, x_vret, x_tsw, x_stop, zst1, zst2, zkill, zkl, zsplit, zmask, zent, zentL, List.getElem?_cons_zero, List.getElem?_cons_succ, List.set_cons_zero, List.set_cons_succ, List.set_nil, List.length_cons, List.length_nil, List.replicate, List.nil_append, List.cons_append, List.map_cons, List.map_nil, List.sum_cons, List.sum_nil, Value.category, Option.toList, List.contains_cons, List.contains_nil, true_or, or_true, true_and, Nat.zero_le, Nat.reduceAdd, Nat.reduceLeDiff, Nat.reduceLT, Nat.reduceBEq, Bool.true_or, Bool.or_true, Bool.false_or, Bool.or_false, ↓reduceIte, Bool.false_eq_true, Nat.add_zero, Nat.zero_add, Nat.reduceEqDiff, Nat.reduceSub, g, b2i_0, ne_eq, Nat.reduceEqDiff, not_false_eq_true, not_true_eq_false, true_and, and_true, true_implies, false_implies, implies_true, and_self]
      rw [z_l64, z_ix64, hs2, nI_clamp (by omega), l1.1, d3, show nI (m - j) - 1 = nI (m - (j + 1)) from pk_sub (b := 1) (by omega)]
      refine ⟨fun q => absurd q (nI_ge (by omega) (by omega)), fun _ => ⟨768, rfl, vp_in_nI (by omega) (by omega), k101 (tD T) (Nat.le_refl _) (-9) 0 (fun h => absurd h (by omega))⟩⟩
    · rw [(c5 p (by omega)).2.2.2] at hz
      refine r_X12_roundAt_62 hC hR m_X12_isSong (by decide) m_X12_isDoor (by decide) m_X12_roundOf (by decide) m_X12_in (by decide) m_X12_begin (by decide) _ _ _ ?_
      simp only [T_X12_roundAt_62, x_psh, x_ild, x_lld, x_ald, x_ist, x_ast, x_lst, x_inc, x_iadd, x_isub, x_imul, x_iand, x_ior, x_ixor, x_ishl, x_ishr, x_iushr, x_idiv, x_irem, x_ladd, x_land, x_lor, x_lshl, x_lshr, x_ineg, x_i2l, x_l2i, x_i2b, x_lcmp, x_dup, x_dup2, x_if_eq, x_if_ne, x_if_lt, x_if_ge, x_if_gt, x_if_le, x_ic_eq, x_ic_ne, x_ic_lt, x_ic_ge, x_ic_gt, x_ic_le, x_getI, x_getR, x_putI, x_putZ, x_putR, x_iald, x_bald, x_lald, x_iast, x_bast, x_last, x_alen, x_acp, x_mmax, x_mmin, x_callV, x_callS, x_iret, x_zret, x_lret, x_aret, x_vret, x_tsw, x_stop, zst1, zst2, zkill, zkl, zsplit, zmask, zent, zentL, List.getElem?_cons_zero, List.getElem?_cons_succ, List.set_cons_zero, List.set_cons_succ, List.set_nil, List.length_cons, List.length_nil, List.replicate, List.nil_append, List.cons_append, List.map_cons, List.map_nil, List.sum_cons, List.sum_nil, Value.category, Option.toList, List.contains_cons, List.contains_nil, true_or, or_true, true_and, Nat.zero_le, Nat.reduceAdd, Nat.reduceLeDiff, Nat.reduceLT, Nat.reduceBEq, Bool.true_or, Bool.or_true, Bool.false_or, Bool.or_false, ↓reduceIte, Bool.false_eq_true, Nat.add_zero, Nat.zero_add, Nat.reduceEqDiff, Nat.reduceSub, g, b2i_0, ne_eq, Nat.reduceEqDiff, not_false_eq_true, not_true_eq_false, true_and, and_true, true_implies, false_implies, implies_true, and_self]
      exact ⟨fun _ => hz, fun q => absurd (nI_le (Nat.le_refl _) (by omega)) q⟩
