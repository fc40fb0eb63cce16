def w_X12_safe : WPt := fun args σ Q => match args with
  | [.ref x, .int d, .int y, .int z, .int i] => x = 56 ∧ PubN σ (q_safe · d y z i) Q
  | _ => False
theorem JQ.k {σ τ τ' : ZS} (h : JQ σ τ) (g : JQ τ τ') : JQ σ τ' := ⟨g.1.trans h.1, g.2.1.trans h.2.1, g.2.2.1.trans h.2.2.1, fun i h1 h2 => (g.2.2.2 i h1 h2).trans (h.2.2.2 i h1 h2)⟩
theorem z_rem64 {a : Nat} (ha : a < 2 ^ 31) : nI a - nI a / nI 64 * nI 64 = nI (a % 64) := pk_rem ha (by decide) (by decide)
theorem z_div64 {a : Nat} (ha : a < 2 ^ 31) : nI a / nI 64 = nI (a / 64) := pk_div ha (by decide) (by decide)
theorem z_rem64' {a : Nat} (ha : a < 2 ^ 31) : nI a - nI (a / 64) * nI 64 = nI (a % 64) := by rw [← z_div64 ha]; exact z_rem64 ha
theorem z_ix64 {p d : Nat} : nI 64 * nI p + nI d = nI (64 * p + d) := by rw [pk_mul, nI_add]
theorem i_in12 (i : Int32) : (((0 : Int64) ≤ i.toInt64 ∧ i.toInt64 ≤ 12) = True ∧ ∃ v, v ≤ 12 ∧ i = nI v ∧ ix i 13 = some v) ∨ (((0 : Int64) ≤ i.toInt64 ∧ i.toInt64 ≤ 12) = False ∧ ix i 13 = none) := by
  rw [in_12]
  rcases ix_cs i (n := 13) (by decide) with ⟨k, hk, rfl, h1, h2⟩ | ⟨h1, h2⟩
  · exact Or.inl ⟨h2, k, by omega, rfl, h1⟩
  · exact Or.inr ⟨h2, h1⟩
set_option maxHeartbeats 4000000 in
theorem m_X12_safe : Meets yX12_safe cX12_safe 10 (some .long) 3 w_X12_safe := by
  refine Meets.mk (by decide) fun args σ Φ h => ?_
  unfold w_X12_safe at h
  split at h
  rotate_left
  · exact h.elim
  rename_i x d y z i
  obtain ⟨x, rfl⟩ : ∃ q : Nat, q = x := ⟨x, rfl⟩
  obtain ⟨hx, A, hK, hA, hQ⟩ := h
  subst hx
  refine ⟨Nat.le_of_ble_eq_true rfl, fun C hC hR => ?_⟩
  have hf := mod_f hK
  have hN := hA.1
  have hD1 := hA.t.1
  have hD := hA.t.2.1
  have hS := hA.t.2.2.1
  have hW := hA.2.2.1.2.1
  have hE := hA.2.2.1.2.2.1
  have hp := z_pow31 hD
  have hV := hK.2
  refine r_X12_safe_0 hC hR m_X12_isSong (by decide) m_X12_isDoor (by decide) m_X12_in (by decide) m_X12_begin (by decide) _ _ _ ?_
  simp only [T_X12_safe_0, x_psh, x_ild, x_lld, x_ald, x_ist, x_ast, x_lst, x_inc, x_iadd, x_isub, x_imul, x_iand, x_ior, x_ixor, x_ishl, x_ishr, x_iushr, x_idiv, x_irem, x_ladd, x_land, x_lor, x_lshl, x_lshr, x_ineg, x_i2l, x_l2i, x_i2b, x_lcmp, x_dup, x_dup2, x_if_eq, x_if_ne, x_if_lt, x_if_ge, x_if_gt, x_if_le, x_ic_eq, x_ic_ne, x_ic_lt, x_ic_ge, x_ic_gt, x_ic_le, x_getI, x_getR, x_putI, x_putZ, x_putR, x_iald, x_bald, x_lald, x_iast, x_bast, x_last, x_alen, x_acp, x_mmax, x_mmin, x_callV, x_callS, x_iret, x_zret, x_lret, x_aret, x_vret, x_tsw, x_stop, zst1, zst2, zkill, zkl, zsplit, zmask, zent, zentL, List.getElem?_cons_zero, List.getElem?_cons_succ, List.set_cons_zero, List.set_cons_succ, List.set_nil, List.length_cons, List.length_nil, List.replicate, List.nil_append, List.cons_append, List.map_cons, List.map_nil, List.sum_cons, List.sum_nil, Value.category, Option.toList, List.contains_cons, List.contains_nil, true_or, or_true, true_and, Nat.zero_le, Nat.reduceAdd, Nat.reduceLeDiff, Nat.reduceLT, Nat.reduceBEq, Bool.true_or, Bool.or_true, Bool.false_or, Bool.or_false, ↓reduceIte, Bool.false_eq_true, Nat.add_zero, Nat.zero_add, Nat.reduceEqDiff, Nat.reduceSub, hf, w_X12_isSong, w_X12_isDoor, w_X12_in, w_X12_begin, b2i_0, ne_eq, Nat.reduceEqDiff, not_false_eq_true, not_true_eq_false, true_and, and_true, true_implies, false_implies, implies_true, and_self]
  unfold q_safe at hQ
  refine ⟨tS (aT A), rfl, by omega, ?_⟩
  have hbad : ∀ c : Int32, (c = d ∧ ix d (tS (aT A)) = none) ∨ (c = y ∧ ix y (tD (aT A)) = none) ∨ (c = z ∧ ix z (tD (aT A)) = none) → sdd (aT A) d y z = none := by
    intro c hc
    unfold sdd
    rcases hc with ⟨_, h⟩ | ⟨_, h⟩ | ⟨_, h⟩
    · rw [h]
    · rw [h]; cases ix d (tS (aT A)) <;> rfl
    · rw [h]; cases ix d (tS (aT A)) <;> cases ix y (tD (aT A)) <;> rfl
  rcases ix_cs d (show tS (aT A) < 2 ^ 31 by omega) with ⟨k, hk, rfl, h1, h2⟩ | ⟨h1, h2⟩
  rotate_left
  · simp only [hbad d (Or.inl ⟨rfl, h1⟩)] at hQ
    simp only [h2, b2i_0, ne_eq, Nat.reduceEqDiff, not_false_eq_true, not_true_eq_false, true_and, and_true, true_implies, false_implies, implies_true, and_self]
    exact hQ σ (ZF.refl _ _ _) hK
  simp only [h2, b2i_0, ne_eq, Nat.reduceEqDiff, not_false_eq_true, not_true_eq_false, true_and, and_true, true_implies, false_implies, implies_true, and_self]
  refine ⟨tD (aT A), rfl, hD, ?_⟩
  rcases ix_cs y (show tD (aT A) < 2 ^ 31 by omega) with ⟨fr, hfr, rfl, h3, h4⟩ | ⟨h3, h4⟩
  rotate_left
  · simp only [hbad y (Or.inr (Or.inl ⟨rfl, h3⟩))] at hQ
    simp only [h4, b2i_0, ne_eq, Nat.reduceEqDiff, not_false_eq_true, not_true_eq_false, true_and, and_true, true_implies, false_implies, implies_true, and_self]
    exact hQ σ (ZF.refl _ _ _) hK
  simp only [h4, b2i_0, ne_eq, Nat.reduceEqDiff, not_false_eq_true, not_true_eq_false, true_and, and_true, true_implies, false_implies, implies_true, and_self]
  refine ⟨tD (aT A), rfl, hD, ?_⟩
  rcases ix_cs z (show tD (aT A) < 2 ^ 31 by omega) with ⟨to, hto, rfl, h5, h6⟩ | ⟨h5, h6⟩
  rotate_left
  · simp only [hbad z (Or.inr (Or.inr ⟨rfl, h5⟩))] at hQ
    simp only [h6, b2i_0, ne_eq, Nat.reduceEqDiff, not_false_eq_true, not_true_eq_false, true_and, and_true, true_implies, false_implies, implies_true, and_self]
    exact hQ σ (ZF.refl _ _ _) hK
  simp only [h6, b2i_0, ne_eq, Nat.reduceEqDiff, not_false_eq_true, not_true_eq_false, true_and, and_true, true_implies, false_implies, implies_true, and_self]
  have hsd : sdd (aT A) (nI k) (nI fr) (nI to) = some (k, fr, to) := by
    unfold sdd
    rw [h1, h3, h5]
  simp only [hsd] at hQ
  rcases i_in12 i with ⟨h7, n, hn, rfl, h8⟩ | ⟨h7, h8⟩
  rotate_left
  · simp only [h8] at hQ
    simp only [h7, b2i_0, ne_eq, Nat.reduceEqDiff, not_false_eq_true, not_true_eq_false, true_and, and_true, true_implies, false_implies, implies_true, and_self]
    exact hQ σ (ZF.refl _ _ _) hK
  simp only [h8] at hQ
  simp only [h7, b2i_0, ne_eq, Nat.reduceEqDiff, not_false_eq_true, not_true_eq_false, true_and, and_true, true_implies, false_implies, implies_true, and_self]
  have hM := MdT.of hK hA
  have hT := hA.t
  have hL := hA.l hk
  refine ⟨aT A, k, 0, fr, hM, rfl, hk, rfl, by omega, rfl, hfr, ?_⟩
  have hz0 : ∀ τ, JQ σ τ → ModR τ A := fun τ hq => hq.m.r hK
  have hz1 : ∀ τ, JQ σ τ → _ := fun τ hq => mod_f (hz0 τ hq)
  generalize hTT : aT A = T at *
  have hMτ : ∀ τ, JQ σ τ → MdT τ T := fun τ hq => hM.q hq.m
  have hgτ : ∀ τ, JQ σ τ → ModR τ A := fun τ hq => hq.m.r hK
  have hEτ : ∀ τ, JQ σ τ → ∀ j, j < 12 → zI τ 62 j = nI (tE T j) := fun τ hq j hj => (hMτ τ hq).2.1.2.2.2.1 j hj
  have hDτ : ∀ τ, JQ σ τ → zI τ 56 10 = nI (tD T) := fun τ hq => (hMτ τ hq).2.1.1
  -- the counts
  obtain ⟨c0, hc0, hc1⟩ : ∃ c0 : Nat → Nat → Nat, (∀ τ, JQ σ τ → Φ (some (.long (lN (sumN (fun j => c0 n (32 * to + j)) 32)))) τ) ∧ (∀ m, m ≤ 12 → ∀ r, r < 384 → c0 m r < 2 ^ 63) ∧ (∀ m, c0 (m + 1) = csN T k (c0 m) 384) ∧ (∀ m r, tD T ≤ r / 32 → c0 m r = 0) ∧ (∀ j, j < 768 → xpN (c0 0) j = if beN T k 0 fr ≠ 64 ∧ j = 64 * fr + beN T k 0 fr then 1 else 0) := by
    rcases be_st (T := T) (k := k) (s := 0) (d := fr) hL.1 hL.2 with ⟨e1, e2⟩ | ⟨a, e1, e2, e3⟩
    · refine ⟨fun _ _ => 0, fun τ hq => ?_, fun _ _ _ _ => Nat.two_pow_pos 63, fun m => ?_, fun _ _ _ => rfl, fun j _ => ?_⟩
      · have := hQ τ hq.m.z (hq.m.r hK)
        rw [show sfI T k fr to n = 0 by unfold sfI; rw [e1]] at this
        exact this
      · have := csN_stop (T := T) (k := k) (c := fun _ => 0) (s := 0) (fun _ _ => rfl) 384
        rw [Nat.zero_add] at this
        rw [this]
        rfl
      · rw [e2, if_neg (by simp)]
        unfold xpN
        split <;> rfl
    · refine ⟨cnN T k a, fun τ hq => ?_, fun m hm r hr => cnN_lt hD k a hm hr, fun m => rfl, ?_, fun j _ => ?_⟩
      · have := hQ τ hq.m.z (hq.m.r hK)
        rw [show sfI T k fr to n = lN (sumN (fun j => cnN T k a n (32 * to + j)) 32) by unfold sfI; rw [e1]; show sumL (fun j => cnI T k a n (32 * to + j)) 32 = _; rw [cnI_N]; exact sumL_N _ _] at this
        exact this
      · exact cnN_out hL.1 hL.2 (by rw [(stO_div hL.1 hL.2 e1).1]; exact hfr)
      · unfold xpN
        show (if j % 2 = 0 then (if j / 2 = a then 1 else 0) else 0) = _
        by_cases hj : j = 2 * a
        · rw [if_pos (by omega), if_pos (by omega), if_pos ⟨by omega, by omega⟩]
        · have hne : ¬ (beN T k 0 fr ≠ 64 ∧ j = 64 * fr + beN T k 0 fr) := fun h => by have := h.2; omega
          rw [if_neg hne]
          split
          · rw [if_neg (by omega)]
          · rfl
  obtain ⟨hcb, hcs, hco, hc00⟩ := hc1
  clear hQ
  have hb64 := beN_le (T := T) (k := k) (s := 0) (d := fr) hL.1 hL.2
  -- the sum
  have k299 : ∀ τ, JQ σ τ → (∀ j, j < 768 → zJ τ 69 j = lN (xpN (c0 n) j)) → ∀ j, j ≤ 64 → WW C 299 [some (.ref 56), none, none, some (.int (nI to)), none, none, some (.long (lN (sumN (fun j => xpN (c0 n) (64 * to + j)) j))), none, some (.int (nI j)), none] [] τ := by
    intro τ hq h69
    have g := hz1 τ hq
    refine zloop (P := fun j => WW C 299 [some (.ref 56), none, none, some (.int (nI to)), none, none, some (.long (lN (sumN (fun j => xpN (c0 n) (64 * to + j)) j))), none, some (.int (nI j)), none] [] τ) 64 (fun j hj ih => ?_) ?_
    · refine r_X12_safe_299 hC hR m_X12_isSong (by decide) m_X12_isDoor (by decide) m_X12_in (by decide) m_X12_begin (by decide) _ _ _ ?_
      simp only [T_X12_safe_299, x_psh, x_ild, x_lld, x_ald, x_ist, x_ast, x_lst, x_inc, x_iadd, x_isub, x_imul, x_iand, x_ior, x_ixor, x_ishl, x_ishr, x_iushr, x_idiv, x_irem, x_ladd, x_land, x_lor, x_lshl, x_lshr, x_ineg, x_i2l, x_l2i, x_i2b, x_lcmp, x_dup, x_dup2, x_if_eq, x_if_ne, x_if_lt, x_if_ge, x_if_gt, x_if_le, x_ic_eq, x_ic_ne, x_ic_lt, x_ic_ge, x_ic_gt, x_ic_le, x_getI, x_getR, x_putI, x_putZ, x_putR, x_iald, x_bald, x_lald, x_iast, x_bast, x_last, x_alen, x_acp, x_mmax, x_mmin, x_callV, x_callS, x_iret, x_zret, x_lret, x_aret, x_vret, x_tsw, x_stop, zst1, zst2, zkill, zkl, zsplit, zmask, zent, zentL, List.getElem?_cons_zero, List.getElem?_cons_succ, List.set_cons_zero, List.set_cons_succ, List.set_nil, List.length_cons, List.length_nil, List.replicate, List.nil_append, List.cons_append, List.map_cons, List.map_nil, List.sum_cons, List.sum_nil, Value.category, Option.toList, List.contains_cons, List.contains_nil, true_or, or_true, true_and, Nat.zero_le, Nat.reduceAdd, Nat.reduceLeDiff, Nat.reduceLT, Nat.reduceBEq, Bool.true_or, Bool.or_true, Bool.false_or, Bool.or_false, ↓reduceIte, Bool.false_eq_true, Nat.add_zero, Nat.zero_add, Nat.reduceEqDiff, Nat.reduceSub, g, b2i_0, ne_eq, Nat.reduceEqDiff, not_false_eq_true, not_true_eq_false, true_and, and_true, true_implies, false_implies, implies_true, and_self]
      rw [z_l64, z_ix64, nI_clamp (by omega), h69 _ (by omega), lN_add, nI_i3]
      exact ⟨fun q => absurd q (nI_ge (by omega) (by omega)), fun _ => ⟨768, rfl, vp_in_nI (by omega) (by omega), ih⟩⟩
    · refine r_X12_safe_299 hC hR m_X12_isSong (by decide) m_X12_isDoor (by decide) m_X12_in (by decide) m_X12_begin (by decide) _ _ _ ?_
      simp only [T_X12_safe_299, x_psh, x_ild, x_lld, x_ald, x_ist, x_ast, x_lst, x_inc, x_iadd, x_isub, x_imul, x_iand, x_ior, x_ixor, x_ishl, x_ishr, x_iushr, x_idiv, x_irem, x_ladd, x_land, x_lor, x_lshl, x_lshr, x_ineg, x_i2l, x_l2i, x_i2b, x_lcmp, x_dup, x_dup2, x_if_eq, x_if_ne, x_if_lt, x_if_ge, x_if_gt, x_if_le, x_ic_eq, x_ic_ne, x_ic_lt, x_ic_ge, x_ic_gt, x_ic_le, x_getI, x_getR, x_putI, x_putZ, x_putR, x_iald, x_bald, x_lald, x_iast, x_bast, x_last, x_alen, x_acp, x_mmax, x_mmin, x_callV, x_callS, x_iret, x_zret, x_lret, x_aret, x_vret, x_tsw, x_stop, zst1, zst2, zkill, zkl, zsplit, zmask, zent, zentL, List.getElem?_cons_zero, List.getElem?_cons_succ, List.set_cons_zero, List.set_cons_succ, List.set_nil, List.length_cons, List.length_nil, List.replicate, List.nil_append, List.cons_append, List.map_cons, List.map_nil, List.sum_cons, List.sum_nil, Value.category, Option.toList, List.contains_cons, List.contains_nil, true_or, or_true, true_and, Nat.zero_le, Nat.reduceAdd, Nat.reduceLeDiff, Nat.reduceLT, Nat.reduceBEq, Bool.true_or, Bool.or_true, Bool.false_or, Bool.or_false, ↓reduceIte, Bool.false_eq_true, Nat.add_zero, Nat.zero_add, Nat.reduceEqDiff, Nat.reduceSub, g, b2i_0, ne_eq, Nat.reduceEqDiff, not_false_eq_true, not_true_eq_false, true_and, and_true, true_implies, false_implies, implies_true, and_self]
      refine ⟨fun _ => ?_, fun q => absurd (by decide) q⟩
      have := hc0 τ hq
      rw [← sum_xp (c0 n) to 32] at this
      exact this
  -- the steps
  have k105 := zloop (P := fun m => ∀ τ, JQ σ τ → (∀ j, j < 768 → zJ τ 69 j = lN (xpN (c0 m) j)) → WW C 105 [some (.ref 56), some (.int (nI k)), none, some (.int (nI to)), some (.int (nI n)), none, some (.int (nI m)), none, none, none] [] τ) n (fun m hm ih τ hq h69 => ?_) (fun τ hq h69 => ?_) 0 (by omega)
  · -- the first row
    have k57 := zloop (P := fun j => ∀ τ, JQ σ τ → (∀ i, i < j → zJ τ 69 i = lN (xpN (c0 0) i)) → WW C 57 [some (.ref 56), some (.int (nI k)), some (.int (nI fr)), some (.int (nI to)), some (.int (nI n)), some (.int (nI (beN T k 0 fr))), some (.int (nI j)), none, none, none] [] τ) 768 (fun j hj ih τ hq h69 => ?_) (fun τ hq h69 => ?_) 0 (by omega)
    · exact k57 σ (JQ.refl _) (fun i hi => absurd hi (Nat.not_lt_zero i))
    · have g := hz1 τ hq
      have fin : ∀ v, v = lN (xpN (c0 0) j) → WW C 57 [some (.ref 56), some (.int (nI k)), some (.int (nI fr)), some (.int (nI to)), some (.int (nI n)), some (.int (nI (beN T k 0 fr))), some (.int (nI (j + 1))), none, none, none] [] (sJ τ 69 j v) := by
        rintro v rfl
        refine ih _ (hq.s (by omega)) (fun i hi => ?_)
        rw [zJ_at]
        by_cases e : i = j
        · rw [if_pos e, e]
        · rw [if_neg e]; exact h69 i (by omega)
      have h00 := hc00 j hj
      refine r_X12_safe_57 hC hR m_X12_isSong (by decide) m_X12_isDoor (by decide) m_X12_in (by decide) m_X12_begin (by decide) _ _ _ ?_
      simp only [T_X12_safe_57, x_psh, x_ild, x_lld, x_ald, x_ist, x_ast, x_lst, x_inc, x_iadd, x_isub, x_imul, x_iand, x_ior, x_ixor, x_ishl, x_ishr, x_iushr, x_idiv, x_irem, x_ladd, x_land, x_lor, x_lshl, x_lshr, x_ineg, x_i2l, x_l2i, x_i2b, x_lcmp, x_dup, x_dup2, x_if_eq, x_if_ne, x_if_lt, x_if_ge, x_if_gt, x_if_le, x_ic_eq, x_ic_ne, x_ic_lt, x_ic_ge, x_ic_gt, x_ic_le, x_getI, x_getR, x_putI, x_putZ, x_putR, x_iald, x_bald, x_lald, x_iast, x_bast, x_last, x_alen, x_acp, x_mmax, x_mmin, x_callV, x_callS, x_iret, x_zret, x_lret, x_aret, x_vret, x_tsw, x_stop, zst1, zst2, zkill, zkl, zsplit, zmask, zent, zentL, List.getElem?_cons_zero, List.getElem?_cons_succ, List.set_cons_zero, List.set_cons_succ, List.set_nil, List.length_cons, List.length_nil, List.replicate, List.nil_append, List.cons_append, List.map_cons, List.map_nil, List.sum_cons, List.sum_nil, Value.category, Option.toList, List.contains_cons, List.contains_nil, true_or, or_true, true_and, Nat.zero_le, Nat.reduceAdd, Nat.reduceLeDiff, Nat.reduceLT, Nat.reduceBEq, Bool.true_or, Bool.or_true, Bool.false_or, Bool.or_false, ↓reduceIte, Bool.false_eq_true, Nat.add_zero, Nat.zero_add, Nat.reduceEqDiff, Nat.reduceSub, g, b2i_0, ne_eq, Nat.reduceEqDiff, not_false_eq_true, not_true_eq_false, true_and, and_true, true_implies, false_implies, implies_true, and_self]
      rw [z_l768, z_l64, z_ix64, nI_clamp (by omega), nI_i3, nI_eq (by omega) (by omega), nI_eq (by omega) (by omega)]
      refine ⟨fun q => absurd q (nI_ge (by omega) (by omega)), fun _ => ⟨fun q => ⟨768, rfl, vp_in_nI (by omega) (by omega), fin _ ?_⟩, fun q => ⟨fun q2 => ⟨768, rfl, vp_in_nI (by omega) (by omega), fin _ ?_⟩, fun q2 => ⟨768, rfl, vp_in_nI (by omega) (by omega), fin _ ?_⟩⟩⟩⟩
      · rw [h00, if_neg (fun h => h.1 q)]; rfl
      · rw [h00, if_neg (fun h => q2 h.2)]; rfl
      · rw [h00, if_pos ⟨q, q2⟩]; rfl
    · refine r_X12_safe_57 hC hR m_X12_isSong (by decide) m_X12_isDoor (by decide) m_X12_in (by decide) m_X12_begin (by decide) _ _ _ ?_
      simp only [T_X12_safe_57, x_psh, x_ild, x_lld, x_ald, x_ist, x_ast, x_lst, x_inc, x_iadd, x_isub, x_imul, x_iand, x_ior, x_ixor, x_ishl, x_ishr, x_iushr, x_idiv, x_irem, x_ladd, x_land, x_lor, x_lshl, x_lshr, x_ineg, x_i2l, x_l2i, x_i2b, x_lcmp, x_dup, x_dup2, x_if_eq, x_if_ne, x_if_lt, x_if_ge, x_if_gt, x_if_le, x_ic_eq, x_ic_ne, x_ic_lt, x_ic_ge, x_ic_gt, x_ic_le, x_getI, x_getR, x_putI, x_putZ, x_putR, x_iald, x_bald, x_lald, x_iast, x_bast, x_last, x_alen, x_acp, x_mmax, x_mmin, x_callV, x_callS, x_iret, x_zret, x_lret, x_aret, x_vret, x_tsw, x_stop, zst1, zst2, zkill, zkl, zsplit, zmask, zent, zentL, List.getElem?_cons_zero, List.getElem?_cons_succ, List.set_cons_zero, List.set_cons_succ, List.set_nil, List.length_cons, List.length_nil, List.replicate, List.nil_append, List.cons_append, List.map_cons, List.map_nil, List.sum_cons, List.sum_nil, Value.category, Option.toList, List.contains_cons, List.contains_nil, true_or, or_true, true_and, Nat.zero_le, Nat.reduceAdd, Nat.reduceLeDiff, Nat.reduceLT, Nat.reduceBEq, Bool.true_or, Bool.or_true, Bool.false_or, Bool.or_false, ↓reduceIte, Bool.false_eq_true, Nat.add_zero, Nat.zero_add, Nat.reduceEqDiff, Nat.reduceSub, b2i_0, ne_eq, Nat.reduceEqDiff, not_false_eq_true, not_true_eq_false, true_and, and_true, true_implies, false_implies, implies_true, and_self]
      refine ⟨fun _ => k105 τ hq h69, fun q => absurd (by decide) q⟩
  · -- one step
    have k259 := zloop (P := fun j => ∀ τ, JQ σ τ → (∀ i, i < 768 → zJ τ 70 i = lN (xpN (c0 (m + 1)) i)) → (∀ i, i < j → zJ τ 69 i = lN (xpN (c0 (m + 1)) i)) → WW C 259 [some (.ref 56), some (.int (nI k)), none, some (.int (nI to)), some (.int (nI n)), none, some (.int (nI m)), some (.int (nI j)), none, none] [] τ) 768 (fun j hj ih τ hq h70 h69 => ?_) (fun τ hq h70 h69 => ?_) 0 (by omega)
    · have k140 : ∀ r q, q + r = 64 * tD T → ∀ τ, JQ σ τ → (∀ j, j < 768 → zJ τ 69 j = lN (xpN (c0 m) j)) → (∀ i, i < 768 → zJ τ 70 i = lN (xpN (csN T k (c0 m) ((q + 1) / 2)) i)) → WW C 140 [some (.ref 56), some (.int (nI k)), none, some (.int (nI to)), some (.int (nI n)), none, some (.int (nI m)), some (.int (nI q)), none, none] [] τ := by
        intro r
        induction r with
        | zero =>
          intro q hqr τ hq h69 h70
          have g := hz1 τ hq
          have hd := hDτ τ hq
          refine r_X12_safe_140 hC hR m_X12_isSong (by decide) m_X12_isDoor (by decide) m_X12_in (by decide) m_X12_begin (by decide) _ _ _ ?_
          simp only [T_X12_safe_140, x_psh, x_ild, x_lld, x_ald, x_ist, x_ast, x_lst, x_inc, x_iadd, x_isub, x_imul, x_iand, x_ior, x_ixor, x_ishl, x_ishr, x_iushr, x_idiv, x_irem, x_ladd, x_land, x_lor, x_lshl, x_lshr, x_ineg, x_i2l, x_l2i, x_i2b, x_lcmp, x_dup, x_dup2, x_if_eq, x_if_ne, x_if_lt, x_if_ge, x_if_gt, x_if_le, x_ic_eq, x_ic_ne, x_ic_lt, x_ic_ge, x_ic_gt, x_ic_le, x_getI, x_getR, x_putI, x_putZ, x_putR, x_iald, x_bald, x_lald, x_iast, x_bast, x_last, x_alen, x_acp, x_mmax, x_mmin, x_callV, x_callS, x_iret, x_zret, x_lret, x_aret, x_vret, x_tsw, x_stop, zst1, zst2, zkill, zkl, zsplit, zmask, zent, zentL, List.getElem?_cons_zero, List.getElem?_cons_succ, List.set_cons_zero, List.set_cons_succ, List.set_nil, List.length_cons, List.length_nil, List.replicate, List.nil_append, List.cons_append, List.map_cons, List.map_nil, List.sum_cons, List.sum_nil, Value.category, Option.toList, List.contains_cons, List.contains_nil, true_or, or_true, true_and, Nat.zero_le, Nat.reduceAdd, Nat.reduceLeDiff, Nat.reduceLT, Nat.reduceBEq, Bool.true_or, Bool.or_true, Bool.false_or, Bool.or_false, ↓reduceIte, Bool.false_eq_true, Nat.add_zero, Nat.zero_add, Nat.reduceEqDiff, Nat.reduceSub, g, hd, b2i_0, ne_eq, Nat.reduceEqDiff, not_false_eq_true, not_true_eq_false, true_and, and_true, true_implies, false_implies, implies_true, and_self]
          rw [z_l64, pk_mul]
          refine ⟨fun _ => k259 τ hq (fun i hi => ?_) (fun i hi => absurd hi (Nat.not_lt_zero i)), fun q => absurd (nI_le (by omega) (by omega)) q⟩
          rw [h70 i hi, hcs m]
          have := csN_stop (T := T) (k := k) (c := c0 m) (s := (q + 1) / 2) (fun r hr => hco m r (by omega)) (384 - (q + 1) / 2)
          rw [show (q + 1) / 2 + (384 - (q + 1) / 2) = 384 by omega] at this
          rw [this]
        | succ r ihr =>
          intro q hqr τ0 hq0 h690 h700
          have g0 := hz1 τ0 hq0
          have hd0 := hDτ τ0 hq0
          have hq768 : q < 768 := by omega
          -- the doors around
          have k155 : ∀ o, o ≤ tD T → ∀ τ, JQ σ τ → (∀ j, j < 768 → zJ τ 69 j = lN (xpN (c0 m) j)) → (∀ i, i < 768 → zJ τ 70 i = lN (xpN (caN T k (xpN (c0 m) q) (q / 2) (csN T k (c0 m) ((q + 1) / 2)) o) i)) → WW C 155 [some (.ref 56), some (.int (nI k)), none, some (.int (nI to)), some (.int (nI n)), none, some (.int (nI m)), some (.int (nI q)), some (.int (nI o)), none] [] τ := by
            have hend : ∀ τ, JQ σ τ → (∀ j, j < 768 → zJ τ 69 j = lN (xpN (c0 m) j)) → (∀ i, i < 768 → zJ τ 70 i = lN (xpN (caN T k (xpN (c0 m) q) (q / 2) (csN T k (c0 m) ((q + 1) / 2)) (tD T)) i)) → WW C 140 [some (.ref 56), some (.int (nI k)), none, some (.int (nI to)), some (.int (nI n)), none, some (.int (nI m)), some (.int (nI (q + 1))), none, none] [] τ := by
              intro τ hq h69 h70
              refine ihr (q + 1) (by omega) τ hq h69 (fun i hi => ?_)
              rw [h70 i hi]
              by_cases e : q % 2 = 0
              · rw [show (q + 1) / 2 = q / 2 by omega, show (q + 1 + 1) / 2 = q / 2 + 1 by omega, csN, show xpN (c0 m) q = c0 m (q / 2) from if_pos e]
              · rw [show xpN (c0 m) q = 0 from if_neg e, caN_0, show (q + 1 + 1) / 2 = (q + 1) / 2 by omega]
            refine zloop (P := fun o => ∀ τ, JQ σ τ → (∀ j, j < 768 → zJ τ 69 j = lN (xpN (c0 m) j)) → (∀ i, i < 768 → zJ τ 70 i = lN (xpN (caN T k (xpN (c0 m) q) (q / 2) (csN T k (c0 m) ((q + 1) / 2)) o) i)) → WW C 155 [some (.ref 56), some (.int (nI k)), none, some (.int (nI to)), some (.int (nI n)), none, some (.int (nI m)), some (.int (nI q)), some (.int (nI o)), none] [] τ) (tD T) (fun o ho ih2 τ hq h69 h70 => ?_) (fun τ hq h69 h70 => ?_)
            · have g := hz1 τ hq
              have hd := hDτ τ hq
              have hEd := hT.e (q / 64)
              have hxb : xpN (c0 m) q < 2 ^ 63 := by
                unfold xpN
                split
                · exact hcb m (by omega) _ (by omega)
                · decide
              have k212 : ∀ b, (b = 64 ∧ caN T k (xpN (c0 m) q) (q / 2) (csN T k (c0 m) ((q + 1) / 2)) (o + 1) = caN T k (xpN (c0 m) q) (q / 2) (csN T k (c0 m) ((q + 1) / 2)) o) ∨ (∃ r, b < 64 ∧ 64 * o + b = 2 * r ∧ caN T k (xpN (c0 m) q) (q / 2) (csN T k (c0 m) ((q + 1) / 2)) (o + 1) = va_up (caN T k (xpN (c0 m) q) (q / 2) (csN T k (c0 m) ((q + 1) / 2)) o) r (caN T k (xpN (c0 m) q) (q / 2) (csN T k (c0 m) ((q + 1) / 2)) o r + xpN (c0 m) q)) → WW C 212 [some (.ref 56), some (.int (nI k)), none, some (.int (nI to)), some (.int (nI n)), none, some (.int (nI m)), some (.int (nI q)), some (.int (nI o)), none] [.int (nI b)] τ := by
                intro b hb
                refine r_X12_safe_212 hC hR m_X12_isSong (by decide) m_X12_isDoor (by decide) m_X12_in (by decide) m_X12_begin (by decide) _ _ _ ?_
                simp only [T_X12_safe_212, x_psh, x_ild, x_lld, x_ald, x_ist, x_ast, x_lst, x_inc, x_iadd, x_isub, x_imul, x_iand, x_ior, x_ixor, x_ishl, x_ishr, x_iushr, x_idiv, x_irem, x_ladd, x_land, x_lor, x_lshl, x_lshr, x_ineg, x_i2l, x_l2i, x_i2b, x_lcmp, x_dup, x_dup2, x_if_eq, x_if_ne, x_if_lt, x_if_ge, x_if_gt, x_if_le, x_ic_eq, x_ic_ne, x_ic_lt, x_ic_ge, x_ic_gt, x_ic_le, x_getI, x_getR, x_putI, x_putZ, x_putR, x_iald, x_bald, x_lald, x_iast, x_bast, x_last, x_alen, x_acp, x_mmax, x_mmin, x_callV, x_callS, x_iret, x_zret, x_lret, x_aret, x_vret, x_tsw, x_stop, zst1, zst2, zkill, zkl, zsplit, zmask, zent, zentL, List.getElem?_cons_zero, List.getElem?_cons_succ, List.set_cons_zero, List.set_cons_succ, List.set_nil, List.length_cons, List.length_nil, List.replicate, List.nil_append, List.cons_append, List.map_cons, List.map_nil, List.sum_cons, List.sum_nil, Value.category, Option.toList, List.contains_cons, List.contains_nil, true_or, or_true, true_and, Nat.zero_le, Nat.reduceAdd, Nat.reduceLeDiff, Nat.reduceLT, Nat.reduceBEq, Bool.true_or, Bool.or_true, Bool.false_or, Bool.or_false, ↓reduceIte, Bool.false_eq_true, Nat.add_zero, Nat.zero_add, Nat.reduceEqDiff, Nat.reduceSub, g, b2i_0, ne_eq, Nat.reduceEqDiff, not_false_eq_true, not_true_eq_false, true_and, and_true, true_implies, false_implies, implies_true, and_self]
                rcases hb with ⟨rfl, hb⟩ | ⟨r, hb1, hb2, hb3⟩
                · rw [z_l64, nI_i3]
                  refine ⟨fun _ => ih2 τ hq h69 ?_, fun q => absurd rfl q⟩
                  rw [hb]
                  exact h70
                · rw [z_l64, nI_eq (by omega) (by omega), z_ix64, nI_i3, nI_clamp (by omega), nI_clamp (by omega), h69 q hq768, h70 _ (by omega), lN_add]
                  refine ⟨fun q => absurd q (by omega), fun _ => ⟨768, rfl, vp_in_nI (by omega) (by omega), 768, rfl, vp_in_nI (by omega) (by omega), 768, rfl, vp_in_nI (by omega) (by omega), ih2 _ (hq.s (by omega)) (fun j hj => by rw [zJ_off _ _ _ (by decide)]; exact h69 j hj) (fun i hi => ?_)⟩⟩
                  rw [zJ_at, hb3, xp_up, hb2]
                  by_cases e : i = 2 * r
                  · rw [if_pos e, if_pos e, e]
                  · rw [if_neg e, if_neg e]; exact h70 i hi
              refine r_X12_safe_155 hC hR m_X12_isSong (by decide) m_X12_isDoor (by decide) m_X12_in (by decide) m_X12_begin (by decide) _ _ _ ?_
              simp only [T_X12_safe_155, x_psh, x_ild, x_lld, x_ald, x_ist, x_ast, x_lst, x_inc, x_iadd, x_isub, x_imul, x_iand, x_ior, x_ixor, x_ishl, x_ishr, x_iushr, x_idiv, x_irem, x_ladd, x_land, x_lor, x_lshl, x_lshr, x_ineg, x_i2l, x_l2i, x_i2b, x_lcmp, x_dup, x_dup2, x_if_eq, x_if_ne, x_if_lt, x_if_ge, x_if_gt, x_if_le, x_ic_eq, x_ic_ne, x_ic_lt, x_ic_ge, x_ic_gt, x_ic_le, x_getI, x_getR, x_putI, x_putZ, x_putR, x_iald, x_bald, x_lald, x_iast, x_bast, x_last, x_alen, x_acp, x_mmax, x_mmin, x_callV, x_callS, x_iret, x_zret, x_lret, x_aret, x_vret, x_tsw, x_stop, zst1, zst2, zkill, zkl, zsplit, zmask, zent, zentL, List.getElem?_cons_zero, List.getElem?_cons_succ, List.set_cons_zero, List.set_cons_succ, List.set_nil, List.length_cons, List.length_nil, List.replicate, List.nil_append, List.cons_append, List.map_cons, List.map_nil, List.sum_cons, List.sum_nil, Value.category, Option.toList, List.contains_cons, List.contains_nil, true_or, or_true, true_and, Nat.zero_le, Nat.reduceAdd, Nat.reduceLeDiff, Nat.reduceLT, Nat.reduceBEq, Bool.true_or, Bool.or_true, Bool.false_or, Bool.or_false, ↓reduceIte, Bool.false_eq_true, Nat.add_zero, Nat.zero_add, Nat.reduceEqDiff, Nat.reduceSub, g, hd, w_X12_begin, b2i_0, ne_eq, Nat.reduceEqDiff, not_false_eq_true, not_true_eq_false, true_and, and_true, true_implies, false_implies, implies_true, and_self]
              rw [nI_clamp (show q < 2 ^ 31 by omega), h69 q hq768, lcmp_le hxb, z_l64, z_div64 (by omega), nI_clamp (show q / 64 < 2 ^ 31 by omega), hEτ τ hq (q / 64) (by omega), z_b1 (by omega) (by omega)]
              simp only [b2i_1]
              refine ⟨fun q => absurd q (nI_ge (by omega) (by omega)), fun _ => ⟨768, rfl, vp_in_nI (by omega) (by omega), fun q2 => ?_, fun q2 => ⟨by decide, 12, rfl, vp_in_nI (by omega) (by omega), fun q3 => ?_, fun q3 => ⟨by decide, T, k, q % 64, o, hMτ τ hq, rfl, hk, z_rem64' (by omega), by omega, rfl, ho, ?_⟩⟩⟩⟩
              · rw [nI_i3]
                refine hend τ hq h69 (fun i hi => ?_)
                rw [h70 i hi, q2, caN_0, caN_0]
              · refine k212 64 (Or.inl ⟨rfl, ?_⟩)
                rw [caN, show q / 2 / 32 = q / 64 by omega, if_neg q3]
              · refine k212 _ ?_
                have e1 : q / 2 / 32 = q / 64 := by omega
                have e2 : q / 2 % 32 = q % 64 / 2 := by omega
                rcases be_st (T := T) (k := k) (s := q % 64 / 2) (d := o) hL.1 hL.2 with ⟨b1, b2⟩ | ⟨r, b1, b2, b3⟩
                · refine Or.inl ⟨b2, ?_⟩
                  rw [caN, e1, e2, if_pos q3, b1]
                · refine Or.inr ⟨r, b2, b3, ?_⟩
                  rw [caN, e1, e2, if_pos q3, b1]
            · have g := hz1 τ hq
              have hd := hDτ τ hq
              refine r_X12_safe_155 hC hR m_X12_isSong (by decide) m_X12_isDoor (by decide) m_X12_in (by decide) m_X12_begin (by decide) _ _ _ ?_
              simp only [T_X12_safe_155, x_psh, x_ild, x_lld, x_ald, x_ist, x_ast, x_lst, x_inc, x_iadd, x_isub, x_imul, x_iand, x_ior, x_ixor, x_ishl, x_ishr, x_iushr, x_idiv, x_irem, x_ladd, x_land, x_lor, x_lshl, x_lshr, x_ineg, x_i2l, x_l2i, x_i2b, x_lcmp, x_dup, x_dup2, x_if_eq, x_if_ne, x_if_lt, x_if_ge, x_if_gt, x_if_le, x_ic_eq, x_ic_ne, x_ic_lt, x_ic_ge, x_ic_gt, x_ic_le, x_getI, x_getR, x_putI, x_putZ, x_putR, x_iald, x_bald, x_lald, x_iast, x_bast, x_last, x_alen, x_acp, x_mmax, x_mmin, x_callV, x_callS, x_iret, x_zret, x_lret, x_aret, x_vret, x_tsw, x_stop, zst1, zst2, zkill, zkl, zsplit, zmask, zent, zentL, List.getElem?_cons_zero, List.getElem?_cons_succ, List.set_cons_zero, List.set_cons_succ, List.set_nil, List.length_cons, List.length_nil, List.replicate, List.nil_append, List.cons_append, List.map_cons, List.map_nil, List.sum_cons, List.sum_nil, Value.category, Option.toList, List.contains_cons, List.contains_nil, true_or, or_true, true_and, Nat.zero_le, Nat.reduceAdd, Nat.reduceLeDiff, Nat.reduceLT, Nat.reduceBEq, Bool.true_or, Bool.or_true, Bool.false_or, Bool.or_false, ↓reduceIte, Bool.false_eq_true, Nat.add_zero, Nat.zero_add, Nat.reduceEqDiff, Nat.reduceSub, g, hd, b2i_0, ne_eq, Nat.reduceEqDiff, not_false_eq_true, not_true_eq_false, true_and, and_true, true_implies, false_implies, implies_true, and_self]
              rw [nI_i3]
              exact ⟨fun _ => hend τ hq h69 h70, fun q => absurd (nI_le (Nat.le_refl _) (by omega)) q⟩
          refine r_X12_safe_140 hC hR m_X12_isSong (by decide) m_X12_isDoor (by decide) m_X12_in (by decide) m_X12_begin (by decide) _ _ _ ?_
          simp only [T_X12_safe_140, x_psh, x_ild, x_lld, x_ald, x_ist, x_ast, x_lst, x_inc, x_iadd, x_isub, x_imul, x_iand, x_ior, x_ixor, x_ishl, x_ishr, x_iushr, x_idiv, x_irem, x_ladd, x_land, x_lor, x_lshl, x_lshr, x_ineg, x_i2l, x_l2i, x_i2b, x_lcmp, x_dup, x_dup2, x_if_eq, x_if_ne, x_if_lt, x_if_ge, x_if_gt, x_if_le, x_ic_eq, x_ic_ne, x_ic_lt, x_ic_ge, x_ic_gt, x_ic_le, x_getI, x_getR, x_putI, x_putZ, x_putR, x_iald, x_bald, x_lald, x_iast, x_bast, x_last, x_alen, x_acp, x_mmax, x_mmin, x_callV, x_callS, x_iret, x_zret, x_lret, x_aret, x_vret, x_tsw, x_stop, zst1, zst2, zkill, zkl, zsplit, zmask, zent, zentL, List.getElem?_cons_zero, List.getElem?_cons_succ, List.set_cons_zero, List.set_cons_succ, List.set_nil, List.length_cons, List.length_nil, List.replicate, List.nil_append, List.cons_append, List.map_cons, List.map_nil, List.sum_cons, List.sum_nil, Value.category, Option.toList, List.contains_cons, List.contains_nil, true_or, or_true, true_and, Nat.zero_le, Nat.reduceAdd, Nat.reduceLeDiff, Nat.reduceLT, Nat.reduceBEq, Bool.true_or, Bool.or_true, Bool.false_or, Bool.or_false, ↓reduceIte, Bool.false_eq_true, Nat.add_zero, Nat.zero_add, Nat.reduceEqDiff, Nat.reduceSub, g0, hd0, b2i_0, ne_eq, Nat.reduceEqDiff, not_false_eq_true, not_true_eq_false, true_and, and_true, true_implies, false_implies, implies_true, and_self]
          rw [z_l64, pk_mul]
          exact ⟨fun q => absurd q (nI_ge (by omega) (by omega)), fun _ => k155 0 (by omega) τ0 hq0 h690 h700⟩
      -- the row of the next counts, empty
      have k115 := zloop (P := fun j => ∀ τ, JQ σ τ → (∀ j, j < 768 → zJ τ 69 j = lN (xpN (c0 m) j)) → (∀ i, i < j → zJ τ 70 i = 0) → WW C 115 [some (.ref 56), some (.int (nI k)), none, some (.int (nI to)), some (.int (nI n)), none, some (.int (nI m)), some (.int (nI j)), none, none] [] τ) 768 (fun j hj ih τ hq h69 h70 => ?_) (fun τ hq h69 h70 => ?_) 0 (by omega)
      · refine r_X12_safe_105 hC hR m_X12_isSong (by decide) m_X12_isDoor (by decide) m_X12_in (by decide) m_X12_begin (by decide) _ _ _ ?_
        simp only [T_X12_safe_105, x_psh, x_ild, x_lld, x_ald, x_ist, x_ast, x_lst, x_inc, x_iadd, x_isub, x_imul, x_iand, x_ior, x_ixor, x_ishl, x_ishr, x_iushr, x_idiv, x_irem, x_ladd, x_land, x_lor, x_lshl, x_lshr, x_ineg, x_i2l, x_l2i, x_i2b, x_lcmp, x_dup, x_dup2, x_if_eq, x_if_ne, x_if_lt, x_if_ge, x_if_gt, x_if_le, x_ic_eq, x_ic_ne, x_ic_lt, x_ic_ge, x_ic_gt, x_ic_le, x_getI, x_getR, x_putI, x_putZ, x_putR, x_iald, x_bald, x_lald, x_iast, x_bast, x_last, x_alen, x_acp, x_mmax, x_mmin, x_callV, x_callS, x_iret, x_zret, x_lret, x_aret, x_vret, x_tsw, x_stop, zst1, zst2, zkill, zkl, zsplit, zmask, zent, zentL, List.getElem?_cons_zero, List.getElem?_cons_succ, List.set_cons_zero, List.set_cons_succ, List.set_nil, List.length_cons, List.length_nil, List.replicate, List.nil_append, List.cons_append, List.map_cons, List.map_nil, List.sum_cons, List.sum_nil, Value.category, Option.toList, List.contains_cons, List.contains_nil, true_or, or_true, true_and, Nat.zero_le, Nat.reduceAdd, Nat.reduceLeDiff, Nat.reduceLT, Nat.reduceBEq, Bool.true_or, Bool.or_true, Bool.false_or, Bool.or_false, ↓reduceIte, Bool.false_eq_true, Nat.add_zero, Nat.zero_add, Nat.reduceEqDiff, Nat.reduceSub, b2i_0, ne_eq, Nat.reduceEqDiff, not_false_eq_true, not_true_eq_false, true_and, and_true, true_implies, false_implies, implies_true, and_self]
        exact ⟨fun q => absurd q (nI_ge (by omega) (by omega)), fun _ => k115 τ hq h69 (fun i hi => absurd hi (Nat.not_lt_zero i))⟩
      · have g := hz1 τ hq
        refine r_X12_safe_115 hC hR m_X12_isSong (by decide) m_X12_isDoor (by decide) m_X12_in (by decide) m_X12_begin (by decide) _ _ _ ?_
        simp only [T_X12_safe_115, x_psh, x_ild, x_lld, x_ald, x_ist, x_ast, x_lst, x_inc, x_iadd, x_isub, x_imul, x_iand, x_ior, x_ixor, x_ishl, x_ishr, x_iushr, x_idiv, x_irem, x_ladd, x_land, x_lor, x_lshl, x_lshr, x_ineg, x_i2l, x_l2i, x_i2b, x_lcmp, x_dup, x_dup2, x_if_eq, x_if_ne, x_if_lt, x_if_ge, x_if_gt, x_if_le, x_ic_eq, x_ic_ne, x_ic_lt, x_ic_ge, x_ic_gt, x_ic_le, x_getI, x_getR, x_putI, x_putZ, x_putR, x_iald, x_bald, x_lald, x_iast, x_bast, x_last, x_alen, x_acp, x_mmax, x_mmin, x_callV, x_callS, x_iret, x_zret, x_lret, x_aret, x_vret, x_tsw, x_stop, zst1, zst2, zkill, zkl, zsplit, zmask, zent, zentL, List.getElem?_cons_zero, List.getElem?_cons_succ, List.set_cons_zero, List.set_cons_succ, List.set_nil, List.length_cons, List.length_nil, List.replicate, List.nil_append, List.cons_append, List.map_cons, List.map_nil, List.sum_cons, List.sum_nil, Value.category, Option.toList, List.contains_cons, List.contains_nil, true_or, or_true, true_and, Nat.zero_le, Nat.reduceAdd, Nat.reduceLeDiff, Nat.reduceLT, Nat.reduceBEq, Bool.true_or, Bool.or_true, Bool.false_or, Bool.or_false, ↓reduceIte, Bool.false_eq_true, Nat.add_zero, Nat.zero_add, Nat.reduceEqDiff, Nat.reduceSub, g, b2i_0, ne_eq, Nat.reduceEqDiff, not_false_eq_true, not_true_eq_false, true_and, and_true, true_implies, false_implies, implies_true, and_self]
        rw [z_l768, nI_clamp (by omega), nI_i3]
        refine ⟨fun q => absurd q (nI_ge (by omega) (by omega)), fun _ => ⟨768, rfl, vp_in_nI (by omega) (by omega), ih _ (hq.s (by omega)) (fun j hj => by rw [zJ_off _ _ _ (by decide)]; exact h69 j hj) (fun i hi => ?_)⟩⟩
        rw [zJ_at]
        by_cases e : i = j
        · rw [if_pos e]
        · rw [if_neg e]; exact h70 i (by omega)
      · refine r_X12_safe_115 hC hR m_X12_isSong (by decide) m_X12_isDoor (by decide) m_X12_in (by decide) m_X12_begin (by decide) _ _ _ ?_
        simp only [T_X12_safe_115, x_psh, x_ild, x_lld, x_ald, x_ist, x_ast, x_lst, x_inc, x_iadd, x_isub, x_imul, x_iand, x_ior, x_ixor, x_ishl, x_ishr, x_iushr, x_idiv, x_irem, x_ladd, x_land, x_lor, x_lshl, x_lshr, x_ineg, x_i2l, x_l2i, x_i2b, x_lcmp, x_dup, x_dup2, x_if_eq, x_if_ne, x_if_lt, x_if_ge, x_if_gt, x_if_le, x_ic_eq, x_ic_ne, x_ic_lt, x_ic_ge, x_ic_gt, x_ic_le, x_getI, x_getR, x_putI, x_putZ, x_putR, x_iald, x_bald, x_lald, x_iast, x_bast, x_last, x_alen, x_acp, x_mmax, x_mmin, x_callV, x_callS, x_iret, x_zret, x_lret, x_aret, x_vret, x_tsw, x_stop, zst1, zst2, zkill, zkl, zsplit, zmask, zent, zentL, List.getElem?_cons_zero, List.getElem?_cons_succ, List.set_cons_zero, List.set_cons_succ, List.set_nil, List.length_cons, List.length_nil, List.replicate, List.nil_append, List.cons_append, List.map_cons, List.map_nil, List.sum_cons, List.sum_nil, Value.category, Option.toList, List.contains_cons, List.contains_nil, true_or, or_true, true_and, Nat.zero_le, Nat.reduceAdd, Nat.reduceLeDiff, Nat.reduceLT, Nat.reduceBEq, Bool.true_or, Bool.or_true, Bool.false_or, Bool.or_false, ↓reduceIte, Bool.false_eq_true, Nat.add_zero, Nat.zero_add, Nat.reduceEqDiff, Nat.reduceSub, b2i_0, ne_eq, Nat.reduceEqDiff, not_false_eq_true, not_true_eq_false, true_and, and_true, true_implies, false_implies, implies_true, and_self]
        refine ⟨fun _ => k140 (64 * tD T) 0 (by omega) τ hq h69 (fun i hi => ?_), fun q => absurd (by decide) q⟩
        rw [h70 i hi]
        show (0 : Int64) = lN (xpN (fun _ => 0) i)
        unfold xpN
        split <;> rfl
    · have g := hz1 τ hq
      refine r_X12_safe_259 hC hR m_X12_isSong (by decide) m_X12_isDoor (by decide) m_X12_in (by decide) m_X12_begin (by decide) _ _ _ ?_
      simp only [T_X12_safe_259, x_psh, x_ild, x_lld, x_ald, x_ist, x_ast, x_lst, x_inc, x_iadd, x_isub, x_imul, x_iand, x_ior, x_ixor, x_ishl, x_ishr, x_iushr, x_idiv, x_irem, x_ladd, x_land, x_lor, x_lshl, x_lshr, x_ineg, x_i2l, x_l2i, x_i2b, x_lcmp, x_dup, x_dup2, x_if_eq, x_if_ne, x_if_lt, x_if_ge, x_if_gt, x_if_le, x_ic_eq, x_ic_ne, x_ic_lt, x_ic_ge, x_ic_gt, x_ic_le, x_getI, x_getR, x_putI, x_putZ, x_putR, x_iald, x_bald, x_lald, x_iast, x_bast, x_last, x_alen, x_acp, x_mmax, x_mmin, x_callV, x_callS, x_iret, x_zret, x_lret, x_aret, x_vret, x_tsw, x_stop, zst1, zst2, zkill, zkl, zsplit, zmask, zent, zentL, List.getElem?_cons_zero, List.getElem?_cons_succ, List.set_cons_zero, List.set_cons_succ, List.set_nil, List.length_cons, List.length_nil, List.replicate, List.nil_append, List.cons_append, List.map_cons, List.map_nil, List.sum_cons, List.sum_nil, Value.category, Option.toList, List.contains_cons, List.contains_nil, true_or, or_true, true_and, Nat.zero_le, Nat.reduceAdd, Nat.reduceLeDiff, Nat.reduceLT, Nat.reduceBEq, Bool.true_or, Bool.or_true, Bool.false_or, Bool.or_false, ↓reduceIte, Bool.false_eq_true, Nat.add_zero, Nat.zero_add, Nat.reduceEqDiff, Nat.reduceSub, g, b2i_0, ne_eq, Nat.reduceEqDiff, not_false_eq_true, not_true_eq_false, true_and, and_true, true_implies, false_implies, implies_true, and_self]
      rw [z_l768, nI_clamp (by omega), h70 j hj]
      simp only [nI_i3]
      refine ⟨fun q => absurd q (nI_ge (by omega) (by omega)), fun _ => ⟨768, rfl, vp_in_nI (by omega) (by omega), 768, rfl, vp_in_nI (by omega) (by omega), ih _ (hq.s (by omega)) (fun i hi => by rw [zJ_off _ _ _ (by decide)]; exact h70 i hi) (fun i hi => ?_)⟩⟩
      rw [zJ_at]
      by_cases e : i = j
      · rw [if_pos e, e]
      · rw [if_neg e]; exact h69 i (by omega)
    · refine r_X12_safe_259 hC hR m_X12_isSong (by decide) m_X12_isDoor (by decide) m_X12_in (by decide) m_X12_begin (by decide) _ _ _ ?_
      simp only [T_X12_safe_259, x_psh, x_ild, x_lld, x_ald, x_ist, x_ast, x_lst, x_inc, x_iadd, x_isub, x_imul, x_iand, x_ior, x_ixor, x_ishl, x_ishr, x_iushr, x_idiv, x_irem, x_ladd, x_land, x_lor, x_lshl, x_lshr, x_ineg, x_i2l, x_l2i, x_i2b, x_lcmp, x_dup, x_dup2, x_if_eq, x_if_ne, x_if_lt, x_if_ge, x_if_gt, x_if_le, x_ic_eq, x_ic_ne, x_ic_lt, x_ic_ge, x_ic_gt, x_ic_le, x_getI, x_getR, x_putI, x_putZ, x_putR, x_iald, x_bald, x_lald, x_iast, x_bast, x_last, x_alen, x_acp, x_mmax, x_mmin, x_callV, x_callS, x_iret, x_zret, x_lret, x_aret, x_vret, x_tsw, x_stop, zst1, zst2, zkill, zkl, zsplit, zmask, zent, zentL, List.getElem?_cons_zero, List.getElem?_cons_succ, List.set_cons_zero, List.set_cons_succ, List.set_nil, List.length_cons, List.length_nil, List.replicate, List.nil_append, List.cons_append, List.map_cons, List.map_nil, List.sum_cons, List.sum_nil, Value.category, Option.toList, List.contains_cons, List.contains_nil, true_or, or_true, true_and, Nat.zero_le, Nat.reduceAdd, Nat.reduceLeDiff, Nat.reduceLT, Nat.reduceBEq, Bool.true_or, Bool.or_true, Bool.false_or, Bool.or_false, ↓reduceIte, Bool.false_eq_true, Nat.add_zero, Nat.zero_add, Nat.reduceEqDiff, Nat.reduceSub, b2i_0, ne_eq, Nat.reduceEqDiff, not_false_eq_true, not_true_eq_false, true_and, and_true, true_implies, false_implies, implies_true, and_self]
      rw [nI_i3]
      exact ⟨fun _ => ih τ hq h69, fun q => absurd (by decide) q⟩
  · refine r_X12_safe_105 hC hR m_X12_isSong (by decide) m_X12_isDoor (by decide) m_X12_in (by decide) m_X12_begin (by decide) _ _ _ ?_
    simp only [T_X12_safe_105, x_psh, x_ild, x_lld, x_ald, x_ist, x_ast, x_lst, x_inc, x_iadd, x_isub, x_imul, x_iand, x_ior, x_ixor, x_ishl, x_ishr, x_iushr, x_idiv, x_irem, x_ladd, x_land, x_lor, x_lshl, x_lshr, x_ineg, x_i2l, x_l2i, x_i2b, x_lcmp, x_dup, x_dup2, x_if_eq, x_if_ne, x_if_lt, x_if_ge, x_if_gt, x_if_le, x_ic_eq, x_ic_ne, x_ic_lt, x_ic_ge, x_ic_gt, x_ic_le, x_getI, x_getR, x_putI, x_putZ, x_putR, x_iald, x_bald, x_lald, x_iast, x_bast, x_last, x_alen, x_acp, x_mmax, x_mmin, x_callV, x_callS, x_iret, x_zret, x_lret, x_aret, x_vret, x_tsw, x_stop, zst1, zst2, zkill, zkl, zsplit, zmask, zent, zentL, List.getElem?_cons_zero, List.getElem?_cons_succ, List.set_cons_zero, List.set_cons_succ, List.set_nil, List.length_cons, List.length_nil, List.replicate, List.nil_append, List.cons_append, List.map_cons, List.map_nil, List.sum_cons, List.sum_nil, Value.category, Option.toList, List.contains_cons, List.contains_nil, true_or, or_true, true_and, Nat.zero_le, Nat.reduceAdd, Nat.reduceLeDiff, Nat.reduceLT, Nat.reduceBEq, Bool.true_or, Bool.or_true, Bool.false_or, Bool.or_false, ↓reduceIte, Bool.false_eq_true, Nat.add_zero, Nat.zero_add, Nat.reduceEqDiff, Nat.reduceSub, b2i_0, ne_eq, Nat.reduceEqDiff, not_false_eq_true, not_true_eq_false, true_and, and_true, true_implies, false_implies, implies_true, and_self]
    exact ⟨fun _ => k299 τ hq h69 0 (by omega), fun q => absurd (nI_le (Nat.le_refl _) (by omega)) q⟩
