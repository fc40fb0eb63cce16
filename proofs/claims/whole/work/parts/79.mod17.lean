theorem lsb_no (s : Nat) {j : Nat} (h : j < lsb s) : s.testBit j = false := fstB_no _ _ j h
theorem fxS_lt (T : TD) (k st i : Nat) : fxS T k st i < 2 ^ tD T := dif_lt (sndS_lt T _)
theorem opnS_lt2 (T : TD) (k st n : Nat) : ∀ j, opnS T (fxS T k st) n j < 2 ^ tD T
  | 0 => fxS_lt _ _ _ _
  | j + 1 => by rw [opnS]; exact Nat.lt_of_le_of_lt Nat.and_le_right (fxS_lt _ _ _ _)
/-- an open door has an open door beside it -/
theorem opn_go {T : TD} (hT : TdOk T) (F : Nat → Nat) {n j d : Nat} (hd : d < tD T) (h : (opnS T F n (j + 1)).testBit d = true) : opnS T F n j &&& tE T d ≠ 0 := by
  rw [opnS, Nat.testBit_and, Bool.and_eq_true, arS_bit] at h
  obtain ⟨⟨e, he, h1, h2⟩, -⟩ := h
  intro h0
  have := congrArg (fun x => Nat.testBit x e) h0
  simp only [Nat.testBit_and, Nat.zero_testBit, h1] at this
  rw [hT.2.2.2.2.1 d e hd he, h2] at this
  cases this
theorem fstW_some {T : TD} (hT : TdOk T) (k n : Nat) (h0 : opnS T (fxS T k 0) n (n - 1) ≠ 0) : ∀ i, i < n → ∃ d, fstW T (fxS T k 0) n i = some d ∧ d < tD T ∧ (opnS T (fxS T k 0) n (n - 1 - i)).testBit d = true
  | 0, _ => by
    have hp := z_pow31 hT.2.1
    have hl := opnS_lt2 T k 0 n (n - 1)
    refine ⟨lsb (opnS T (fxS T k 0) n (n - 1)), by rw [fstW, lsbO, if_neg h0], ?_, by rw [show n - 1 - 0 = n - 1 by omega]; exact lsb_bit _ (by omega) h0⟩
    exact z_bit_lt hl (lsb_bit _ (by omega) h0)
  | i + 1, hi => by
    obtain ⟨d, h1, h2, h3⟩ := fstW_some hT k n h0 i (by omega)
    have hp := z_pow31 hT.2.1
    rw [show n - 1 - i = (n - 1 - (i + 1)) + 1 by omega] at h3
    have hne := opn_go hT _ h2 h3
    have hl := opnS_lt2 T k 0 n (n - 1 - (i + 1))
    have hl2 : opnS T (fxS T k 0) n (n - 1 - (i + 1)) &&& tE T d < 2 ^ tD T := Nat.lt_of_le_of_lt Nat.and_le_left hl
    have hb := lsb_bit _ (show _ < 4096 by omega) hne
    refine ⟨lsb (opnS T (fxS T k 0) n (n - 1 - (i + 1)) &&& tE T d), ?_, z_bit_lt hl2 hb, ?_⟩
    · rw [fstW, h1]
      simp only [lsbO]
      rw [if_neg hne]
    · rw [Nat.testBit_and, Bool.and_eq_true] at hb
      exact hb.1
theorem fstW_none {T : TD} {F : Nat → Nat} {n : Nat} (h0 : opnS T F n (n - 1) = 0) : ∀ i, fstW T F n i = none
  | 0 => by rw [fstW, lsbO, if_pos h0]
  | i + 1 => by rw [fstW, fstW_none h0 i]
def w_X12_first : WPt := fun args σ Q => match args with
  | [.ref x, .int d, .int y] => x = 56 ∧ PubM σ (q_first · d y) Q
  | _ => False
set_option maxHeartbeats 2000000 in
theorem m_X12_first : Meets yX12_first cX12_first 6 (some .int) 3 w_X12_first := by
  refine Meets.mk (by decide) fun args σ Φ h => ?_
  unfold w_X12_first at h
  split at h
  rotate_left
  · exact h.elim
  rename_i x d y
  obtain ⟨x, rfl⟩ : ∃ q : Nat, q = x := ⟨x, rfl⟩
  obtain ⟨hx, A, hK, hA, hQ⟩ := h
  subst hx
  refine ⟨Nat.le_of_ble_eq_true rfl, fun C hC hR => ?_⟩
  have hf := mod_f hK
  have hN := hA.1
  have hD1 := hA.t.1
  have hD := hA.t.2.1
  have hS := hA.t.2.2.1
  have hW := hA.2.2.1.2.1
  have hE := hA.2.2.1.2.2.1
  have hp := z_pow31 hD
  have hV := hK.2
  refine r_X12_first_0 hC hR m_X12_isSong (by decide) m_X12_layRest (by decide) m_X12_restFrom (by decide) m_X12_in (by decide) _ _ _ ?_
  simp only [T_X12_first_0, x_psh, x_ild, x_lld, x_ald, x_ist, x_ast, x_lst, x_inc, x_iadd, x_isub, x_imul, x_iand, x_ior, x_ixor, x_ishl, x_ishr, x_iushr, x_idiv, x_irem, x_ladd, x_land, x_lor, x_lshl, x_lshr, x_ineg, x_i2l, x_l2i, x_i2b, x_lcmp, x_dup, x_dup2, x_if_eq, x_if_ne, x_if_lt, x_if_ge, x_if_gt, x_if_le, x_ic_eq, x_ic_ne, x_ic_lt, x_ic_ge, x_ic_gt, x_ic_le, x_getI, x_getR, x_putI, x_putZ, x_putR, x_iald, x_bald, x_lald, x_iast, x_bast, x_last, x_alen, x_acp, x_mmax, x_mmin, x_callV, x_callS, x_iret, x_zret, x_lret, x_aret, x_vret, x_tsw, x_stop, zst1, zst2, zkill, zkl, zsplit, zmask, zent, zentL, List.getElem?_cons_zero, List.getElem?_cons_succ, List.set_cons_zero, List.set_cons_succ, List.set_nil, List.length_cons, List.length_nil, List.replicate, List.nil_append, List.cons_append, List.map_cons, List.map_nil, List.sum_cons, List.sum_nil, Value.category, Option.toList, List.contains_cons, List.contains_nil, true_or, or_true, true_and, Nat.zero_le, Nat.reduceAdd, Nat.reduceLeDiff, Nat.reduceLT, Nat.reduceBEq, Bool.true_or, Bool.or_true, Bool.false_or, Bool.or_false, ↓reduceIte, Bool.false_eq_true, Nat.add_zero, Nat.zero_add, Nat.reduceEqDiff, Nat.reduceSub, hf, w_X12_isSong, b2i_0, ne_eq, Nat.reduceEqDiff, not_false_eq_true, not_true_eq_false, true_and, and_true, true_implies, false_implies, implies_true, and_self]
  unfold q_first at hQ
  refine ⟨tS (aT A), rfl, by omega, ?_⟩
  rcases ix_cs d (show tS (aT A) < 2 ^ 31 by omega) with ⟨k, hk, rfl, h1, h2⟩ | ⟨h1, h2⟩
  · simp only [h1] at hQ
    simp only [h2, w_X12_layRest, b2i_0, ne_eq, Nat.reduceEqDiff, not_false_eq_true, not_true_eq_false, true_and, and_true, true_implies, false_implies, implies_true, and_self]
    have hL := hA.l hk
    have hsz := hV.1.2.2.2.2.1 k hk
    refine ⟨4, rfl, vp_in_nI (by omega) (by omega), aT A, k, tL (aT A) k, 0, MdT.of hK hA, rfl, hk, ?_, Nat.le_refl _, rfl, by omega, fun σ1 hj hr => ?_⟩
    · rw [nI_clamp (by omega), hsz]
    have hq1 : MoQ σ σ1 := hj.m (by decide) (by decide)
    have hK1 := hq1.r hK
    have g1 := mod_f hK1
    have hsz1 : zI σ1 64 k = nI (tL (aT A) k) := by rw [hj.2.2.1]; exact hsz
    have hE1 : ∀ d, d < 12 → zI σ1 62 d = nI (tE (aT A) d) := fun d hd => hK1.e hd
    simp only [g1, w_X12_restFrom, w_X12_in, x_psh, x_ild, x_lld, x_ald, x_ist, x_ast, x_lst, x_inc, x_iadd, x_isub, x_imul, x_iand, x_ior, x_ixor, x_ishl, x_ishr, x_iushr, x_idiv, x_irem, x_ladd, x_land, x_lor, x_lshl, x_lshr, x_ineg, x_i2l, x_l2i, x_i2b, x_lcmp, x_dup, x_dup2, x_if_eq, x_if_ne, x_if_lt, x_if_ge, x_if_gt, x_if_le, x_ic_eq, x_ic_ne, x_ic_lt, x_ic_ge, x_ic_gt, x_ic_le, x_getI, x_getR, x_putI, x_putZ, x_putR, x_iald, x_bald, x_lald, x_iast, x_bast, x_last, x_alen, x_acp, x_mmax, x_mmin, x_callV, x_callS, x_iret, x_zret, x_lret, x_aret, x_vret, x_tsw, x_stop, zst1, zst2, zkill, zkl, zsplit, zmask, zent, zentL, List.getElem?_cons_zero, List.getElem?_cons_succ, List.set_cons_zero, List.set_cons_succ, List.set_nil, List.length_cons, List.length_nil, List.replicate, List.nil_append, List.cons_append, List.map_cons, List.map_nil, List.sum_cons, List.sum_nil, Value.category, Option.toList, List.contains_cons, List.contains_nil, true_or, or_true, true_and, Nat.zero_le, Nat.reduceAdd, Nat.reduceLeDiff, Nat.reduceLT, Nat.reduceBEq, Bool.true_or, Bool.or_true, Bool.false_or, Bool.or_false, ↓reduceIte, Bool.false_eq_true, Nat.add_zero, Nat.zero_add, Nat.reduceEqDiff, Nat.reduceSub, b2i_0, ne_eq, Nat.reduceEqDiff, not_false_eq_true, not_true_eq_false, true_and, and_true, true_implies, false_implies, implies_true, and_self]
    refine ⟨aT A, rsB (aT A) (fxS (aT A) k 0) (tpB (-9)) (tL (aT A) k) (tL (aT A) k - 1), MdT.of hK1 hA, fun d hd => ?_, ?_⟩
    · have := hr 0 d (by omega) (by omega)
      rw [show 12 * 0 + d = d by omega, show tL (aT A) k - 1 - 0 = tL (aT A) k - 1 by omega] at this
      exact this
    have hlt := rest_le hA.t (fxS (aT A) k 0) (tpB (-9)) (tpB (-9)) (tL (aT A) k) hL.2
    have hrs := rest_sum hA.t k 0 (tL (aT A) k) hL.1
    rw [lcmp_nz (by omega)]
    rw [tpB_9] at hr
    have hfin := hQ σ1 hq1.z
    clear hQ
    rw [← fxS_0] at hfin
    generalize hn : tL (aT A) k = n at hr hrs hL hsz1 hfin
    refine ⟨fun q => ?_, fun q => ⟨4, rfl, vp_in_nI (by omega) (by omega), ?_⟩⟩
    · have h0 : opnS (aT A) (fxS (aT A) k 0) n (n - 1) = 0 := Classical.byContradiction fun hc => hrs.mpr hc q
      rcases ix_cs y (show n < 2 ^ 31 by omega) with ⟨i, hi, rfl, h3, h4⟩ | ⟨h3, h4⟩
      · simp only [h3, fstW_none h0] at hfin
        exact hfin hK1
      · simp only [h3] at hfin
        exact hfin hK1
    have h0 : opnS (aT A) (fxS (aT A) k 0) n (n - 1) ≠ 0 := hrs.mp q
    simp only [nI_clamp (show k < 2 ^ 31 by omega), hsz1, in_ix y (show n < 2 ^ 31 by omega)]
    rcases ix_cs y (show n < 2 ^ 31 by omega) with ⟨i, hi, rfl, h3, h4⟩ | ⟨h3, h4⟩
    rotate_left
    · simp only [h3] at hfin
      simp only [h4, b2i_0, ne_eq, Nat.reduceEqDiff, not_false_eq_true, not_true_eq_false, true_and, and_true, true_implies, false_implies, implies_true, and_self]
      exact hfin hK1
    simp only [h3] at hfin
    simp only [h4, b2i_0, ne_eq, Nat.reduceEqDiff, not_false_eq_true, not_true_eq_false, true_and, and_true, true_implies, false_implies, implies_true, and_self]
    have hcell : ∀ j d, j < n → d < 12 → (lg_cmp (zJ σ1 67 (12 * j + d)) 0 = 0) = ((opnS (aT A) (fxS (aT A) k 0) n (n - 1 - j)).testBit d = false) := by
      intro j d hj2 hd
      rw [hr j d hj2 hd]
      have hb := rsB_le (T := aT A) (fxS (aT A) k 0) (fun _ => true) n (n - 1 - j) d
      have hb2 : 12 ^ (n - 1 - j) ≤ 12 ^ 6 := Nat.pow_le_pow_right (by decide) (by omega)
      have hb3 : 12 ^ 6 < 2 ^ 40 := by decide
      rw [lcmp_nz (by omega)]
      have hz := rs_nz' hA.t k 0 n (n - 1 - j) d (by omega)
      apply propext
      constructor
      · intro e
        cases hc : (opnS (aT A) (fxS (aT A) k 0) n (n - 1 - j)).testBit d
        · rfl
        · exact absurd e (hz.mpr hc)
      · intro e
        refine Classical.byContradiction fun hc => ?_
        rw [hz.mp hc] at e
        cases e
    have main : ∀ r j now, j + r = i → fstW (aT A) (fxS (aT A) k 0) n j = some now → now < tD (aT A) → WW C 78 [some (.ref 56), none, some (.int (nI i)), some (.int (nI now)), some (.int (nI (j + 1))), none] [] σ1 := by
      intro r
      induction r with
      | zero =>
        intro j now hj2 hw hnow
        refine r_X12_first_78 hC hR m_X12_isSong (by decide) m_X12_layRest (by decide) m_X12_restFrom (by decide) m_X12_in (by decide) _ _ _ ?_
        simp only [T_X12_first_78, x_psh, x_ild, x_lld, x_ald, x_ist, x_ast, x_lst, x_inc, x_iadd, x_isub, x_imul, x_iand, x_ior, x_ixor, x_ishl, x_ishr, x_iushr, x_idiv, x_irem, x_ladd, x_land, x_lor, x_lshl, x_lshr, x_ineg, x_i2l, x_l2i, x_i2b, x_lcmp, x_dup, x_dup2, x_if_eq, x_if_ne, x_if_lt, x_if_ge, x_if_gt, x_if_le, x_ic_eq, x_ic_ne, x_ic_lt, x_ic_ge, x_ic_gt, x_ic_le, x_getI, x_getR, x_putI, x_putZ, x_putR, x_iald, x_bald, x_lald, x_iast, x_bast, x_last, x_alen, x_acp, x_mmax, x_mmin, x_callV, x_callS, x_iret, x_zret, x_lret, x_aret, x_vret, x_tsw, x_stop, zst1, zst2, zkill, zkl, zsplit, zmask, zent, zentL, List.getElem?_cons_zero, List.getElem?_cons_succ, List.set_cons_zero, List.set_cons_succ, List.set_nil, List.length_cons, List.length_nil, List.replicate, List.nil_append, List.cons_append, List.map_cons, List.map_nil, List.sum_cons, List.sum_nil, Value.category, Option.toList, List.contains_cons, List.contains_nil, true_or, or_true, true_and, Nat.zero_le, Nat.reduceAdd, Nat.reduceLeDiff, Nat.reduceLT, Nat.reduceBEq, Bool.true_or, Bool.or_true, Bool.false_or, Bool.or_false, ↓reduceIte, Bool.false_eq_true, Nat.add_zero, Nat.zero_add, Nat.reduceEqDiff, Nat.reduceSub, b2i_0, ne_eq, Nat.reduceEqDiff, not_false_eq_true, not_true_eq_false, true_and, and_true, true_implies, false_implies, implies_true, and_self]
        refine ⟨fun _ => ?_, fun q => absurd (nI_lt (by omega) (by omega)) q⟩
        have ej : j = i := by omega
        subst ej
        rw [hw] at hfin
        exact hfin hK1
      | succ r ih =>
        intro j now hj2 hw hnow
        refine r_X12_first_78 hC hR m_X12_isSong (by decide) m_X12_layRest (by decide) m_X12_restFrom (by decide) m_X12_in (by decide) _ _ _ ?_
        simp only [T_X12_first_78, x_psh, x_ild, x_lld, x_ald, x_ist, x_ast, x_lst, x_inc, x_iadd, x_isub, x_imul, x_iand, x_ior, x_ixor, x_ishl, x_ishr, x_iushr, x_idiv, x_irem, x_ladd, x_land, x_lor, x_lshl, x_lshr, x_ineg, x_i2l, x_l2i, x_i2b, x_lcmp, x_dup, x_dup2, x_if_eq, x_if_ne, x_if_lt, x_if_ge, x_if_gt, x_if_le, x_ic_eq, x_ic_ne, x_ic_lt, x_ic_ge, x_ic_gt, x_ic_le, x_getI, x_getR, x_putI, x_putZ, x_putR, x_iald, x_bald, x_lald, x_iast, x_bast, x_last, x_alen, x_acp, x_mmax, x_mmin, x_callV, x_callS, x_iret, x_zret, x_lret, x_aret, x_vret, x_tsw, x_stop, zst1, zst2, zkill, zkl, zsplit, zmask, zent, zentL, List.getElem?_cons_zero, List.getElem?_cons_succ, List.set_cons_zero, List.set_cons_succ, List.set_nil, List.length_cons, List.length_nil, List.replicate, List.nil_append, List.cons_append, List.map_cons, List.map_nil, List.sum_cons, List.sum_nil, Value.category, Option.toList, List.contains_cons, List.contains_nil, true_or, or_true, true_and, Nat.zero_le, Nat.reduceAdd, Nat.reduceLeDiff, Nat.reduceLT, Nat.reduceBEq, Bool.true_or, Bool.or_true, Bool.false_or, Bool.or_false, ↓reduceIte, Bool.false_eq_true, Nat.add_zero, Nat.zero_add, Nat.reduceEqDiff, Nat.reduceSub, b2i_0, ne_eq, Nat.reduceEqDiff, not_false_eq_true, not_true_eq_false, true_and, and_true, true_implies, false_implies, implies_true, and_self]
        refine ⟨fun q => absurd q (nI_nlt (by omega) (by omega)), fun _ => ?_⟩
        obtain ⟨nx, hx1, hx2, hx3⟩ := fstW_some hA.t k n h0 (j + 1) (by omega)
        obtain ⟨now', hw1, hw2, hw3⟩ := fstW_some hA.t k n h0 j (by omega)
        rw [hw] at hw1
        cases hw1
        have hx1' := hx1
        rw [fstW, hw] at hx1'
        simp only [lsbO] at hx1'
        rw [show n - 1 - j = (n - 1 - (j + 1)) + 1 by omega] at hw3
        have hne := opn_go hA.t _ hnow hw3
        rw [if_neg hne] at hx1'
        have hx1' := Option.some.inj hx1'
        have hl := opnS_lt2 (aT A) k 0 n (n - 1 - (j + 1))
        have hl2 : opnS (aT A) (fxS (aT A) k 0) n (n - 1 - (j + 1)) &&& tE (aT A) now < 2 ^ tD (aT A) := Nat.lt_of_le_of_lt Nat.and_le_left hl
        have hb := lsb_bit _ (show opnS (aT A) (fxS (aT A) k 0) n (n - 1 - (j + 1)) &&& tE (aT A) now < 4096 by omega) hne
        rw [hx1'] at hb
        have hno := fun j' (h : j' < nx) => lsb_no (opnS (aT A) (fxS (aT A) k 0) n (n - 1 - (j + 1)) &&& tE (aT A) now) (by rw [hx1']; exact h)
        have hEn := hA.t.e now
        have step : ∀ v, v ≤ nx → WW C 87 [some (.ref 56), none, some (.int (nI i)), some (.int (nI now)), some (.int (nI (j + 1))), some (.int (nI v))] [] σ1 := by
          refine zloop (P := fun v => WW C 87 [some (.ref 56), none, some (.int (nI i)), some (.int (nI now)), some (.int (nI (j + 1))), some (.int (nI v))] [] σ1) nx (fun v hv ih2 => ?_) ?_
          · refine r_X12_first_87 hC hR m_X12_isSong (by decide) m_X12_layRest (by decide) m_X12_restFrom (by decide) m_X12_in (by decide) _ _ _ ?_
            simp only [T_X12_first_87, x_psh, x_ild, x_lld, x_ald, x_ist, x_ast, x_lst, x_inc, x_iadd, x_isub, x_imul, x_iand, x_ior, x_ixor, x_ishl, x_ishr, x_iushr, x_idiv, x_irem, x_ladd, x_land, x_lor, x_lshl, x_lshr, x_ineg, x_i2l, x_l2i, x_i2b, x_lcmp, x_dup, x_dup2, x_if_eq, x_if_ne, x_if_lt, x_if_ge, x_if_gt, x_if_le, x_ic_eq, x_ic_ne, x_ic_lt, x_ic_ge, x_ic_gt, x_ic_le, x_getI, x_getR, x_putI, x_putZ, x_putR, x_iald, x_bald, x_lald, x_iast, x_bast, x_last, x_alen, x_acp, x_mmax, x_mmin, x_callV, x_callS, x_iret, x_zret, x_lret, x_aret, x_vret, x_tsw, x_stop, zst1, zst2, zkill, zkl, zsplit, zmask, zent, zentL, List.getElem?_cons_zero, List.getElem?_cons_succ, List.set_cons_zero, List.set_cons_succ, List.set_nil, List.length_cons, List.length_nil, List.replicate, List.nil_append, List.cons_append, List.map_cons, List.map_nil, List.sum_cons, List.sum_nil, Value.category, Option.toList, List.contains_cons, List.contains_nil, true_or, or_true, true_and, Nat.zero_le, Nat.reduceAdd, Nat.reduceLeDiff, Nat.reduceLT, Nat.reduceBEq, Bool.true_or, Bool.or_true, Bool.false_or, Bool.or_false, ↓reduceIte, Bool.false_eq_true, Nat.add_zero, Nat.zero_add, Nat.reduceEqDiff, Nat.reduceSub, g1, b2i_0, ne_eq, Nat.reduceEqDiff, not_false_eq_true, not_true_eq_false, true_and, and_true, true_implies, false_implies, implies_true, and_self]
            refine ⟨12, rfl, vp_in_nI (by omega) (by omega), ?_⟩
            rw [nI_clamp (show now < 2 ^ 31 by omega), hE1 now (by omega), z_b1 (by omega) (by omega)]
            simp only [b2i_0, nI_i3]
            refine ⟨fun _ => ih2, fun q2 => ?_⟩
            have e12 : (12 : Int32) * nI (j + 1) + nI v = nI (12 * (j + 1) + v) := by rw [z_l12, pk_mul, nI_add]
            rw [e12, nI_clamp (by omega), hcell (j + 1) v (by omega) (by omega)]
            refine ⟨84, rfl, vp_in_nI (by omega) (by omega), fun q3 => ?_, fun _ => ih2⟩
            have hv2 := hno v hv
            rw [Nat.testBit_and] at hv2
            have q2 : (tE (aT A) now).testBit v = true := by simpa using q2
            rw [q2, Bool.and_true] at hv2
            exact absurd hv2 q3
          · rw [Nat.testBit_and, Bool.and_eq_true] at hb
            refine r_X12_first_87 hC hR m_X12_isSong (by decide) m_X12_layRest (by decide) m_X12_restFrom (by decide) m_X12_in (by decide) _ _ _ ?_
            simp only [T_X12_first_87, x_psh, x_ild, x_lld, x_ald, x_ist, x_ast, x_lst, x_inc, x_iadd, x_isub, x_imul, x_iand, x_ior, x_ixor, x_ishl, x_ishr, x_iushr, x_idiv, x_irem, x_ladd, x_land, x_lor, x_lshl, x_lshr, x_ineg, x_i2l, x_l2i, x_i2b, x_lcmp, x_dup, x_dup2, x_if_eq, x_if_ne, x_if_lt, x_if_ge, x_if_gt, x_if_le, x_ic_eq, x_ic_ne, x_ic_lt, x_ic_ge, x_ic_gt, x_ic_le, x_getI, x_getR, x_putI, x_putZ, x_putR, x_iald, x_bald, x_lald, x_iast, x_bast, x_last, x_alen, x_acp, x_mmax, x_mmin, x_callV, x_callS, x_iret, x_zret, x_lret, x_aret, x_vret, x_tsw, x_stop, zst1, zst2, zkill, zkl, zsplit, zmask, zent, zentL, List.getElem?_cons_zero, List.getElem?_cons_succ, List.set_cons_zero, List.set_cons_succ, List.set_nil, List.length_cons, List.length_nil, List.replicate, List.nil_append, List.cons_append, List.map_cons, List.map_nil, List.sum_cons, List.sum_nil, Value.category, Option.toList, List.contains_cons, List.contains_nil, true_or, or_true, true_and, Nat.zero_le, Nat.reduceAdd, Nat.reduceLeDiff, Nat.reduceLT, Nat.reduceBEq, Bool.true_or, Bool.or_true, Bool.false_or, Bool.or_false, ↓reduceIte, Bool.false_eq_true, Nat.add_zero, Nat.zero_add, Nat.reduceEqDiff, Nat.reduceSub, g1, b2i_0, ne_eq, Nat.reduceEqDiff, not_false_eq_true, not_true_eq_false, true_and, and_true, true_implies, false_implies, implies_true, and_self]
            refine ⟨12, rfl, vp_in_nI (by omega) (by omega), ?_⟩
            rw [nI_clamp (show now < 2 ^ 31 by omega), hE1 now (by omega), z_b1 (by omega) (by omega)]
            simp only [b2i_0, nI_i3]
            refine ⟨fun q2 => absurd hb.2 q2, fun _ => ?_⟩
            have e12 : (12 : Int32) * nI (j + 1) + nI nx = nI (12 * (j + 1) + nx) := by rw [z_l12, pk_mul, nI_add]
            rw [e12, nI_clamp (by omega), hcell (j + 1) nx (by omega) (by omega)]
            refine ⟨84, rfl, vp_in_nI (by omega) (by omega), fun _ => ?_, fun q3 => by rw [hb.1] at q3; cases q3⟩
            exact ih (j + 1) nx (by omega) hx1 hx2
        exact step 0 (by omega)
    obtain ⟨nx, hx1, hx2, hx3⟩ := fstW_some hA.t k n h0 0 (by omega)
    have hx1' := hx1
    rw [fstW] at hx1'
    simp only [lsbO] at hx1'
    rw [if_neg h0] at hx1'
    have hx1' := Option.some.inj hx1'
    have hno := fun j' (h : j' < nx) => lsb_no (opnS (aT A) (fxS (aT A) k 0) n (n - 1)) (by rw [hx1']; exact h)
    have step : ∀ v, v ≤ nx → WW C 58 [some (.ref 56), none, some (.int (nI i)), some (.int (nI v)), none, none] [] σ1 := by
      refine zloop (P := fun v => WW C 58 [some (.ref 56), none, some (.int (nI i)), some (.int (nI v)), none, none] [] σ1) nx (fun v hv ih2 => ?_) ?_
      · refine r_X12_first_58 hC hR m_X12_isSong (by decide) m_X12_layRest (by decide) m_X12_restFrom (by decide) m_X12_in (by decide) _ _ _ ?_
        simp only [T_X12_first_58, x_psh, x_ild, x_lld, x_ald, x_ist, x_ast, x_lst, x_inc, x_iadd, x_isub, x_imul, x_iand, x_ior, x_ixor, x_ishl, x_ishr, x_iushr, x_idiv, x_irem, x_ladd, x_land, x_lor, x_lshl, x_lshr, x_ineg, x_i2l, x_l2i, x_i2b, x_lcmp, x_dup, x_dup2, x_if_eq, x_if_ne, x_if_lt, x_if_ge, x_if_gt, x_if_le, x_ic_eq, x_ic_ne, x_ic_lt, x_ic_ge, x_ic_gt, x_ic_le, x_getI, x_getR, x_putI, x_putZ, x_putR, x_iald, x_bald, x_lald, x_iast, x_bast, x_last, x_alen, x_acp, x_mmax, x_mmin, x_callV, x_callS, x_iret, x_zret, x_lret, x_aret, x_vret, x_tsw, x_stop, zst1, zst2, zkill, zkl, zsplit, zmask, zent, zentL, List.getElem?_cons_zero, List.getElem?_cons_succ, List.set_cons_zero, List.set_cons_succ, List.set_nil, List.length_cons, List.length_nil, List.replicate, List.nil_append, List.cons_append, List.map_cons, List.map_nil, List.sum_cons, List.sum_nil, Value.category, Option.toList, List.contains_cons, List.contains_nil, true_or, or_true, true_and, Nat.zero_le, Nat.reduceAdd, Nat.reduceLeDiff, Nat.reduceLT, Nat.reduceBEq, Bool.true_or, Bool.or_true, Bool.false_or, Bool.or_false, ↓reduceIte, Bool.false_eq_true, Nat.add_zero, Nat.zero_add, Nat.reduceEqDiff, Nat.reduceSub, g1, b2i_0, ne_eq, Nat.reduceEqDiff, not_false_eq_true, not_true_eq_false, true_and, and_true, true_implies, false_implies, implies_true, and_self]
        have hc := hcell 0 v (by omega) (by omega)
        rw [show 12 * 0 + v = v by omega, show n - 1 - 0 = n - 1 by omega] at hc
        rw [nI_clamp (by omega), hc, nI_i3]
        exact ⟨84, rfl, vp_in_nI (by omega) (by omega), fun q3 => absurd (hno v hv) q3, fun _ => ih2⟩
      · refine r_X12_first_58 hC hR m_X12_isSong (by decide) m_X12_layRest (by decide) m_X12_restFrom (by decide) m_X12_in (by decide) _ _ _ ?_
        simp only [T_X12_first_58, x_psh, x_ild, x_lld, x_ald, x_ist, x_ast, x_lst, x_inc, x_iadd, x_isub, x_imul, x_iand, x_ior, x_ixor, x_ishl, x_ishr, x_iushr, x_idiv, x_irem, x_ladd, x_land, x_lor, x_lshl, x_lshr, x_ineg, x_i2l, x_l2i, x_i2b, x_lcmp, x_dup, x_dup2, x_if_eq, x_if_ne, x_if_lt, x_if_ge, x_if_gt, x_if_le, x_ic_eq, x_ic_ne, x_ic_lt, x_ic_ge, x_ic_gt, x_ic_le, x_getI, x_getR, x_putI, x_putZ, x_putR, x_iald, x_bald, x_lald, x_iast, x_bast, x_last, x_alen, x_acp, x_mmax, x_mmin, x_callV, x_callS, x_iret, x_zret, x_lret, x_aret, x_vret, x_tsw, x_stop, zst1, zst2, zkill, zkl, zsplit, zmask, zent, zentL, List.getElem?_cons_zero, List.getElem?_cons_succ, List.set_cons_zero, List.set_cons_succ, List.set_nil, List.length_cons, List.length_nil, List.replicate, List.nil_append, List.cons_append, List.map_cons, List.map_nil, List.sum_cons, List.sum_nil, Value.category, Option.toList, List.contains_cons, List.contains_nil, true_or, or_true, true_and, Nat.zero_le, Nat.reduceAdd, Nat.reduceLeDiff, Nat.reduceLT, Nat.reduceBEq, Bool.true_or, Bool.or_true, Bool.false_or, Bool.or_false, ↓reduceIte, Bool.false_eq_true, Nat.add_zero, Nat.zero_add, Nat.reduceEqDiff, Nat.reduceSub, g1, b2i_0, ne_eq, Nat.reduceEqDiff, not_false_eq_true, not_true_eq_false, true_and, and_true, true_implies, false_implies, implies_true, and_self]
        have hc := hcell 0 nx (by omega) (by omega)
        rw [show 12 * 0 + nx = nx by omega, show n - 1 - 0 = n - 1 by omega] at hc
        rw [nI_clamp (by omega), hc]
        refine ⟨84, rfl, vp_in_nI (by omega) (by omega), fun _ => main i 0 nx (by omega) hx1 hx2, fun q3 => ?_⟩
        rw [show n - 1 - 0 = n - 1 by omega, q3] at hx3
        cases hx3
    exact step 0 (by omega)
  · simp only [h1] at hQ
    simp only [h2, b2i_0, ne_eq, Nat.reduceEqDiff, not_false_eq_true, not_true_eq_false, true_and, and_true, true_implies, false_implies, implies_true, and_self]
    exact hQ σ (ZF.refl _ _ _) hK
