theorem tpB_dm {c : Int32} {D s : Nat} (hD : D ≤ 12) (h : dmS c D = some s) : ∀ d, d < D → tpB c d = s.testBit d := by
  intro d hd
  unfold dmS at h
  unfold tpB
  by_cases e : c = -9
  · rw [if_pos e] at h
    have := Option.some.inj h
    subst this
    rw [Nat.testBit_two_pow_sub_one]
    simp [e, hd]
  · rw [if_neg e] at h
    rcases ix_cases c (n := D) (by omega) with ⟨k, h1, h2, h3⟩ | ⟨h1, h2⟩
    · rw [h3] at h
      have := Option.some.inj h
      subst this
      subst h2
      rw [Nat.testBit_two_pow]
      have : (nI k = -9 ∨ nI k = nI d) ↔ k = d := by
        constructor
        · rintro (q | q)
          · exact absurd q e
          · exact (nI_eq (by omega) (by omega)).mp q
        · intro q; rw [q]; exact Or.inr rfl
      simp [this]
    · rw [h2] at h; cases h
theorem tpB_9 : tpB (-9) = fun _ => true := by
  funext d
  unfold tpB
  simp
def w_X12_ways : WPt := fun args σ Q => match args with
  | [.ref x, .int d, .int y, .int z] => x = 56 ∧ PubN σ (q_ways · d y z) Q
  | _ => False
set_option maxHeartbeats 1000000 in
theorem m_X12_ways : Meets yX12_ways cX12_ways 4 (some .long) 4 w_X12_ways := by
  refine Meets.mk (by decide) fun args σ Φ h => ?_
  unfold w_X12_ways at h
  split at h
  rotate_left
  · exact h.elim
  rename_i x d y z
  obtain ⟨x, rfl⟩ : ∃ q : Nat, q = x := ⟨x, rfl⟩
  obtain ⟨hx, A, hK, hA, hQ⟩ := h
  subst hx
  refine ⟨Nat.le_of_ble_eq_true rfl, fun C hC hR => ?_⟩
  have hf := mod_f hK
  have hN := hA.1
  have hD1 := hA.t.1
  have hD := hA.t.2.1
  have hS := hA.t.2.2.1
  have hW := hA.2.2.1.2.1
  have hE := hA.2.2.1.2.2.1
  have hp := z_pow31 hD
  have hV := hK.2
  refine r_X12_ways_0 hC hR m_X12_isSong (by decide) m_X12_isAny (by decide) m_X12_layRest (by decide) m_X12_restFrom (by decide) _ _ _ ?_
  simp only [T_X12_ways_0, x_psh, x_ild, x_lld, x_ald, x_ist, x_ast, x_lst, x_inc, x_iadd, x_isub, x_imul, x_iand, x_ior, x_ixor, x_ishl, x_ishr, x_iushr, x_idiv, x_irem, x_ladd, x_land, x_lor, x_lshl, x_lshr, x_ineg, x_i2l, x_l2i, x_i2b, x_lcmp, x_dup, x_dup2, x_if_eq, x_if_ne, x_if_lt, x_if_ge, x_if_gt, x_if_le, x_ic_eq, x_ic_ne, x_ic_lt, x_ic_ge, x_ic_gt, x_ic_le, x_getI, x_getR, x_putI, x_putZ, x_putR, x_iald, x_bald, x_lald, x_iast, x_bast, x_last, x_alen, x_acp, x_mmax, x_mmin, x_callV, x_callS, x_iret, x_zret, x_lret, x_aret, x_vret, x_tsw, x_stop, zst1, zst2, zkill, zkl, zsplit, zmask, zent, zentL, List.getElem?_cons_zero, List.getElem?_cons_succ, List.set_cons_zero, List.set_cons_succ, List.set_nil, List.length_cons, List.length_nil, List.replicate, List.nil_append, List.cons_append, List.map_cons, List.map_nil, List.sum_cons, List.sum_nil, Value.category, Option.toList, List.contains_cons, List.contains_nil, true_or, or_true, true_and, Nat.zero_le, Nat.reduceAdd, Nat.reduceLeDiff, Nat.reduceLT, Nat.reduceBEq, Bool.true_or, Bool.or_true, Bool.false_or, Bool.or_false, ↓reduceIte, Bool.false_eq_true, Nat.add_zero, Nat.zero_add, Nat.reduceEqDiff, Nat.reduceSub, hf, w_X12_isSong, w_X12_isAny, b2i_0, ne_eq, Nat.reduceEqDiff, not_false_eq_true, not_true_eq_false, true_and, and_true, true_implies, false_implies, implies_true, and_self]
  unfold q_ways at hQ
  refine ⟨tS (aT A), rfl, by omega, ?_⟩
  rcases ix_cs d (show tS (aT A) < 2 ^ 31 by omega) with ⟨k, hk, rfl, h1, h2⟩ | ⟨h1, h2⟩
  · simp only [h1] at hQ
    simp only [h2, b2i_0, ne_eq, Nat.reduceEqDiff, not_false_eq_true, not_true_eq_false, true_and, and_true, true_implies, false_implies, implies_true, and_self]
    refine ⟨tD (aT A), rfl, hD, ?_⟩
    cases h3 : dmS y (tD (aT A)) with
    | none =>
      simp only [h3] at hQ
      simp only [Option.isSome, b2i_0, ne_eq, Nat.reduceEqDiff, not_false_eq_true, not_true_eq_false, true_and, and_true, true_implies, false_implies, implies_true, and_self]
      exact ⟨fun _ => hQ σ (ZF.refl _ _ _) hK, fun q => absurd (by simp) q⟩
    | some fr =>
      simp only [h3] at hQ
      simp only [Option.isSome, b2i_0, ne_eq, Nat.reduceEqDiff, not_false_eq_true, not_true_eq_false, true_and, and_true, true_implies, false_implies, implies_true, and_self]
      refine ⟨tD (aT A), rfl, hD, ?_⟩
      cases h4 : dmS z (tD (aT A)) with
      | none =>
        simp only [h4] at hQ
        simp only [Option.isSome, b2i_0, ne_eq, Nat.reduceEqDiff, not_false_eq_true, not_true_eq_false, true_and, and_true, true_implies, false_implies, implies_true, and_self]
        exact ⟨fun q => absurd q (by simp), fun _ => hQ σ (ZF.refl _ _ _) hK⟩
      | some to =>
        simp only [h4] at hQ
        simp only [Option.isSome, w_X12_layRest, b2i_0, ne_eq, Nat.reduceEqDiff, not_false_eq_true, not_true_eq_false, true_and, and_true, true_implies, false_implies, implies_true, and_self]
        have hL := hA.l hk
        refine ⟨4, rfl, vp_in_nI (by omega) (by omega), aT A, k, tL (aT A) k, 0, MdT.of hK hA, rfl, hk, ?_, Nat.le_refl _, rfl, by omega, fun σ1 hj hr => ?_⟩
        · rw [nI_clamp (by omega), hV.1.2.2.2.2.1 k hk]
        have hq1 : MoQ σ σ1 := hj.m (by decide) (by decide)
        have hK1 := hq1.r hK
        have g1 := mod_f hK1
        simp only [g1, w_X12_restFrom, x_psh, x_ild, x_lld, x_ald, x_ist, x_ast, x_lst, x_inc, x_iadd, x_isub, x_imul, x_iand, x_ior, x_ixor, x_ishl, x_ishr, x_iushr, x_idiv, x_irem, x_ladd, x_land, x_lor, x_lshl, x_lshr, x_ineg, x_i2l, x_l2i, x_i2b, x_lcmp, x_dup, x_dup2, x_if_eq, x_if_ne, x_if_lt, x_if_ge, x_if_gt, x_if_le, x_ic_eq, x_ic_ne, x_ic_lt, x_ic_ge, x_ic_gt, x_ic_le, x_getI, x_getR, x_putI, x_putZ, x_putR, x_iald, x_bald, x_lald, x_iast, x_bast, x_last, x_alen, x_acp, x_mmax, x_mmin, x_callV, x_callS, x_iret, x_zret, x_lret, x_aret, x_vret, x_tsw, x_stop, zst1, zst2, zkill, zkl, zsplit, zmask, zent, zentL, List.getElem?_cons_zero, List.getElem?_cons_succ, List.set_cons_zero, List.set_cons_succ, List.set_nil, List.length_cons, List.length_nil, List.replicate, List.nil_append, List.cons_append, List.map_cons, List.map_nil, List.sum_cons, List.sum_nil, Value.category, Option.toList, List.contains_cons, List.contains_nil, true_or, or_true, true_and, Nat.zero_le, Nat.reduceAdd, Nat.reduceLeDiff, Nat.reduceLT, Nat.reduceBEq, Bool.true_or, Bool.or_true, Bool.false_or, Bool.or_false, ↓reduceIte, Bool.false_eq_true, Nat.add_zero, Nat.zero_add, Nat.reduceEqDiff, Nat.reduceSub, b2i_0, ne_eq, Nat.reduceEqDiff, not_false_eq_true, not_true_eq_false, true_and, and_true, true_implies, false_implies, implies_true, and_self]
        refine ⟨aT A, rsB (aT A) (fxS (aT A) k 0) (tpB z) (tL (aT A) k) (tL (aT A) k - 1), MdT.of hK1 hA, fun d hd => ?_, ?_⟩
        · have := hr 0 d (by omega) (by omega)
          rw [show 12 * 0 + d = d by omega, show tL (aT A) k - 1 - 0 = tL (aT A) k - 1 by omega] at this
          exact this
        · have e := ways_eq hA.t (fxS (aT A) k 0) (tpB z) fr to (tL (aT A) k) hL.1 (tpB_dm hD h4)
          rw [sumN_congr (g := fun d => if fr.testBit d then rsB (aT A) (fxS (aT A) k 0) (tpB z) (tL (aT A) k) (tL (aT A) k - 1) d else 0) _ (fun d hd => by rw [tpB_dm hD h3 d hd]), e, fxS_0]
          exact hQ σ1 hq1.z hK1
  · simp only [h1] at hQ
    simp only [h2, b2i_0, ne_eq, Nat.reduceEqDiff, not_false_eq_true, not_true_eq_false, true_and, and_true, true_implies, false_implies, implies_true, and_self]
    exact hQ σ (ZF.refl _ _ _) hK
/-- what the rows say, for every column -/
theorem rs_nz' {T : TD} (hT : TdOk T) (k st n j d : Nat) (hj : j < n) : rsB T (fxS T k st) (fun _ => true) n j d ≠ 0 ↔ (opnS T (fxS T k st) n j).testBit d = true := by
  by_cases hd : d < tD T
  · exact rs_nz hT _ n j d hj hd
  · have h1 : rsB T (fxS T k st) (fun _ => true) n j d = 0 := rsB_F _ _ n j d hj (fxS_out (by omega))
    have h2 : (opnS T (fxS T k st) n j).testBit d = false := by
      cases j with
      | zero => rw [opnS]; exact fxS_out (by omega)
      | succ j => rw [opnS, Nat.testBit_and, fxS_out (by omega)]; simp
    rw [h1, h2]
    simp
theorem rest_sum {T : TD} (hT : TdOk T) (k st n : Nat) (hn : 1 ≤ n) : sumN (fun d => if tpB (-9) d then rsB T (fxS T k st) (tpB (-9)) n (n - 1) d else 0) (tD T) ≠ 0 ↔ opnS T (fxS T k st) n (n - 1) ≠ 0 := by
  rw [tpB_9, sumN_nz]
  constructor
  · rintro ⟨d, hd, h⟩ h0
    have := (rs_nz' hT k st n (n - 1) d (by omega)).mp (by simpa using h)
    rw [h0, Nat.zero_testBit] at this
    cases this
  · intro h
    obtain ⟨d, hd⟩ := ex_bit h
    have hdD : d < tD T := by
      refine Classical.byContradiction fun hc => ?_
      have h2 : (opnS T (fxS T k st) n (n - 1)).testBit d = false := by
        cases hn1 : n - 1 with
        | zero => rw [opnS]; exact fxS_out (by omega)
        | succ j => rw [opnS, Nat.testBit_and, fxS_out (by omega)]; simp
      rw [h2] at hd; cases hd
    exact ⟨d, hdD, by simpa using (rs_nz' hT k st n (n - 1) d (by omega)).mpr hd⟩
theorem rest_le {T : TD} (hT : TdOk T) (F : Nat → Nat) (tp tq : Nat → Bool) (n : Nat) (hn : n ≤ 6) : sumN (fun d => if tp d then rsB T F tq n (n - 1) d else 0) (tD T) < 2 ^ 40 := by
  have := sumN_le (f := fun d => if tp d then rsB T F tq n (n - 1) d else 0) (c := 12 ^ 6) (tD T) (fun d _ => by
    show (if tp d then rsB T F tq n (n - 1) d else 0) ≤ 12 ^ 6
    split
    · exact Nat.le_trans (rsB_le F tq n (n - 1) d) (Nat.pow_le_pow_right (by decide) (by omega))
    · exact Nat.zero_le _)
  have hD := hT.2.1
  have e : tD T * 12 ^ 6 ≤ 12 * 12 ^ 6 := Nat.mul_le_mul_right _ hD
  have e2 : 12 * 12 ^ 6 < 2 ^ 40 := by decide
  omega
theorem lcmp_nz {x : Nat} (h : x < 2 ^ 63) : (lg_cmp (lN x) 0 = 0) = (x = 0) := by
  apply propext
  rw [lg_cmp0]
  exact pk_lEQ (b := 0) h (by decide)
theorem lcmp_le {x : Nat} (h : x < 2 ^ 63) : (lg_cmp (lN x) 0 ≤ 0) = (x = 0) := by
  apply propext
  rw [← Int32.not_lt, lg_gt]
  have : (0 : Int64) < lN x ↔ 0 < x := pk_lLT (a := 0) (by decide) h
  rw [this]
  omega
def w_X12_begun : WPt := fun args σ Q => match args with
  | [.ref x, .int d] => x = 56 ∧ PubM σ (q_begun · d) Q
  | _ => False
/-- the end set is empty just when the start set is -/
theorem opn_fwd {T : TD} (hT : TdOk T) (k st n : Nat) (hn : 1 ≤ n) : opnS T (fxS T k st) n (n - 1) ≠ 0 ↔ fwd T (fxS T k st) (2 ^ tD T - 1) (n - 1) ≠ 0 := by
  rw [← rest_sum hT k st n hn, tpB_9]
  have e := ways_eq hT (fxS T k st) (fun _ => true) (2 ^ tD T - 1) (2 ^ tD T - 1) n hn (fun d hd => by rw [Nat.testBit_two_pow_sub_one]; simp [hd])
  have e2 : sumN (fun d => if (fun _ => true) d = true then rsB T (fxS T k st) (fun _ => true) n (n - 1) d else 0) (tD T) = sumN (fun d => if (2 ^ tD T - 1).testBit d then rsB T (fxS T k st) (fun _ => true) n (n - 1) d else 0) (tD T) := sumN_congr _ (fun d hd => by rw [Nat.testBit_two_pow_sub_one]; simp [hd])
  rw [e2, e]
  unfold cwR
  rw [if_neg (by omega), sumN_nz]
  constructor
  · rintro ⟨d, hd, h⟩ h0
    have : cwW T (fxS T k st) (2 ^ tD T - 1) (n - 1) d ≠ 0 := by
      intro h1; rw [h1] at h; simp at h
    rw [cw_nz hT _ _ _ d hd, h0, Nat.zero_testBit] at this
    cases this
  · intro h
    obtain ⟨d, hd⟩ := ex_bit h
    have hdD : d < tD T := by
      refine Classical.byContradiction fun hc => ?_
      have h2 : (fwd T (fxS T k st) (2 ^ tD T - 1) (n - 1)).testBit d = false := by
        cases hn1 : n - 1 with
        | zero => rw [fwd, Nat.testBit_and, fxS_out (by omega)]; simp
        | succ j => rw [fwd, Nat.testBit_and, fxS_out (by omega)]; simp
      rw [h2] at hd; cases hd
    refine ⟨d, hdD, ?_⟩
    rw [Nat.testBit_two_pow_sub_one, decide_eq_true hdD, if_pos rfl]
    exact (cw_nz hT _ _ _ d hdD).mpr hd
theorem bgn_fwd (T : TD) (F : Nat → Nat) : ∀ p, bgnS T F p &&& F p = fwd T F (2 ^ tD T - 1) p
  | 0 => rfl
  | p + 1 => by rw [bgnS, fwd, bgn_fwd T F p]
theorem fwd_mono (T : TD) (F : Nat → Nat) (fr : Nat) : ∀ p q, p ≤ q → fwd T F fr p = 0 → fwd T F fr q = 0
  | p, 0, h, h0 => by rw [show p = 0 by omega] at h0; exact h0
  | p, q + 1, h, h0 => by
    by_cases e : p = q + 1
    · rw [← e]; exact h0
    · rw [fwd, fwd_mono T F fr p q (by omega) h0, arS_0, Nat.zero_and]
set_option maxHeartbeats 1000000 in
theorem m_X12_begun : Meets yX12_begun cX12_begun 3 (some .int) 3 w_X12_begun := by
  refine Meets.mk (by decide) fun args σ Φ h => ?_
  unfold w_X12_begun at h
  split at h
  rotate_left
  · exact h.elim
  rename_i x d
  obtain ⟨x, rfl⟩ : ∃ q : Nat, q = x := ⟨x, rfl⟩
  obtain ⟨hx, A, hK, hA, hQ⟩ := h
  subst hx
  refine ⟨Nat.le_of_ble_eq_true rfl, fun C hC hR => ?_⟩
  have hf := mod_f hK
  have hN := hA.1
  have hD1 := hA.t.1
  have hD := hA.t.2.1
  have hS := hA.t.2.2.1
  have hW := hA.2.2.1.2.1
  have hE := hA.2.2.1.2.2.1
  have hp := z_pow31 hD
  have hV := hK.2
  refine r_X12_begun_0 hC hR m_X12_isSong (by decide) m_X12_layRest (by decide) m_X12_restFrom (by decide) _ _ _ ?_
  simp only [T_X12_begun_0, x_psh, x_ild, x_lld, x_ald, x_ist, x_ast, x_lst, x_inc, x_iadd, x_isub, x_imul, x_iand, x_ior, x_ixor, x_ishl, x_ishr, x_iushr, x_idiv, x_irem, x_ladd, x_land, x_lor, x_lshl, x_lshr, x_ineg, x_i2l, x_l2i, x_i2b, x_lcmp, x_dup, x_dup2, x_if_eq, x_if_ne, x_if_lt, x_if_ge, x_if_gt, x_if_le, x_ic_eq, x_ic_ne, x_ic_lt, x_ic_ge, x_ic_gt, x_ic_le, x_getI, x_getR, x_putI, x_putZ, x_putR, x_iald, x_bald, x_lald, x_iast, x_bast, x_last, x_alen, x_acp, x_mmax, x_mmin, x_callV, x_callS, x_iret, x_zret, x_lret, x_aret, x_vret, x_tsw, x_stop, zst1, zst2, zkill, zkl, zsplit, zmask, zent, zentL, List.getElem?_cons_zero, List.getElem?_cons_succ, List.set_cons_zero, List.set_cons_succ, List.set_nil, List.length_cons, List.length_nil, List.replicate, List.nil_append, List.cons_append, List.map_cons, List.map_nil, List.sum_cons, List.sum_nil, Value.category, Option.toList, List.contains_cons, List.contains_nil, true_or, or_true, true_and, Nat.zero_le, Nat.reduceAdd, Nat.reduceLeDiff, Nat.reduceLT, Nat.reduceBEq, Bool.true_or, Bool.or_true, Bool.false_or, Bool.or_false, ↓reduceIte, Bool.false_eq_true, Nat.add_zero, Nat.zero_add, Nat.reduceEqDiff, Nat.reduceSub, hf, w_X12_isSong, b2i_0, ne_eq, Nat.reduceEqDiff, not_false_eq_true, not_true_eq_false, true_and, and_true, true_implies, false_implies, implies_true, and_self]
  unfold q_begun at hQ
  refine ⟨tS (aT A), rfl, by omega, ?_⟩
  rcases ix_cs d (show tS (aT A) < 2 ^ 31 by omega) with ⟨k, hk, rfl, h1, h2⟩ | ⟨h1, h2⟩
  · simp only [h1] at hQ
    simp only [h2, b2i_0, ne_eq, Nat.reduceEqDiff, not_false_eq_true, not_true_eq_false, true_and, and_true, true_implies, false_implies, implies_true, and_self]
    have hL := hA.l hk
    refine ⟨4, rfl, vp_in_nI (by omega) (by omega), ?_⟩
    rw [nI_clamp (by omega), hV.1.2.2.2.2.1 k hk]
    have hset : ∀ p, bgnS (aT A) (sF (aT A) k) p &&& sF (aT A) k p = fwd (aT A) (sF (aT A) k) (2 ^ tD (aT A) - 1) p := bgn_fwd _ _
    have key : ∀ m, m ≤ tL (aT A) k → (∀ p, m ≤ p → p < tL (aT A) k → fwd (aT A) (sF (aT A) k) (2 ^ tD (aT A) - 1) p = 0) → ∀ τ, MoQ σ τ → WW C 17 [some (.ref 56), some (.int (nI k)), some (.int (nI m))] [] τ := by
      intro m
      induction m with
      | zero =>
        intro _ hz τ hq
        refine r_X12_begun_17 hC hR m_X12_isSong (by decide) m_X12_layRest (by decide) m_X12_restFrom (by decide) _ _ _ ?_
        simp only [T_X12_begun_17, x_psh, x_ild, x_lld, x_ald, x_ist, x_ast, x_lst, x_inc, x_iadd, x_isub, x_imul, x_iand, x_ior, x_ixor, x_ishl, x_ishr, x_iushr, x_idiv, x_irem, x_ladd, x_land, x_lor, x_lshl, x_lshr, x_ineg, x_i2l, x_l2i, x_i2b, x_lcmp, x_dup, x_dup2, x_if_eq, x_if_ne, x_if_lt, x_if_ge, x_if_gt, x_if_le, x_ic_eq, x_ic_ne, x_ic_lt, x_ic_ge, x_ic_gt, x_ic_le, x_getI, x_getR, x_putI, x_putZ, x_putR, x_iald, x_bald, x_lald, x_iast, x_bast, x_last, x_alen, x_acp, x_mmax, x_mmin, x_callV, x_callS, x_iret, x_zret, x_lret, x_aret, x_vret, x_tsw, x_stop, zst1, zst2, zkill, zkl, zsplit, zmask, zent, zentL, List.getElem?_cons_zero, List.getElem?_cons_succ, List.set_cons_zero, List.set_cons_succ, List.set_nil, List.length_cons, List.length_nil, List.replicate, List.nil_append, List.cons_append, List.map_cons, List.map_nil, List.sum_cons, List.sum_nil, Value.category, Option.toList, List.contains_cons, List.contains_nil, true_or, or_true, true_and, Nat.zero_le, Nat.reduceAdd, Nat.reduceLeDiff, Nat.reduceLT, Nat.reduceBEq, Bool.true_or, Bool.or_true, Bool.false_or, Bool.or_false, ↓reduceIte, Bool.false_eq_true, Nat.add_zero, Nat.zero_add, Nat.reduceEqDiff, Nat.reduceSub, b2i_0, ne_eq, Nat.reduceEqDiff, not_false_eq_true, not_true_eq_false, true_and, and_true, true_implies, false_implies, implies_true, and_self]
        refine ⟨fun _ => ?_, fun q => absurd (show nI 0 ≤ 0 by decide) q⟩
        have e : fstB (fun p => decide (bgnS (aT A) (sF (aT A) k) p &&& sF (aT A) k p = 0)) (tL (aT A) k) = 0 := fstB_eq (by omega) (by simp only [hset]; rw [hz 0 (by omega) (by omega)]; rfl) (fun j hj => by omega)
        rw [e] at hQ
        exact hQ τ hq.z (hq.r hK)
      | succ m ih =>
        intro hm hz τ hq
        have hK1 := hq.r hK
        have g1 := mod_f hK1
        refine r_X12_begun_17 hC hR m_X12_isSong (by decide) m_X12_layRest (by decide) m_X12_restFrom (by decide) _ _ _ ?_
        simp only [T_X12_begun_17, x_psh, x_ild, x_lld, x_ald, x_ist, x_ast, x_lst, x_inc, x_iadd, x_isub, x_imul, x_iand, x_ior, x_ixor, x_ishl, x_ishr, x_iushr, x_idiv, x_irem, x_ladd, x_land, x_lor, x_lshl, x_lshr, x_ineg, x_i2l, x_l2i, x_i2b, x_lcmp, x_dup, x_dup2, x_if_eq, x_if_ne, x_if_lt, x_if_ge, x_if_gt, x_if_le, x_ic_eq, x_ic_ne, x_ic_lt, x_ic_ge, x_ic_gt, x_ic_le, x_getI, x_getR, x_putI, x_putZ, x_putR, x_iald, x_bald, x_lald, x_iast, x_bast, x_last, x_alen, x_acp, x_mmax, x_mmin, x_callV, x_callS, x_iret, x_zret, x_lret, x_aret, x_vret, x_tsw, x_stop, zst1, zst2, zkill, zkl, zsplit, zmask, zent, zentL, List.getElem?_cons_zero, List.getElem?_cons_succ, List.set_cons_zero, List.set_cons_succ, List.set_nil, List.length_cons, List.length_nil, List.replicate, List.nil_append, List.cons_append, List.map_cons, List.map_nil, List.sum_cons, List.sum_nil, Value.category, Option.toList, List.contains_cons, List.contains_nil, true_or, or_true, true_and, Nat.zero_le, Nat.reduceAdd, Nat.reduceLeDiff, Nat.reduceLT, Nat.reduceBEq, Bool.true_or, Bool.or_true, Bool.false_or, Bool.or_false, ↓reduceIte, Bool.false_eq_true, Nat.add_zero, Nat.zero_add, Nat.reduceEqDiff, Nat.reduceSub, g1, w_X12_layRest, b2i_0, ne_eq, Nat.reduceEqDiff, not_false_eq_true, not_true_eq_false, true_and, and_true, true_implies, false_implies, implies_true, and_self]
        refine ⟨fun q => absurd (show nI (m + 1) ≤ nI 0 from q) (nI_ge (by omega) (by omega)), fun _ => ⟨aT A, k, m + 1, 0, MdT.of hK1 hA, rfl, hk, rfl, hm, rfl, by omega, fun σ1 hj hr => ?_⟩⟩
        have hq1 : MoQ σ σ1 := hq.trans (hj.m (by decide) (by decide))
        have hK2 := hq1.r hK
        have g2 := mod_f hK2
        simp only [g2, w_X12_restFrom, x_psh, x_ild, x_lld, x_ald, x_ist, x_ast, x_lst, x_inc, x_iadd, x_isub, x_imul, x_iand, x_ior, x_ixor, x_ishl, x_ishr, x_iushr, x_idiv, x_irem, x_ladd, x_land, x_lor, x_lshl, x_lshr, x_ineg, x_i2l, x_l2i, x_i2b, x_lcmp, x_dup, x_dup2, x_if_eq, x_if_ne, x_if_lt, x_if_ge, x_if_gt, x_if_le, x_ic_eq, x_ic_ne, x_ic_lt, x_ic_ge, x_ic_gt, x_ic_le, x_getI, x_getR, x_putI, x_putZ, x_putR, x_iald, x_bald, x_lald, x_iast, x_bast, x_last, x_alen, x_acp, x_mmax, x_mmin, x_callV, x_callS, x_iret, x_zret, x_lret, x_aret, x_vret, x_tsw, x_stop, zst1, zst2, zkill, zkl, zsplit, zmask, zent, zentL, List.getElem?_cons_zero, List.getElem?_cons_succ, List.set_cons_zero, List.set_cons_succ, List.set_nil, List.length_cons, List.length_nil, List.replicate, List.nil_append, List.cons_append, List.map_cons, List.map_nil, List.sum_cons, List.sum_nil, Value.category, Option.toList, List.contains_cons, List.contains_nil, true_or, or_true, true_and, Nat.zero_le, Nat.reduceAdd, Nat.reduceLeDiff, Nat.reduceLT, Nat.reduceBEq, Bool.true_or, Bool.or_true, Bool.false_or, Bool.or_false, ↓reduceIte, Bool.false_eq_true, Nat.add_zero, Nat.zero_add, Nat.reduceEqDiff, Nat.reduceSub, b2i_0, ne_eq, Nat.reduceEqDiff, not_false_eq_true, not_true_eq_false, true_and, and_true, true_implies, false_implies, implies_true, and_self]
        refine ⟨aT A, rsB (aT A) (fxS (aT A) k 0) (tpB (-9)) (m + 1) m, MdT.of hK2 hA, fun d hd => ?_, ?_⟩
        · have := hr 0 d (by omega) (by omega)
          rw [show 12 * 0 + d = d by omega, show m + 1 - 1 - 0 = m by omega] at this
          exact this
        have hlt := rest_le hA.t (fxS (aT A) k 0) (tpB (-9)) (tpB (-9)) (m + 1) (by omega)
        have hrs := rest_sum hA.t k 0 (m + 1) (by omega)
        rw [opn_fwd hA.t k 0 (m + 1) (by omega), fxS_0] at hrs
        rw [fxS_0] at hlt
        rw [show m + 1 - 1 = m by omega] at hrs hlt
        rw [fxS_0, lcmp_le (by omega)]
        refine ⟨fun q => ?_, fun q => ?_⟩
        · rw [dn_dec, dn_s]
          refine ih (by omega) (fun p hp1 hp2 => ?_) σ1 hq1
          by_cases e : p = m
          · subst e
            refine Classical.byContradiction fun hc => ?_
            exact hrs.mpr hc q
          · exact hz p (by omega) hp2
        · have hne := hrs.mp q
          have hne' : ∀ j, j < m + 1 → (fun p => decide (bgnS (aT A) (sF (aT A) k) p &&& sF (aT A) k p = 0)) j = false := fun j hj => by
            simp only [hset]
            exact decide_eq_false (fun h0 => hne (fwd_mono _ _ _ j m (by omega) h0))
          have e : fstB (fun p => decide (bgnS (aT A) (sF (aT A) k) p &&& sF (aT A) k p = 0)) (tL (aT A) k) = m + 1 := by
            by_cases e : m + 1 = tL (aT A) k
            · have h1 := fstB_le (fun p => decide (bgnS (aT A) (sF (aT A) k) p &&& sF (aT A) k p = 0)) (tL (aT A) k)
              rcases Nat.lt_or_ge (fstB (fun p => decide (bgnS (aT A) (sF (aT A) k) p &&& sF (aT A) k p = 0)) (tL (aT A) k)) (tL (aT A) k) with h | h
              · have h3 := fstB_yes _ _ h
                exact absurd ((hne' _ (by omega)).symm.trans h3) (by simp)
              · omega
            · exact fstB_eq (by omega) (by simp only [hset]; rw [hz (m + 1) (by omega) (by omega)]; rfl) hne'
          rw [e] at hQ
          exact hQ σ1 hq1.z hK2
    exact key _ (Nat.le_refl _) (fun p h1 h2 => by omega) σ (MoQ.refl _)
  · simp only [h1] at hQ
    simp only [h2, b2i_0, ne_eq, Nat.reduceEqDiff, not_false_eq_true, not_true_eq_false, true_and, and_true, true_implies, false_implies, implies_true, and_self]
    exact hQ σ (ZF.refl _ _ _) hK
