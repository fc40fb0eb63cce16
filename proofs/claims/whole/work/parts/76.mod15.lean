/-- how many ways go on from a door, told from the end -/
def rsB (T : TD) (Fx : Nat → Nat) (tp : Nat → Bool) (n : Nat) : Nat → Nat → Nat
  | 0 => fun d => if (Fx (n - 1)).testBit d then (if tp d then 1 else 0) else 0
  | j + 1 => fun d => if (Fx (n - 2 - j)).testBit d then sumN (fun o => if (tE T d).testBit o then rsB T Fx tp n j o else 0) 12 else 0
def tpB (c : Int32) : Nat → Bool := fun d => decide (c = -9 ∨ c = nI d)
def w_X12_layRest : WPt := fun args σ Q => match args with
  | [.ref x, .int a, .int b, .int c, .int e] => x = 56 ∧ ∃ T k n st, MdT σ T ∧ a = nI k ∧ k < tS T ∧ b = nI n ∧ n ≤ tL T k ∧ e = nI st ∧ st < 2 ^ 31 ∧ ∀ σ', JF σ σ' 67 → (∀ i d, i < n → d < 12 → zJ σ' 67 (12 * i + d) = lN (rsB T (fxS T k st) (tpB c) n (n - 1 - i) d)) → Q none σ'
  | _ => False
theorem zJ_at (σ : ZS) (i j : Nat) (v : Int64) (k : Nat) : zJ (sJ σ i j v) i k = if k = j then v else zJ σ i k := by
  rw [zJ_sJ, if_pos rfl]
  by_cases h : k = j
  · subst h; rw [if_pos rfl, pk_uLs]
  · rw [if_neg h, pk_uLn h]
theorem jf_one {σ : ZS} {a j : Nat} {v : Int64} : JF σ (sJ σ a j v) a := ⟨rfl, rfl, rfl, fun i hi => by rw [zJ_sJ, if_neg hi]⟩
theorem TdOk.e {T : TD} (h : TdOk T) (k : Nat) : tE T k < 4096 := by
  have hp := z_pow31 h.2.1
  by_cases hk : k < tD T
  · have := (h.2.2.2.1 k hk).2.1; omega
  · rw [h.2.2.2.2.2.2 k (by omega)]; omega
set_option maxHeartbeats 4000000 in
theorem m_X12_layRest : Meets yX12_layRest cX12_layRest 10 none 2 w_X12_layRest := by
  refine Meets.mk (by decide) fun args σ Φ h => ?_
  unfold w_X12_layRest at h
  split at h
  rotate_left
  · exact h.elim
  rename_i x a b c e
  obtain ⟨x, rfl⟩ : ∃ q : Nat, q = x := ⟨x, rfl⟩
  obtain ⟨hx, T, k, n, st, hM, rfl, hk, rfl, hn, rfl, hst, hQ⟩ := h
  subst hx
  refine ⟨Nat.le_of_ble_eq_true rfl, fun C hC hR => ?_⟩
  have ⟨hm, hv, hT⟩ := hM
  have hD := hT.2.1
  have hL := (hT.2.2.2.2.2.1 k hk).2.1
  have hE : ∀ τ, JF σ τ 67 → ∀ d, d < 12 → zI τ 62 d = nI (tE T d) := fun τ hj d hd => by rw [hj.2.2.1]; exact hv.2.2.2.1 d hd
  have hp := z_pow31 hD
  have outer : ∀ r, r ≤ n → ∀ τ, JF σ τ 67 → (∀ i d, r ≤ i → i < n → d < 12 → zJ τ 67 (12 * i + d) = lN (rsB T (fxS T k st) (tpB c) n (n - 1 - i) d)) → WW C 5 [some (.ref 56), some (.int (nI k)), some (.int (nI n)), some (.int c), some (.int (nI st)), some (.int (dn r)), none, none, none, none] [] τ := by
    intro r
    induction r with
    | zero =>
      intro _ τ hj hrow
      refine r_X12_layRest_5 hC hR m_X12_fits (by decide) _ _ _ ?_
      simp only [T_X12_layRest_5, x_psh, x_ild, x_lld, x_ald, x_ist, x_ast, x_lst, x_inc, x_iadd, x_isub, x_imul, x_iand, x_ior, x_ixor, x_ishl, x_ishr, x_iushr, x_idiv, x_irem, x_ladd, x_land, x_lor, x_lshl, x_lshr, x_ineg, x_i2l, x_l2i, x_i2b, x_lcmp, x_dup, x_dup2, x_if_eq, x_if_ne, x_if_lt, x_if_ge, x_if_gt, x_if_le, x_ic_eq, x_ic_ne, x_ic_lt, x_ic_ge, x_ic_gt, x_ic_le, x_getI, x_getR, x_putI, x_putZ, x_putR, x_iald, x_bald, x_lald, x_iast, x_bast, x_last, x_alen, x_acp, x_mmax, x_mmin, x_callV, x_callS, x_iret, x_zret, x_lret, x_aret, x_vret, x_tsw, x_stop, zst1, zst2, zkill, zkl, zsplit, zmask, zent, zentL, List.getElem?_cons_zero, List.getElem?_cons_succ, List.set_cons_zero, List.set_cons_succ, List.set_nil, List.length_cons, List.length_nil, List.replicate, List.nil_append, List.cons_append, List.map_cons, List.map_nil, List.sum_cons, List.sum_nil, Value.category, Option.toList, List.contains_cons, List.contains_nil, true_or, or_true, true_and, Nat.zero_le, Nat.reduceAdd, Nat.reduceLeDiff, Nat.reduceLT, Nat.reduceBEq, Bool.true_or, Bool.or_true, Bool.false_or, Bool.or_false, ↓reduceIte, Bool.false_eq_true, Nat.add_zero, Nat.zero_add, Nat.reduceEqDiff, Nat.reduceSub, b2i_0, ne_eq, Nat.reduceEqDiff, not_false_eq_true, not_true_eq_false, true_and, and_true, true_implies, false_implies, implies_true, and_self]
      exact ⟨fun _ => hQ τ hj (fun i d hi hd => hrow i d (by omega) hi hd), fun q => absurd dn_0 q⟩
    | succ i iho =>
      intro hin τ hj hrow
      rw [dn_s]
      refine r_X12_layRest_5 hC hR m_X12_fits (by decide) _ _ _ ?_
      simp only [T_X12_layRest_5, x_psh, x_ild, x_lld, x_ald, x_ist, x_ast, x_lst, x_inc, x_iadd, x_isub, x_imul, x_iand, x_ior, x_ixor, x_ishl, x_ishr, x_iushr, x_idiv, x_irem, x_ladd, x_land, x_lor, x_lshl, x_lshr, x_ineg, x_i2l, x_l2i, x_i2b, x_lcmp, x_dup, x_dup2, x_if_eq, x_if_ne, x_if_lt, x_if_ge, x_if_gt, x_if_le, x_ic_eq, x_ic_ne, x_ic_lt, x_ic_ge, x_ic_gt, x_ic_le, x_getI, x_getR, x_putI, x_putZ, x_putR, x_iald, x_bald, x_lald, x_iast, x_bast, x_last, x_alen, x_acp, x_mmax, x_mmin, x_callV, x_callS, x_iret, x_zret, x_lret, x_aret, x_vret, x_tsw, x_stop, zst1, zst2, zkill, zkl, zsplit, zmask, zent, zentL, List.getElem?_cons_zero, List.getElem?_cons_succ, List.set_cons_zero, List.set_cons_succ, List.set_nil, List.length_cons, List.length_nil, List.replicate, List.nil_append, List.cons_append, List.map_cons, List.map_nil, List.sum_cons, List.sum_nil, Value.category, Option.toList, List.contains_cons, List.contains_nil, true_or, or_true, true_and, Nat.zero_le, Nat.reduceAdd, Nat.reduceLeDiff, Nat.reduceLT, Nat.reduceBEq, Bool.true_or, Bool.or_true, Bool.false_or, Bool.or_false, ↓reduceIte, Bool.false_eq_true, Nat.add_zero, Nat.zero_add, Nat.reduceEqDiff, Nat.reduceSub, b2i_0, ne_eq, Nat.reduceEqDiff, not_false_eq_true, not_true_eq_false, true_and, and_true, true_implies, false_implies, implies_true, and_self]
      refine ⟨fun q => absurd q (nI_pos (by omega)), fun _ => ?_⟩
      have mid := zloop (P := fun d => ∀ τ, JF σ τ 67 → (∀ i' d, i + 1 ≤ i' → i' < n → d < 12 → zJ τ 67 (12 * i' + d) = lN (rsB T (fxS T k st) (tpB c) n (n - 1 - i') d)) → (∀ d', d' < d → zJ τ 67 (12 * i + d') = lN (rsB T (fxS T k st) (tpB c) n (n - 1 - i) d')) → WW C 13 [some (.ref 56), some (.int (nI k)), some (.int (nI n)), some (.int c), some (.int (nI st)), some (.int (nI i)), some (.int (nI d)), none, none, none] [] τ) 12 (fun d hd ih τ hj hrow hcol => ?_) ?_ 0 (by omega)
      · exact mid τ hj hrow (fun d' h => by omega)
      · have k112 : ∀ w, rsB T (fxS T k st) (tpB c) n (n - 1 - i) d = (if (fxS T k st i).testBit d then w else 0) → WW C 112 [some (.ref 56), some (.int (nI k)), some (.int (nI n)), some (.int c), some (.int (nI st)), some (.int (nI i)), some (.int (nI d)), some (.long (lN w)), none, none] [] τ := by
          intro w hw
          have hM' : MdT τ T := hM.q (hj.m (by decide) (by decide))
          have g := hM'.1
          unfold ModS at g
          have e10 : zI τ 56 10 = nI (tD T) := hM'.2.1.1
          refine r_X12_layRest_112 hC hR m_X12_fits (by decide) _ _ _ ?_
          simp only [T_X12_layRest_112, x_psh, x_ild, x_lld, x_ald, x_ist, x_ast, x_lst, x_inc, x_iadd, x_isub, x_imul, x_iand, x_ior, x_ixor, x_ishl, x_ishr, x_iushr, x_idiv, x_irem, x_ladd, x_land, x_lor, x_lshl, x_lshr, x_ineg, x_i2l, x_l2i, x_i2b, x_lcmp, x_dup, x_dup2, x_if_eq, x_if_ne, x_if_lt, x_if_ge, x_if_gt, x_if_le, x_ic_eq, x_ic_ne, x_ic_lt, x_ic_ge, x_ic_gt, x_ic_le, x_getI, x_getR, x_putI, x_putZ, x_putR, x_iald, x_bald, x_lald, x_iast, x_bast, x_last, x_alen, x_acp, x_mmax, x_mmin, x_callV, x_callS, x_iret, x_zret, x_lret, x_aret, x_vret, x_tsw, x_stop, zst1, zst2, zkill, zkl, zsplit, zmask, zent, zentL, List.getElem?_cons_zero, List.getElem?_cons_succ, List.set_cons_zero, List.set_cons_succ, List.set_nil, List.length_cons, List.length_nil, List.replicate, List.nil_append, List.cons_append, List.map_cons, List.map_nil, List.sum_cons, List.sum_nil, Value.category, Option.toList, List.contains_cons, List.contains_nil, true_or, or_true, true_and, Nat.zero_le, Nat.reduceAdd, Nat.reduceLeDiff, Nat.reduceLT, Nat.reduceBEq, Bool.true_or, Bool.or_true, Bool.false_or, Bool.or_false, ↓reduceIte, Bool.false_eq_true, Nat.add_zero, Nat.zero_add, Nat.reduceEqDiff, Nat.reduceSub, g, e10, w_X12_fits, b2i_0, ne_eq, Nat.reduceEqDiff, not_false_eq_true, not_true_eq_false, true_and, and_true, true_implies, false_implies, implies_true, and_self]
          have e12 : (12 : Int32) * nI i + nI d = nI (12 * i + d) := by rw [z_l12, pk_mul, nI_add]
          have i84 : vp_in (nI (12 * i + d)) 84 := vp_in_nI (by omega) (by omega)
          simp only [e12, nI_clamp (show 12 * i + d < 2 ^ 31 by omega), nI_i3]
          rw [nI_leI (by omega) (by omega)]
          have fin : ∀ u, rsB T (fxS T k st) (tpB c) n (n - 1 - i) d = u → WW C 13 [some (.ref 56), some (.int (nI k)), some (.int (nI n)), some (.int c), some (.int (nI st)), some (.int (nI i)), some (.int (nI (d + 1))), none, none, none] [] (sJ τ 67 (12 * i + d) (lN u)) := by
            intro u hu
            refine ih _ (hj.trans jf_one) (fun i' d' h1 h2 h3 => ?_) (fun d' h => ?_)
            · rw [zJ_at, if_neg (by omega)]; exact hrow i' d' h1 h2 h3
            · rw [zJ_at]
              by_cases e : d' = d
              · subst e; rw [if_pos rfl, hu]
              · rw [if_neg (by omega)]; exact hcol d' (by omega)
          refine ⟨fun q => ⟨84, rfl, i84, ?_⟩, fun q => ⟨T, k, i, d, st, hM', rfl, hk, rfl, by omega, rfl, by omega, rfl, hst, ?_⟩⟩
          · rw [if_neg (by rw [fxS_out q]; simp)] at hw
            exact fin 0 hw
          · refine ⟨fun q2 => ⟨84, rfl, i84, ?_⟩, fun q2 => ⟨84, rfl, i84, ?_⟩⟩
            · rw [if_neg q2] at hw
              exact fin 0 hw
            · rw [if_pos (Decidable.not_not.mp q2)] at hw
              exact fin w hw
        have hM' : MdT τ T := hM.q (hj.m (by decide) (by decide))
        have g := hM'.1
        unfold ModS at g
        have en : nI n - 1 = nI (n - 1) := pk_sub (b := 1) (by omega)
        have k50 : i < n - 1 → ∀ o, o ≤ 12 → WW C 50 [some (.ref 56), some (.int (nI k)), some (.int (nI n)), some (.int c), some (.int (nI st)), some (.int (nI i)), some (.int (nI d)), some (.long (lN (sumN (fun o => if (tE T d).testBit o then rsB T (fxS T k st) (tpB c) n (n - 2 - i) o else 0) o))), none, some (.int (nI o))] [] τ := by
          intro hi1
          refine zloop (P := fun o => WW C 50 [some (.ref 56), some (.int (nI k)), some (.int (nI n)), some (.int c), some (.int (nI st)), some (.int (nI i)), some (.int (nI d)), some (.long (lN (sumN (fun o => if (tE T d).testBit o then rsB T (fxS T k st) (tpB c) n (n - 2 - i) o else 0) o))), none, some (.int (nI o))] [] τ) 12 (fun o ho ih2 => ?_) ?_
          · refine r_X12_layRest_50 hC hR m_X12_fits (by decide) _ _ _ ?_
            simp only [T_X12_layRest_50, x_psh, x_ild, x_lld, x_ald, x_ist, x_ast, x_lst, x_inc, x_iadd, x_isub, x_imul, x_iand, x_ior, x_ixor, x_ishl, x_ishr, x_iushr, x_idiv, x_irem, x_ladd, x_land, x_lor, x_lshl, x_lshr, x_ineg, x_i2l, x_l2i, x_i2b, x_lcmp, x_dup, x_dup2, x_if_eq, x_if_ne, x_if_lt, x_if_ge, x_if_gt, x_if_le, x_ic_eq, x_ic_ne, x_ic_lt, x_ic_ge, x_ic_gt, x_ic_le, x_getI, x_getR, x_putI, x_putZ, x_putR, x_iald, x_bald, x_lald, x_iast, x_bast, x_last, x_alen, x_acp, x_mmax, x_mmin, x_callV, x_callS, x_iret, x_zret, x_lret, x_aret, x_vret, x_tsw, x_stop, zst1, zst2, zkill, zkl, zsplit, zmask, zent, zentL, List.getElem?_cons_zero, List.getElem?_cons_succ, List.set_cons_zero, List.set_cons_succ, List.set_nil, List.length_cons, List.length_nil, List.replicate, List.nil_append, List.cons_append, List.map_cons, List.map_nil, List.sum_cons, List.sum_nil, Value.category, Option.toList, List.contains_cons, List.contains_nil, true_or, or_true, true_and, Nat.zero_le, Nat.reduceAdd, Nat.reduceLeDiff, Nat.reduceLT, Nat.reduceBEq, Bool.true_or, Bool.or_true, Bool.false_or, Bool.or_false, ↓reduceIte, Bool.false_eq_true, Nat.add_zero, Nat.zero_add, Nat.reduceEqDiff, Nat.reduceSub, g, b2i_0, ne_eq, Nat.reduceEqDiff, not_false_eq_true, not_true_eq_false, true_and, and_true, true_implies, false_implies, implies_true, and_self]
            rw [en, nI_leI (by omega) (by omega)]
            refine ⟨fun q => absurd q (by rw [z_l12]; exact nI_ge (by omega) (by omega)), fun _ => ⟨fun q => absurd q (by omega), fun _ => ⟨12, rfl, vp_in_nI (by omega) (by omega), ?_⟩⟩⟩
            have hEd := hT.e d
            rw [nI_clamp (show d < 2 ^ 31 by omega), hE τ hj d hd, z_b1 (by omega) (by omega), nI_i3]
            have eb : (b2i ((tE T d).testBit o = true) = 1) = ((tE T d).testBit o = true) := by
              unfold b2i
              split <;> simp_all
            simp only [eb]
            have e12 : (12 : Int32) * nI i + 12 + nI o = nI (12 * (i + 1) + o) := by rw [z_l12, pk_mul, nI_add, nI_add]; congr 1
            have hs : sumN (fun o => if (tE T d).testBit o then rsB T (fxS T k st) (tpB c) n (n - 2 - i) o else 0) (o + 1) = sumN (fun o => if (tE T d).testBit o then rsB T (fxS T k st) (tpB c) n (n - 2 - i) o else 0) o + (if (tE T d).testBit o then rsB T (fxS T k st) (tpB c) n (n - 2 - i) o else 0) := rfl
            refine ⟨fun q => ?_, fun q => ?_⟩
            · rw [hs, if_neg q] at ih2
              rw [show (0 : Int64) = lN 0 from rfl, lN_add]
              exact ih2
            · rw [hs, if_pos q] at ih2
              rw [e12]
              refine ⟨84, rfl, vp_in_nI (by omega) (by omega), ?_⟩
              rw [nI_clamp (by omega), hrow (i + 1) o (by omega) (by omega) (by omega), show n - 1 - (i + 1) = n - 2 - i by omega, lN_add]
              exact ih2
          · refine r_X12_layRest_50 hC hR m_X12_fits (by decide) _ _ _ ?_
            simp only [T_X12_layRest_50, x_psh, x_ild, x_lld, x_ald, x_ist, x_ast, x_lst, x_inc, x_iadd, x_isub, x_imul, x_iand, x_ior, x_ixor, x_ishl, x_ishr, x_iushr, x_idiv, x_irem, x_ladd, x_land, x_lor, x_lshl, x_lshr, x_ineg, x_i2l, x_l2i, x_i2b, x_lcmp, x_dup, x_dup2, x_if_eq, x_if_ne, x_if_lt, x_if_ge, x_if_gt, x_if_le, x_ic_eq, x_ic_ne, x_ic_lt, x_ic_ge, x_ic_gt, x_ic_le, x_getI, x_getR, x_putI, x_putZ, x_putR, x_iald, x_bald, x_lald, x_iast, x_bast, x_last, x_alen, x_acp, x_mmax, x_mmin, x_callV, x_callS, x_iret, x_zret, x_lret, x_aret, x_vret, x_tsw, x_stop, zst1, zst2, zkill, zkl, zsplit, zmask, zent, zentL, List.getElem?_cons_zero, List.getElem?_cons_succ, List.set_cons_zero, List.set_cons_succ, List.set_nil, List.length_cons, List.length_nil, List.replicate, List.nil_append, List.cons_append, List.map_cons, List.map_nil, List.sum_cons, List.sum_nil, Value.category, Option.toList, List.contains_cons, List.contains_nil, true_or, or_true, true_and, Nat.zero_le, Nat.reduceAdd, Nat.reduceLeDiff, Nat.reduceLT, Nat.reduceBEq, Bool.true_or, Bool.or_true, Bool.false_or, Bool.or_false, ↓reduceIte, Bool.false_eq_true, Nat.add_zero, Nat.zero_add, Nat.reduceEqDiff, Nat.reduceSub, g, b2i_0, ne_eq, Nat.reduceEqDiff, not_false_eq_true, not_true_eq_false, true_and, and_true, true_implies, false_implies, implies_true, and_self]
            refine ⟨fun _ => k112 _ ?_, fun q => absurd (by rw [z_l12]; exact nI_le (by omega) (by omega)) q⟩
            rw [show n - 1 - i = (n - 2 - i) + 1 by omega, rsB, show n - 2 - (n - 2 - i) = i by omega]
        refine r_X12_layRest_13 hC hR m_X12_fits (by decide) _ _ _ ?_
        simp only [T_X12_layRest_13, x_psh, x_ild, x_lld, x_ald, x_ist, x_ast, x_lst, x_inc, x_iadd, x_isub, x_imul, x_iand, x_ior, x_ixor, x_ishl, x_ishr, x_iushr, x_idiv, x_irem, x_ladd, x_land, x_lor, x_lshl, x_lshr, x_ineg, x_i2l, x_l2i, x_i2b, x_lcmp, x_dup, x_dup2, x_if_eq, x_if_ne, x_if_lt, x_if_ge, x_if_gt, x_if_le, x_ic_eq, x_ic_ne, x_ic_lt, x_ic_ge, x_ic_gt, x_ic_le, x_getI, x_getR, x_putI, x_putZ, x_putR, x_iald, x_bald, x_lald, x_iast, x_bast, x_last, x_alen, x_acp, x_mmax, x_mmin, x_callV, x_callS, x_iret, x_zret, x_lret, x_aret, x_vret, x_tsw, x_stop, zst1, zst2, zkill, zkl, zsplit, zmask, zent, zentL, List.getElem?_cons_zero, List.getElem?_cons_succ, List.set_cons_zero, List.set_cons_succ, List.set_nil, List.length_cons, List.length_nil, List.replicate, List.nil_append, List.cons_append, List.map_cons, List.map_nil, List.sum_cons, List.sum_nil, Value.category, Option.toList, List.contains_cons, List.contains_nil, true_or, or_true, true_and, Nat.zero_le, Nat.reduceAdd, Nat.reduceLeDiff, Nat.reduceLT, Nat.reduceBEq, Bool.true_or, Bool.or_true, Bool.false_or, Bool.or_false, ↓reduceIte, Bool.false_eq_true, Nat.add_zero, Nat.zero_add, Nat.reduceEqDiff, Nat.reduceSub, b2i_0, ne_eq, Nat.reduceEqDiff, not_false_eq_true, not_true_eq_false, true_and, and_true, true_implies, false_implies, implies_true, and_self]
        refine ⟨fun q => absurd q (by rw [z_l12]; exact nI_ge (by omega) (by omega)), fun _ => ?_⟩
        rw [en, nI_eq (by omega) (by omega)]
        refine ⟨fun q => k50 (by omega) 0 (by omega), fun q => ?_⟩
        have last : ∀ w, (if tpB c d then 1 else 0) = w → WW C 50 [some (.ref 56), some (.int (nI k)), some (.int (nI n)), some (.int c), some (.int (nI st)), some (.int (nI i)), some (.int (nI d)), some (.long (lN w)), none, some (.int (nI 0))] [] τ := by
          intro w hw
          refine r_X12_layRest_50 hC hR m_X12_fits (by decide) _ _ _ ?_
          simp only [T_X12_layRest_50, x_psh, x_ild, x_lld, x_ald, x_ist, x_ast, x_lst, x_inc, x_iadd, x_isub, x_imul, x_iand, x_ior, x_ixor, x_ishl, x_ishr, x_iushr, x_idiv, x_irem, x_ladd, x_land, x_lor, x_lshl, x_lshr, x_ineg, x_i2l, x_l2i, x_i2b, x_lcmp, x_dup, x_dup2, x_if_eq, x_if_ne, x_if_lt, x_if_ge, x_if_gt, x_if_le, x_ic_eq, x_ic_ne, x_ic_lt, x_ic_ge, x_ic_gt, x_ic_le, x_getI, x_getR, x_putI, x_putZ, x_putR, x_iald, x_bald, x_lald, x_iast, x_bast, x_last, x_alen, x_acp, x_mmax, x_mmin, x_callV, x_callS, x_iret, x_zret, x_lret, x_aret, x_vret, x_tsw, x_stop, zst1, zst2, zkill, zkl, zsplit, zmask, zent, zentL, List.getElem?_cons_zero, List.getElem?_cons_succ, List.set_cons_zero, List.set_cons_succ, List.set_nil, List.length_cons, List.length_nil, List.replicate, List.nil_append, List.cons_append, List.map_cons, List.map_nil, List.sum_cons, List.sum_nil, Value.category, Option.toList, List.contains_cons, List.contains_nil, true_or, or_true, true_and, Nat.zero_le, Nat.reduceAdd, Nat.reduceLeDiff, Nat.reduceLT, Nat.reduceBEq, Bool.true_or, Bool.or_true, Bool.false_or, Bool.or_false, ↓reduceIte, Bool.false_eq_true, Nat.add_zero, Nat.zero_add, Nat.reduceEqDiff, Nat.reduceSub, g, b2i_0, ne_eq, Nat.reduceEqDiff, not_false_eq_true, not_true_eq_false, true_and, and_true, true_implies, false_implies, implies_true, and_self]
          rw [en, nI_leI (by omega) (by omega)]
          refine ⟨fun q => absurd q (by rw [z_l12]; exact nI_ge (by omega) (by omega)), fun _ => ⟨fun _ => k112 w ?_, fun q2 => absurd (by omega) q2⟩⟩
          rw [show n - 1 - i = 0 by omega, rsB, show n - 1 = i by omega, ← hw]
        refine ⟨fun q2 => last 1 (by rw [if_pos]; unfold tpB; simp [q2]), fun q2 => ⟨fun q3 => last 0 (by rw [if_neg]; unfold tpB; simp [q2, q3]), fun q3 => last 1 (by rw [if_pos]; unfold tpB; simp [q3])⟩⟩
      · intro τ hj hrow hcol
        refine r_X12_layRest_13 hC hR m_X12_fits (by decide) _ _ _ ?_
        simp only [T_X12_layRest_13, x_psh, x_ild, x_lld, x_ald, x_ist, x_ast, x_lst, x_inc, x_iadd, x_isub, x_imul, x_iand, x_ior, x_ixor, x_ishl, x_ishr, x_iushr, x_idiv, x_irem, x_ladd, x_land, x_lor, x_lshl, x_lshr, x_ineg, x_i2l, x_l2i, x_i2b, x_lcmp, x_dup, x_dup2, x_if_eq, x_if_ne, x_if_lt, x_if_ge, x_if_gt, x_if_le, x_ic_eq, x_ic_ne, x_ic_lt, x_ic_ge, x_ic_gt, x_ic_le, x_getI, x_getR, x_putI, x_putZ, x_putR, x_iald, x_bald, x_lald, x_iast, x_bast, x_last, x_alen, x_acp, x_mmax, x_mmin, x_callV, x_callS, x_iret, x_zret, x_lret, x_aret, x_vret, x_tsw, x_stop, zst1, zst2, zkill, zkl, zsplit, zmask, zent, zentL, List.getElem?_cons_zero, List.getElem?_cons_succ, List.set_cons_zero, List.set_cons_succ, List.set_nil, List.length_cons, List.length_nil, List.replicate, List.nil_append, List.cons_append, List.map_cons, List.map_nil, List.sum_cons, List.sum_nil, Value.category, Option.toList, List.contains_cons, List.contains_nil, true_or, or_true, true_and, Nat.zero_le, Nat.reduceAdd, Nat.reduceLeDiff, Nat.reduceLT, Nat.reduceBEq, Bool.true_or, Bool.or_true, Bool.false_or, Bool.or_false, ↓reduceIte, Bool.false_eq_true, Nat.add_zero, Nat.zero_add, Nat.reduceEqDiff, Nat.reduceSub, b2i_0, ne_eq, Nat.reduceEqDiff, not_false_eq_true, not_true_eq_false, true_and, and_true, true_implies, false_implies, implies_true, and_self]
        refine ⟨fun _ => ?_, fun q => absurd (by rw [z_l12]; exact nI_le (by omega) (by omega)) q⟩
        rw [dn_dec]
        refine iho (by omega) τ hj (fun i' d' h1 h2 h3 => ?_)
        by_cases e : i' = i
        · subst e; exact hcol d' h3
        · exact hrow i' d' (by omega) h2 h3
  refine r_X12_layRest_0 hC hR m_X12_fits (by decide) _ _ _ ?_
  simp only [T_X12_layRest_0, x_psh, x_ild, x_lld, x_ald, x_ist, x_ast, x_lst, x_inc, x_iadd, x_isub, x_imul, x_iand, x_ior, x_ixor, x_ishl, x_ishr, x_iushr, x_idiv, x_irem, x_ladd, x_land, x_lor, x_lshl, x_lshr, x_ineg, x_i2l, x_l2i, x_i2b, x_lcmp, x_dup, x_dup2, x_if_eq, x_if_ne, x_if_lt, x_if_ge, x_if_gt, x_if_le, x_ic_eq, x_ic_ne, x_ic_lt, x_ic_ge, x_ic_gt, x_ic_le, x_getI, x_getR, x_putI, x_putZ, x_putR, x_iald, x_bald, x_lald, x_iast, x_bast, x_last, x_alen, x_acp, x_mmax, x_mmin, x_callV, x_callS, x_iret, x_zret, x_lret, x_aret, x_vret, x_tsw, x_stop, zst1, zst2, zkill, zkl, zsplit, zmask, zent, zentL, List.getElem?_cons_zero, List.getElem?_cons_succ, List.set_cons_zero, List.set_cons_succ, List.set_nil, List.length_cons, List.length_nil, List.replicate, List.nil_append, List.cons_append, List.map_cons, List.map_nil, List.sum_cons, List.sum_nil, Value.category, Option.toList, List.contains_cons, List.contains_nil, true_or, or_true, true_and, Nat.zero_le, Nat.reduceAdd, Nat.reduceLeDiff, Nat.reduceLT, Nat.reduceBEq, Bool.true_or, Bool.or_true, Bool.false_or, Bool.or_false, ↓reduceIte, Bool.false_eq_true, Nat.add_zero, Nat.zero_add, Nat.reduceEqDiff, Nat.reduceSub, b2i_0, ne_eq, Nat.reduceEqDiff, not_false_eq_true, not_true_eq_false, true_and, and_true, true_implies, false_implies, implies_true, and_self]
  exact outer n (Nat.le_refl _) σ (JF.refl _ _) (fun i d h1 h2 => by omega)
def w_X12_restFrom : WPt := fun args σ Q => match args with
  | [.ref x, .int c] => x = 56 ∧ ∃ (T : TD) (f : Nat → Nat), MdT σ T ∧ (∀ d, d < tD T → zJ σ 67 d = lN (f d)) ∧ Q (some (.long (lN (sumN (fun d => if tpB c d then f d else 0) (tD T))))) σ
  | _ => False
theorem m_X12_restFrom : Meets yX12_restFrom cX12_restFrom 5 (some .long) 1 w_X12_restFrom := by
  refine Meets.mk (by decide) fun args σ Φ h => ?_
  unfold w_X12_restFrom at h
  split at h
  rotate_left
  · exact h.elim
  rename_i x c
  obtain ⟨x, rfl⟩ : ∃ q : Nat, q = x := ⟨x, rfl⟩
  obtain ⟨hx, T, f, hM, hr, hQ⟩ := h
  subst hx
  refine ⟨Nat.le_of_ble_eq_true rfl, fun C hC hR => ?_⟩
  have hD := hM.2.2.2.1
  have g := hM.1
  unfold ModS at g
  have e10 : zI σ 56 10 = nI (tD T) := hM.2.1.1
  refine r_X12_restFrom_0 hC hR _ _ _ ?_
  simp only [T_X12_restFrom_0, x_psh, x_ild, x_lld, x_ald, x_ist, x_ast, x_lst, x_inc, x_iadd, x_isub, x_imul, x_iand, x_ior, x_ixor, x_ishl, x_ishr, x_iushr, x_idiv, x_irem, x_ladd, x_land, x_lor, x_lshl, x_lshr, x_ineg, x_i2l, x_l2i, x_i2b, x_lcmp, x_dup, x_dup2, x_if_eq, x_if_ne, x_if_lt, x_if_ge, x_if_gt, x_if_le, x_ic_eq, x_ic_ne, x_ic_lt, x_ic_ge, x_ic_gt, x_ic_le, x_getI, x_getR, x_putI, x_putZ, x_putR, x_iald, x_bald, x_lald, x_iast, x_bast, x_last, x_alen, x_acp, x_mmax, x_mmin, x_callV, x_callS, x_iret, x_zret, x_lret, x_aret, x_vret, x_tsw, x_stop, zst1, zst2, zkill, zkl, zsplit, zmask, zent, zentL, List.getElem?_cons_zero, List.getElem?_cons_succ, List.set_cons_zero, List.set_cons_succ, List.set_nil, List.length_cons, List.length_nil, List.replicate, List.nil_append, List.cons_append, List.map_cons, List.map_nil, List.sum_cons, List.sum_nil, Value.category, Option.toList, List.contains_cons, List.contains_nil, true_or, or_true, true_and, Nat.zero_le, Nat.reduceAdd, Nat.reduceLeDiff, Nat.reduceLT, Nat.reduceBEq, Bool.true_or, Bool.or_true, Bool.false_or, Bool.or_false, ↓reduceIte, Bool.false_eq_true, Nat.add_zero, Nat.zero_add, Nat.reduceEqDiff, Nat.reduceSub, b2i_0, ne_eq, Nat.reduceEqDiff, not_false_eq_true, not_true_eq_false, true_and, and_true, true_implies, false_implies, implies_true, and_self]
  have key := zloop (P := fun d => WW C 5 [some (.ref 56), some (.int c), some (.long (lN (sumN (fun d => if tpB c d then f d else 0) d))), none, some (.int (nI d))] [] σ) (tD T) (fun d hd ih => ?_) ?_ 0 (by omega)
  · exact key
  · refine r_X12_restFrom_5 hC hR _ _ _ ?_
    simp only [T_X12_restFrom_5, x_psh, x_ild, x_lld, x_ald, x_ist, x_ast, x_lst, x_inc, x_iadd, x_isub, x_imul, x_iand, x_ior, x_ixor, x_ishl, x_ishr, x_iushr, x_idiv, x_irem, x_ladd, x_land, x_lor, x_lshl, x_lshr, x_ineg, x_i2l, x_l2i, x_i2b, x_lcmp, x_dup, x_dup2, x_if_eq, x_if_ne, x_if_lt, x_if_ge, x_if_gt, x_if_le, x_ic_eq, x_ic_ne, x_ic_lt, x_ic_ge, x_ic_gt, x_ic_le, x_getI, x_getR, x_putI, x_putZ, x_putR, x_iald, x_bald, x_lald, x_iast, x_bast, x_last, x_alen, x_acp, x_mmax, x_mmin, x_callV, x_callS, x_iret, x_zret, x_lret, x_aret, x_vret, x_tsw, x_stop, zst1, zst2, zkill, zkl, zsplit, zmask, zent, zentL, List.getElem?_cons_zero, List.getElem?_cons_succ, List.set_cons_zero, List.set_cons_succ, List.set_nil, List.length_cons, List.length_nil, List.replicate, List.nil_append, List.cons_append, List.map_cons, List.map_nil, List.sum_cons, List.sum_nil, Value.category, Option.toList, List.contains_cons, List.contains_nil, true_or, or_true, true_and, Nat.zero_le, Nat.reduceAdd, Nat.reduceLeDiff, Nat.reduceLT, Nat.reduceBEq, Bool.true_or, Bool.or_true, Bool.false_or, Bool.or_false, ↓reduceIte, Bool.false_eq_true, Nat.add_zero, Nat.zero_add, Nat.reduceEqDiff, Nat.reduceSub, g, e10, b2i_0, ne_eq, Nat.reduceEqDiff, not_false_eq_true, not_true_eq_false, true_and, and_true, true_implies, false_implies, implies_true, and_self]
    have hs : sumN (fun d => if tpB c d then f d else 0) (d + 1) = sumN (fun d => if tpB c d then f d else 0) d + (if tpB c d then f d else 0) := rfl
    have i84 : vp_in (nI d) 84 := vp_in_nI (by omega) (by omega)
    refine ⟨fun q => absurd q (nI_ge hd (by omega)), fun _ => ?_⟩
    rw [nI_clamp (by omega), hr d hd, nI_i3, lN_add, show (0 : Int64) = lN 0 from rfl, lN_add]
    refine ⟨fun q => ⟨84, rfl, i84, ?_⟩, fun q => ⟨fun q2 => ?_, fun q2 => ⟨84, rfl, i84, ?_⟩⟩⟩
    · rw [hs, if_pos (by unfold tpB; simp [q])] at ih
      exact ih
    · rw [hs, if_neg (by unfold tpB; simp [q, q2])] at ih
      exact ih
    · rw [hs, if_pos (by unfold tpB; simp [q2])] at ih
      exact ih
  · refine r_X12_restFrom_5 hC hR _ _ _ ?_
    simp only [T_X12_restFrom_5, x_psh, x_ild, x_lld, x_ald, x_ist, x_ast, x_lst, x_inc, x_iadd, x_isub, x_imul, x_iand, x_ior, x_ixor, x_ishl, x_ishr, x_iushr, x_idiv, x_irem, x_ladd, x_land, x_lor, x_lshl, x_lshr, x_ineg, x_i2l, x_l2i, x_i2b, x_lcmp, x_dup, x_dup2, x_if_eq, x_if_ne, x_if_lt, x_if_ge, x_if_gt, x_if_le, x_ic_eq, x_ic_ne, x_ic_lt, x_ic_ge, x_ic_gt, x_ic_le, x_getI, x_getR, x_putI, x_putZ, x_putR, x_iald, x_bald, x_lald, x_iast, x_bast, x_last, x_alen, x_acp, x_mmax, x_mmin, x_callV, x_callS, x_iret, x_zret, x_lret, x_aret, x_vret, x_tsw, x_stop, zst1, zst2, zkill, zkl, zsplit, zmask, zent, zentL, List.getElem?_cons_zero, List.getElem?_cons_succ, List.set_cons_zero, List.set_cons_succ, List.set_nil, List.length_cons, List.length_nil, List.replicate, List.nil_append, List.cons_append, List.map_cons, List.map_nil, List.sum_cons, List.sum_nil, Value.category, Option.toList, List.contains_cons, List.contains_nil, true_or, or_true, true_and, Nat.zero_le, Nat.reduceAdd, Nat.reduceLeDiff, Nat.reduceLT, Nat.reduceBEq, Bool.true_or, Bool.or_true, Bool.false_or, Bool.or_false, ↓reduceIte, Bool.false_eq_true, Nat.add_zero, Nat.zero_add, Nat.reduceEqDiff, Nat.reduceSub, g, e10, b2i_0, ne_eq, Nat.reduceEqDiff, not_false_eq_true, not_true_eq_false, true_and, and_true, true_implies, false_implies, implies_true, and_self]
    exact ⟨fun _ => hQ, fun q => absurd (nI_le (Nat.le_refl _) (by omega)) q⟩
