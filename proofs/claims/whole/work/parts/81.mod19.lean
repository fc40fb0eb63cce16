/-- only the two rows of counts -/
def JQ (σ τ : ZS) : Prop := zd τ = zd σ ∧ zR τ = zR σ ∧ zI τ = zI σ ∧ ∀ i : Nat, i ≠ 69 → i ≠ 70 → zJ τ i = zJ σ i
theorem JQ.refl (σ : ZS) : JQ σ σ := ⟨rfl, rfl, rfl, fun _ _ _ => rfl⟩
theorem JQ.m {σ τ : ZS} (h : JQ σ τ) : MoQ σ τ := ⟨h.1, h.2.1, fun j _ _ _ _ => by rw [h.2.2.1], fun i _ => by rw [h.2.2.1], fun i hi => h.2.2.2 i (by omega) (by omega)⟩
theorem JQ.s {σ τ : ZS} {a j : Nat} {v : Int64} (h : JQ σ τ) (ha : a = 69 ∨ a = 70) : JQ σ (sJ τ a j v) := ⟨h.1, h.2.1, h.2.2.1, fun i h1 h2 => by rw [zJ_sJ, if_neg (by omega)]; exact h.2.2.2 i h1 h2⟩
theorem zJ_off (σ : ZS) {i : Nat} (j : Nat) (v : Int64) {a : Nat} (h : a ≠ i) : zJ (sJ σ i j v) a = zJ σ a := by rw [zJ_sJ, if_neg h]
theorem cwE_0 {T : TD} (g : Nat → Nat) (d : Nat) : cwW T (eF T g) (2 ^ tD T - 1) 0 d = if (eF T g 0).testBit d then 1 else 0 := by
  rw [cwW_0d, Nat.testBit_and, Nat.testBit_two_pow_sub_one]
  by_cases hd : d < tD T
  · simp [hd]
  · have : (eF T g 0).testBit d = false := Nat.testBit_lt_two_pow (Nat.lt_of_lt_of_le (eF_lt T g 0) (Nat.pow_le_pow_right (by decide) (by omega)))
    simp [this]
theorem cwE_s {T : TD} (hT : TdOk T) (F : Nat → Nat) (fr p d : Nat) : cwW T F fr (p + 1) d = if (F (p + 1)).testBit d then sumN (fun o => if (tE T d).testBit o then cwW T F fr p o else 0) 12 else 0 := by
  rw [cwW]
  unfold cntP
  rw [sumN_ext (D := tD T) (f := fun o => if (tE T d).testBit o then cwW T F fr p o else 0) (fun k hk => by rw [hT.out hk]; rfl) 12 hT.2.1]
def w_X12_fitting : WPt := fun args σ Q => match args with
  | [.ref x] => x = 56 ∧ PubN σ q_fitting Q
  | _ => False
set_option maxHeartbeats 4000000 in
theorem m_X12_fitting : Meets yX12_fitting cX12_fitting 9 (some .long) 2 w_X12_fitting := by
  refine Meets.mk (by decide) fun args σ Φ h => ?_
  unfold w_X12_fitting at h
  split at h
  rotate_left
  · exact h.elim
  rename_i x
  obtain ⟨x, rfl⟩ : ∃ q : Nat, q = x := ⟨x, rfl⟩
  obtain ⟨hx, A, hK, hA, hQ⟩ := h
  subst hx
  refine ⟨Nat.le_of_ble_eq_true rfl, fun C hC hR => ?_⟩
  have hf := mod_f hK
  have hN := hA.1
  have hD1 := hA.t.1
  have hD := hA.t.2.1
  have hS := hA.t.2.2.1
  have hW := hA.2.2.1.2.1
  have hE := hA.2.2.1.2.2.1
  have hp := z_pow31 hD
  have hV := hK.2
  refine r_X12_fitting_0 hC hR m_X12_sounding (by decide) _ _ _ ?_
  simp only [T_X12_fitting_0, x_psh, x_ild, x_lld, x_ald, x_ist, x_ast, x_lst, x_inc, x_iadd, x_isub, x_imul, x_iand, x_ior, x_ixor, x_ishl, x_ishr, x_iushr, x_idiv, x_irem, x_ladd, x_land, x_lor, x_lshl, x_lshr, x_ineg, x_i2l, x_l2i, x_i2b, x_lcmp, x_dup, x_dup2, x_if_eq, x_if_ne, x_if_lt, x_if_ge, x_if_gt, x_if_le, x_ic_eq, x_ic_ne, x_ic_lt, x_ic_ge, x_ic_gt, x_ic_le, x_getI, x_getR, x_putI, x_putZ, x_putR, x_iald, x_bald, x_lald, x_iast, x_bast, x_last, x_alen, x_acp, x_mmax, x_mmin, x_callV, x_callS, x_iret, x_zret, x_lret, x_aret, x_vret, x_tsw, x_stop, zst1, zst2, zkill, zkl, zsplit, zmask, zent, zentL, List.getElem?_cons_zero, List.getElem?_cons_succ, List.set_cons_zero, List.set_cons_succ, List.set_nil, List.length_cons, List.length_nil, List.replicate, List.nil_append, List.cons_append, List.map_cons, List.map_nil, List.sum_cons, List.sum_nil, Value.category, Option.toList, List.contains_cons, List.contains_nil, true_or, or_true, true_and, Nat.zero_le, Nat.reduceAdd, Nat.reduceLeDiff, Nat.reduceLT, Nat.reduceBEq, Bool.true_or, Bool.or_true, Bool.false_or, Bool.or_false, ↓reduceIte, Bool.false_eq_true, Nat.add_zero, Nat.zero_add, Nat.reduceEqDiff, Nat.reduceSub, hf, b2i_0, ne_eq, Nat.reduceEqDiff, not_false_eq_true, not_true_eq_false, true_and, and_true, true_implies, false_implies, implies_true, and_self]
  unfold q_fitting at hQ
  have hG : ∀ k, k < xE (aX A) → xG (aX A) k ≤ 8 := hA.2.2.1.2.2.2.2
  have hT := hA.t
  generalize hF : eF (aT A) (xG (aX A)) = F at hQ
  have hFl : ∀ i, F i < 2 ^ tD (aT A) := fun i => by rw [← hF]; exact eF_lt _ _ i
  have hFi : ∀ i, F i = sndS (aT A) (xG (aX A) i) := fun i => by rw [← hF]; rfl
  have hcw0 : ∀ d, cwW (aT A) F (2 ^ tD (aT A) - 1) 0 d = if (F 0).testBit d then 1 else 0 := fun d => by rw [← hF]; exact cwE_0 _ d
  generalize hcw : cwW (aT A) F (2 ^ tD (aT A) - 1) = cw at hcw0
  have hcws : ∀ p d, cw (p + 1) d = if (F (p + 1)).testBit d then sumN (fun o => if (tE (aT A) d).testBit o then cw p o else 0) 12 else 0 := fun p d => by rw [← hcw]; exact cwE_s hT F _ p d
  have hcwF : ∀ p d, tD (aT A) ≤ d → cw p d = 0 := fun p d hd => by
    rw [← hcw]
    exact cwW_F F _ p d (Nat.testBit_lt_two_pow (Nat.lt_of_lt_of_le (hFl p) (Nat.pow_le_pow_right (by decide) hd)))
  have hfin : ∀ τ, JQ σ τ → ∀ v, v = lN (if xE (aX A) = 0 then 1 else sumN (cw (xE (aX A) - 1)) 12) → Φ (some (.long v)) τ := by
    rintro τ hq v rfl
    have := hQ τ hq.m.z (hq.m.r hK)
    unfold cwR at this
    by_cases e : xE (aX A) = 0
    · rw [if_pos e] at this ⊢
      exact this
    · rw [if_neg e] at this ⊢
      rw [hcw] at this
      rw [sumN_ext (D := tD (aT A)) (hcwF _) 12 hD]
      rw [sumN_congr (g := cw (xE (aX A) - 1)) _ (fun d hd => by rw [Nat.testBit_two_pow_sub_one]; simp [hd])] at this
      exact this
  clear hQ
  have hMτ : ∀ τ, JQ σ τ → MdT τ (aT A) := fun τ hq => (MdT.of hK hA).q hq.m
  have hgτ : ∀ τ, JQ σ τ → ModR τ A := fun τ hq => hq.m.r hK
  generalize hn : xE (aX A) = n at hfin hG hE
  have smd : ∀ i, i < n → (if n = 0 then 1 else if i = n then sumN (cw (n - 1)) 12 else 0) = 0 := fun i hi => by rw [if_neg (by omega), if_neg (by omega)]
  have outer : ∀ r i, i + r = n → ∀ τ, JQ σ τ → (1 ≤ i → ∀ o, o < 12 → zJ τ 69 o = lN (cw (i - 1) o)) → WW C 15 [some (.ref 56), some (.long (lN (if n = 0 then 1 else if i = n then sumN (cw (n - 1)) 12 else 0))), none, some (.int (nI i)), none, none, none, none, none] [] τ := by
    intro r
    induction r with
    | zero =>
      intro i hi τ hq hr
      have g := mod_f (hgτ τ hq)
      refine r_X12_fitting_15 hC hR m_X12_sounding (by decide) _ _ _ ?_
      simp only [T_X12_fitting_15, x_psh, x_ild, x_lld, x_ald, x_ist, x_ast, x_lst, x_inc, x_iadd, x_isub, x_imul, x_iand, x_ior, x_ixor, x_ishl, x_ishr, x_iushr, x_idiv, x_irem, x_ladd, x_land, x_lor, x_lshl, x_lshr, x_ineg, x_i2l, x_l2i, x_i2b, x_lcmp, x_dup, x_dup2, x_if_eq, x_if_ne, x_if_lt, x_if_ge, x_if_gt, x_if_le, x_ic_eq, x_ic_ne, x_ic_lt, x_ic_ge, x_ic_gt, x_ic_le, x_getI, x_getR, x_putI, x_putZ, x_putR, x_iald, x_bald, x_lald, x_iast, x_bast, x_last, x_alen, x_acp, x_mmax, x_mmin, x_callV, x_callS, x_iret, x_zret, x_lret, x_aret, x_vret, x_tsw, x_stop, zst1, zst2, zkill, zkl, zsplit, zmask, zent, zentL, List.getElem?_cons_zero, List.getElem?_cons_succ, List.set_cons_zero, List.set_cons_succ, List.set_nil, List.length_cons, List.length_nil, List.replicate, List.nil_append, List.cons_append, List.map_cons, List.map_nil, List.sum_cons, List.sum_nil, Value.category, Option.toList, List.contains_cons, List.contains_nil, true_or, or_true, true_and, Nat.zero_le, Nat.reduceAdd, Nat.reduceLeDiff, Nat.reduceLT, Nat.reduceBEq, Bool.true_or, Bool.or_true, Bool.false_or, Bool.or_false, ↓reduceIte, Bool.false_eq_true, Nat.add_zero, Nat.zero_add, Nat.reduceEqDiff, Nat.reduceSub, g, b2i_0, ne_eq, Nat.reduceEqDiff, not_false_eq_true, not_true_eq_false, true_and, and_true, true_implies, false_implies, implies_true, and_self]
      rw [hn]
      refine ⟨fun _ => hfin τ hq _ ?_, fun q => absurd (nI_le (by omega) (by omega)) q⟩
      have ei : i = n := by omega
      subst ei
      by_cases e : i = 0
      · rw [if_pos e, if_pos e]
      · rw [if_neg e, if_neg e, if_pos rfl]
    | succ r iho =>
      intro i hi τ0 hq0 hr0
      have g0 := mod_f (hgτ τ0 hq0)
      refine r_X12_fitting_15 hC hR m_X12_sounding (by decide) _ _ _ ?_
      simp only [T_X12_fitting_15, x_psh, x_ild, x_lld, x_ald, x_ist, x_ast, x_lst, x_inc, x_iadd, x_isub, x_imul, x_iand, x_ior, x_ixor, x_ishl, x_ishr, x_iushr, x_idiv, x_irem, x_ladd, x_land, x_lor, x_lshl, x_lshr, x_ineg, x_i2l, x_l2i, x_i2b, x_lcmp, x_dup, x_dup2, x_if_eq, x_if_ne, x_if_lt, x_if_ge, x_if_gt, x_if_le, x_ic_eq, x_ic_ne, x_ic_lt, x_ic_ge, x_ic_gt, x_ic_le, x_getI, x_getR, x_putI, x_putZ, x_putR, x_iald, x_bald, x_lald, x_iast, x_bast, x_last, x_alen, x_acp, x_mmax, x_mmin, x_callV, x_callS, x_iret, x_zret, x_lret, x_aret, x_vret, x_tsw, x_stop, zst1, zst2, zkill, zkl, zsplit, zmask, zent, zentL, List.getElem?_cons_zero, List.getElem?_cons_succ, List.set_cons_zero, List.set_cons_succ, List.set_nil, List.length_cons, List.length_nil, List.replicate, List.nil_append, List.cons_append, List.map_cons, List.map_nil, List.sum_cons, List.sum_nil, Value.category, Option.toList, List.contains_cons, List.contains_nil, true_or, or_true, true_and, Nat.zero_le, Nat.reduceAdd, Nat.reduceLeDiff, Nat.reduceLT, Nat.reduceBEq, Bool.true_or, Bool.or_true, Bool.false_or, Bool.or_false, ↓reduceIte, Bool.false_eq_true, Nat.add_zero, Nat.zero_add, Nat.reduceEqDiff, Nat.reduceSub, g0, w_X12_sounding, b2i_0, ne_eq, Nat.reduceEqDiff, not_false_eq_true, not_true_eq_false, true_and, and_true, true_implies, false_implies, implies_true, and_self]
      rw [hn]
      refine ⟨fun q => absurd q (nI_ge (by omega) (by omega)), fun _ => ⟨12, rfl, vp_in_nI (by omega) (by omega), aT A, xG (aX A) i, hMτ τ0 hq0, ?_, hG i (by omega), ?_⟩⟩
      · rw [nI_clamp (by omega)]
        have := (hgτ τ0 hq0).2.2.2.2.1.2 i (by omega)
        exact this
      rw [← hFi i, smd i (by omega)]
      have hFi31 : F i < 2 ^ 31 := by have := hFl i; omega
      -- the copy
      have k141 : ∀ τ, JQ σ τ → (∀ o, o < 12 → zJ τ 70 o = lN (cw i o)) → ∀ d, d ≤ 12 → ∀ τ', JQ σ τ' → (∀ o, o < 12 → zJ τ' 70 o = lN (cw i o)) → (∀ o, o < d → zJ τ' 69 o = lN (cw i o)) → WW C 141 [some (.ref 56), some (.long (lN (if i + 1 = n then sumN (cw i) d else 0))), none, some (.int (nI i)), none, some (.int (nI d)), none, none, none] [] τ' := by
        intro τ _ _
        refine zloop (P := fun d => ∀ τ', JQ σ τ' → (∀ o, o < 12 → zJ τ' 70 o = lN (cw i o)) → (∀ o, o < d → zJ τ' 69 o = lN (cw i o)) → WW C 141 [some (.ref 56), some (.long (lN (if i + 1 = n then sumN (cw i) d else 0))), none, some (.int (nI i)), none, some (.int (nI d)), none, none, none] [] τ') 12 (fun d hd ih τ' hq' h70 h69 => ?_) (fun τ' hq' h70 h69 => ?_)
        · have g := mod_f (hgτ τ' hq')
          refine r_X12_fitting_141 hC hR m_X12_sounding (by decide) _ _ _ ?_
          simp only [T_X12_fitting_141, x_psh, x_ild, x_lld, x_ald, x_ist, x_ast, x_lst, x_inc, x_iadd, x_isub, x_imul, x_iand, x_ior, x_ixor, x_ishl, x_ishr, x_iushr, x_idiv, x_irem, x_ladd, x_land, x_lor, x_lshl, x_lshr, x_ineg, x_i2l, x_l2i, x_i2b, x_lcmp, x_dup, x_dup2, x_if_eq, x_if_ne, x_if_lt, x_if_ge, x_if_gt, x_if_le, x_ic_eq, x_ic_ne, x_ic_lt, x_ic_ge, x_ic_gt, x_ic_le, x_getI, x_getR, x_putI, x_putZ, x_putR, x_iald, x_bald, x_lald, x_iast, x_bast, x_last, x_alen, x_acp, x_mmax, x_mmin, x_callV, x_callS, x_iret, x_zret, x_lret, x_aret, x_vret, x_tsw, x_stop, zst1, zst2, zkill, zkl, zsplit, zmask, zent, zentL, List.getElem?_cons_zero, List.getElem?_cons_succ, List.set_cons_zero, List.set_cons_succ, List.set_nil, List.length_cons, List.length_nil, List.replicate, List.nil_append, List.cons_append, List.map_cons, List.map_nil, List.sum_cons, List.sum_nil, Value.category, Option.toList, List.contains_cons, List.contains_nil, true_or, or_true, true_and, Nat.zero_le, Nat.reduceAdd, Nat.reduceLeDiff, Nat.reduceLT, Nat.reduceBEq, Bool.true_or, Bool.or_true, Bool.false_or, Bool.or_false, ↓reduceIte, Bool.false_eq_true, Nat.add_zero, Nat.zero_add, Nat.reduceEqDiff, Nat.reduceSub, g, zd_sJ, zR_sJ, zI_sJ, b2i_0, ne_eq, Nat.reduceEqDiff, not_false_eq_true, not_true_eq_false, true_and, and_true, true_implies, false_implies, implies_true, and_self]
          refine ⟨fun q => absurd q (by rw [z_l12]; exact nI_ge (by omega) (by omega)), fun _ => ⟨768, rfl, vp_in_nI (by omega) (by omega), 768, rfl, vp_in_nI (by omega) (by omega), ?_⟩⟩
          rw [nI_clamp (by omega), h70 d hd, hn, show nI n - 1 = nI (n - 1) from pk_sub (b := 1) (by omega), nI_eq (by omega) (by omega), nI_i3, zJ_at, if_pos rfl, lN_add, show (0 : Int64) = lN 0 from rfl, lN_add]
          have hnext := ih (sJ τ' 69 d (lN (cw i d))) (hq'.s (by omega)) (fun o ho => by rw [zJ_off _ _ _ (by decide)]; exact h70 o ho) (fun o ho => by
            rw [zJ_at]
            by_cases e : o = d
            · rw [if_pos e, e]
            · rw [if_neg e]; exact h69 o (by omega))
          have hs : sumN (cw i) (d + 1) = sumN (cw i) d + cw i d := rfl
          refine ⟨fun q => ?_, fun q => ⟨768, rfl, vp_in_nI (by omega) (by omega), ?_⟩⟩
          · rw [if_neg (by omega)] at hnext ⊢
            exact hnext
          · rw [if_pos (by omega), hs] at hnext
            rw [if_pos (by omega)]
            exact hnext
        · refine r_X12_fitting_141 hC hR m_X12_sounding (by decide) _ _ _ ?_
          simp only [T_X12_fitting_141, x_psh, x_ild, x_lld, x_ald, x_ist, x_ast, x_lst, x_inc, x_iadd, x_isub, x_imul, x_iand, x_ior, x_ixor, x_ishl, x_ishr, x_iushr, x_idiv, x_irem, x_ladd, x_land, x_lor, x_lshl, x_lshr, x_ineg, x_i2l, x_l2i, x_i2b, x_lcmp, x_dup, x_dup2, x_if_eq, x_if_ne, x_if_lt, x_if_ge, x_if_gt, x_if_le, x_ic_eq, x_ic_ne, x_ic_lt, x_ic_ge, x_ic_gt, x_ic_le, x_getI, x_getR, x_putI, x_putZ, x_putR, x_iald, x_bald, x_lald, x_iast, x_bast, x_last, x_alen, x_acp, x_mmax, x_mmin, x_callV, x_callS, x_iret, x_zret, x_lret, x_aret, x_vret, x_tsw, x_stop, zst1, zst2, zkill, zkl, zsplit, zmask, zent, zentL, List.getElem?_cons_zero, List.getElem?_cons_succ, List.set_cons_zero, List.set_cons_succ, List.set_nil, List.length_cons, List.length_nil, List.replicate, List.nil_append, List.cons_append, List.map_cons, List.map_nil, List.sum_cons, List.sum_nil, Value.category, Option.toList, List.contains_cons, List.contains_nil, true_or, or_true, true_and, Nat.zero_le, Nat.reduceAdd, Nat.reduceLeDiff, Nat.reduceLT, Nat.reduceBEq, Bool.true_or, Bool.or_true, Bool.false_or, Bool.or_false, ↓reduceIte, Bool.false_eq_true, Nat.add_zero, Nat.zero_add, Nat.reduceEqDiff, Nat.reduceSub, b2i_0, ne_eq, Nat.reduceEqDiff, not_false_eq_true, not_true_eq_false, true_and, and_true, true_implies, false_implies, implies_true, and_self]
          refine ⟨fun _ => ?_, fun q => absurd (by rw [z_l12]; exact nI_le (by omega) (by omega)) q⟩
          have := iho (i + 1) (by omega) τ' hq' (fun _ o ho => by rw [show i + 1 - 1 = i by omega]; exact h69 o ho)
          rw [if_neg (show ¬ n = 0 by omega)] at this
          rw [nI_i3]
          by_cases e : i + 1 = n
          · rw [if_pos e] at this ⊢
            rw [show n - 1 = i by omega] at this
            exact this
          · rw [if_neg e] at this ⊢
            exact this
      have k38 := zloop (P := fun d => ∀ τ, JQ σ τ → (1 ≤ i → ∀ o, o < 12 → zJ τ 69 o = lN (cw (i - 1) o)) → (∀ o, o < d → zJ τ 70 o = lN (cw i o)) → WW C 38 [some (.ref 56), some (.long (lN 0)), none, some (.int (nI i)), some (.int (nI (F i))), some (.int (nI d)), none, none, none] [] τ) 12 (fun d hd ih τ hq hr h70 => ?_) (fun τ hq hr h70 => ?_) 0 (by omega)
      · exact k38 τ0 hq0 hr0 (fun o ho => by omega)
      · have g := mod_f (hgτ τ hq)
        have k108 : ∀ w, cw i d = (if (F i).testBit d then w else 0) → WW C 108 [some (.ref 56), some (.long (lN 0)), none, some (.int (nI i)), some (.int (nI (F i))), some (.int (nI d)), some (.long (lN w)), none, none] [] τ := by
          intro w hw
          refine r_X12_fitting_108 hC hR m_X12_sounding (by decide) _ _ _ ?_
          simp only [T_X12_fitting_108, x_psh, x_ild, x_lld, x_ald, x_ist, x_ast, x_lst, x_inc, x_iadd, x_isub, x_imul, x_iand, x_ior, x_ixor, x_ishl, x_ishr, x_iushr, x_idiv, x_irem, x_ladd, x_land, x_lor, x_lshl, x_lshr, x_ineg, x_i2l, x_l2i, x_i2b, x_lcmp, x_dup, x_dup2, x_if_eq, x_if_ne, x_if_lt, x_if_ge, x_if_gt, x_if_le, x_ic_eq, x_ic_ne, x_ic_lt, x_ic_ge, x_ic_gt, x_ic_le, x_getI, x_getR, x_putI, x_putZ, x_putR, x_iald, x_bald, x_lald, x_iast, x_bast, x_last, x_alen, x_acp, x_mmax, x_mmin, x_callV, x_callS, x_iret, x_zret, x_lret, x_aret, x_vret, x_tsw, x_stop, zst1, zst2, zkill, zkl, zsplit, zmask, zent, zentL, List.getElem?_cons_zero, List.getElem?_cons_succ, List.set_cons_zero, List.set_cons_succ, List.set_nil, List.length_cons, List.length_nil, List.replicate, List.nil_append, List.cons_append, List.map_cons, List.map_nil, List.sum_cons, List.sum_nil, Value.category, Option.toList, List.contains_cons, List.contains_nil, true_or, or_true, true_and, Nat.zero_le, Nat.reduceAdd, Nat.reduceLeDiff, Nat.reduceLT, Nat.reduceBEq, Bool.true_or, Bool.or_true, Bool.false_or, Bool.or_false, ↓reduceIte, Bool.false_eq_true, Nat.add_zero, Nat.zero_add, Nat.reduceEqDiff, Nat.reduceSub, g, b2i_0, ne_eq, Nat.reduceEqDiff, not_false_eq_true, not_true_eq_false, true_and, and_true, true_implies, false_implies, implies_true, and_self]
          rw [z_b1 hFi31 (by omega), nI_clamp (by omega), nI_i3]
          simp only [b2i_1]
          have fin : ∀ u, cw i d = u → WW C 38 [some (.ref 56), some (.long (lN 0)), none, some (.int (nI i)), some (.int (nI (F i))), some (.int (nI (d + 1))), none, none, none] [] (sJ τ 70 d (lN u)) := by
            intro u hu
            refine ih _ (hq.s (by omega)) (fun h1 o ho => by rw [zJ_off _ _ _ (by decide)]; exact hr h1 o ho) (fun o ho => ?_)
            rw [zJ_at]
            by_cases e : o = d
            · rw [if_pos e, e, hu]
            · rw [if_neg e]; exact h70 o (by omega)
          refine ⟨fun q => ⟨768, rfl, vp_in_nI (by omega) (by omega), ?_⟩, fun q => ⟨768, rfl, vp_in_nI (by omega) (by omega), ?_⟩⟩
          · rw [if_neg q] at hw
            exact fin 0 hw
          · rw [if_pos q] at hw
            exact fin w hw
        have k59 : 1 ≤ i → ∀ o, o ≤ 12 → WW C 59 [some (.ref 56), some (.long (lN 0)), none, some (.int (nI i)), some (.int (nI (F i))), some (.int (nI d)), some (.long (lN (sumN (fun o => if (tE (aT A) d).testBit o then cw (i - 1) o else 0) o))), none, some (.int (nI o))] [] τ := by
          intro h1
          refine zloop (P := fun o => WW C 59 [some (.ref 56), some (.long (lN 0)), none, some (.int (nI i)), some (.int (nI (F i))), some (.int (nI d)), some (.long (lN (sumN (fun o => if (tE (aT A) d).testBit o then cw (i - 1) o else 0) o))), none, some (.int (nI o))] [] τ) 12 (fun o ho ih2 => ?_) ?_
          · refine r_X12_fitting_59 hC hR m_X12_sounding (by decide) _ _ _ ?_
            simp only [T_X12_fitting_59, x_psh, x_ild, x_lld, x_ald, x_ist, x_ast, x_lst, x_inc, x_iadd, x_isub, x_imul, x_iand, x_ior, x_ixor, x_ishl, x_ishr, x_iushr, x_idiv, x_irem, x_ladd, x_land, x_lor, x_lshl, x_lshr, x_ineg, x_i2l, x_l2i, x_i2b, x_lcmp, x_dup, x_dup2, x_if_eq, x_if_ne, x_if_lt, x_if_ge, x_if_gt, x_if_le, x_ic_eq, x_ic_ne, x_ic_lt, x_ic_ge, x_ic_gt, x_ic_le, x_getI, x_getR, x_putI, x_putZ, x_putR, x_iald, x_bald, x_lald, x_iast, x_bast, x_last, x_alen, x_acp, x_mmax, x_mmin, x_callV, x_callS, x_iret, x_zret, x_lret, x_aret, x_vret, x_tsw, x_stop, zst1, zst2, zkill, zkl, zsplit, zmask, zent, zentL, List.getElem?_cons_zero, List.getElem?_cons_succ, List.set_cons_zero, List.set_cons_succ, List.set_nil, List.length_cons, List.length_nil, List.replicate, List.nil_append, List.cons_append, List.map_cons, List.map_nil, List.sum_cons, List.sum_nil, Value.category, Option.toList, List.contains_cons, List.contains_nil, true_or, or_true, true_and, Nat.zero_le, Nat.reduceAdd, Nat.reduceLeDiff, Nat.reduceLT, Nat.reduceBEq, Bool.true_or, Bool.or_true, Bool.false_or, Bool.or_false, ↓reduceIte, Bool.false_eq_true, Nat.add_zero, Nat.zero_add, Nat.reduceEqDiff, Nat.reduceSub, g, b2i_0, ne_eq, Nat.reduceEqDiff, not_false_eq_true, not_true_eq_false, true_and, and_true, true_implies, false_implies, implies_true, and_self]
            have hEd := hT.e d
            refine ⟨fun q => absurd q (by rw [z_l12]; exact nI_ge (by omega) (by omega)), fun _ => ⟨fun q => absurd (show nI i ≤ nI 0 from q) (nI_ge (by omega) (by omega)), fun _ => ⟨12, rfl, vp_in_nI (by omega) (by omega), ?_⟩⟩⟩
            rw [nI_clamp (show d < 2 ^ 31 by omega), (hgτ τ hq).e hd, z_b1 (by omega) (by omega), nI_i3, nI_clamp (show o < 2 ^ 31 by omega), hr h1 o ho]
            simp only [b2i_1]
            have hs : sumN (fun o => if (tE (aT A) d).testBit o then cw (i - 1) o else 0) (o + 1) = sumN (fun o => if (tE (aT A) d).testBit o then cw (i - 1) o else 0) o + (if (tE (aT A) d).testBit o then cw (i - 1) o else 0) := rfl
            refine ⟨fun q => ?_, fun q => ⟨768, rfl, vp_in_nI (by omega) (by omega), ?_⟩⟩
            · rw [hs, if_neg q] at ih2
              rw [show (0 : Int64) = lN 0 from rfl, lN_add]
              exact ih2
            · rw [hs, if_pos q] at ih2
              rw [lN_add]
              exact ih2
          · refine r_X12_fitting_59 hC hR m_X12_sounding (by decide) _ _ _ ?_
            simp only [T_X12_fitting_59, x_psh, x_ild, x_lld, x_ald, x_ist, x_ast, x_lst, x_inc, x_iadd, x_isub, x_imul, x_iand, x_ior, x_ixor, x_ishl, x_ishr, x_iushr, x_idiv, x_irem, x_ladd, x_land, x_lor, x_lshl, x_lshr, x_ineg, x_i2l, x_l2i, x_i2b, x_lcmp, x_dup, x_dup2, x_if_eq, x_if_ne, x_if_lt, x_if_ge, x_if_gt, x_if_le, x_ic_eq, x_ic_ne, x_ic_lt, x_ic_ge, x_ic_gt, x_ic_le, x_getI, x_getR, x_putI, x_putZ, x_putR, x_iald, x_bald, x_lald, x_iast, x_bast, x_last, x_alen, x_acp, x_mmax, x_mmin, x_callV, x_callS, x_iret, x_zret, x_lret, x_aret, x_vret, x_tsw, x_stop, zst1, zst2, zkill, zkl, zsplit, zmask, zent, zentL, List.getElem?_cons_zero, List.getElem?_cons_succ, List.set_cons_zero, List.set_cons_succ, List.set_nil, List.length_cons, List.length_nil, List.replicate, List.nil_append, List.cons_append, List.map_cons, List.map_nil, List.sum_cons, List.sum_nil, Value.category, Option.toList, List.contains_cons, List.contains_nil, true_or, or_true, true_and, Nat.zero_le, Nat.reduceAdd, Nat.reduceLeDiff, Nat.reduceLT, Nat.reduceBEq, Bool.true_or, Bool.or_true, Bool.false_or, Bool.or_false, ↓reduceIte, Bool.false_eq_true, Nat.add_zero, Nat.zero_add, Nat.reduceEqDiff, Nat.reduceSub, b2i_0, ne_eq, Nat.reduceEqDiff, not_false_eq_true, not_true_eq_false, true_and, and_true, true_implies, false_implies, implies_true, and_self]
            refine ⟨fun _ => k108 _ ?_, fun q => absurd (by rw [z_l12]; exact nI_le (by omega) (by omega)) q⟩
            have := hcws (i - 1) d
            rw [show i - 1 + 1 = i by omega] at this
            exact this
        refine r_X12_fitting_38 hC hR m_X12_sounding (by decide) _ _ _ ?_
        simp only [T_X12_fitting_38, x_psh, x_ild, x_lld, x_ald, x_ist, x_ast, x_lst, x_inc, x_iadd, x_isub, x_imul, x_iand, x_ior, x_ixor, x_ishl, x_ishr, x_iushr, x_idiv, x_irem, x_ladd, x_land, x_lor, x_lshl, x_lshr, x_ineg, x_i2l, x_l2i, x_i2b, x_lcmp, x_dup, x_dup2, x_if_eq, x_if_ne, x_if_lt, x_if_ge, x_if_gt, x_if_le, x_ic_eq, x_ic_ne, x_ic_lt, x_ic_ge, x_ic_gt, x_ic_le, x_getI, x_getR, x_putI, x_putZ, x_putR, x_iald, x_bald, x_lald, x_iast, x_bast, x_last, x_alen, x_acp, x_mmax, x_mmin, x_callV, x_callS, x_iret, x_zret, x_lret, x_aret, x_vret, x_tsw, x_stop, zst1, zst2, zkill, zkl, zsplit, zmask, zent, zentL, List.getElem?_cons_zero, List.getElem?_cons_succ, List.set_cons_zero, List.set_cons_succ, List.set_nil, List.length_cons, List.length_nil, List.replicate, List.nil_append, List.cons_append, List.map_cons, List.map_nil, List.sum_cons, List.sum_nil, Value.category, Option.toList, List.contains_cons, List.contains_nil, true_or, or_true, true_and, Nat.zero_le, Nat.reduceAdd, Nat.reduceLeDiff, Nat.reduceLT, Nat.reduceBEq, Bool.true_or, Bool.or_true, Bool.false_or, Bool.or_false, ↓reduceIte, Bool.false_eq_true, Nat.add_zero, Nat.zero_add, Nat.reduceEqDiff, Nat.reduceSub, b2i_0, ne_eq, Nat.reduceEqDiff, not_false_eq_true, not_true_eq_false, true_and, and_true, true_implies, false_implies, implies_true, and_self]
        have e0 : (nI i = 0) = (i = 0) := propext (nI_eq (a := i) (b := 0) (by omega) (by omega))
        simp only [e0]
        refine ⟨fun q => absurd q (by rw [z_l12]; exact nI_ge (by omega) (by omega)), fun _ => ⟨fun q => k59 (by omega) 0 (by omega), fun q => ?_⟩⟩
        refine r_X12_fitting_59 hC hR m_X12_sounding (by decide) _ _ _ ?_
        simp only [T_X12_fitting_59, x_psh, x_ild, x_lld, x_ald, x_ist, x_ast, x_lst, x_inc, x_iadd, x_isub, x_imul, x_iand, x_ior, x_ixor, x_ishl, x_ishr, x_iushr, x_idiv, x_irem, x_ladd, x_land, x_lor, x_lshl, x_lshr, x_ineg, x_i2l, x_l2i, x_i2b, x_lcmp, x_dup, x_dup2, x_if_eq, x_if_ne, x_if_lt, x_if_ge, x_if_gt, x_if_le, x_ic_eq, x_ic_ne, x_ic_lt, x_ic_ge, x_ic_gt, x_ic_le, x_getI, x_getR, x_putI, x_putZ, x_putR, x_iald, x_bald, x_lald, x_iast, x_bast, x_last, x_alen, x_acp, x_mmax, x_mmin, x_callV, x_callS, x_iret, x_zret, x_lret, x_aret, x_vret, x_tsw, x_stop, zst1, zst2, zkill, zkl, zsplit, zmask, zent, zentL, List.getElem?_cons_zero, List.getElem?_cons_succ, List.set_cons_zero, List.set_cons_succ, List.set_nil, List.length_cons, List.length_nil, List.replicate, List.nil_append, List.cons_append, List.map_cons, List.map_nil, List.sum_cons, List.sum_nil, Value.category, Option.toList, List.contains_cons, List.contains_nil, true_or, or_true, true_and, Nat.zero_le, Nat.reduceAdd, Nat.reduceLeDiff, Nat.reduceLT, Nat.reduceBEq, Bool.true_or, Bool.or_true, Bool.false_or, Bool.or_false, ↓reduceIte, Bool.false_eq_true, Nat.add_zero, Nat.zero_add, Nat.reduceEqDiff, Nat.reduceSub, b2i_0, ne_eq, Nat.reduceEqDiff, not_false_eq_true, not_true_eq_false, true_and, and_true, true_implies, false_implies, implies_true, and_self]
        refine ⟨fun q => absurd q (by rw [z_l12]; exact nI_ge (a := 0) (by omega) (by omega)), fun _ => ⟨fun _ => k108 1 ?_, fun q2 => absurd (show nI i ≤ nI 0 from nI_le (by omega) (by omega)) q2⟩⟩
        rw [q]
        exact hcw0 d
      · refine r_X12_fitting_38 hC hR m_X12_sounding (by decide) _ _ _ ?_
        simp only [T_X12_fitting_38, x_psh, x_ild, x_lld, x_ald, x_ist, x_ast, x_lst, x_inc, x_iadd, x_isub, x_imul, x_iand, x_ior, x_ixor, x_ishl, x_ishr, x_iushr, x_idiv, x_irem, x_ladd, x_land, x_lor, x_lshl, x_lshr, x_ineg, x_i2l, x_l2i, x_i2b, x_lcmp, x_dup, x_dup2, x_if_eq, x_if_ne, x_if_lt, x_if_ge, x_if_gt, x_if_le, x_ic_eq, x_ic_ne, x_ic_lt, x_ic_ge, x_ic_gt, x_ic_le, x_getI, x_getR, x_putI, x_putZ, x_putR, x_iald, x_bald, x_lald, x_iast, x_bast, x_last, x_alen, x_acp, x_mmax, x_mmin, x_callV, x_callS, x_iret, x_zret, x_lret, x_aret, x_vret, x_tsw, x_stop, zst1, zst2, zkill, zkl, zsplit, zmask, zent, zentL, List.getElem?_cons_zero, List.getElem?_cons_succ, List.set_cons_zero, List.set_cons_succ, List.set_nil, List.length_cons, List.length_nil, List.replicate, List.nil_append, List.cons_append, List.map_cons, List.map_nil, List.sum_cons, List.sum_nil, Value.category, Option.toList, List.contains_cons, List.contains_nil, true_or, or_true, true_and, Nat.zero_le, Nat.reduceAdd, Nat.reduceLeDiff, Nat.reduceLT, Nat.reduceBEq, Bool.true_or, Bool.or_true, Bool.false_or, Bool.or_false, ↓reduceIte, Bool.false_eq_true, Nat.add_zero, Nat.zero_add, Nat.reduceEqDiff, Nat.reduceSub, b2i_0, ne_eq, Nat.reduceEqDiff, not_false_eq_true, not_true_eq_false, true_and, and_true, true_implies, false_implies, implies_true, and_self]
        refine ⟨fun _ => ?_, fun q => absurd (by rw [z_l12]; exact nI_le (by omega) (by omega)) q⟩
        have := k141 τ hq h70 0 (by omega) τ hq h70 (fun o ho => by omega)
        have e : (if i + 1 = n then sumN (cw i) 0 else 0) = 0 := by split <;> rfl
        rw [e] at this
        exact this
  have e0 : (nI n = 0) = (n = 0) := propext (nI_eq (a := n) (b := 0) (by omega) (by omega))
  try rw [hn]
  simp only [e0]
  have o0 := outer n 0 (by omega) σ (JQ.refl _) (fun h => by omega)
  refine ⟨fun q => ?_, fun q => ?_⟩
  · rw [if_neg q, if_neg (fun e => q e.symm)] at o0
    exact o0
  · rw [if_pos q] at o0
    exact o0
