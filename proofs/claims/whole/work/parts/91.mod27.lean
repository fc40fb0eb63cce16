/-! the model's rounds -/
def nrP (T : TD) (k : Nat) (lf : Nat → Nat) (q o : Nat) : Prop := ∀ r, sucS T k (q / 2) o = some r → lf q ≤ lf (2 * r) + 1
def lfI (T : TD) (k to : Nat) (lf : Nat → Nat) : Prop := (∀ q, q < 768 → lf q ≤ 9999) ∧ (∀ q, q < 64 * tD T → lf q < 9999 → wkP T k to (lf q) (q / 2)) ∧ (∀ q, q < 768 → q / 64 = to → lf q = 0)
theorem lf_end {T : TD} {k to : Nat} {lf : Nat → Nat} (hD : tD T ≤ 12) (h1 : 1 ≤ tL T k) (h6 : tL T k ≤ 6) (hI : lfI T k to lf) (hn : ∀ q, q < 64 * tD T → ∀ o, o < tD T → nrP T k lf q o) : LfOk T k to lf := by
  refine fun q hq => ⟨hI.2.1 q hq, fun l => ?_⟩
  induction l generalizing q with
  | zero =>
    intro hw
    have hw : q / 2 / 32 = to := hw
    rw [hI.2.2 q (by omega) (by omega)]
    exact Nat.le_refl _
  | succ l ih =>
    rintro ⟨o, r, ho, hs, hw⟩
    have hr := suc_ok h1 h6 (by omega) hs
    have h2 := ih (2 * r) (by omega) (by rw [show 2 * r / 2 = r by omega]; exact hw)
    have := hn q hq o ho r hs
    omega
theorem sumN_dn {f : Nat → Nat} {q v : Nat} (hv : v < f q) : ∀ n, (q < n → sumN (va_up f q v) n < sumN f n) ∧ (n ≤ q → sumN (va_up f q v) n = sumN f n)
  | 0 => ⟨fun h => absurd h (Nat.not_lt_zero q), fun _ => rfl⟩
  | n + 1 => by
    have ih := sumN_dn hv n
    rw [sumN, sumN]
    by_cases e : n = q
    · have := ih.2 (by omega)
      rw [e, up_at]
      rw [e] at this
      exact ⟨fun _ => by omega, fun h => by omega⟩
    · rw [up_off _ _ e]
      exact ⟨fun h => by have := ih.1 (by omega); omega, fun h => by have := ih.2 (by omega); omega⟩
theorem lf_put {T : TD} {k to : Nat} {lf : Nat → Nat} {q o r : Nat} (hD : tD T ≤ 12) (h1 : 1 ≤ tL T k) (h6 : tL T k ≤ 6) (hI : lfI T k to lf) (hq : q < 64 * tD T) (ho : o < tD T) (hs : sucS T k (q / 2) o = some r) (hlt : lf (2 * r) + 1 < lf q) : lfI T k to (va_up lf q (lf (2 * r) + 1)) ∧ sumN (va_up lf q (lf (2 * r) + 1)) 768 < sumN lf 768 := by
  have hr := suc_ok h1 h6 (by omega) hs
  refine ⟨⟨fun a ha => ?_, fun a ha => ?_, fun a ha e => ?_⟩, (sumN_dn hlt 768).1 (by omega)⟩
  · by_cases e : a = q
    · rw [e, up_at]; have := hI.1 q (by omega); omega
    · rw [up_off _ _ e]; exact hI.1 a ha
  · by_cases e : a = q
    · rw [e, up_at]
      intro h
      have hw := hI.2.1 (2 * r) (by omega) (by omega)
      rw [show 2 * r / 2 = r by omega] at hw
      exact ⟨o, r, ho, hs, hw⟩
    · rw [up_off _ _ e]; exact hI.2.1 a ha
  · by_cases e2 : a = q
    · have := hI.2.2 q (by omega) (by rw [← e2]; exact e)
      omega
    · rw [up_off _ _ e2]; exact hI.2.2 a ha e
def w_X12_layLeft : WPt := fun args σ Q => match args with
  | [.ref x, .int a, .int b] => x = 56 ∧ ∃ T k to, MdT σ T ∧ a = nI k ∧ k < tS T ∧ b = nI to ∧ to < tD T ∧ ∀ σ' lf, IF σ σ' 68 → (∀ q, q < 768 → zI σ' 68 q = nI (lf q) ∧ lf q ≤ 9999) → LfOk T k to lf → Q none σ'
  | _ => False
set_option maxHeartbeats 4000000 in
theorem m_X12_layLeft : Meets yX12_layLeft cX12_layLeft 8 none 3 w_X12_layLeft := by
  refine Meets.mk (by decide) fun args σ Φ h => ?_
  unfold w_X12_layLeft at h
  split at h
  rotate_left
  · exact h.elim
  rename_i x a b
  obtain ⟨x, rfl⟩ : ∃ q : Nat, q = x := ⟨x, rfl⟩
  obtain ⟨hx, T, k, to, hM, rfl, hk, rfl, hto, hQ⟩ := h
  subst hx
  refine ⟨Nat.le_of_ble_eq_true rfl, fun C hC hR => ?_⟩
  have hT := hM.2.2
  have hD := hT.2.1
  have hS := hT.2.2.1
  have hL := hT.2.2.2.2.2.1 k hk
  have hMτ : ∀ τ, IF σ τ 68 → MdT τ T := fun τ hf => hM.q (hf.m (by omega))
  have hgτ : ∀ τ, IF σ τ 68 → ModS τ ∧ zI τ 56 10 = nI (tD T) := fun τ hf => ⟨(hMτ τ hf).1, (hMτ τ hf).2.1.1⟩
  have hEτ : ∀ τ, IF σ τ 68 → ∀ j, j < 12 → zI τ 62 j = nI (tE T j) := fun τ hf j hj => (hMτ τ hf).2.1.2.2.2.1 j hj
  unfold ModS at hgτ
  have hput : ∀ τ, IF σ τ 68 → ∀ q v, IF σ (sI τ 68 q v) 68 := fun τ hf q v => hf.trans if_one
  -- a pass
  have pass : ∀ S, ∀ τ lf, IF σ τ 68 → (∀ q, q < 768 → zI τ 68 q = nI (lf q)) → lfI T k to lf → sumN lf 768 ≤ S → WW C 38 [some (.ref 56), some (.int (nI k)), none, some (.int 1), none, none, none, none] [] τ := by
    intro S
    induction S using Nat.strongRecOn with
    | _ S ihS =>
    intro τ0 lf0 hf0 hr0 hI0 hs0
    have k47 := zloop (P := fun q => ∀ τ lf (v : Int32), IF σ τ 68 → (∀ q, q < 768 → zI τ 68 q = nI (lf q)) → lfI T k to lf → (v = 0 ∧ (∀ q', q' < q → ∀ o, o < tD T → nrP T k lf q' o) ∧ sumN lf 768 ≤ S) ∨ (v = 1 ∧ sumN lf 768 < S) → WW C 47 [some (.ref 56), some (.int (nI k)), none, some (.int v), some (.int (nI q)), none, none, none] [] τ) (64 * tD T) (fun q hq ih τ lf v hf hr hI hv => ?_) (fun τ lf v hf hr hI hv => ?_) 0 (by omega)
    · refine r_X12_layLeft_38 hC hR m_X12_begin (by decide) _ _ _ ?_
      simp only [T_X12_layLeft_38, x_psh, x_ild, x_lld, x_ald, x_ist, x_ast, x_lst, x_inc, x_iadd, x_isub, x_imul, x_iand, x_ior, x_ixor, x_ishl, x_ishr, x_iushr, x_idiv, x_irem, x_ladd, x_land, x_lor, x_lshl, x_lshr, x_ineg, x_i2l, x_l2i, x_i2b, x_lcmp, x_dup, x_dup2, x_if_eq, x_if_ne, x_if_lt, x_if_ge, x_if_gt, x_if_le, x_ic_eq, x_ic_ne, x_ic_lt, x_ic_ge, x_ic_gt, x_ic_le, x_getI, x_getR, x_putI, x_putZ, x_putR, x_iald, x_bald, x_lald, x_iast, x_bast, x_last, x_alen, x_acp, x_mmax, x_mmin, x_callV, x_callS, x_iret, x_zret, x_lret, x_aret, x_vret, x_tsw, x_stop, zst1, zst2, zkill, zkl, zsplit, zmask, zent, zentL, List.getElem?_cons_zero, List.getElem?_cons_succ, List.set_cons_zero, List.set_cons_succ, List.set_nil, List.length_cons, List.length_nil, List.replicate, List.nil_append, List.cons_append, List.map_cons, List.map_nil, List.sum_cons, List.sum_nil, Value.category, Option.toList, List.contains_cons, List.contains_nil, true_or, or_true, true_and, Nat.zero_le, Nat.reduceAdd, Nat.reduceLeDiff, Nat.reduceLT, Nat.reduceBEq, Bool.true_or, Bool.or_true, Bool.false_or, Bool.or_false, ↓reduceIte, Bool.false_eq_true, Nat.add_zero, Nat.zero_add, Nat.reduceEqDiff, Nat.reduceSub, b2i_0, ne_eq, Nat.reduceEqDiff, not_false_eq_true, not_true_eq_false, true_and, and_true, true_implies, false_implies, implies_true, and_self]
      exact ⟨fun q => absurd q (by decide), fun _ => k47 τ0 lf0 0 hf0 hr0 hI0 (Or.inl ⟨rfl, fun q' hq' => absurd hq' (Nat.not_lt_zero q'), hs0⟩)⟩
    · have k69 := zloop (P := fun o => ∀ τ lf (v : Int32), IF σ τ 68 → (∀ q, q < 768 → zI τ 68 q = nI (lf q)) → lfI T k to lf → (v = 0 ∧ (∀ q', q' < q → ∀ o, o < tD T → nrP T k lf q' o) ∧ (∀ o', o' < o → nrP T k lf q o') ∧ sumN lf 768 ≤ S) ∨ (v = 1 ∧ sumN lf 768 < S) → WW C 69 [some (.ref 56), some (.int (nI k)), none, some (.int v), some (.int (nI q)), some (.int (nI (q / 64))), some (.int (nI o)), none] [] τ) (tD T) (fun o ho ih2 τ lf v hf hr hI hv => ?_) (fun τ lf v hf hr hI hv => ?_) 0 (by omega)
      · have g := hgτ τ hf
        refine r_X12_layLeft_47 hC hR m_X12_begin (by decide) _ _ _ ?_
        simp only [T_X12_layLeft_47, x_psh, x_ild, x_lld, x_ald, x_ist, x_ast, x_lst, x_inc, x_iadd, x_isub, x_imul, x_iand, x_ior, x_ixor, x_ishl, x_ishr, x_iushr, x_idiv, x_irem, x_ladd, x_land, x_lor, x_lshl, x_lshr, x_ineg, x_i2l, x_l2i, x_i2b, x_lcmp, x_dup, x_dup2, x_if_eq, x_if_ne, x_if_lt, x_if_ge, x_if_gt, x_if_le, x_ic_eq, x_ic_ne, x_ic_lt, x_ic_ge, x_ic_gt, x_ic_le, x_getI, x_getR, x_putI, x_putZ, x_putR, x_iald, x_bald, x_lald, x_iast, x_bast, x_last, x_alen, x_acp, x_mmax, x_mmin, x_callV, x_callS, x_iret, x_zret, x_lret, x_aret, x_vret, x_tsw, x_stop, zst1, zst2, zkill, zkl, zsplit, zmask, zent, zentL, List.getElem?_cons_zero, List.getElem?_cons_succ, List.set_cons_zero, List.set_cons_succ, List.set_nil, List.length_cons, List.length_nil, List.replicate, List.nil_append, List.cons_append, List.map_cons, List.map_nil, List.sum_cons, List.sum_nil, Value.category, Option.toList, List.contains_cons, List.contains_nil, true_or, or_true, true_and, Nat.zero_le, Nat.reduceAdd, Nat.reduceLeDiff, Nat.reduceLT, Nat.reduceBEq, Bool.true_or, Bool.or_true, Bool.false_or, Bool.or_false, ↓reduceIte, Bool.false_eq_true, Nat.add_zero, Nat.zero_add, Nat.reduceEqDiff, Nat.reduceSub, g, b2i_0, ne_eq, Nat.reduceEqDiff, not_false_eq_true, not_true_eq_false, true_and, and_true, true_implies, false_implies, implies_true, and_self]
        rw [z_l64, pk_mul, z_div64 (by omega)]
        refine ⟨fun q => absurd q (nI_ge (by omega) (by omega)), fun _ => ⟨by decide, k69 τ lf v hf hr hI ?_⟩⟩
        rcases hv with ⟨v1, v2, v3⟩ | hv
        · exact Or.inl ⟨v1, v2, fun o' ho' => absurd ho' (Nat.not_lt_zero o'), v3⟩
        · exact Or.inr hv
      · have g := hgτ τ hf
        have hEd := hT.e (q / 64)
        have skip : nrP T k lf q o → WW C 69 [some (.ref 56), some (.int (nI k)), none, some (.int v), some (.int (nI q)), some (.int (nI (q / 64))), some (.int (nI (o + 1))), none] [] τ := by
          intro hnr
          refine ih2 τ lf v hf hr hI ?_
          rcases hv with ⟨v1, v2, v3, v4⟩ | hv
          · refine Or.inl ⟨v1, v2, fun o' ho' => ?_, v4⟩
            by_cases e : o' = o
            · rw [e]; exact hnr
            · exact v3 o' (by omega)
          · exact Or.inr hv
        have k111 : ∀ b, (b = 64 ∧ sucS T k (q / 2) o = none) ∨ (∃ r, b < 64 ∧ 64 * o + b = 2 * r ∧ sucS T k (q / 2) o = some r) → WW C 111 [some (.ref 56), some (.int (nI k)), none, some (.int v), some (.int (nI q)), some (.int (nI (q / 64))), some (.int (nI o)), none] [.int (nI b)] τ := by
          intro b hb
          refine r_X12_layLeft_111 hC hR m_X12_begin (by decide) _ _ _ ?_
          simp only [T_X12_layLeft_111, x_psh, x_ild, x_lld, x_ald, x_ist, x_ast, x_lst, x_inc, x_iadd, x_isub, x_imul, x_iand, x_ior, x_ixor, x_ishl, x_ishr, x_iushr, x_idiv, x_irem, x_ladd, x_land, x_lor, x_lshl, x_lshr, x_ineg, x_i2l, x_l2i, x_i2b, x_lcmp, x_dup, x_dup2, x_if_eq, x_if_ne, x_if_lt, x_if_ge, x_if_gt, x_if_le, x_ic_eq, x_ic_ne, x_ic_lt, x_ic_ge, x_ic_gt, x_ic_le, x_getI, x_getR, x_putI, x_putZ, x_putR, x_iald, x_bald, x_lald, x_iast, x_bast, x_last, x_alen, x_acp, x_mmax, x_mmin, x_callV, x_callS, x_iret, x_zret, x_lret, x_aret, x_vret, x_tsw, x_stop, zst1, zst2, zkill, zkl, zsplit, zmask, zent, zentL, List.getElem?_cons_zero, List.getElem?_cons_succ, List.set_cons_zero, List.set_cons_succ, List.set_nil, List.length_cons, List.length_nil, List.replicate, List.nil_append, List.cons_append, List.map_cons, List.map_nil, List.sum_cons, List.sum_nil, Value.category, Option.toList, List.contains_cons, List.contains_nil, true_or, or_true, true_and, Nat.zero_le, Nat.reduceAdd, Nat.reduceLeDiff, Nat.reduceLT, Nat.reduceBEq, Bool.true_or, Bool.or_true, Bool.false_or, Bool.or_false, ↓reduceIte, Bool.false_eq_true, Nat.add_zero, Nat.zero_add, Nat.reduceEqDiff, Nat.reduceSub, g, b2i_0, ne_eq, Nat.reduceEqDiff, not_false_eq_true, not_true_eq_false, true_and, and_true, true_implies, false_implies, implies_true, and_self]
          rcases hb with ⟨rfl, hb⟩ | ⟨r, hb1, hb2, hb3⟩
          · rw [z_l64]
            simp only [nI_i3]
            exact ⟨fun _ => skip (fun r h => by rw [hb] at h; cases h), fun q => absurd trivial q⟩
          · have l1 := hI.1 (2 * r) (by omega)
            have l2 := hI.1 q (by omega)
            rw [z_l64, nI_eq (by omega) (by omega), z_ix64, nI_clamp (by omega), nI_clamp (by omega), hb2, hr (2 * r) (by omega), hr q (by omega)]
            simp only [nI_i3]
            rw [nI_leI (by omega) (by omega)]
            refine ⟨fun q => absurd q (by omega), fun _ => ⟨768, rfl, vp_in_nI (by omega) (by omega), 768, rfl, vp_in_nI (by omega) (by omega), fun q2 => skip ?_, fun q2 => ⟨768, rfl, vp_in_nI (by omega) (by omega), 768, rfl, vp_in_nI (by omega) (by omega), ?_⟩⟩⟩
            · intro r' h
              rw [hb3] at h
              cases h
              exact q2
            · have hp := lf_put hD hL.1 hL.2.1 hI hq ho hb3 (by omega)
              refine ih2 _ (va_up lf q (lf (2 * r) + 1)) 1 (hput τ hf _ _) (fun a ha => ?_) hp.1 (Or.inr ⟨rfl, ?_⟩)
              · rw [zI_at]
                by_cases e : a = q
                · rw [if_pos e, e, up_at]
                · rw [if_neg e, up_off _ _ e]; exact hr a ha
              · rcases hv with ⟨v1, v2, v3, v4⟩ | hv
                · omega
                · omega
        have e1 : q / 2 / 32 = q / 64 := by omega
        have e2 : q / 2 % 32 = q % 64 / 2 := by omega
        refine r_X12_layLeft_69 hC hR m_X12_begin (by decide) _ _ _ ?_
        simp only [T_X12_layLeft_69, x_psh, x_ild, x_lld, x_ald, x_ist, x_ast, x_lst, x_inc, x_iadd, x_isub, x_imul, x_iand, x_ior, x_ixor, x_ishl, x_ishr, x_iushr, x_idiv, x_irem, x_ladd, x_land, x_lor, x_lshl, x_lshr, x_ineg, x_i2l, x_l2i, x_i2b, x_lcmp, x_dup, x_dup2, x_if_eq, x_if_ne, x_if_lt, x_if_ge, x_if_gt, x_if_le, x_ic_eq, x_ic_ne, x_ic_lt, x_ic_ge, x_ic_gt, x_ic_le, x_getI, x_getR, x_putI, x_putZ, x_putR, x_iald, x_bald, x_lald, x_iast, x_bast, x_last, x_alen, x_acp, x_mmax, x_mmin, x_callV, x_callS, x_iret, x_zret, x_lret, x_aret, x_vret, x_tsw, x_stop, zst1, zst2, zkill, zkl, zsplit, zmask, zent, zentL, List.getElem?_cons_zero, List.getElem?_cons_succ, List.set_cons_zero, List.set_cons_succ, List.set_nil, List.length_cons, List.length_nil, List.replicate, List.nil_append, List.cons_append, List.map_cons, List.map_nil, List.sum_cons, List.sum_nil, Value.category, Option.toList, List.contains_cons, List.contains_nil, true_or, or_true, true_and, Nat.zero_le, Nat.reduceAdd, Nat.reduceLeDiff, Nat.reduceLT, Nat.reduceBEq, Bool.true_or, Bool.or_true, Bool.false_or, Bool.or_false, ↓reduceIte, Bool.false_eq_true, Nat.add_zero, Nat.zero_add, Nat.reduceEqDiff, Nat.reduceSub, g, w_X12_begin, b2i_0, ne_eq, Nat.reduceEqDiff, not_false_eq_true, not_true_eq_false, true_and, and_true, true_implies, false_implies, implies_true, and_self]
        rw [nI_clamp (show q / 64 < 2 ^ 31 by omega), hEτ τ hf (q / 64) (by omega), z_b1 (by omega) (by omega)]
        simp only [b2i_1]
        refine ⟨fun q => absurd q (nI_ge (by omega) (by omega)), fun _ => ⟨12, rfl, vp_in_nI (by omega) (by omega), fun q3 => ?_, fun q3 => ⟨by decide, T, k, q % 64, o, hMτ τ hf, rfl, hk, z_rem64 (by omega), by omega, rfl, ho, ?_⟩⟩⟩
        · refine k111 64 (Or.inl ⟨rfl, ?_⟩)
          unfold sucS
          rw [e1, if_neg q3]
        · refine k111 _ ?_
          unfold sucS
          rw [e1, e2, if_pos q3]
          rcases be_st (T := T) (k := k) (s := q % 64 / 2) (d := o) hL.1 hL.2.1 with ⟨b1, b2⟩ | ⟨r, b1, b2, b3⟩
          · exact Or.inl ⟨b2, b1⟩
          · exact Or.inr ⟨r, b2, b3, b1⟩
      · have g := hgτ τ hf
        refine r_X12_layLeft_69 hC hR m_X12_begin (by decide) _ _ _ ?_
        simp only [T_X12_layLeft_69, x_psh, x_ild, x_lld, x_ald, x_ist, x_ast, x_lst, x_inc, x_iadd, x_isub, x_imul, x_iand, x_ior, x_ixor, x_ishl, x_ishr, x_iushr, x_idiv, x_irem, x_ladd, x_land, x_lor, x_lshl, x_lshr, x_ineg, x_i2l, x_l2i, x_i2b, x_lcmp, x_dup, x_dup2, x_if_eq, x_if_ne, x_if_lt, x_if_ge, x_if_gt, x_if_le, x_ic_eq, x_ic_ne, x_ic_lt, x_ic_ge, x_ic_gt, x_ic_le, x_getI, x_getR, x_putI, x_putZ, x_putR, x_iald, x_bald, x_lald, x_iast, x_bast, x_last, x_alen, x_acp, x_mmax, x_mmin, x_callV, x_callS, x_iret, x_zret, x_lret, x_aret, x_vret, x_tsw, x_stop, zst1, zst2, zkill, zkl, zsplit, zmask, zent, zentL, List.getElem?_cons_zero, List.getElem?_cons_succ, List.set_cons_zero, List.set_cons_succ, List.set_nil, List.length_cons, List.length_nil, List.replicate, List.nil_append, List.cons_append, List.map_cons, List.map_nil, List.sum_cons, List.sum_nil, Value.category, Option.toList, List.contains_cons, List.contains_nil, true_or, or_true, true_and, Nat.zero_le, Nat.reduceAdd, Nat.reduceLeDiff, Nat.reduceLT, Nat.reduceBEq, Bool.true_or, Bool.or_true, Bool.false_or, Bool.or_false, ↓reduceIte, Bool.false_eq_true, Nat.add_zero, Nat.zero_add, Nat.reduceEqDiff, Nat.reduceSub, g, b2i_0, ne_eq, Nat.reduceEqDiff, not_false_eq_true, not_true_eq_false, true_and, and_true, true_implies, false_implies, implies_true, and_self]
        rw [nI_i3]
        refine ⟨fun _ => ih τ lf v hf hr hI ?_, fun q => absurd (nI_le (Nat.le_refl _) (by omega)) q⟩
        rcases hv with ⟨v1, v2, v3, v4⟩ | hv
        · refine Or.inl ⟨v1, fun q' hq' => ?_, v4⟩
          by_cases e : q' = q
          · rw [e]; exact v3
          · exact v2 q' (by omega)
        · exact Or.inr hv
    · have g := hgτ τ hf
      refine r_X12_layLeft_47 hC hR m_X12_begin (by decide) _ _ _ ?_
      simp only [T_X12_layLeft_47, x_psh, x_ild, x_lld, x_ald, x_ist, x_ast, x_lst, x_inc, x_iadd, x_isub, x_imul, x_iand, x_ior, x_ixor, x_ishl, x_ishr, x_iushr, x_idiv, x_irem, x_ladd, x_land, x_lor, x_lshl, x_lshr, x_ineg, x_i2l, x_l2i, x_i2b, x_lcmp, x_dup, x_dup2, x_if_eq, x_if_ne, x_if_lt, x_if_ge, x_if_gt, x_if_le, x_ic_eq, x_ic_ne, x_ic_lt, x_ic_ge, x_ic_gt, x_ic_le, x_getI, x_getR, x_putI, x_putZ, x_putR, x_iald, x_bald, x_lald, x_iast, x_bast, x_last, x_alen, x_acp, x_mmax, x_mmin, x_callV, x_callS, x_iret, x_zret, x_lret, x_aret, x_vret, x_tsw, x_stop, zst1, zst2, zkill, zkl, zsplit, zmask, zent, zentL, List.getElem?_cons_zero, List.getElem?_cons_succ, List.set_cons_zero, List.set_cons_succ, List.set_nil, List.length_cons, List.length_nil, List.replicate, List.nil_append, List.cons_append, List.map_cons, List.map_nil, List.sum_cons, List.sum_nil, Value.category, Option.toList, List.contains_cons, List.contains_nil, true_or, or_true, true_and, Nat.zero_le, Nat.reduceAdd, Nat.reduceLeDiff, Nat.reduceLT, Nat.reduceBEq, Bool.true_or, Bool.or_true, Bool.false_or, Bool.or_false, ↓reduceIte, Bool.false_eq_true, Nat.add_zero, Nat.zero_add, Nat.reduceEqDiff, Nat.reduceSub, g, b2i_0, ne_eq, Nat.reduceEqDiff, not_false_eq_true, not_true_eq_false, true_and, and_true, true_implies, false_implies, implies_true, and_self]
      rw [z_l64, pk_mul]
      refine ⟨fun _ => ?_, fun q => absurd (nI_le (Nat.le_refl _) (by omega)) q⟩
      rcases hv with ⟨rfl, v2, v3⟩ | ⟨rfl, hv⟩
      · refine r_X12_layLeft_38 hC hR m_X12_begin (by decide) _ _ _ ?_
        simp only [T_X12_layLeft_38, x_psh, x_ild, x_lld, x_ald, x_ist, x_ast, x_lst, x_inc, x_iadd, x_isub, x_imul, x_iand, x_ior, x_ixor, x_ishl, x_ishr, x_iushr, x_idiv, x_irem, x_ladd, x_land, x_lor, x_lshl, x_lshr, x_ineg, x_i2l, x_l2i, x_i2b, x_lcmp, x_dup, x_dup2, x_if_eq, x_if_ne, x_if_lt, x_if_ge, x_if_gt, x_if_le, x_ic_eq, x_ic_ne, x_ic_lt, x_ic_ge, x_ic_gt, x_ic_le, x_getI, x_getR, x_putI, x_putZ, x_putR, x_iald, x_bald, x_lald, x_iast, x_bast, x_last, x_alen, x_acp, x_mmax, x_mmin, x_callV, x_callS, x_iret, x_zret, x_lret, x_aret, x_vret, x_tsw, x_stop, zst1, zst2, zkill, zkl, zsplit, zmask, zent, zentL, List.getElem?_cons_zero, List.getElem?_cons_succ, List.set_cons_zero, List.set_cons_succ, List.set_nil, List.length_cons, List.length_nil, List.replicate, List.nil_append, List.cons_append, List.map_cons, List.map_nil, List.sum_cons, List.sum_nil, Value.category, Option.toList, List.contains_cons, List.contains_nil, true_or, or_true, true_and, Nat.zero_le, Nat.reduceAdd, Nat.reduceLeDiff, Nat.reduceLT, Nat.reduceBEq, Bool.true_or, Bool.or_true, Bool.false_or, Bool.or_false, ↓reduceIte, Bool.false_eq_true, Nat.add_zero, Nat.zero_add, Nat.reduceEqDiff, Nat.reduceSub, b2i_0, ne_eq, Nat.reduceEqDiff, not_false_eq_true, not_true_eq_false, true_and, and_true, true_implies, false_implies, implies_true, and_self]
        exact hQ τ lf hf (fun q hq => ⟨hr q hq, hI.1 q hq⟩) (lf_end hD hL.1 hL.2.1 hI v2)
      · exact ihS _ hv τ lf hf hr hI (Nat.le_refl _)
  have k2 := zloop (P := fun q => ∀ τ, IF σ τ 68 → (∀ i, i < q → zI τ 68 i = nI (if i / 64 = to then 0 else 9999)) → WW C 2 [some (.ref 56), some (.int (nI k)), some (.int (nI to)), some (.int (nI q)), none, none, none, none] [] τ) 768 (fun q hq ih τ hf hr => ?_) (fun τ hf hr => ?_) 0 (by omega)
  · refine r_X12_layLeft_0 hC hR m_X12_begin (by decide) _ _ _ ?_
    simp only [T_X12_layLeft_0, x_psh, x_ild, x_lld, x_ald, x_ist, x_ast, x_lst, x_inc, x_iadd, x_isub, x_imul, x_iand, x_ior, x_ixor, x_ishl, x_ishr, x_iushr, x_idiv, x_irem, x_ladd, x_land, x_lor, x_lshl, x_lshr, x_ineg, x_i2l, x_l2i, x_i2b, x_lcmp, x_dup, x_dup2, x_if_eq, x_if_ne, x_if_lt, x_if_ge, x_if_gt, x_if_le, x_ic_eq, x_ic_ne, x_ic_lt, x_ic_ge, x_ic_gt, x_ic_le, x_getI, x_getR, x_putI, x_putZ, x_putR, x_iald, x_bald, x_lald, x_iast, x_bast, x_last, x_alen, x_acp, x_mmax, x_mmin, x_callV, x_callS, x_iret, x_zret, x_lret, x_aret, x_vret, x_tsw, x_stop, zst1, zst2, zkill, zkl, zsplit, zmask, zent, zentL, List.getElem?_cons_zero, List.getElem?_cons_succ, List.set_cons_zero, List.set_cons_succ, List.set_nil, List.length_cons, List.length_nil, List.replicate, List.nil_append, List.cons_append, List.map_cons, List.map_nil, List.sum_cons, List.sum_nil, Value.category, Option.toList, List.contains_cons, List.contains_nil, true_or, or_true, true_and, Nat.zero_le, Nat.reduceAdd, Nat.reduceLeDiff, Nat.reduceLT, Nat.reduceBEq, Bool.true_or, Bool.or_true, Bool.false_or, Bool.or_false, ↓reduceIte, Bool.false_eq_true, Nat.add_zero, Nat.zero_add, Nat.reduceEqDiff, Nat.reduceSub, b2i_0, ne_eq, Nat.reduceEqDiff, not_false_eq_true, not_true_eq_false, true_and, and_true, true_implies, false_implies, implies_true, and_self]
    exact k2 σ (IF.refl _ _) (fun i hi => absurd hi (Nat.not_lt_zero i))
  · have g := hgτ τ hf
    have fin : ∀ v, v = nI (if q / 64 = to then 0 else 9999) → WW C 2 [some (.ref 56), some (.int (nI k)), some (.int (nI to)), some (.int (nI (q + 1))), none, none, none, none] [] (sI τ 68 q v) := by
      rintro v rfl
      refine ih _ (hput τ hf _ _) (fun i hi => ?_)
      rw [zI_at]
      by_cases e : i = q
      · rw [if_pos e, e]
      · rw [if_neg e]; exact hr i (by omega)
    refine r_X12_layLeft_2 hC hR m_X12_begin (by decide) _ _ _ ?_
    simp only [T_X12_layLeft_2, x_psh, x_ild, x_lld, x_ald, x_ist, x_ast, x_lst, x_inc, x_iadd, x_isub, x_imul, x_iand, x_ior, x_ixor, x_ishl, x_ishr, x_iushr, x_idiv, x_irem, x_ladd, x_land, x_lor, x_lshl, x_lshr, x_ineg, x_i2l, x_l2i, x_i2b, x_lcmp, x_dup, x_dup2, x_if_eq, x_if_ne, x_if_lt, x_if_ge, x_if_gt, x_if_le, x_ic_eq, x_ic_ne, x_ic_lt, x_ic_ge, x_ic_gt, x_ic_le, x_getI, x_getR, x_putI, x_putZ, x_putR, x_iald, x_bald, x_lald, x_iast, x_bast, x_last, x_alen, x_acp, x_mmax, x_mmin, x_callV, x_callS, x_iret, x_zret, x_lret, x_aret, x_vret, x_tsw, x_stop, zst1, zst2, zkill, zkl, zsplit, zmask, zent, zentL, List.getElem?_cons_zero, List.getElem?_cons_succ, List.set_cons_zero, List.set_cons_succ, List.set_nil, List.length_cons, List.length_nil, List.replicate, List.nil_append, List.cons_append, List.map_cons, List.map_nil, List.sum_cons, List.sum_nil, Value.category, Option.toList, List.contains_cons, List.contains_nil, true_or, or_true, true_and, Nat.zero_le, Nat.reduceAdd, Nat.reduceLeDiff, Nat.reduceLT, Nat.reduceBEq, Bool.true_or, Bool.or_true, Bool.false_or, Bool.or_false, ↓reduceIte, Bool.false_eq_true, Nat.add_zero, Nat.zero_add, Nat.reduceEqDiff, Nat.reduceSub, g, b2i_0, ne_eq, Nat.reduceEqDiff, not_false_eq_true, not_true_eq_false, true_and, and_true, true_implies, false_implies, implies_true, and_self]
    rw [z_l768, z_l64, z_div64 (by omega), nI_clamp (by omega), nI_i3, nI_eq (by omega) (by omega)]
    refine ⟨fun q => absurd q (nI_ge (by omega) (by omega)), fun _ => ⟨by decide, fun q2 => ⟨768, rfl, vp_in_nI (by omega) (by omega), fin _ ?_⟩, fun q2 => ⟨768, rfl, vp_in_nI (by omega) (by omega), fin _ ?_⟩⟩⟩
    · rw [if_neg q2]; rfl
    · rw [if_pos q2]; rfl
  · refine r_X12_layLeft_2 hC hR m_X12_begin (by decide) _ _ _ ?_
    simp only [T_X12_layLeft_2, x_psh, x_ild, x_lld, x_ald, x_ist, x_ast, x_lst, x_inc, x_iadd, x_isub, x_imul, x_iand, x_ior, x_ixor, x_ishl, x_ishr, x_iushr, x_idiv, x_irem, x_ladd, x_land, x_lor, x_lshl, x_lshr, x_ineg, x_i2l, x_l2i, x_i2b, x_lcmp, x_dup, x_dup2, x_if_eq, x_if_ne, x_if_lt, x_if_ge, x_if_gt, x_if_le, x_ic_eq, x_ic_ne, x_ic_lt, x_ic_ge, x_ic_gt, x_ic_le, x_getI, x_getR, x_putI, x_putZ, x_putR, x_iald, x_bald, x_lald, x_iast, x_bast, x_last, x_alen, x_acp, x_mmax, x_mmin, x_callV, x_callS, x_iret, x_zret, x_lret, x_aret, x_vret, x_tsw, x_stop, zst1, zst2, zkill, zkl, zsplit, zmask, zent, zentL, List.getElem?_cons_zero, List.getElem?_cons_succ, List.set_cons_zero, List.set_cons_succ, List.set_nil, List.length_cons, List.length_nil, List.replicate, List.nil_append, List.cons_append, List.map_cons, List.map_nil, List.sum_cons, List.sum_nil, Value.category, Option.toList, List.contains_cons, List.contains_nil, true_or, or_true, true_and, Nat.zero_le, Nat.reduceAdd, Nat.reduceLeDiff, Nat.reduceLT, Nat.reduceBEq, Bool.true_or, Bool.or_true, Bool.false_or, Bool.or_false, ↓reduceIte, Bool.false_eq_true, Nat.add_zero, Nat.zero_add, Nat.reduceEqDiff, Nat.reduceSub, b2i_0, ne_eq, Nat.reduceEqDiff, not_false_eq_true, not_true_eq_false, true_and, and_true, true_implies, false_implies, implies_true, and_self]
    refine ⟨fun _ => pass _ τ (fun i => if i / 64 = to then 0 else 9999) hf hr ⟨fun q hq => ?_, fun q hq => ?_, fun q hq e => if_pos e⟩ (Nat.le_refl _), fun q => absurd (by decide) q⟩
    · show (if q / 64 = to then 0 else 9999) ≤ 9999
      split <;> omega
    · show (if q / 64 = to then 0 else 9999) < 9999 → wkP T k to (if q / 64 = to then 0 else 9999) (q / 2)
      by_cases e : q / 64 = to
      · rw [if_pos e]
        intro _
        show q / 2 / 32 = to
        omega
      · rw [if_neg e]
        intro h
        omega
def w_X12_roundOf : WPt := fun args σ Q => match args with
  | [.ref x, .int a, .int b, .int c] => x = 56 ∧ ∃ T k fr to, MdT σ T ∧ a = nI k ∧ k < tS T ∧ b = nI fr ∧ fr < tD T ∧ c = nI to ∧ to < tD T ∧ ∀ σ' lf, IF σ σ' 68 → (∀ q, q < 768 → zI σ' 68 q = nI (lf q) ∧ lf q ≤ 9999) → LfOk T k to lf → Q (some (.int (i2 (rdS T k fr to)))) σ'
  | _ => False
set_option maxHeartbeats 1000000 in
theorem m_X12_roundOf : Meets yX12_roundOf cX12_roundOf 5 (some .int) 4 w_X12_roundOf := by
  refine Meets.mk (by decide) fun args σ Φ h => ?_
  unfold w_X12_roundOf at h
  split at h
  rotate_left
  · exact h.elim
  rename_i x a b c
  obtain ⟨x, rfl⟩ : ∃ q : Nat, q = x := ⟨x, rfl⟩
  obtain ⟨hx, T, k, fr, to, hM, rfl, hk, rfl, hfr, rfl, hto, hQ⟩ := h
  subst hx
  refine ⟨Nat.le_of_ble_eq_true rfl, fun C hC hR => ?_⟩
  have hT := hM.2.2
  have hD := hT.2.1
  have hL := hT.2.2.2.2.2.1 k hk
  have g0 := hM.1
  unfold ModS at g0
  refine r_X12_roundOf_0 hC hR m_X12_layLeft (by decide) m_X12_begin (by decide) _ _ _ ?_
  simp only [T_X12_roundOf_0, x_psh, x_ild, x_lld, x_ald, x_ist, x_ast, x_lst, x_inc, x_iadd, x_isub, x_imul, x_iand, x_ior, x_ixor, x_ishl, x_ishr, x_iushr, x_idiv, x_irem, x_ladd, x_land, x_lor, x_lshl, x_lshr, x_ineg, x_i2l, x_l2i, x_i2b, x_lcmp, x_dup, x_dup2, x_if_eq, x_if_ne, x_if_lt, x_if_ge, x_if_gt, x_if_le, x_ic_eq, x_ic_ne, x_ic_lt, x_ic_ge, x_ic_gt, x_ic_le, x_getI, x_getR, x_putI, x_putZ, x_putR, x_iald, x_bald, x_lald, x_iast, x_bast, x_last, x_alen, x_acp, x_mmax, x_mmin, x_callV, x_callS, x_iret, x_zret, x_lret, x_aret, x_vret, x_tsw, x_stop, zst1, zst2, zkill, zkl, zsplit, zmask, zent, zentL, List.getElem?_cons_zero, List.getElem?_cons_succ, List.set_cons_zero, List.set_cons_succ, List.set_nil, List.length_cons, List.length_nil, List.replicate, List.nil_append, List.cons_append, List.map_cons, List.map_nil, List.sum_cons, List.sum_nil, Value.category, Option.toList, List.contains_cons, List.contains_nil, true_or, or_true, true_and, Nat.zero_le, Nat.reduceAdd, Nat.reduceLeDiff, Nat.reduceLT, Nat.reduceBEq, Bool.true_or, Bool.or_true, Bool.false_or, Bool.or_false, ↓reduceIte, Bool.false_eq_true, Nat.add_zero, Nat.zero_add, Nat.reduceEqDiff, Nat.reduceSub, g0, w_X12_layLeft, b2i_0, ne_eq, Nat.reduceEqDiff, not_false_eq_true, not_true_eq_false, true_and, and_true, true_implies, false_implies, implies_true, and_self]
  refine ⟨T, k, to, hM, rfl, hk, rfl, hto, fun σ1 lf hf hr hl => ?_⟩
  have hM1 : MdT σ1 T := hM.q (hf.m (by omega))
  have g := hM1.1
  unfold ModS at g
  simp only [g, w_X12_begin, x_psh, x_ild, x_lld, x_ald, x_ist, x_ast, x_lst, x_inc, x_iadd, x_isub, x_imul, x_iand, x_ior, x_ixor, x_ishl, x_ishr, x_iushr, x_idiv, x_irem, x_ladd, x_land, x_lor, x_lshl, x_lshr, x_ineg, x_i2l, x_l2i, x_i2b, x_lcmp, x_dup, x_dup2, x_if_eq, x_if_ne, x_if_lt, x_if_ge, x_if_gt, x_if_le, x_ic_eq, x_ic_ne, x_ic_lt, x_ic_ge, x_ic_gt, x_ic_le, x_getI, x_getR, x_putI, x_putZ, x_putR, x_iald, x_bald, x_lald, x_iast, x_bast, x_last, x_alen, x_acp, x_mmax, x_mmin, x_callV, x_callS, x_iret, x_zret, x_lret, x_aret, x_vret, x_tsw, x_stop, zst1, zst2, zkill, zkl, zsplit, zmask, zent, zentL, List.getElem?_cons_zero, List.getElem?_cons_succ, List.set_cons_zero, List.set_cons_succ, List.set_nil, List.length_cons, List.length_nil, List.replicate, List.nil_append, List.cons_append, List.map_cons, List.map_nil, List.sum_cons, List.sum_nil, Value.category, Option.toList, List.contains_cons, List.contains_nil, true_or, or_true, true_and, Nat.zero_le, Nat.reduceAdd, Nat.reduceLeDiff, Nat.reduceLT, Nat.reduceBEq, Bool.true_or, Bool.or_true, Bool.false_or, Bool.or_false, ↓reduceIte, Bool.false_eq_true, Nat.add_zero, Nat.zero_add, Nat.reduceEqDiff, Nat.reduceSub, b2i_0, ne_eq, Nat.reduceEqDiff, not_false_eq_true, not_true_eq_false, true_and, and_true, true_implies, false_implies, implies_true, and_self]
  refine ⟨T, k, 0, fr, hM1, rfl, hk, rfl, by omega, rfl, hfr, ?_⟩
  have hb := beN_le (T := T) (k := k) (s := 0) (d := fr) hL.1 hL.2.1
  have hq := hQ σ1 lf hf hr hl
  rw [show 0 / 2 = 0 from rfl]
  rw [z_l64, nI_eq (by omega) (by omega), z_ix64]
  rcases rd_ok hD hL.1 hL.2.1 hfr hto hl with ⟨h1, h2⟩ | ⟨h1, e, h2, h3, h4, -⟩
  · unfold rdS at hq
    rw [h2] at hq
    refine ⟨fun _ => hq, fun q => ⟨768, rfl, vp_in_nI (by omega) (by omega), ?_⟩⟩
    have h1 := h1.resolve_left q
    have h3 := hr (64 * fr + beN T k 0 fr) (by omega)
    rw [nI_clamp (by omega), h3.1, z_l9999, nI_ltI (by omega) (by omega)]
    exact ⟨fun q => absurd q (by omega), fun _ => hq⟩
  · unfold rdS at hq
    rw [h2] at hq
    have h5 := hr (64 * fr + beN T k 0 fr) (by omega)
    refine ⟨fun q => absurd q h1, fun q => ⟨768, rfl, vp_in_nI (by omega) (by omega), ?_⟩⟩
    rw [nI_clamp (by omega), h5.1, z_l9999, nI_ltI (by omega) (by omega), h3]
    exact ⟨fun _ => ⟨768, rfl, vp_in_nI (by omega) (by omega), hq⟩, fun q => absurd (by omega) q⟩
