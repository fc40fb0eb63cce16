def TI (σ τ : ZS) (D a b c : Nat) : Prop := zd τ = zd σ ∧ zR τ = zR σ ∧ zJ τ = zJ σ ∧ (∀ i : Nat, (i < 61 ∨ 65 ≤ i) → zI τ i = zI σ i) ∧ zI τ 61 = cpR (zI σ 57) (zI σ 61) 0 a ∧ zI τ 62 = cpR (fun k => if k < D then zI σ 58 k else 0) (zI σ 62) 0 a ∧ zI τ 63 = cpR (zI σ 59) (zI σ 63) 0 b ∧ zI τ 64 = cpR (zI σ 60) (zI σ 64) 0 c
def w_X12_town : WPt := fun args σ Q => match args with
  | [.ref x] => x = 56 ∧ PubM σ q_town Q
  | _ => False
set_option maxHeartbeats 4000000 in
theorem m_X12_town : Meets yX12_town cX12_town 2 (some .int) 5 w_X12_town := by
  refine Meets.mk (by decide) fun args σ Φ h => ?_
  unfold w_X12_town at h
  split at h
  rotate_left
  · exact h.elim
  rename_i x
  obtain ⟨x, rfl⟩ : ∃ q : Nat, q = x := ⟨x, rfl⟩
  obtain ⟨hx, A, hK, hA, hQ⟩ := h
  subst hx
  refine ⟨Nat.le_of_ble_eq_true rfl, fun C hC hR => ?_⟩
  have hf := mod_f hK
  have hN := hA.1
  have hD1 := hA.t.1
  have hD := hA.t.2.1
  have hS := hA.t.2.2.1
  have hW := hA.2.2.1.2.1
  have hE := hA.2.2.1.2.2.1
  have hp := z_pow31 hD
  have hV := hK.2
  refine r_X12_town_0 hC hR m_X12_readText (by decide) _ _ _ ?_
  simp only [T_X12_town_0, x_psh, x_ild, x_lld, x_ald, x_ist, x_ast, x_lst, x_inc, x_iadd, x_isub, x_imul, x_iand, x_ior, x_ixor, x_ishl, x_ishr, x_iushr, x_idiv, x_irem, x_ladd, x_land, x_lor, x_lshl, x_lshr, x_ineg, x_i2l, x_l2i, x_i2b, x_lcmp, x_dup, x_dup2, x_if_eq, x_if_ne, x_if_lt, x_if_ge, x_if_gt, x_if_le, x_ic_eq, x_ic_ne, x_ic_lt, x_ic_ge, x_ic_gt, x_ic_le, x_getI, x_getR, x_putI, x_putZ, x_putR, x_iald, x_bald, x_lald, x_iast, x_bast, x_last, x_alen, x_acp, x_mmax, x_mmin, x_callV, x_callS, x_iret, x_zret, x_lret, x_aret, x_vret, x_tsw, x_stop, zst1, zst2, zkill, zkl, zsplit, zmask, zent, zentL, List.getElem?_cons_zero, List.getElem?_cons_succ, List.set_cons_zero, List.set_cons_succ, List.set_nil, List.length_cons, List.length_nil, List.replicate, List.nil_append, List.cons_append, List.map_cons, List.map_nil, List.sum_cons, List.sum_nil, Value.category, Option.toList, List.contains_cons, List.contains_nil, true_or, or_true, true_and, Nat.zero_le, Nat.reduceAdd, Nat.reduceLeDiff, Nat.reduceLT, Nat.reduceBEq, Bool.true_or, Bool.or_true, Bool.false_or, Bool.or_false, ↓reduceIte, Bool.false_eq_true, Nat.add_zero, Nat.zero_add, Nat.reduceEqDiff, Nat.reduceSub, hf, w_X12_readText, b2i_0, ne_eq, Nat.reduceEqDiff, not_false_eq_true, not_true_eq_false, true_and, and_true, true_implies, false_implies, implies_true, and_self]
  refine ⟨aN A, aB A, hK.1, ⟨rfl, hV.2.1.2⟩, hA.1, hA.2.1, fun σ1 hq hrt => ?_⟩
  have hK1 := hq.m.r hK
  have hz1 := hq.m.z
  unfold q_town at hQ
  have hok := pRd_ok (n := aN A) (bt := aB A)
  have hpl := fun p => pRd_pl (n := aN A) (p := p) (bt := aB A) hA.1
  generalize pRd (aN A) (aB A) = r at hrt hQ hok hpl
  obtain ⟨o, T⟩ := r
  cases o with
  | some p =>
    have := hpl p rfl
    have hne : ¬ i2 (some p) = -9 := z_m9 (by omega)
    exact ⟨fun h => absurd h hne, fun _ => hQ σ1 hz1 hK1⟩
  | none =>
    have hT : RTV σ1 T := hrt rfl
    have hOk : TdOk T := hok rfl
    clear hrt hok hpl
    have ⟨u4, uD, u5, uS4, uN, uE, uL, uG⟩ := hT
    have hE0 : ∀ k, tD T ≤ k → tE T k = 0 := hOk.2.2.2.2.2.2
    have g1 := hK1.1
    unfold ModS at g1
    refine ⟨fun _ => ?_, fun h => absurd rfl h⟩
    simp only [g1, zd_sI, u4, zI_at, Nat.reduceEqDiff, ↓reduceIte, u5, true_and]
    have f10 : zI (sI (sI σ1 56 10 (nI (tD T))) 56 11 (nI (tS T))) 56 10 = nI (tD T) := by rw [zI_at, if_neg (by decide), zI_at, if_pos rfl]
    have f11 : zI (sI (sI σ1 56 10 (nI (tD T))) 56 11 (nI (tS T))) 56 11 = nI (tS T) := by rw [zI_at, if_pos rfl]
    have f13 : zI (sI (sI σ1 56 10 (nI (tD T))) 56 11 (nI (tS T))) 56 13 = zI σ1 56 13 := by rw [zI_at, if_neg (by decide), zI_at, if_neg (by decide)]
    have fo : ∀ i : Nat, i ≠ 56 → zI (sI (sI σ1 56 10 (nI (tD T))) 56 11 (nI (tS T))) i = zI σ1 i := fun i hi => by rw [zI_off _ _ _ hi, zI_off _ _ _ hi]
    have hS2 : ModS (sI (sI σ1 56 10 (nI (tD T))) 56 11 (nI (tS T))) := hK1.1.of rfl rfl
    have hz2 : ZF σ (sI (sI σ1 56 10 (nI (tD T))) 56 11 (nI (tS T))) 56 82 := hz1.trans (ZF.trans (zf_one (by decide) (by decide)) (zf_one (by decide) (by decide)))
    generalize sI (sI σ1 56 10 (nI (tD T))) 56 11 (nI (tS T)) = σ2 at f10 f11 f13 fo hS2 hz2
    have hV1 := hK1.2
    have k3 : ∀ c, c ≤ 4 → ∀ τ, TI σ2 τ (tD T) 12 24 c → WW C 106 [some (.ref 56), some (.int (nI c))] [] τ := by
      refine fun c hc => zloop (P := fun c => ∀ τ, TI σ2 τ (tD T) 12 24 c → WW C 106 [some (.ref 56), some (.int (nI c))] [] τ) 4 (fun c hc ih τ hI => ?_) (fun τ hI => ?_) c hc
      · have ⟨i1, i2, i3, i4, i5, i6, i7, i8⟩ := hI
        have g : ModS τ := hS2.of i1 i2
        unfold ModS at g
        refine r_X12_town_106 hC hR m_X12_readText (by decide) _ _ _ ?_
        simp only [T_X12_town_106, x_psh, x_ild, x_lld, x_ald, x_ist, x_ast, x_lst, x_inc, x_iadd, x_isub, x_imul, x_iand, x_ior, x_ixor, x_ishl, x_ishr, x_iushr, x_idiv, x_irem, x_ladd, x_land, x_lor, x_lshl, x_lshr, x_ineg, x_i2l, x_l2i, x_i2b, x_lcmp, x_dup, x_dup2, x_if_eq, x_if_ne, x_if_lt, x_if_ge, x_if_gt, x_if_le, x_ic_eq, x_ic_ne, x_ic_lt, x_ic_ge, x_ic_gt, x_ic_le, x_getI, x_getR, x_putI, x_putZ, x_putR, x_iald, x_bald, x_lald, x_iast, x_bast, x_last, x_alen, x_acp, x_mmax, x_mmin, x_callV, x_callS, x_iret, x_zret, x_lret, x_aret, x_vret, x_tsw, x_stop, zst1, zst2, zkill, zkl, zsplit, zmask, zent, zentL, List.getElem?_cons_zero, List.getElem?_cons_succ, List.set_cons_zero, List.set_cons_succ, List.set_nil, List.length_cons, List.length_nil, List.replicate, List.nil_append, List.cons_append, List.map_cons, List.map_nil, List.sum_cons, List.sum_nil, Value.category, Option.toList, List.contains_cons, List.contains_nil, true_or, or_true, true_and, Nat.zero_le, Nat.reduceAdd, Nat.reduceLeDiff, Nat.reduceLT, Nat.reduceBEq, Bool.true_or, Bool.or_true, Bool.false_or, Bool.or_false, ↓reduceIte, Bool.false_eq_true, Nat.add_zero, Nat.zero_add, Nat.reduceEqDiff, Nat.reduceSub, g, b2i_0, ne_eq, Nat.reduceEqDiff, not_false_eq_true, not_true_eq_false, true_and, and_true, true_implies, false_implies, implies_true, and_self]
        refine ⟨fun q => absurd q (by rw [z_l4]; exact nI_ge (by omega) (by omega)), fun _ => ?_⟩
        rw [nI_clamp (by omega), nI_i3]
        refine ⟨4, rfl, vp_in_nI (by omega) (by omega), 4, rfl, vp_in_nI (by omega) (by omega), ?_⟩
        refine ih _ ⟨i1, i2, i3, fun i hi => by rw [zI_off _ _ _ (by omega)]; exact i4 i hi, ?_, ?_, ?_, ?_⟩
        all_goals first
          | (rw [zI_off _ _ _ (by decide)]; assumption)
          | (rw [sI_row, i8, i4 60 (by decide)]; exact cpR_s0 (zI σ2 60) _ _)
      · have ⟨i1, i2, i3, i4, i5, i6, i7, i8⟩ := hI
        have g : ModS τ := hS2.of i1 i2
        unfold ModS at g
        have e10 : zI τ 56 10 = nI (tD T) := by rw [i4 56 (by decide)]; exact f10
        refine r_X12_town_106 hC hR m_X12_readText (by decide) _ _ _ ?_
        simp only [T_X12_town_106, x_psh, x_ild, x_lld, x_ald, x_ist, x_ast, x_lst, x_inc, x_iadd, x_isub, x_imul, x_iand, x_ior, x_ixor, x_ishl, x_ishr, x_iushr, x_idiv, x_irem, x_ladd, x_land, x_lor, x_lshl, x_lshr, x_ineg, x_i2l, x_l2i, x_i2b, x_lcmp, x_dup, x_dup2, x_if_eq, x_if_ne, x_if_lt, x_if_ge, x_if_gt, x_if_le, x_ic_eq, x_ic_ne, x_ic_lt, x_ic_ge, x_ic_gt, x_ic_le, x_getI, x_getR, x_putI, x_putZ, x_putR, x_iald, x_bald, x_lald, x_iast, x_bast, x_last, x_alen, x_acp, x_mmax, x_mmin, x_callV, x_callS, x_iret, x_zret, x_lret, x_aret, x_vret, x_tsw, x_stop, zst1, zst2, zkill, zkl, zsplit, zmask, zent, zentL, List.getElem?_cons_zero, List.getElem?_cons_succ, List.set_cons_zero, List.set_cons_succ, List.set_nil, List.length_cons, List.length_nil, List.replicate, List.nil_append, List.cons_append, List.map_cons, List.map_nil, List.sum_cons, List.sum_nil, Value.category, Option.toList, List.contains_cons, List.contains_nil, true_or, or_true, true_and, Nat.zero_le, Nat.reduceAdd, Nat.reduceLeDiff, Nat.reduceLT, Nat.reduceBEq, Bool.true_or, Bool.or_true, Bool.false_or, Bool.or_false, ↓reduceIte, Bool.false_eq_true, Nat.add_zero, Nat.zero_add, Nat.reduceEqDiff, Nat.reduceSub, g, zd_sI, zR_sI, zI_at, e10, b2i_0, ne_eq, Nat.reduceEqDiff, not_false_eq_true, not_true_eq_false, true_and, and_true, true_implies, false_implies, implies_true, and_self]
        refine ⟨fun _ => ?_, fun q => absurd (by rw [z_l4]; exact nI_le (by omega) (by omega)) q⟩
        have hz : ZF σ (sI (sI τ 56 16 0) 56 23 0) 56 82 := hz2.trans (ZF.trans ⟨i1, fun i hi => ⟨by rw [i2], i4 i (by omega), by rw [i3]⟩⟩ (ZF.trans (zf_one (by decide) (by decide)) (zf_one (by decide) (by decide))))
        have ho : ∀ i : Nat, i ≠ 56 → zI (sI (sI τ 56 16 0) 56 23 0) i = zI τ i := fun i hi => by rw [zI_off _ _ _ hi, zI_off _ _ _ hi]
        refine hQ _ hz ⟨(hS2.of i1 i2).of rfl rfl, ⟨?_, ?_, fun k hk => ?_, fun k hk => ?_, fun k hk => ?_, fun k i hk hi => ?_⟩, hV1.2.1.of ?_ ?_, ⟨?_, fun k hk => absurd hk (by show ¬ k < 0; omega)⟩, ⟨?_, fun k hk => absurd hk (by show ¬ k < 0; omega)⟩, hV1.2.2.2.2.1.of (fun i h1 h2 => ?_), hV1.2.2.2.2.2.of (fun i h1 h2 => ?_)⟩
        · rw [zI_at, if_neg (by decide), zI_at, if_neg (by decide)]; exact e10
        · rw [zI_at, if_neg (by decide), zI_at, if_neg (by decide), i4 56 (by decide)]; exact f11
        · have hk : k < tD T := hk
          rw [ho 61 (by decide), i5, cpR_in0 (by omega), fo 57 (by decide)]; exact uN k hk
        · rw [ho 62 (by decide), i6, cpR_in0 (by omega)]
          show (if k < tD T then zI σ2 58 k else 0) = nI (tE T k)
          by_cases e : k < tD T
          · rw [if_pos e, fo 58 (by decide)]; exact (uE k e).1
          · rw [if_neg e, hE0 k (by omega)]; rfl
        · have hk : k < tS T := hk
          rw [ho 64 (by decide), i8, cpR_in0 (by omega), fo 60 (by decide)]; exact (uL k hk).1
        · have hk : k < tS T := hk
          have hi : i < tL T k := hi
          have := (uL k hk).2
          rw [ho 63 (by decide), i7, cpR_in0 (by omega), fo 59 (by decide)]; exact uG k i hk hi
        · rw [zI_at, if_neg (by decide), zI_at, if_neg (by decide), i4 56 (by decide)]; exact f13
        · rw [ho 65 (by decide), i4 65 (by decide)]; exact fo 65 (by decide)
        · rw [zI_at, if_neg (by decide), zI_at, if_pos rfl]; rfl
        · rw [zI_at, if_pos rfl]; rfl
        · rw [ho i (by omega), i4 i (by omega)]; exact fo i (by omega)
        · rw [ho i (by omega), i4 i (by omega)]; exact fo i (by omega)
    have k2 : ∀ b, b ≤ 24 → ∀ τ, TI σ2 τ (tD T) 12 b 0 → WW C 80 [some (.ref 56), some (.int (nI b))] [] τ := by
      refine fun c hc => zloop (P := fun c => ∀ τ, TI σ2 τ (tD T) 12 c 0 → WW C 80 [some (.ref 56), some (.int (nI c))] [] τ) 24 (fun c hc ih τ hI => ?_) (fun τ hI => ?_) c hc
      · have ⟨i1, i2, i3, i4, i5, i6, i7, i8⟩ := hI
        have g : ModS τ := hS2.of i1 i2
        unfold ModS at g
        refine r_X12_town_80 hC hR m_X12_readText (by decide) _ _ _ ?_
        simp only [T_X12_town_80, x_psh, x_ild, x_lld, x_ald, x_ist, x_ast, x_lst, x_inc, x_iadd, x_isub, x_imul, x_iand, x_ior, x_ixor, x_ishl, x_ishr, x_iushr, x_idiv, x_irem, x_ladd, x_land, x_lor, x_lshl, x_lshr, x_ineg, x_i2l, x_l2i, x_i2b, x_lcmp, x_dup, x_dup2, x_if_eq, x_if_ne, x_if_lt, x_if_ge, x_if_gt, x_if_le, x_ic_eq, x_ic_ne, x_ic_lt, x_ic_ge, x_ic_gt, x_ic_le, x_getI, x_getR, x_putI, x_putZ, x_putR, x_iald, x_bald, x_lald, x_iast, x_bast, x_last, x_alen, x_acp, x_mmax, x_mmin, x_callV, x_callS, x_iret, x_zret, x_lret, x_aret, x_vret, x_tsw, x_stop, zst1, zst2, zkill, zkl, zsplit, zmask, zent, zentL, List.getElem?_cons_zero, List.getElem?_cons_succ, List.set_cons_zero, List.set_cons_succ, List.set_nil, List.length_cons, List.length_nil, List.replicate, List.nil_append, List.cons_append, List.map_cons, List.map_nil, List.sum_cons, List.sum_nil, Value.category, Option.toList, List.contains_cons, List.contains_nil, true_or, or_true, true_and, Nat.zero_le, Nat.reduceAdd, Nat.reduceLeDiff, Nat.reduceLT, Nat.reduceBEq, Bool.true_or, Bool.or_true, Bool.false_or, Bool.or_false, ↓reduceIte, Bool.false_eq_true, Nat.add_zero, Nat.zero_add, Nat.reduceEqDiff, Nat.reduceSub, g, b2i_0, ne_eq, Nat.reduceEqDiff, not_false_eq_true, not_true_eq_false, true_and, and_true, true_implies, false_implies, implies_true, and_self]
        refine ⟨fun q => absurd q (by rw [z_l24]; exact nI_ge (by omega) (by omega)), fun _ => ?_⟩
        rw [nI_clamp (by omega), nI_i3]
        refine ⟨24, rfl, vp_in_nI (by omega) (by omega), 24, rfl, vp_in_nI (by omega) (by omega), ?_⟩
        refine ih _ ⟨i1, i2, i3, fun i hi => by rw [zI_off _ _ _ (by omega)]; exact i4 i hi, ?_, ?_, ?_, ?_⟩
        all_goals first
          | (rw [zI_off _ _ _ (by decide)]; assumption)
          | (rw [sI_row, i7, i4 59 (by decide)]; exact cpR_s0 (zI σ2 59) _ _)
      · refine r_X12_town_80 hC hR m_X12_readText (by decide) _ _ _ ?_
        simp only [T_X12_town_80, x_psh, x_ild, x_lld, x_ald, x_ist, x_ast, x_lst, x_inc, x_iadd, x_isub, x_imul, x_iand, x_ior, x_ixor, x_ishl, x_ishr, x_iushr, x_idiv, x_irem, x_ladd, x_land, x_lor, x_lshl, x_lshr, x_ineg, x_i2l, x_l2i, x_i2b, x_lcmp, x_dup, x_dup2, x_if_eq, x_if_ne, x_if_lt, x_if_ge, x_if_gt, x_if_le, x_ic_eq, x_ic_ne, x_ic_lt, x_ic_ge, x_ic_gt, x_ic_le, x_getI, x_getR, x_putI, x_putZ, x_putR, x_iald, x_bald, x_lald, x_iast, x_bast, x_last, x_alen, x_acp, x_mmax, x_mmin, x_callV, x_callS, x_iret, x_zret, x_lret, x_aret, x_vret, x_tsw, x_stop, zst1, zst2, zkill, zkl, zsplit, zmask, zent, zentL, List.getElem?_cons_zero, List.getElem?_cons_succ, List.set_cons_zero, List.set_cons_succ, List.set_nil, List.length_cons, List.length_nil, List.replicate, List.nil_append, List.cons_append, List.map_cons, List.map_nil, List.sum_cons, List.sum_nil, Value.category, Option.toList, List.contains_cons, List.contains_nil, true_or, or_true, true_and, Nat.zero_le, Nat.reduceAdd, Nat.reduceLeDiff, Nat.reduceLT, Nat.reduceBEq, Bool.true_or, Bool.or_true, Bool.false_or, Bool.or_false, ↓reduceIte, Bool.false_eq_true, Nat.add_zero, Nat.zero_add, Nat.reduceEqDiff, Nat.reduceSub, b2i_0, ne_eq, Nat.reduceEqDiff, not_false_eq_true, not_true_eq_false, true_and, and_true, true_implies, false_implies, implies_true, and_self]
        refine ⟨fun _ => ?_, fun q => absurd (by rw [z_l24]; exact nI_le (by omega) (by omega)) q⟩
        exact k3 0 (by omega) τ hI
    have k1 : ∀ a, a ≤ 12 → ∀ τ, TI σ2 τ (tD T) a 0 0 → WW C 30 [some (.ref 56), some (.int (nI a))] [] τ := by
      refine fun c hc => zloop (P := fun c => ∀ τ, TI σ2 τ (tD T) c 0 0 → WW C 30 [some (.ref 56), some (.int (nI c))] [] τ) 12 (fun c hc ih τ hI => ?_) (fun τ hI => ?_) c hc
      · have ⟨i1, i2, i3, i4, i5, i6, i7, i8⟩ := hI
        have g : ModS τ := hS2.of i1 i2
        unfold ModS at g
        have e10 : zI τ 56 10 = nI (tD T) := by rw [i4 56 (by decide)]; exact f10
        refine r_X12_town_30 hC hR m_X12_readText (by decide) _ _ _ ?_
        simp only [T_X12_town_30, x_psh, x_ild, x_lld, x_ald, x_ist, x_ast, x_lst, x_inc, x_iadd, x_isub, x_imul, x_iand, x_ior, x_ixor, x_ishl, x_ishr, x_iushr, x_idiv, x_irem, x_ladd, x_land, x_lor, x_lshl, x_lshr, x_ineg, x_i2l, x_l2i, x_i2b, x_lcmp, x_dup, x_dup2, x_if_eq, x_if_ne, x_if_lt, x_if_ge, x_if_gt, x_if_le, x_ic_eq, x_ic_ne, x_ic_lt, x_ic_ge, x_ic_gt, x_ic_le, x_getI, x_getR, x_putI, x_putZ, x_putR, x_iald, x_bald, x_lald, x_iast, x_bast, x_last, x_alen, x_acp, x_mmax, x_mmin, x_callV, x_callS, x_iret, x_zret, x_lret, x_aret, x_vret, x_tsw, x_stop, zst1, zst2, zkill, zkl, zsplit, zmask, zent, zentL, List.getElem?_cons_zero, List.getElem?_cons_succ, List.set_cons_zero, List.set_cons_succ, List.set_nil, List.length_cons, List.length_nil, List.replicate, List.nil_append, List.cons_append, List.map_cons, List.map_nil, List.sum_cons, List.sum_nil, Value.category, Option.toList, List.contains_cons, List.contains_nil, true_or, or_true, true_and, Nat.zero_le, Nat.reduceAdd, Nat.reduceLeDiff, Nat.reduceLT, Nat.reduceBEq, Bool.true_or, Bool.or_true, Bool.false_or, Bool.or_false, ↓reduceIte, Bool.false_eq_true, Nat.add_zero, Nat.zero_add, Nat.reduceEqDiff, Nat.reduceSub, g, zd_sI, zR_sI, b2i_0, ne_eq, Nat.reduceEqDiff, not_false_eq_true, not_true_eq_false, true_and, and_true, true_implies, false_implies, implies_true, and_self]
        refine ⟨fun q => absurd q (by rw [z_l12]; exact nI_ge (by omega) (by omega)), fun _ => ?_⟩
        have ic : vp_in (nI c) 12 := vp_in_nI (by omega) (by omega)
        rw [nI_clamp (by omega), nI_i3, zI_off _ _ _ (show (56 : Nat) ≠ 61 by decide), e10, nI_leI (by omega) (by omega)]
        have hrow : ∀ v, v = (if c < tD T then zI σ2 58 c else 0) → WW C 30 [some (.ref 56), some (.int (nI (c + 1)))] [] (sI (sI τ 61 c (zI τ 57 c)) 62 c v) := by
          intro v hv
          refine ih _ ⟨i1, i2, i3, fun i hi => by rw [zI_off _ _ _ (by omega), zI_off _ _ _ (by omega)]; exact i4 i hi, ?_, ?_, ?_, ?_⟩
          · rw [zI_off _ _ _ (by decide), sI_row, i5, i4 57 (by decide)]; exact cpR_s0 (zI σ2 57) _ _
          · rw [sI_row, zI_off _ _ _ (by decide), i6, hv]; exact cpR_s0 (fun k => if k < tD T then zI σ2 58 k else 0) _ _
          · rw [zI_off _ _ _ (by decide), zI_off _ _ _ (by decide)]; exact i7
          · rw [zI_off _ _ _ (by decide), zI_off _ _ _ (by decide)]; exact i8
        refine ⟨12, rfl, ic, 12, rfl, ic, fun q => ⟨12, rfl, ic, hrow _ (by rw [if_neg (by omega)])⟩, fun q => ⟨12, rfl, ic, 12, rfl, ic, hrow _ ?_⟩⟩
        rw [if_pos (by omega), zI_off _ _ _ (by decide), i4 58 (by decide)]
      · refine r_X12_town_30 hC hR m_X12_readText (by decide) _ _ _ ?_
        simp only [T_X12_town_30, x_psh, x_ild, x_lld, x_ald, x_ist, x_ast, x_lst, x_inc, x_iadd, x_isub, x_imul, x_iand, x_ior, x_ixor, x_ishl, x_ishr, x_iushr, x_idiv, x_irem, x_ladd, x_land, x_lor, x_lshl, x_lshr, x_ineg, x_i2l, x_l2i, x_i2b, x_lcmp, x_dup, x_dup2, x_if_eq, x_if_ne, x_if_lt, x_if_ge, x_if_gt, x_if_le, x_ic_eq, x_ic_ne, x_ic_lt, x_ic_ge, x_ic_gt, x_ic_le, x_getI, x_getR, x_putI, x_putZ, x_putR, x_iald, x_bald, x_lald, x_iast, x_bast, x_last, x_alen, x_acp, x_mmax, x_mmin, x_callV, x_callS, x_iret, x_zret, x_lret, x_aret, x_vret, x_tsw, x_stop, zst1, zst2, zkill, zkl, zsplit, zmask, zent, zentL, List.getElem?_cons_zero, List.getElem?_cons_succ, List.set_cons_zero, List.set_cons_succ, List.set_nil, List.length_cons, List.length_nil, List.replicate, List.nil_append, List.cons_append, List.map_cons, List.map_nil, List.sum_cons, List.sum_nil, Value.category, Option.toList, List.contains_cons, List.contains_nil, true_or, or_true, true_and, Nat.zero_le, Nat.reduceAdd, Nat.reduceLeDiff, Nat.reduceLT, Nat.reduceBEq, Bool.true_or, Bool.or_true, Bool.false_or, Bool.or_false, ↓reduceIte, Bool.false_eq_true, Nat.add_zero, Nat.zero_add, Nat.reduceEqDiff, Nat.reduceSub, b2i_0, ne_eq, Nat.reduceEqDiff, not_false_eq_true, not_true_eq_false, true_and, and_true, true_implies, false_implies, implies_true, and_self]
        refine ⟨fun _ => ?_, fun q => absurd (by rw [z_l12]; exact nI_le (by omega) (by omega)) q⟩
        exact k2 0 (by omega) τ hI
    refine k1 0 (by omega) σ2 ⟨rfl, rfl, rfl, fun _ _ => rfl, ?_, ?_, ?_, ?_⟩
    all_goals rw [cpR_0]
