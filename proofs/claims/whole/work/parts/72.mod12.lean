theorem pSn_ge {n : Nat} {bt : Nat → Nat} : ∀ f pl T, pl ≤ (pSn n bt f pl T).1 ∧ tD (pSn n bt f pl T).2 = tD T
  | 0, pl, T => ⟨Nat.le_refl _, rfl⟩
  | f + 1, pl, T => by
    rw [pSn]
    split
    · exact ⟨Nat.le_refl _, rfl⟩
    next a _ =>
      have := pSn_ge (n := n) (bt := bt) f (pl + 1) (addSn T a)
      exact ⟨by omega, this.2⟩
theorem pSn_gt {n : Nat} {bt : Nat → Nat} {pl : Nat} {T : TD} {a : Nat} (h : sgO n bt pl = some a) : pl < (pSn n bt 6 pl T).1 := by
  rw [pSn, h]
  have := (pSn_ge (n := n) (bt := bt) 5 (pl + 1) (addSn T a)).1
  show pl < (pSn n bt 5 (pl + 1) (addSn T a)).1
  omega
theorem pOn_gt {n : Nat} {bt : Nat → Nat} {pl : Nat} {T : TD} : ((pOn n bt pl T).1 = true → pl < (pOn n bt pl T).2.1) ∧ tD (pOn n bt pl T).2.2 = tD T := by
  unfold pOn
  split
  · unfold pSt
    split
    · exact ⟨fun h => by simp at h, rfl⟩
    · split
      · exact ⟨fun h => by simp at h, rfl⟩
      · split
        · exact ⟨fun h => by simp at h, rfl⟩
        · split
          · exact ⟨fun h => by simp at h, rfl⟩
          · split
            · exact ⟨fun h => by simp at h, rfl⟩
            · split
              · exact ⟨fun h => by simp at h, rfl⟩
              · exact ⟨fun _ => by show pl < pl + 3; omega, rfl⟩
  · unfold pSo
    split
    · exact ⟨fun h => by simp at h, rfl⟩
    · split
      · exact ⟨fun h => by simp at h, rfl⟩
      next a ha =>
        refine ⟨fun _ => ?_, (pSn_ge 6 (pl + 1) (addSg T)).2⟩
        have := pSn_gt (T := addSg T) ha
        show pl < (pSn n bt 6 (pl + 1) (addSg T)).1
        omega
def w_X12_readText : WPt := fun args σ Q => match args with
  | [.ref x] => x = 56 ∧ ∃ n bt, ModS σ ∧ RowV n bt (zI σ 56 13) (zI σ 65) ∧ n ≤ 96 ∧ (∀ k, k < n → bt k < 256) ∧ ∀ σ', RQ σ σ' → ((pRd n bt).1 = none → RTV σ' (pRd n bt).2) → Q (some (.int (i2 (pRd n bt).1))) σ'
  | _ => False
set_option maxHeartbeats 4000000 in
theorem m_X12_readText : Meets yX12_readText cX12_readText 1 (some .int) 4 w_X12_readText := by
  refine Meets.mk (by decide) fun args σ Φ h => ?_
  unfold w_X12_readText at h
  split at h
  rotate_left
  · exact h.elim
  rename_i x
  obtain ⟨x, rfl⟩ : ∃ q : Nat, q = x := ⟨x, rfl⟩
  obtain ⟨hx, n, bt, hm, hr, hn, hb, hQ⟩ := h
  subst hx
  refine ⟨Nat.le_of_ble_eq_true rfl, fun C hC hR => ?_⟩
  have hQ2 : ∀ o T, pRd n bt = (o, T) → ∀ σ', RQ σ σ' → (o = none → RTV σ' T) → Φ (some (.int (i2 o))) σ' := fun o T e σ' h1 h2 => by
    rw [e] at hQ
    exact hQ σ' h1 h2
  have g := hm
  unfold ModS at g
  have hbl : ∀ p b, bhO n bt p = some b → b < 256 := fun p b h => (hre_lt (fo := none) (pl := p) hb b h).1
  have kf : ∀ p T, pRd n bt = (some p, T) → ∀ τ, RQ σ τ → zI τ 56 15 = i2 (some p) → p ≤ 96 → WW C 123 [some (.ref 56)] [] τ := by
    intro p T e τ hq h15 hp
    have g2 : ModS τ := hm.of hq.1 hq.2.1
    unfold ModS at g2
    refine r_X12_readText_123 hC hR m_X12_here (by decide) m_X12_in (by decide) m_X12_fail (by decide) m_X12_readPart (by decide) _ _ _ ?_
    simp only [T_X12_readText_123, x_psh, x_ild, x_lld, x_ald, x_ist, x_ast, x_lst, x_inc, x_iadd, x_isub, x_imul, x_iand, x_ior, x_ixor, x_ishl, x_ishr, x_iushr, x_idiv, x_irem, x_ladd, x_land, x_lor, x_lshl, x_lshr, x_ineg, x_i2l, x_l2i, x_i2b, x_lcmp, x_dup, x_dup2, x_if_eq, x_if_ne, x_if_lt, x_if_ge, x_if_gt, x_if_le, x_ic_eq, x_ic_ne, x_ic_lt, x_ic_ge, x_ic_gt, x_ic_le, x_getI, x_getR, x_putI, x_putZ, x_putR, x_iald, x_bald, x_lald, x_iast, x_bast, x_last, x_alen, x_acp, x_mmax, x_mmin, x_callV, x_callS, x_iret, x_zret, x_lret, x_aret, x_vret, x_tsw, x_stop, zst1, zst2, zkill, zkl, zsplit, zmask, zent, zentL, List.getElem?_cons_zero, List.getElem?_cons_succ, List.set_cons_zero, List.set_cons_succ, List.set_nil, List.length_cons, List.length_nil, List.replicate, List.nil_append, List.cons_append, List.map_cons, List.map_nil, List.sum_cons, List.sum_nil, Value.category, Option.toList, List.contains_cons, List.contains_nil, true_or, or_true, true_and, Nat.zero_le, Nat.reduceAdd, Nat.reduceLeDiff, Nat.reduceLT, Nat.reduceBEq, Bool.true_or, Bool.or_true, Bool.false_or, Bool.or_false, ↓reduceIte, Bool.false_eq_true, Nat.add_zero, Nat.zero_add, Nat.reduceEqDiff, Nat.reduceSub, g2, h15, b2i_0, ne_eq, Nat.reduceEqDiff, not_false_eq_true, not_true_eq_false, true_and, and_true, true_implies, false_implies, implies_true, and_self]
    have hne : ¬ i2 (some p) = -9 := z_m9 (by omega)
    exact ⟨fun _ => hQ2 _ _ e τ hq (fun h => by cases h), fun h => absurd h hne⟩
  have k123 : ∀ f τ T' pl', n - pl' ≤ f → 1 ≤ tD T' → RQ σ τ → RC τ n bt pl' none → RTV τ T' → pPa n bt f pl' T' = pRd n bt → WW C 123 [some (.ref 56)] [] τ := by
    intro f
    induction f with
    | zero =>
      intro τ T' pl' hf hD1 hq hrc hrt he
      have g2 := hrc.1
      unfold ModS at g2
      have h14 := hrc.2.2.2.2.1
      have h15 := hrc.2.2.2.2.2.2.1
      have h13 := hrc.2.1.1
      have hpn := hrc.2.2.2.2.2.1
      refine r_X12_readText_123 hC hR m_X12_here (by decide) m_X12_in (by decide) m_X12_fail (by decide) m_X12_readPart (by decide) _ _ _ ?_
      simp only [T_X12_readText_123, x_psh, x_ild, x_lld, x_ald, x_ist, x_ast, x_lst, x_inc, x_iadd, x_isub, x_imul, x_iand, x_ior, x_ixor, x_ishl, x_ishr, x_iushr, x_idiv, x_irem, x_ladd, x_land, x_lor, x_lshl, x_lshr, x_ineg, x_i2l, x_l2i, x_i2b, x_lcmp, x_dup, x_dup2, x_if_eq, x_if_ne, x_if_lt, x_if_ge, x_if_gt, x_if_le, x_ic_eq, x_ic_ne, x_ic_lt, x_ic_ge, x_ic_gt, x_ic_le, x_getI, x_getR, x_putI, x_putZ, x_putR, x_iald, x_bald, x_lald, x_iast, x_bast, x_last, x_alen, x_acp, x_mmax, x_mmin, x_callV, x_callS, x_iret, x_zret, x_lret, x_aret, x_vret, x_tsw, x_stop, zst1, zst2, zkill, zkl, zsplit, zmask, zent, zentL, List.getElem?_cons_zero, List.getElem?_cons_succ, List.set_cons_zero, List.set_cons_succ, List.set_nil, List.length_cons, List.length_nil, List.replicate, List.nil_append, List.cons_append, List.map_cons, List.map_nil, List.sum_cons, List.sum_nil, Value.category, Option.toList, List.contains_cons, List.contains_nil, true_or, or_true, true_and, Nat.zero_le, Nat.reduceAdd, Nat.reduceLeDiff, Nat.reduceLT, Nat.reduceBEq, Bool.true_or, Bool.or_true, Bool.false_or, Bool.or_false, ↓reduceIte, Bool.false_eq_true, Nat.add_zero, Nat.zero_add, Nat.reduceEqDiff, Nat.reduceSub, g2, h14, h15, h13, b2i_0, ne_eq, Nat.reduceEqDiff, not_false_eq_true, not_true_eq_false, true_and, and_true, true_implies, false_implies, implies_true, and_self]
      rw [nI_leI (by omega) (by omega)]
      exact ⟨fun h => absurd rfl h, fun _ => ⟨fun _ => hQ2 none T' he.symm τ hq (fun _ => hrt), fun q => absurd (by omega) q⟩⟩
    | succ f ih =>
      intro τ T' pl' hf hD1 hq hrc hrt he
      have g2 := hrc.1
      unfold ModS at g2
      have h14 := hrc.2.2.2.2.1
      have h15 := hrc.2.2.2.2.2.2.1
      have h13 := hrc.2.1.1
      have hpn := hrc.2.2.2.2.2.1
      rw [pPa] at he
      refine r_X12_readText_123 hC hR m_X12_here (by decide) m_X12_in (by decide) m_X12_fail (by decide) m_X12_readPart (by decide) _ _ _ ?_
      simp only [T_X12_readText_123, x_psh, x_ild, x_lld, x_ald, x_ist, x_ast, x_lst, x_inc, x_iadd, x_isub, x_imul, x_iand, x_ior, x_ixor, x_ishl, x_ishr, x_iushr, x_idiv, x_irem, x_ladd, x_land, x_lor, x_lshl, x_lshr, x_ineg, x_i2l, x_l2i, x_i2b, x_lcmp, x_dup, x_dup2, x_if_eq, x_if_ne, x_if_lt, x_if_ge, x_if_gt, x_if_le, x_ic_eq, x_ic_ne, x_ic_lt, x_ic_ge, x_ic_gt, x_ic_le, x_getI, x_getR, x_putI, x_putZ, x_putR, x_iald, x_bald, x_lald, x_iast, x_bast, x_last, x_alen, x_acp, x_mmax, x_mmin, x_callV, x_callS, x_iret, x_zret, x_lret, x_aret, x_vret, x_tsw, x_stop, zst1, zst2, zkill, zkl, zsplit, zmask, zent, zentL, List.getElem?_cons_zero, List.getElem?_cons_succ, List.set_cons_zero, List.set_cons_succ, List.set_nil, List.length_cons, List.length_nil, List.replicate, List.nil_append, List.cons_append, List.map_cons, List.map_nil, List.sum_cons, List.sum_nil, Value.category, Option.toList, List.contains_cons, List.contains_nil, true_or, or_true, true_and, Nat.zero_le, Nat.reduceAdd, Nat.reduceLeDiff, Nat.reduceLT, Nat.reduceBEq, Bool.true_or, Bool.or_true, Bool.false_or, Bool.or_false, ↓reduceIte, Bool.false_eq_true, Nat.add_zero, Nat.zero_add, Nat.reduceEqDiff, Nat.reduceSub, g2, h14, h15, h13, w_X12_readPart, RPW, b2i_0, ne_eq, Nat.reduceEqDiff, not_false_eq_true, not_true_eq_false, true_and, and_true, true_implies, false_implies, implies_true, and_self]
      rw [nI_leI (by omega) (by omega)]
      refine ⟨fun h => absurd rfl h, fun _ => ⟨fun q => ?_, fun q => ⟨n, bt, pl', T', hrc, hrt, by omega, hD1, fun σ' hq' h1 h0 => ?_⟩⟩⟩
      · rw [if_pos q] at he
        exact hQ2 none T' he.symm τ hq (fun _ => hrt)
      · rw [if_neg q] at he
        have hgt := pOn_gt (n := n) (bt := bt) (pl := pl') (T := T')
        by_cases hp : (pOn n bt pl' T').1 = true
        · rw [if_pos hp] at he
          have hx := hgt.1 hp
          exact ih σ' _ _ (by omega) (by rw [hgt.2]; exact hD1) (hq.trans hq') (h1 hp).1 (h1 hp).2 he
        · rw [if_neg hp] at he
          have hp : (pOn n bt pl' T').1 = false := by simpa using hp
          have hle := pOn_pl (n := n) (bt := bt) (pl := pl') (T := T') (by omega)
          refine kf _ _ he.symm σ' (hq.trans hq') ?_ (by omega)
          rcases h0 hp with h | h
          · exact h.2.2.2.2.2.2.1
          · exact h
  refine r_X12_readText_0 hC hR m_X12_here (by decide) m_X12_in (by decide) m_X12_fail (by decide) m_X12_readPart (by decide) _ _ _ ?_
  simp only [T_X12_readText_0, x_psh, x_ild, x_lld, x_ald, x_ist, x_ast, x_lst, x_inc, x_iadd, x_isub, x_imul, x_iand, x_ior, x_ixor, x_ishl, x_ishr, x_iushr, x_idiv, x_irem, x_ladd, x_land, x_lor, x_lshl, x_lshr, x_ineg, x_i2l, x_l2i, x_i2b, x_lcmp, x_dup, x_dup2, x_if_eq, x_if_ne, x_if_lt, x_if_ge, x_if_gt, x_if_le, x_ic_eq, x_ic_ne, x_ic_lt, x_ic_ge, x_ic_gt, x_ic_le, x_getI, x_getR, x_putI, x_putZ, x_putR, x_iald, x_bald, x_lald, x_iast, x_bast, x_last, x_alen, x_acp, x_mmax, x_mmin, x_callV, x_callS, x_iret, x_zret, x_lret, x_aret, x_vret, x_tsw, x_stop, zst1, zst2, zkill, zkl, zsplit, zmask, zent, zentL, List.getElem?_cons_zero, List.getElem?_cons_succ, List.set_cons_zero, List.set_cons_succ, List.set_nil, List.length_cons, List.length_nil, List.replicate, List.nil_append, List.cons_append, List.map_cons, List.map_nil, List.sum_cons, List.sum_nil, Value.category, Option.toList, List.contains_cons, List.contains_nil, true_or, or_true, true_and, Nat.zero_le, Nat.reduceAdd, Nat.reduceLeDiff, Nat.reduceLT, Nat.reduceBEq, Bool.true_or, Bool.or_true, Bool.false_or, Bool.or_false, ↓reduceIte, Bool.false_eq_true, Nat.add_zero, Nat.zero_add, Nat.reduceEqDiff, Nat.reduceSub, g, w_X12_here, zd_sI, zR_sI, b2i_0, ne_eq, Nat.reduceEqDiff, not_false_eq_true, not_true_eq_false, true_and, and_true, true_implies, false_implies, implies_true, and_self]
  have hRC0 : RC (sI (sI (sI (sI σ 56 14 0) 56 15 (-9)) 56 4 0) 56 5 0) n bt 0 none := by
    refine ⟨hm.of rfl rfl, hr.of ?_ ?_, hn, hb, ?_, by omega, ?_, fun p e => by cases e⟩
    · rw [zI_at, if_neg (by decide), zI_at, if_neg (by decide), zI_at, if_neg (by decide), zI_at, if_neg (by decide)]
    · rw [zI_off _ _ _ (by decide), zI_off _ _ _ (by decide), zI_off _ _ _ (by decide), zI_off _ _ _ (by decide)]
    · rw [zI_at, if_neg (by decide), zI_at, if_neg (by decide), zI_at, if_neg (by decide), zI_at, if_pos rfl]; rfl
    · rw [zI_at, if_neg (by decide), zI_at, if_neg (by decide), zI_at, if_pos rfl]; rfl
  have hT0 : RTV (sI (sI (sI (sI σ 56 14 0) 56 15 (-9)) 56 4 0) 56 5 0) td0 := by
    refine ⟨?_, by decide, ?_, by decide, fun k hk => absurd hk (by simp [td0, tD]), fun k hk => absurd hk (by simp [td0, tD]), fun k hk => absurd hk (by simp [td0, tS]), fun k i hk => absurd hk (by simp [td0, tS])⟩
    · rw [zI_at, if_neg (by decide), zI_at, if_pos rfl]; rfl
    · rw [zI_at, if_pos rfl]; rfl
  have hq0 : RQ σ (sI (sI (sI (sI σ 56 14 0) 56 15 (-9)) 56 4 0) 56 5 0) := (((rq_56 (by omega)).trans (rq_56 (by omega))).trans (rq_56 (by omega))).trans (rq_56 (by omega))
  generalize sI (sI (sI (sI σ 56 14 0) 56 15 (-9)) 56 4 0) 56 5 0 = σ0 at hRC0 hT0 hq0
  refine ⟨n, bt, 0, none, hRC0, ?_⟩
  show (hI (bhO n bt 0) = 68 → _) ∧ (¬ hI (bhO n bt 0) = 68 → _)
  rw [z_l68, hI_eq (hbl 0) (by omega)]
  refine ⟨fun q => ?_, fun q => ?_⟩
  rotate_left
  · refine hQ2 (some 0) td0 ?_ σ0 hq0 (fun h => by cases h)
    unfold pRd
    rw [if_neg q]
  have hn0 : 0 < n := (hre_lt (fo := none) (pl := 0) hb 68 q).2
  have epr : ∀ pl' T', pDo n bt 12 1 td0 = (pl', T') → (tD T' = 0 → pRd n bt = (some pl', T')) ∧ (¬ tD T' = 0 → pRd n bt = pPa n bt 96 pl' T') := by
    intro pl' T' e
    unfold pRd
    rw [if_pos q, e]
    exact ⟨fun h => if_pos h, fun h => if_neg h⟩
  have hRC1 := hRC0.next hn0
  have hT1 : RTV (sI σ0 56 14 (nI (0 + 1))) td0 := hT0.f (by omega)
  have hq1 : RQ σ (sI σ0 56 14 (nI (0 + 1))) := hq0.trans (rq_56 (by omega))
  have key : ∀ f τ T' pl', tD T' + f = 12 → RQ σ τ → RC τ n bt pl' none → RTV τ T' → pDo n bt f pl' T' = pDo n bt 12 1 td0 → WW C 37 [some (.ref 56)] [] τ := by
    intro f
    induction f with
    | zero =>
      intro τ T' pl' hf hq hrc hrt he
      have g2 := hrc.1
      unfold ModS at g2
      have h4 := hrt.1
      refine r_X12_readText_37 hC hR m_X12_here (by decide) m_X12_in (by decide) m_X12_fail (by decide) m_X12_readPart (by decide) _ _ _ ?_
      simp only [T_X12_readText_37, x_psh, x_ild, x_lld, x_ald, x_ist, x_ast, x_lst, x_inc, x_iadd, x_isub, x_imul, x_iand, x_ior, x_ixor, x_ishl, x_ishr, x_iushr, x_idiv, x_irem, x_ladd, x_land, x_lor, x_lshl, x_lshr, x_ineg, x_i2l, x_l2i, x_i2b, x_lcmp, x_dup, x_dup2, x_if_eq, x_if_ne, x_if_lt, x_if_ge, x_if_gt, x_if_le, x_ic_eq, x_ic_ne, x_ic_lt, x_ic_ge, x_ic_gt, x_ic_le, x_getI, x_getR, x_putI, x_putZ, x_putR, x_iald, x_bald, x_lald, x_iast, x_bast, x_last, x_alen, x_acp, x_mmax, x_mmin, x_callV, x_callS, x_iret, x_zret, x_lret, x_aret, x_vret, x_tsw, x_stop, zst1, zst2, zkill, zkl, zsplit, zmask, zent, zentL, List.getElem?_cons_zero, List.getElem?_cons_succ, List.set_cons_zero, List.set_cons_succ, List.set_nil, List.length_cons, List.length_nil, List.replicate, List.nil_append, List.cons_append, List.map_cons, List.map_nil, List.sum_cons, List.sum_nil, Value.category, Option.toList, List.contains_cons, List.contains_nil, true_or, or_true, true_and, Nat.zero_le, Nat.reduceAdd, Nat.reduceLeDiff, Nat.reduceLT, Nat.reduceBEq, Bool.true_or, Bool.or_true, Bool.false_or, Bool.or_false, ↓reduceIte, Bool.false_eq_true, Nat.add_zero, Nat.zero_add, Nat.reduceEqDiff, Nat.reduceSub, g2, h4, b2i_0, ne_eq, Nat.reduceEqDiff, not_false_eq_true, not_true_eq_false, true_and, and_true, true_implies, false_implies, implies_true, and_self]
      have e0 : (nI (tD T') = 0) = (tD T' = 0) := propext (nI_eq (a := tD T') (b := 0) (by omega) (by omega))
      simp only [e0]
      refine ⟨fun _ => ⟨fun q => ?_, fun q => absurd q (by omega)⟩, fun q => absurd (by rw [z_l12]; exact nI_le (by omega) (by omega)) q⟩
      exact k123 96 τ T' pl' (by omega) (by omega) hq hrc hrt ((epr pl' T' (by rw [← he]; rfl)).2 q).symm
    | succ f ih =>
      intro τ T' pl' hf hq hrc hrt he
      have g2 := hrc.1
      unfold ModS at g2
      have ⟨h4, uD, u5, uS4, uN, uE, uL, uG⟩ := hrt
      have h14 := hrc.2.2.2.2.1
      have hpn := hrc.2.2.2.2.2.1
      have e0 : (nI (tD T') = 0) = (tD T' = 0) := propext (nI_eq (a := tD T') (b := 0) (by omega) (by omega))
      refine r_X12_readText_37 hC hR m_X12_here (by decide) m_X12_in (by decide) m_X12_fail (by decide) m_X12_readPart (by decide) _ _ _ ?_
      simp only [T_X12_readText_37, x_psh, x_ild, x_lld, x_ald, x_ist, x_ast, x_lst, x_inc, x_iadd, x_isub, x_imul, x_iand, x_ior, x_ixor, x_ishl, x_ishr, x_iushr, x_idiv, x_irem, x_ladd, x_land, x_lor, x_lshl, x_lshr, x_ineg, x_i2l, x_l2i, x_i2b, x_lcmp, x_dup, x_dup2, x_if_eq, x_if_ne, x_if_lt, x_if_ge, x_if_gt, x_if_le, x_ic_eq, x_ic_ne, x_ic_lt, x_ic_ge, x_ic_gt, x_ic_le, x_getI, x_getR, x_putI, x_putZ, x_putR, x_iald, x_bald, x_lald, x_iast, x_bast, x_last, x_alen, x_acp, x_mmax, x_mmin, x_callV, x_callS, x_iret, x_zret, x_lret, x_aret, x_vret, x_tsw, x_stop, zst1, zst2, zkill, zkl, zsplit, zmask, zent, zentL, List.getElem?_cons_zero, List.getElem?_cons_succ, List.set_cons_zero, List.set_cons_succ, List.set_nil, List.length_cons, List.length_nil, List.replicate, List.nil_append, List.cons_append, List.map_cons, List.map_nil, List.sum_cons, List.sum_nil, Value.category, Option.toList, List.contains_cons, List.contains_nil, true_or, or_true, true_and, Nat.zero_le, Nat.reduceAdd, Nat.reduceLeDiff, Nat.reduceLT, Nat.reduceBEq, Bool.true_or, Bool.or_true, Bool.false_or, Bool.or_false, ↓reduceIte, Bool.false_eq_true, Nat.add_zero, Nat.zero_add, Nat.reduceEqDiff, Nat.reduceSub, g2, h4, w_X12_here, w_X12_in, w_X12_fail, zd_sI, zR_sI, h14, b2i_0, ne_eq, Nat.reduceEqDiff, not_false_eq_true, not_true_eq_false, true_and, and_true, true_implies, false_implies, implies_true, and_self]
      refine ⟨fun q => absurd q (by rw [z_l12]; exact nI_ge (by omega) (by omega)), fun _ => ⟨n, bt, pl', none, hrc, ?_⟩⟩
      simp only [l_97, l_103, hre, in_h (hbl pl') (show 97 < 2 ^ 31 by decide) (show 103 < 2 ^ 31 by decide), e0]
      rw [pDo] at he
      refine ⟨fun q => ?_, fun q => ?_⟩
      · have hlt : ltO n bt pl' = none := by
          unfold ltO
          cases hbb : bhO n bt pl' with
          | none => rfl
          | some b =>
            simp only
            rw [if_neg (fun h => q ⟨b, hbb, h.1, by omega⟩)]
        rw [hlt] at he
        have ep := epr pl' T' he.symm
        refine ⟨fun q2 => k123 96 τ T' pl' (by omega) (by omega) hq hrc hrt (ep.2 q2).symm, fun q2 => ⟨n, bt, pl', none, hrc, ?_⟩⟩
        exact kf pl' T' (ep.1 q2) _ (hq.trans (rq_56 (by omega))) (by rw [zI_at, if_pos rfl]; rfl) (by omega)
      · obtain ⟨b, hbb, hb1, hb2⟩ := Decidable.not_not.mp q
        have hlt : ltO n bt pl' = some (b - 97) := by
          unfold ltO
          rw [hbb]
          simp only
          rw [if_pos (by omega)]
        have hpl := (ltO_lt hlt).2
        rw [hlt] at he
        refine ⟨n, bt, pl', none, hrc, ?_⟩
        have iD : vp_in (nI (tD T')) 12 := vp_in_nI (by omega) (by omega)
        have hbb' : hI (bhO n bt pl') - 97 = nI (b - 97) := by rw [hbb, z_l97]; exact pk_sub (by omega)
        simp only [hbb', nI_clamp (show tD T' < 2 ^ 31 by omega), zI_at, zI_off _ _ _ (show (56 : Nat) ≠ 57 by decide), zI_off _ _ _ (show (56 : Nat) ≠ 58 by decide), h4, h14, Nat.reduceEqDiff, ↓reduceIte, nI_i3]
        refine ⟨12, rfl, iD, 12, rfl, iD, ?_⟩
        refine ih _ (addD T' (b - 97)) (pl' + 1) (by show tD T' + 1 + f = 12; omega) ((((hq.trans (rq_row (by omega))).trans (rq_row (by omega))).trans (rq_56 (by omega))).trans (rq_56 (by omega))) (hrc.q (fo' := none) ((((rq_row (by omega)).trans (rq_row (by omega))).trans (rq_56 (by omega))).trans (rq_56 (by omega))) ?_ (by omega) ?_ (fun p e => by cases e)) ⟨?_, ?_, ?_, uS4, fun k hk => ?_, fun k hk => ?_, ?_, ?_⟩ he
        · rw [zI_at, if_pos rfl]
        · rw [zI_at, if_neg (by decide), zI_at, if_neg (by decide), zI_off _ _ _ (by decide), zI_off _ _ _ (by decide)]; exact hrc.2.2.2.2.2.2.1
        · rw [zI_at, if_neg (by decide), zI_at, if_pos rfl]; rfl
        · show tD T' + 1 ≤ 12; omega
        · rw [zI_at, if_neg (by decide), zI_at, if_neg (by decide), zI_off _ _ _ (by decide), zI_off _ _ _ (by decide)]; exact u5
        · have hk : k < tD T' + 1 := hk
          rw [zI_off _ _ _ (by decide), zI_off _ _ _ (by decide), zI_off _ _ _ (by decide), zI_at]
          show _ = nI (va_up (tN T') (tD T') (b - 97) k)
          unfold va_up
          by_cases e : k = tD T'
          · rw [if_pos e, if_pos e]
          · rw [if_neg e, if_neg e]; exact uN k (by omega)
        · have hk : k < tD T' + 1 := hk
          rw [zI_off _ _ _ (by decide), zI_off _ _ _ (by decide), zI_at, zI_off _ _ _ (by decide)]
          show _ = nI (va_up (tE T') (tD T') 0 k) ∧ va_up (tE T') (tD T') 0 k < 2 ^ (tD T' + 1)
          unfold va_up
          by_cases e : k = tD T'
          · rw [if_pos e, if_pos e]; exact ⟨rfl, Nat.two_pow_pos _⟩
          · rw [if_neg e, if_neg e]
            have := uE k (by omega)
            exact ⟨this.1, by rw [Nat.pow_succ]; omega⟩
        · rw [zI_off _ _ _ (by decide), zI_off _ _ _ (by decide), zI_off _ _ _ (by decide), zI_off _ _ _ (by decide)]; exact uL
        · rw [zI_off _ _ _ (by decide), zI_off _ _ _ (by decide), zI_off _ _ _ (by decide), zI_off _ _ _ (by decide)]; exact uG
  exact key 12 _ td0 1 rfl hq1 hRC1 hT1 rfl
def w_X12_fault : WPt := fun args σ Q => match args with
  | [.ref x] => x = 56 ∧ PubM σ q_fault Q
  | _ => False
theorem m_X12_fault : Meets yX12_fault cX12_fault 1 (some .int) 5 w_X12_fault := by
  refine Meets.mk (by decide) fun args σ Φ h => ?_
  unfold w_X12_fault at h
  split at h
  rotate_left
  · exact h.elim
  rename_i x
  obtain ⟨x, rfl⟩ : ∃ q : Nat, q = x := ⟨x, rfl⟩
  obtain ⟨hx, A, hK, hA, hQ⟩ := h
  subst hx
  refine ⟨Nat.le_of_ble_eq_true rfl, fun C hC hR => ?_⟩
  have hf := mod_f hK
  have hN := hA.1
  have hD1 := hA.t.1
  have hD := hA.t.2.1
  have hS := hA.t.2.2.1
  have hW := hA.2.2.1.2.1
  have hE := hA.2.2.1.2.2.1
  have hp := z_pow31 hD
  have hV := hK.2
  refine r_X12_fault_0 hC hR m_X12_readText (by decide) _ _ _ ?_
  simp only [T_X12_fault_0, x_psh, x_ild, x_lld, x_ald, x_ist, x_ast, x_lst, x_inc, x_iadd, x_isub, x_imul, x_iand, x_ior, x_ixor, x_ishl, x_ishr, x_iushr, x_idiv, x_irem, x_ladd, x_land, x_lor, x_lshl, x_lshr, x_ineg, x_i2l, x_l2i, x_i2b, x_lcmp, x_dup, x_dup2, x_if_eq, x_if_ne, x_if_lt, x_if_ge, x_if_gt, x_if_le, x_ic_eq, x_ic_ne, x_ic_lt, x_ic_ge, x_ic_gt, x_ic_le, x_getI, x_getR, x_putI, x_putZ, x_putR, x_iald, x_bald, x_lald, x_iast, x_bast, x_last, x_alen, x_acp, x_mmax, x_mmin, x_callV, x_callS, x_iret, x_zret, x_lret, x_aret, x_vret, x_tsw, x_stop, zst1, zst2, zkill, zkl, zsplit, zmask, zent, zentL, List.getElem?_cons_zero, List.getElem?_cons_succ, List.set_cons_zero, List.set_cons_succ, List.set_nil, List.length_cons, List.length_nil, List.replicate, List.nil_append, List.cons_append, List.map_cons, List.map_nil, List.sum_cons, List.sum_nil, Value.category, Option.toList, List.contains_cons, List.contains_nil, true_or, or_true, true_and, Nat.zero_le, Nat.reduceAdd, Nat.reduceLeDiff, Nat.reduceLT, Nat.reduceBEq, Bool.true_or, Bool.or_true, Bool.false_or, Bool.or_false, ↓reduceIte, Bool.false_eq_true, Nat.add_zero, Nat.zero_add, Nat.reduceEqDiff, Nat.reduceSub, hf, w_X12_readText, b2i_0, ne_eq, Nat.reduceEqDiff, not_false_eq_true, not_true_eq_false, true_and, and_true, true_implies, false_implies, implies_true, and_self]
  exact ⟨aN A, aB A, hK.1, ⟨rfl, hV.2.1.2⟩, hA.1, hA.2.1, fun σ' hq _ => hQ σ' hq.m.z (hq.m.r hK)⟩
