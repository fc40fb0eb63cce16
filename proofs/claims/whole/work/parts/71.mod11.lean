def RPW (σ : ZS) (Q : Option Value → ZS → Prop) : Prop := ∃ n bt pl T, RC σ n bt pl none ∧ RTV σ T ∧ pl < n ∧ 1 ≤ tD T ∧ ∀ σ', RQ σ σ' → ((pOn n bt pl T).1 = true → RC σ' n bt (pOn n bt pl T).2.1 none ∧ RTV σ' (pOn n bt pl T).2.2) → ((pOn n bt pl T).1 = false → RC σ' n bt (pOn n bt pl T).2.1 (some (pOn n bt pl T).2.1) ∨ zI σ' 56 15 = i2 (some (pOn n bt pl T).2.1)) → Q none σ'
def w_X12_readPart : WPt := fun args σ Q => match args with
  | [.ref x] => x = 56 ∧ RPW σ Q
  | _ => False
/-- a song half read -/
def RTP (σ : ZS) (T : TD) (S : Nat) : Prop := zI σ 56 4 = nI (tD T) ∧ tD T ≤ 12 ∧ zI σ 56 5 = nI S ∧ tS T = S + 1 ∧ S < 4 ∧ (∀ k, k < tD T → zI σ 57 k = nI (tN T k)) ∧ (∀ k, k < tD T → zI σ 58 k = nI (tE T k) ∧ tE T k < 2 ^ tD T) ∧ (∀ k, k < S → zI σ 60 k = nI (tL T k) ∧ tL T k ≤ 6) ∧ (∀ k i, k ≤ S → i < tL T k → zI σ 59 (6 * k + i) = nI (tG T (6 * k + i)))
set_option maxHeartbeats 4000000 in
theorem m_X12_readPart : Meets yX12_readPart cX12_readPart 3 none 3 w_X12_readPart := by
  refine Meets.mk (by decide) fun args σ Φ h => ?_
  unfold w_X12_readPart at h
  split at h
  rotate_left
  · exact h.elim
  rename_i x
  obtain ⟨x, rfl⟩ : ∃ q : Nat, q = x := ⟨x, rfl⟩
  obtain ⟨hx, n, bt, pl, T, hRC, hT, hpl, hD1, hQ⟩ := h
  subst hx
  refine ⟨Nat.le_of_ble_eq_true rfl, fun C hC hR => ?_⟩
  have ⟨hm, hr, hn, hb, h14, hpn, h15, hfp⟩ := hRC
  have ⟨t4, tD12, t5, tS4, tNr, tEr, tLr, tGr⟩ := hT
  have g := hm
  unfold ModS at g
  have hp := z_pow31 tD12
  have hEl : ∀ k, k < tD T → tE T k < 2 ^ tD T := fun k hk => (tEr k hk).2
  have hQ1 : ∀ pl' T', pOn n bt pl T = (true, pl', T') → ∀ σ', RQ σ σ' → RC σ' n bt pl' none → RTV σ' T' → Φ none σ' := fun pl' T' e σ' hq h1 h2 => hQ σ' hq (fun _ => by rw [e]; exact ⟨h1, h2⟩) (fun h => by rw [e] at h; cases h)
  have hQ0 : ∀ pl' T', pOn n bt pl T = (false, pl', T') → ∀ σ', RQ σ σ' → zI σ' 56 15 = i2 (some pl') → Φ none σ' := fun pl' T' e σ' hq h1 => hQ σ' hq (fun h => by rw [e] at h; cases h) (fun _ => by rw [e]; exact Or.inr h1)
  clear hQ
  have hbl : ∀ p b, bhO n bt p = some b → b < 256 := fun p b h => (hre_lt (fo := none) (pl := p) hb b h).1
  have k81 : (bhO n bt pl = some 87 → roomS T = false) → WW C 81 [some (.ref 56), none, none] [] σ := by
    intro hno
    have hpo : pOn n bt pl T = pSo n bt pl T ∨ (pOn n bt pl T = (false, pl, T) ∧ bhO n bt pl = some 87) := by
      unfold pOn
      by_cases e : bhO n bt pl = some 87
      · right
        rw [if_pos e]
        unfold pSt
        rw [if_pos (hno e)]
        exact ⟨rfl, e⟩
      · left
        rw [if_neg e]
    refine r_X12_readPart_81 hC hR m_X12_here (by decide) m_X12_frees (by decide) m_X12_doorOf (by decide) m_X12_free (by decide) m_X12_in (by decide) m_X12_fail (by decide) _ _ _ ?_
    simp only [T_X12_readPart_81, x_psh, x_ild, x_lld, x_ald, x_ist, x_ast, x_lst, x_inc, x_iadd, x_isub, x_imul, x_iand, x_ior, x_ixor, x_ishl, x_ishr, x_iushr, x_idiv, x_irem, x_ladd, x_land, x_lor, x_lshl, x_lshr, x_ineg, x_i2l, x_l2i, x_i2b, x_lcmp, x_dup, x_dup2, x_if_eq, x_if_ne, x_if_lt, x_if_ge, x_if_gt, x_if_le, x_ic_eq, x_ic_ne, x_ic_lt, x_ic_ge, x_ic_gt, x_ic_le, x_getI, x_getR, x_putI, x_putZ, x_putR, x_iald, x_bald, x_lald, x_iast, x_bast, x_last, x_alen, x_acp, x_mmax, x_mmin, x_callV, x_callS, x_iret, x_zret, x_lret, x_aret, x_vret, x_tsw, x_stop, zst1, zst2, zkill, zkl, zsplit, zmask, zent, zentL, List.getElem?_cons_zero, List.getElem?_cons_succ, List.set_cons_zero, List.set_cons_succ, List.set_nil, List.length_cons, List.length_nil, List.replicate, List.nil_append, List.cons_append, List.map_cons, List.map_nil, List.sum_cons, List.sum_nil, Value.category, Option.toList, List.contains_cons, List.contains_nil, true_or, or_true, true_and, Nat.zero_le, Nat.reduceAdd, Nat.reduceLeDiff, Nat.reduceLT, Nat.reduceBEq, Bool.true_or, Bool.or_true, Bool.false_or, Bool.or_false, ↓reduceIte, Bool.false_eq_true, Nat.add_zero, Nat.zero_add, Nat.reduceEqDiff, Nat.reduceSub, g, w_X12_here, w_X12_fail, t5, h14, b2i_0, ne_eq, Nat.reduceEqDiff, not_false_eq_true, not_true_eq_false, true_and, and_true, true_implies, false_implies, implies_true, and_self]
    refine ⟨n, bt, pl, none, hRC, ?_⟩
    show (¬ hI (bhO n bt pl) = 83 → _) ∧ (hI (bhO n bt pl) = 83 → _)
    rw [z_l83, hI_eq (hbl pl) (by omega), z_l4, nI_leI (by omega) (by omega), nI_i3]
    refine ⟨fun q => ⟨n, bt, pl, none, hRC, ?_⟩, fun q => ⟨fun q2 => ⟨n, bt, pl, none, hRC, ?_⟩, fun q2 => ?_⟩⟩
    · rcases hpo with e | ⟨e, -⟩
      · refine hQ0 pl T ?_ _ (rq_56 (by omega)) (by rw [zI_at, if_pos rfl]; rfl)
        rw [e]
        unfold pSo
        rw [if_pos (Or.inl q)]
      · exact hQ0 pl T e _ (rq_56 (by omega)) (by rw [zI_at, if_pos rfl]; rfl)
    · rcases hpo with e | ⟨e, -⟩
      · refine hQ0 pl T ?_ _ (rq_56 (by omega)) (by rw [zI_at, if_pos rfl]; rfl)
        rw [e]
        unfold pSo
        rw [if_pos (Or.inr q2)]
      · exact hQ0 pl T e _ (rq_56 (by omega)) (by rw [zI_at, if_pos rfl]; rfl)
    · have epo : pOn n bt pl T = pSo n bt pl T := by
        rcases hpo with e | ⟨-, e⟩
        · exact e
        · rw [e] at q; cases q
      have epN : sgO n bt (pl + 1) = none → pOn n bt pl T = (false, pl + 1, T) := fun h => by
        rw [epo]
        unfold pSo
        rw [if_neg (by rintro (h | h); exact h q; omega), h]
      have epS : ∀ a, sgO n bt (pl + 1) = some a → pOn n bt pl T = (true, pSn n bt 6 (pl + 1) (addSg T)) := fun a h => by
        rw [epo]
        unfold pSo
        rw [if_neg (by rintro (h | h); exact h q; omega), h]
      clear epo hpo
      have k193 : ∀ i τ T', i ≤ 6 → RQ σ τ → RC τ n bt (pl + 1 + i) none → RTP τ T' (tS T) → tL T' (tS T) = i → (1 ≤ i → pOn n bt pl T = (true, pl + 1 + i, T')) → (i = 0 → pOn n bt pl T = (false, pl + 1, T)) → WW C 193 [some (.ref 56), some (.int (nI i)), none] [] τ := by
        intro i τ T' hi hq hrc hrt hli h1 h0
        have ⟨u4, uD, u5, uS, uS4, uN, uE, uL, uG⟩ := hrt
        have g2 := hrc.1
        unfold ModS at g2
        refine r_X12_readPart_193 hC hR m_X12_here (by decide) m_X12_frees (by decide) m_X12_doorOf (by decide) m_X12_free (by decide) m_X12_in (by decide) m_X12_fail (by decide) _ _ _ ?_
        simp only [T_X12_readPart_193, x_psh, x_ild, x_lld, x_ald, x_ist, x_ast, x_lst, x_inc, x_iadd, x_isub, x_imul, x_iand, x_ior, x_ixor, x_ishl, x_ishr, x_iushr, x_idiv, x_irem, x_ladd, x_land, x_lor, x_lshl, x_lshr, x_ineg, x_i2l, x_l2i, x_i2b, x_lcmp, x_dup, x_dup2, x_if_eq, x_if_ne, x_if_lt, x_if_ge, x_if_gt, x_if_le, x_ic_eq, x_ic_ne, x_ic_lt, x_ic_ge, x_ic_gt, x_ic_le, x_getI, x_getR, x_putI, x_putZ, x_putR, x_iald, x_bald, x_lald, x_iast, x_bast, x_last, x_alen, x_acp, x_mmax, x_mmin, x_callV, x_callS, x_iret, x_zret, x_lret, x_aret, x_vret, x_tsw, x_stop, zst1, zst2, zkill, zkl, zsplit, zmask, zent, zentL, List.getElem?_cons_zero, List.getElem?_cons_succ, List.set_cons_zero, List.set_cons_succ, List.set_nil, List.length_cons, List.length_nil, List.replicate, List.nil_append, List.cons_append, List.map_cons, List.map_nil, List.sum_cons, List.sum_nil, Value.category, Option.toList, List.contains_cons, List.contains_nil, true_or, or_true, true_and, Nat.zero_le, Nat.reduceAdd, Nat.reduceLeDiff, Nat.reduceLT, Nat.reduceBEq, Bool.true_or, Bool.or_true, Bool.false_or, Bool.or_false, ↓reduceIte, Bool.false_eq_true, Nat.add_zero, Nat.zero_add, Nat.reduceEqDiff, Nat.reduceSub, g2, w_X12_fail, u5, zd_sI, zR_sI, b2i_0, ne_eq, Nat.reduceEqDiff, not_false_eq_true, not_true_eq_false, true_and, and_true, true_implies, false_implies, implies_true, and_self]
        have e0 : (nI i = 0) = (i = 0) := propext (nI_eq (a := i) (b := 0) (by omega) (by omega))
        simp only [e0]
        have is : vp_in (nI (tS T)) 4 := vp_in_nI (by omega) (by omega)
        refine ⟨fun qi => ⟨4, rfl, is, ?_⟩, fun qi => ⟨n, bt, pl + 1 + i, none, hrc, ?_⟩⟩
        · rw [nI_clamp (by omega), zI_off _ _ _ (by decide), u5, nI_i3]
          refine hQ1 _ _ (h1 (by omega)) _ ((hq.trans (rq_row (by omega))).trans (rq_56 (by omega))) (hrc.q ((rq_row (by omega)).trans (rq_56 (by omega))) ?_ hrc.2.2.2.2.2.1 ?_ (fun p e => by cases e)) ⟨?_, uD, ?_, ?_, fun k hk => ?_, fun k hk => ?_, fun k hk => ?_, fun k i' hk hi' => ?_⟩
          · rw [zI_at, if_neg (by decide), zI_off _ _ _ (by decide)]; exact hrc.2.2.2.2.1
          · rw [zI_at, if_neg (by decide), zI_off _ _ _ (by decide)]; exact hrc.2.2.2.2.2.2.1
          · rw [zI_at, if_neg (by decide), zI_off _ _ _ (by decide)]; exact u4
          · rw [zI_at, if_pos rfl, uS]
          · omega
          · rw [zI_off _ _ _ (by decide), zI_off _ _ _ (by decide)]; exact uN k hk
          · rw [zI_off _ _ _ (by decide), zI_off _ _ _ (by decide)]; exact uE k hk
          · rw [zI_off _ _ _ (by decide), zI_at]
            by_cases e : k = tS T
            · rw [if_pos e, e, hli]; exact ⟨rfl, hi⟩
            · rw [if_neg e]; exact uL k (by omega)
          · rw [zI_off _ _ _ (by decide), zI_off _ _ _ (by decide)]; exact uG k i' (by omega) hi'
        · have u5' : zI (sI τ 56 15 (i2 (some (pl + 1 + i)))) 56 5 = nI (tS T) := by rw [zI_at, if_neg (by decide)]; exact u5
          have hq2 : RQ σ (sI τ 56 15 (i2 (some (pl + 1 + i)))) := hq.trans (rq_56 (by omega))
          have e15 : zI (sI τ 56 15 (i2 (some (pl + 1 + i)))) 56 15 = i2 (some (pl + 1 + i)) := by rw [zI_at, if_pos rfl]
          show ∃ m, _
          simp only [Option.getD]
          generalize sI τ 56 15 (i2 (some (pl + 1 + i))) = τ2 at u5' hq2 e15
          rw [u5', nI_clamp (by omega)]
          refine ⟨4, rfl, is, ?_⟩
          rw [zI_off _ _ _ (by decide), u5']
          refine hQ0 (pl + 1) T (h0 qi) _ ((hq2.trans (rq_row (by omega))).trans (rq_56 (by omega))) ?_
          rw [zI_at, if_neg (by decide), zI_off _ _ _ (by decide), e15, qi]
      have key : ∀ f i τ T', i + f = 6 → RQ σ τ → RC τ n bt (pl + 1 + i) none → RTP τ T' (tS T) → tL T' (tS T) = i → pSn n bt f (pl + 1 + i) T' = pSn n bt 6 (pl + 1) (addSg T) → (1 ≤ i → ∃ a, sgO n bt (pl + 1) = some a) → WW C 110 [some (.ref 56), some (.int (nI i)), none] [] τ := by
        intro f
        induction f with
        | zero =>
          intro i τ T' hi hq hrc hrt hli he hs
          refine r_X12_readPart_110 hC hR m_X12_here (by decide) m_X12_frees (by decide) m_X12_doorOf (by decide) m_X12_free (by decide) m_X12_in (by decide) m_X12_fail (by decide) _ _ _ ?_
          simp only [T_X12_readPart_110, x_psh, x_ild, x_lld, x_ald, x_ist, x_ast, x_lst, x_inc, x_iadd, x_isub, x_imul, x_iand, x_ior, x_ixor, x_ishl, x_ishr, x_iushr, x_idiv, x_irem, x_ladd, x_land, x_lor, x_lshl, x_lshr, x_ineg, x_i2l, x_l2i, x_i2b, x_lcmp, x_dup, x_dup2, x_if_eq, x_if_ne, x_if_lt, x_if_ge, x_if_gt, x_if_le, x_ic_eq, x_ic_ne, x_ic_lt, x_ic_ge, x_ic_gt, x_ic_le, x_getI, x_getR, x_putI, x_putZ, x_putR, x_iald, x_bald, x_lald, x_iast, x_bast, x_last, x_alen, x_acp, x_mmax, x_mmin, x_callV, x_callS, x_iret, x_zret, x_lret, x_aret, x_vret, x_tsw, x_stop, zst1, zst2, zkill, zkl, zsplit, zmask, zent, zentL, List.getElem?_cons_zero, List.getElem?_cons_succ, List.set_cons_zero, List.set_cons_succ, List.set_nil, List.length_cons, List.length_nil, List.replicate, List.nil_append, List.cons_append, List.map_cons, List.map_nil, List.sum_cons, List.sum_nil, Value.category, Option.toList, List.contains_cons, List.contains_nil, true_or, or_true, true_and, Nat.zero_le, Nat.reduceAdd, Nat.reduceLeDiff, Nat.reduceLT, Nat.reduceBEq, Bool.true_or, Bool.or_true, Bool.false_or, Bool.or_false, ↓reduceIte, Bool.false_eq_true, Nat.add_zero, Nat.zero_add, Nat.reduceEqDiff, Nat.reduceSub, b2i_0, ne_eq, Nat.reduceEqDiff, not_false_eq_true, not_true_eq_false, true_and, and_true, true_implies, false_implies, implies_true, and_self]
          refine ⟨fun _ => ?_, fun q => absurd (by rw [z_l6]; exact nI_le (by omega) (by omega)) q⟩
          refine k193 i τ T' (by omega) hq hrc hrt hli (fun h => ?_) (fun h => by omega)
          obtain ⟨a, ha⟩ := hs h
          rw [epS a ha, ← he]
          rfl
        | succ f ih =>
          intro i τ T' hi hq hrc hrt hli he hs
          have ⟨u4, uD, u5, uS, uS4, uN, uE, uL, uG⟩ := hrt
          have g2 := hrc.1
          unfold ModS at g2
          have u14 := hrc.2.2.2.2.1
          have hpin := hrc.2.2.2.2.2.1
          rw [pSn] at he
          have go : ∀ a, sgO n bt (pl + 1 + i) = some a → WW C 110 [some (.ref 56), some (.int (nI (i + 1))), none] [] (sI (sI τ 59 (6 * tS T + i) (nI a)) 56 14 (nI (pl + 1 + i + 1))) := by
            intro a ha
            have hlt := sgO_lt ha
            rw [ha] at he
            refine ih (i + 1) _ (addSn T' a) (by omega) ((hq.trans (rq_row (by omega))).trans (rq_56 (by omega))) (hrc.q ((rq_row (by omega)).trans (rq_56 (by omega))) ?_ (by omega) ?_ (fun p e => by cases e)) ⟨?_, uD, ?_, uS, uS4, fun k hk => ?_, fun k hk => ?_, fun k hk => ?_, fun k i' hk hi' => ?_⟩ ?_ he (fun _ => ?_)
            · rw [zI_at, if_pos rfl]; rfl
            · rw [zI_at, if_neg (by decide), zI_off _ _ _ (by decide)]; exact hrc.2.2.2.2.2.2.1
            · rw [zI_at, if_neg (by decide), zI_off _ _ _ (by decide)]; exact u4
            · rw [zI_at, if_neg (by decide), zI_off _ _ _ (by decide)]; exact u5
            · rw [zI_off _ _ _ (by decide), zI_off _ _ _ (by decide)]; exact uN k hk
            · rw [zI_off _ _ _ (by decide), zI_off _ _ _ (by decide)]; exact uE k hk
            · rw [zI_off _ _ _ (by decide), zI_off _ _ _ (by decide)]
              show _ = nI (va_up (tL T') (tS T' - 1) (tL T' (tS T' - 1) + 1) k) ∧ va_up (tL T') (tS T' - 1) (tL T' (tS T' - 1) + 1) k ≤ 6
              unfold va_up
              rw [if_neg (by omega)]
              exact uL k hk
            · rw [zI_off _ _ _ (by decide), zI_at]
              have hi2 : i' < va_up (tL T') (tS T' - 1) (tL T' (tS T' - 1) + 1) k := hi'
              show _ = nI (va_up (tG T') (6 * (tS T' - 1) + tL T' (tS T' - 1)) a (6 * k + i'))
              rw [uS, show tS T + 1 - 1 = tS T by omega, hli] at hi2 ⊢
              unfold va_up at hi2 ⊢
              by_cases e : 6 * k + i' = 6 * tS T + i
              · rw [if_pos e, if_pos e]
              · rw [if_neg e, if_neg e]
                refine uG k i' hk ?_
                by_cases ek : k = tS T
                · subst ek
                  rw [if_pos rfl] at hi2
                  rw [hli]
                  omega
                · rw [if_neg ek] at hi2
                  exact hi2
            · show va_up (tL T') (tS T' - 1) (tL T' (tS T' - 1) + 1) (tS T) = i + 1
              unfold va_up
              rw [uS, if_pos (by omega), show tS T + 1 - 1 = tS T by omega, hli]
            · by_cases e : i = 0
              · subst e; exact ⟨a, ha⟩
              · exact hs (by omega)
          have k142 : ∀ a, sgO n bt (pl + 1 + i) = some a → WW C 142 [some (.ref 56), some (.int (nI i)), none] [] τ := by
            intro a ha
            refine r_X12_readPart_142 hC hR m_X12_here (by decide) m_X12_frees (by decide) m_X12_doorOf (by decide) m_X12_free (by decide) m_X12_in (by decide) m_X12_fail (by decide) _ _ _ ?_
            simp only [T_X12_readPart_142, x_psh, x_ild, x_lld, x_ald, x_ist, x_ast, x_lst, x_inc, x_iadd, x_isub, x_imul, x_iand, x_ior, x_ixor, x_ishl, x_ishr, x_iushr, x_idiv, x_irem, x_ladd, x_land, x_lor, x_lshl, x_lshr, x_ineg, x_i2l, x_l2i, x_i2b, x_lcmp, x_dup, x_dup2, x_if_eq, x_if_ne, x_if_lt, x_if_ge, x_if_gt, x_if_le, x_ic_eq, x_ic_ne, x_ic_lt, x_ic_ge, x_ic_gt, x_ic_le, x_getI, x_getR, x_putI, x_putZ, x_putR, x_iald, x_bald, x_lald, x_iast, x_bast, x_last, x_alen, x_acp, x_mmax, x_mmin, x_callV, x_callS, x_iret, x_zret, x_lret, x_aret, x_vret, x_tsw, x_stop, zst1, zst2, zkill, zkl, zsplit, zmask, zent, zentL, List.getElem?_cons_zero, List.getElem?_cons_succ, List.set_cons_zero, List.set_cons_succ, List.set_nil, List.length_cons, List.length_nil, List.replicate, List.nil_append, List.cons_append, List.map_cons, List.map_nil, List.sum_cons, List.sum_nil, Value.category, Option.toList, List.contains_cons, List.contains_nil, true_or, or_true, true_and, Nat.zero_le, Nat.reduceAdd, Nat.reduceLeDiff, Nat.reduceLT, Nat.reduceBEq, Bool.true_or, Bool.or_true, Bool.false_or, Bool.or_false, ↓reduceIte, Bool.false_eq_true, Nat.add_zero, Nat.zero_add, Nat.reduceEqDiff, Nat.reduceSub, g2, w_X12_here, u5, zd_sI, zR_sI, b2i_0, ne_eq, Nat.reduceEqDiff, not_false_eq_true, not_true_eq_false, true_and, and_true, true_implies, false_implies, implies_true, and_self]
            refine ⟨n, bt, pl + 1 + i, none, hrc, ?_⟩
            have e6 : (6 : Int32) * nI (tS T) + nI i = nI (6 * tS T + i) := by rw [z_l6, pk_mul, nI_add]
            have i24 : vp_in (nI (6 * tS T + i)) 24 := vp_in_nI (by omega) (by omega)
            simp only [e6, hre, z_l46, hI_eq (hbl _) (show 46 < 256 by omega), nI_clamp (show 6 * tS T + i < 2 ^ 31 by omega), nI_i3, zI_off τ (i := 59) (6 * tS T + i) _ (show (56 : Nat) ≠ 59 by decide), u14]
            rcases sg_cases n bt (pl + 1 + i) with ⟨h1, h2⟩ | ⟨b, h1, h3, h4, h2⟩ | ⟨h2, -⟩
            · rw [ha] at h2
              have := Option.some.inj h2
              subst this
              exact ⟨fun q => absurd h1 q, fun _ => ⟨24, rfl, i24, go 8 ha⟩⟩
            · rw [ha] at h2
              have := Option.some.inj h2
              subst this
              refine ⟨fun _ => ⟨n, bt, pl + 1 + i, none, hrc, 24, rfl, i24, ?_⟩, fun q => by rw [h1] at q; cases q; omega⟩
              show WW C 110 _ [] (sI (sI τ 59 _ (hI (bhO n bt (pl + 1 + i)) - 97)) 56 14 _)
              rw [h1, z_l97, show hI (some b) - nI 97 = nI (b - 97) from pk_sub (by omega)]
              exact go _ ha
            · rw [ha] at h2; cases h2
          refine r_X12_readPart_110 hC hR m_X12_here (by decide) m_X12_frees (by decide) m_X12_doorOf (by decide) m_X12_free (by decide) m_X12_in (by decide) m_X12_fail (by decide) _ _ _ ?_
          simp only [T_X12_readPart_110, x_psh, x_ild, x_lld, x_ald, x_ist, x_ast, x_lst, x_inc, x_iadd, x_isub, x_imul, x_iand, x_ior, x_ixor, x_ishl, x_ishr, x_iushr, x_idiv, x_irem, x_ladd, x_land, x_lor, x_lshl, x_lshr, x_ineg, x_i2l, x_l2i, x_i2b, x_lcmp, x_dup, x_dup2, x_if_eq, x_if_ne, x_if_lt, x_if_ge, x_if_gt, x_if_le, x_ic_eq, x_ic_ne, x_ic_lt, x_ic_ge, x_ic_gt, x_ic_le, x_getI, x_getR, x_putI, x_putZ, x_putR, x_iald, x_bald, x_lald, x_iast, x_bast, x_last, x_alen, x_acp, x_mmax, x_mmin, x_callV, x_callS, x_iret, x_zret, x_lret, x_aret, x_vret, x_tsw, x_stop, zst1, zst2, zkill, zkl, zsplit, zmask, zent, zentL, List.getElem?_cons_zero, List.getElem?_cons_succ, List.set_cons_zero, List.set_cons_succ, List.set_nil, List.length_cons, List.length_nil, List.replicate, List.nil_append, List.cons_append, List.map_cons, List.map_nil, List.sum_cons, List.sum_nil, Value.category, Option.toList, List.contains_cons, List.contains_nil, true_or, or_true, true_and, Nat.zero_le, Nat.reduceAdd, Nat.reduceLeDiff, Nat.reduceLT, Nat.reduceBEq, Bool.true_or, Bool.or_true, Bool.false_or, Bool.or_false, ↓reduceIte, Bool.false_eq_true, Nat.add_zero, Nat.zero_add, Nat.reduceEqDiff, Nat.reduceSub, g2, w_X12_here, w_X12_in, b2i_0, ne_eq, Nat.reduceEqDiff, not_false_eq_true, not_true_eq_false, true_and, and_true, true_implies, false_implies, implies_true, and_self]
          refine ⟨fun q => absurd q (by rw [z_l6]; exact nI_ge (by omega) (by omega)), fun _ => ⟨n, bt, pl + 1 + i, none, hrc, ?_⟩⟩
          simp only [l_97, l_103, hre, in_h (hbl (pl + 1 + i)) (show 97 < 2 ^ 31 by decide) (show 103 < 2 ^ 31 by decide)]
          refine ⟨fun q => ?_, fun q => ⟨n, bt, pl + 1 + i, none, hrc, ?_⟩⟩
          · rcases sg_cases n bt (pl + 1 + i) with ⟨h1, h2⟩ | ⟨b, h1, h3, h4, h2⟩ | ⟨h2, h3, h4⟩
            · exact k142 _ h2
            · exact k142 _ h2
            · exact absurd h4 q
          · rw [z_l46, hI_eq (hbl (pl + 1 + i)) (by omega)]
            refine ⟨fun q2 => ?_, fun q2 => ?_⟩
            · rcases sg_cases n bt (pl + 1 + i) with ⟨h1, h2⟩ | ⟨b, h1, h3, h4, h2⟩ | ⟨h2, h3, h4⟩
              · exact absurd h1 q2
              · exact absurd ⟨b, h1, h3, h4⟩ q
              · rw [h2] at he
                refine k193 i τ T' (by omega) hq hrc hrt hli (fun h => ?_) (fun h => ?_)
                · obtain ⟨a, ha⟩ := hs h
                  rw [epS a ha, ← he]
                · subst h
                  exact epN h2
            · rcases sg_cases n bt (pl + 1 + i) with ⟨h1, h2⟩ | ⟨b, h1, h3, h4, h2⟩ | ⟨h2, h3, h4⟩
              · exact k142 _ h2
              · exact k142 _ h2
              · exact absurd q2 h3
      refine key 6 0 _ (addSg T) rfl (rq_56 (by omega)) (hRC.next hpl) ⟨?_, tD12, ?_, rfl, by omega, ?_, ?_, ?_, ?_⟩ ?_ rfl (fun h => by omega)
      · rw [zI_at, if_neg (by decide)]; exact t4
      · rw [zI_at, if_neg (by decide)]; exact t5
      · rw [zI_off _ _ _ (by decide)]; exact tNr
      · rw [zI_off _ _ _ (by decide)]; exact tEr
      · intro k hk
        rw [zI_off _ _ _ (by decide)]
        show _ = nI (va_up (tL T) (tS T) 0 k) ∧ va_up (tL T) (tS T) 0 k ≤ 6
        unfold va_up
        rw [if_neg (by omega)]
        exact tLr k hk
      · intro k i hk hi
        rw [zI_off _ _ _ (by decide)]
        have hi2 : i < va_up (tL T) (tS T) 0 k := hi
        show _ = nI (tG T (6 * k + i))
        unfold va_up at hi2
        by_cases e : k = tS T
        · rw [if_pos e] at hi2; omega
        · rw [if_neg e] at hi2
          exact tGr k i (by omega) hi2
      · show va_up (tL T) (tS T) 0 (tS T) = 0
        unfold va_up
        rw [if_pos rfl]
  refine r_X12_readPart_0 hC hR m_X12_here (by decide) m_X12_frees (by decide) m_X12_doorOf (by decide) m_X12_free (by decide) m_X12_in (by decide) m_X12_fail (by decide) _ _ _ ?_
  simp only [T_X12_readPart_0, x_psh, x_ild, x_lld, x_ald, x_ist, x_ast, x_lst, x_inc, x_iadd, x_isub, x_imul, x_iand, x_ior, x_ixor, x_ishl, x_ishr, x_iushr, x_idiv, x_irem, x_ladd, x_land, x_lor, x_lshl, x_lshr, x_ineg, x_i2l, x_l2i, x_i2b, x_lcmp, x_dup, x_dup2, x_if_eq, x_if_ne, x_if_lt, x_if_ge, x_if_gt, x_if_le, x_ic_eq, x_ic_ne, x_ic_lt, x_ic_ge, x_ic_gt, x_ic_le, x_getI, x_getR, x_putI, x_putZ, x_putR, x_iald, x_bald, x_lald, x_iast, x_bast, x_last, x_alen, x_acp, x_mmax, x_mmin, x_callV, x_callS, x_iret, x_zret, x_lret, x_aret, x_vret, x_tsw, x_stop, zst1, zst2, zkill, zkl, zsplit, zmask, zent, zentL, List.getElem?_cons_zero, List.getElem?_cons_succ, List.set_cons_zero, List.set_cons_succ, List.set_nil, List.length_cons, List.length_nil, List.replicate, List.nil_append, List.cons_append, List.map_cons, List.map_nil, List.sum_cons, List.sum_nil, Value.category, Option.toList, List.contains_cons, List.contains_nil, true_or, or_true, true_and, Nat.zero_le, Nat.reduceAdd, Nat.reduceLeDiff, Nat.reduceLT, Nat.reduceBEq, Bool.true_or, Bool.or_true, Bool.false_or, Bool.or_false, ↓reduceIte, Bool.false_eq_true, Nat.add_zero, Nat.zero_add, Nat.reduceEqDiff, Nat.reduceSub, g, w_X12_here, w_X12_frees, h14, zd_sI, zR_sI, b2i_0, ne_eq, Nat.reduceEqDiff, not_false_eq_true, not_true_eq_false, true_and, and_true, true_implies, false_implies, implies_true, and_self]
  refine ⟨n, bt, pl, none, hRC, ?_⟩
  show (¬ hI (bhO n bt pl) = 87 → _) ∧ (hI (bhO n bt pl) = 87 → _)
  rw [z_l87, hI_eq (hbl pl) (by omega)]
  refine ⟨fun q => k81 (fun h => absurd h q), fun q => ⟨tD T, tE T, hm, t4, tD12, fun k hk => (tEr k hk).1, ?_⟩⟩
  have hfl : fsS (tD T) (tE T) < 2 ^ tD T := stS_lt _
  have e0 : (nI (fsS (tD T) (tE T)) = 0) = (fsS (tD T) (tE T) = 0) := propext (nI_eq (a := fsS (tD T) (tE T)) (b := 0) (by omega) (by omega))
  simp only [e0]
  refine ⟨fun q2 => k81 (fun _ => (room_fs hEl).mp q2), fun q2 => ?_⟩
  have hroom : ¬ roomS T = false := fun h => q2 ((room_fs hEl).mpr h)
  rw [nI_i3]
  have hRC1 := hRC.next hpl
  have hT1 : RTV (sI σ 56 14 (nI (pl + 1))) T := hT.f (by omega)
  have hq1 : RQ σ (sI σ 56 14 (nI (pl + 1))) := rq_56 (by omega)
  generalize sI σ 56 14 (nI (pl + 1)) = σ1 at hRC1 hT1 hq1
  have g1 := hRC1.1
  unfold ModS at g1
  refine ⟨tD T, tE T, hRC1.1, hT1.1, tD12, fun k hk => (hT1.2.2.2.2.2.1 k hk).1, ?_⟩
  have ePt : pOn n bt pl T = pSt n bt pl T := by unfold pOn; rw [if_pos q]
  simp only [g1, w_X12_doorOf, x_psh, x_ild, x_lld, x_ald, x_ist, x_ast, x_lst, x_inc, x_iadd, x_isub, x_imul, x_iand, x_ior, x_ixor, x_ishl, x_ishr, x_iushr, x_idiv, x_irem, x_ladd, x_land, x_lor, x_lshl, x_lshr, x_ineg, x_i2l, x_l2i, x_i2b, x_lcmp, x_dup, x_dup2, x_if_eq, x_if_ne, x_if_lt, x_if_ge, x_if_gt, x_if_le, x_ic_eq, x_ic_ne, x_ic_lt, x_ic_ge, x_ic_gt, x_ic_le, x_getI, x_getR, x_putI, x_putZ, x_putR, x_iald, x_bald, x_lald, x_iast, x_bast, x_last, x_alen, x_acp, x_mmax, x_mmin, x_callV, x_callS, x_iret, x_zret, x_lret, x_aret, x_vret, x_tsw, x_stop, zst1, zst2, zkill, zkl, zsplit, zmask, zent, zentL, List.getElem?_cons_zero, List.getElem?_cons_succ, List.set_cons_zero, List.set_cons_succ, List.set_nil, List.length_cons, List.length_nil, List.replicate, List.nil_append, List.cons_append, List.map_cons, List.map_nil, List.sum_cons, List.sum_nil, Value.category, Option.toList, List.contains_cons, List.contains_nil, true_or, or_true, true_and, Nat.zero_le, Nat.reduceAdd, Nat.reduceLeDiff, Nat.reduceLT, Nat.reduceBEq, Bool.true_or, Bool.or_true, Bool.false_or, Bool.or_false, ↓reduceIte, Bool.false_eq_true, Nat.add_zero, Nat.zero_add, Nat.reduceEqDiff, Nat.reduceSub, b2i_0, ne_eq, Nat.reduceEqDiff, not_false_eq_true, not_true_eq_false, true_and, and_true, true_implies, false_implies, implies_true, and_self]
  refine ⟨n, bt, pl + 1, none, fsS (tD T) (tE T), hRC1, rfl, by omega, fun v hv hbit => ?_, fun hno => ?_⟩
  · have hv : dwO (bhO n bt (pl + 1)) = some v := hv
    have hb1 := hbit
    rw [fsS, stS_bit, Bool.and_eq_true, decide_eq_true_iff, decide_eq_true_iff] at hb1
    have hdr : drO n bt (pl + 1) (tD T) = some v := dr_dw.mpr ⟨hv, hb1.1⟩
    have hpl1 : pl + 1 < n := (drO_lt hdr).2
    have hfull : ¬ tE T v ||| 2 ^ v = 2 ^ tD T - 1 := fun h => hb1.2 ((or_full (hEl v hb1.1) hb1.1).mp h)
    have hRC2 := hRC1.next hpl1
    have hT2 : RTV (sI σ1 56 14 (nI (pl + 1 + 1))) T := hT1.f (by omega)
    have hq2 : RQ σ (sI σ1 56 14 (nI (pl + 1 + 1))) := hq1.trans (rq_56 (by omega))
    generalize sI σ1 56 14 (nI (pl + 1 + 1)) = σ2 at hRC2 hT2 hq2
    have g2 := hRC2.1
    unfold ModS at g2
    have ⟨u4, uD12, u5, uS4, uN, uE, uL, uG⟩ := hT2
    simp only [g2, w_X12_free, w_X12_doorOf, x_psh, x_ild, x_lld, x_ald, x_ist, x_ast, x_lst, x_inc, x_iadd, x_isub, x_imul, x_iand, x_ior, x_ixor, x_ishl, x_ishr, x_iushr, x_idiv, x_irem, x_ladd, x_land, x_lor, x_lshl, x_lshr, x_ineg, x_i2l, x_l2i, x_i2b, x_lcmp, x_dup, x_dup2, x_if_eq, x_if_ne, x_if_lt, x_if_ge, x_if_gt, x_if_le, x_ic_eq, x_ic_ne, x_ic_lt, x_ic_ge, x_ic_gt, x_ic_le, x_getI, x_getR, x_putI, x_putZ, x_putR, x_iald, x_bald, x_lald, x_iast, x_bast, x_last, x_alen, x_acp, x_mmax, x_mmin, x_callV, x_callS, x_iret, x_zret, x_lret, x_aret, x_vret, x_tsw, x_stop, zst1, zst2, zkill, zkl, zsplit, zmask, zent, zentL, List.getElem?_cons_zero, List.getElem?_cons_succ, List.set_cons_zero, List.set_cons_succ, List.set_nil, List.length_cons, List.length_nil, List.replicate, List.nil_append, List.cons_append, List.map_cons, List.map_nil, List.sum_cons, List.sum_nil, Value.category, Option.toList, List.contains_cons, List.contains_nil, true_or, or_true, true_and, Nat.zero_le, Nat.reduceAdd, Nat.reduceLeDiff, Nat.reduceLT, Nat.reduceBEq, Bool.true_or, Bool.or_true, Bool.false_or, Bool.or_false, ↓reduceIte, Bool.false_eq_true, Nat.add_zero, Nat.zero_add, Nat.reduceEqDiff, Nat.reduceSub, b2i_0, ne_eq, Nat.reduceEqDiff, not_false_eq_true, not_true_eq_false, true_and, and_true, true_implies, false_implies, implies_true, and_self]
    refine ⟨tD T, tE T v, v, hRC2.1, u4, tD12, rfl, by omega, (uE v hb1.1).1, n, bt, pl + 2, none, frS (tD T) (tE T v) v, hRC2, rfl, by have := frS_lt (D := tD T) (m := tE T v) (c := v); omega, fun w hw hwb => ?_, fun hno => ?_⟩
    · have hw : dwO (bhO n bt (pl + 2)) = some w := hw
      have hb2 := hwb
      rw [frS_bit, Bool.and_eq_true, Bool.and_eq_true, decide_eq_true_iff] at hb2
      obtain ⟨⟨hwD, hwj⟩, hwv⟩ := hb2
      have hwv : v ≠ w := by simpa using hwv
      have hwj : (tE T v).testBit w = false := by simpa using hwj
      have hdr2 : drO n bt (pl + 2) (tD T) = some w := dr_dw.mpr ⟨hw, hwD⟩
      have hpl2 : pl + 1 + 1 < n := (drO_lt hdr2).2
      have hRC3 := hRC2.next hpl2
      have hT3 : RTV (sI σ2 56 14 (nI (pl + 1 + 1 + 1))) T := hT2.f (by omega)
      have hq3 : RQ σ (sI σ2 56 14 (nI (pl + 1 + 1 + 1))) := hq2.trans (rq_56 (by omega))
      generalize sI σ2 56 14 (nI (pl + 1 + 1 + 1)) = σ3 at hRC3 hT3 hq3
      have g3 := hRC3.1
      unfold ModS at g3
      have ⟨x4, xD12, x5, xS4, xN, xE, xL, xG⟩ := hT3
      have x15 : zI σ3 56 15 = -9 := hRC3.2.2.2.2.2.2.1
      simp only [g3, x15, zd_sI, zR_sI, x_psh, x_ild, x_lld, x_ald, x_ist, x_ast, x_lst, x_inc, x_iadd, x_isub, x_imul, x_iand, x_ior, x_ixor, x_ishl, x_ishr, x_iushr, x_idiv, x_irem, x_ladd, x_land, x_lor, x_lshl, x_lshr, x_ineg, x_i2l, x_l2i, x_i2b, x_lcmp, x_dup, x_dup2, x_if_eq, x_if_ne, x_if_lt, x_if_ge, x_if_gt, x_if_le, x_ic_eq, x_ic_ne, x_ic_lt, x_ic_ge, x_ic_gt, x_ic_le, x_getI, x_getR, x_putI, x_putZ, x_putR, x_iald, x_bald, x_lald, x_iast, x_bast, x_last, x_alen, x_acp, x_mmax, x_mmin, x_callV, x_callS, x_iret, x_zret, x_lret, x_aret, x_vret, x_tsw, x_stop, zst1, zst2, zkill, zkl, zsplit, zmask, zent, zentL, List.getElem?_cons_zero, List.getElem?_cons_succ, List.set_cons_zero, List.set_cons_succ, List.set_nil, List.length_cons, List.length_nil, List.replicate, List.nil_append, List.cons_append, List.map_cons, List.map_nil, List.sum_cons, List.sum_nil, Value.category, Option.toList, List.contains_cons, List.contains_nil, true_or, or_true, true_and, Nat.zero_le, Nat.reduceAdd, Nat.reduceLeDiff, Nat.reduceLT, Nat.reduceBEq, Bool.true_or, Bool.or_true, Bool.false_or, Bool.or_false, ↓reduceIte, Bool.false_eq_true, Nat.add_zero, Nat.zero_add, Nat.reduceEqDiff, Nat.reduceSub, b2i_0, ne_eq, Nat.reduceEqDiff, not_false_eq_true, not_true_eq_false, true_and, and_true, true_implies, false_implies, implies_true, and_self]
      have hEv := hEl v hb1.1
      have hEw := hEl w hwD
      have pv : 2 ^ v < 2 ^ tD T := Nat.pow_lt_pow_right (by decide) hb1.1
      have pw : 2 ^ w < 2 ^ tD T := Nat.pow_lt_pow_right (by decide) hwD
      have iv : vp_in (nI v) 12 := vp_in_nI (by omega) (by omega)
      have iw : vp_in (nI w) 12 := vp_in_nI (by omega) (by omega)
      rw [nI_clamp (by omega), nI_clamp (by omega), (xE v hb1.1).1, z_l31, z_l1, z_p2 w (by omega), z_or, zI_at, if_neg (fun e => hwv e.symm), (xE w hwD).1, z_p2 v (by omega), z_or]
      refine ⟨12, rfl, iv, 12, rfl, iv, 12, rfl, iw, 12, rfl, iw, ?_⟩
      have ept : pOn n bt pl T = (true, pl + 3, addSt T v w) := by
        rw [ePt]
        unfold pSt
        rw [if_neg hroom, hdr]
        simp only
        rw [if_neg hfull, hdr2]
        simp only
        rw [if_neg (fun e => hwv e.symm), if_neg (by rw [hwj]; simp)]
      refine hQ1 _ _ ept _ ((hq3.trans (rq_row (by omega))).trans (rq_row (by omega))) (hRC3.q ((rq_row (by omega)).trans (rq_row (by omega))) ?_ (by omega) ?_ (fun p e => by cases e)) ⟨?_, tD12, ?_, tS4, ?_, fun k hk => ?_, ?_, ?_⟩
      · rw [zI_off _ _ _ (by decide), zI_off _ _ _ (by decide)]; exact hRC3.2.2.2.2.1
      · rw [zI_off _ _ _ (by decide), zI_off _ _ _ (by decide)]; exact x15
      · rw [zI_off _ _ _ (by decide), zI_off _ _ _ (by decide)]; exact x4
      · rw [zI_off _ _ _ (by decide), zI_off _ _ _ (by decide)]; exact x5
      · rw [zI_off _ _ _ (by decide), zI_off _ _ _ (by decide)]; exact xN
      · rw [zI_at, zI_at]
        show _ = nI (jnE T v w true k) ∧ jnE T v w true k < 2 ^ tD T
        unfold jnE
        by_cases e1 : k = w
        · subst e1
          rw [if_pos rfl, if_neg (fun e => hwv e.symm), if_pos rfl, if_pos rfl]
          exact ⟨rfl, Nat.or_lt_two_pow hEw pv⟩
        · rw [if_neg e1]
          by_cases e2 : k = v
          · subst e2
            rw [if_pos rfl, if_pos rfl, if_pos rfl]
            exact ⟨rfl, Nat.or_lt_two_pow hEv pw⟩
          · rw [if_neg e2, if_neg e2, if_neg e1]
            exact xE k hk
      · rw [zI_off _ _ _ (by decide), zI_off _ _ _ (by decide)]; exact xL
      · rw [zI_off _ _ _ (by decide), zI_off _ _ _ (by decide)]; exact xG
    · have e15 : zI (sI σ2 56 15 (i2 (some (pl + 2)))) 56 15 = i2 (some (pl + 2)) := by rw [zI_at, if_pos rfl]
      have hq3 : RQ σ (sI σ2 56 15 (i2 (some (pl + 2)))) := hq2.trans (rq_56 (by omega))
      have hz3 : zd (sI σ2 56 15 (i2 (some (pl + 2)))) 56 = some (0, 9) := g2.1
      show zd (sI σ2 56 15 (i2 (some (pl + 2)))) 56 = _ ∧ _
      simp only [Option.getD]
      generalize sI σ2 56 15 (i2 (some (pl + 2))) = σ3 at e15 hq3 hz3
      refine ⟨hz3, ?_⟩
      rw [e15]
      have hne : ¬ i2 (some (pl + 2)) = -9 := z_m9 (by omega)
      refine ⟨fun _ => hQ0 (pl + 2) T ?_ σ3 hq3 e15, fun h => absurd h hne⟩
      rw [ePt]
      unfold pSt
      rw [if_neg hroom, hdr]
      simp only
      rw [if_neg hfull]
      cases hdr2 : drO n bt (pl + 2) (tD T) with
      | none => rfl
      | some w =>
        have := dr_dw.mp hdr2
        have hb2 := hno w this.1
        rw [frS_bit] at hb2
        simp only
        by_cases e1 : w = v
        · rw [if_pos e1]
        · rw [if_neg e1]
          have : (tE T v).testBit w = true := by
            cases hj : (tE T v).testBit w
            · rw [hj] at hb2
              simp [this.2] at hb2
              exact absurd hb2.symm e1
            · rfl
          rw [if_pos this]
  · have e15 : zI (sI σ1 56 15 (i2 (some (pl + 1)))) 56 15 = i2 (some (pl + 1)) := by rw [zI_at, if_pos rfl]
    have hq2 : RQ σ (sI σ1 56 15 (i2 (some (pl + 1)))) := hq1.trans (rq_56 (by omega))
    have hRC2 := hRC1.fail
    have hT2 : RTV (sI σ1 56 15 (i2 (some (pl + 1)))) T := hT1.f (by omega)
    show zd (sI σ1 56 15 (i2 (some (pl + 1)))) 56 = _ ∧ _
    simp only [Option.getD]
    generalize sI σ1 56 15 (i2 (some (pl + 1))) = σ2 at e15 hq2 hRC2 hT2
    have g2 := hRC2.1
    unfold ModS at g2
    simp only [g2, w_X12_free, w_X12_doorOf, x_psh, x_ild, x_lld, x_ald, x_ist, x_ast, x_lst, x_inc, x_iadd, x_isub, x_imul, x_iand, x_ior, x_ixor, x_ishl, x_ishr, x_iushr, x_idiv, x_irem, x_ladd, x_land, x_lor, x_lshl, x_lshr, x_ineg, x_i2l, x_l2i, x_i2b, x_lcmp, x_dup, x_dup2, x_if_eq, x_if_ne, x_if_lt, x_if_ge, x_if_gt, x_if_le, x_ic_eq, x_ic_ne, x_ic_lt, x_ic_ge, x_ic_gt, x_ic_le, x_getI, x_getR, x_putI, x_putZ, x_putR, x_iald, x_bald, x_lald, x_iast, x_bast, x_last, x_alen, x_acp, x_mmax, x_mmin, x_callV, x_callS, x_iret, x_zret, x_lret, x_aret, x_vret, x_tsw, x_stop, zst1, zst2, zkill, zkl, zsplit, zmask, zent, zentL, List.getElem?_cons_zero, List.getElem?_cons_succ, List.set_cons_zero, List.set_cons_succ, List.set_nil, List.length_cons, List.length_nil, List.replicate, List.nil_append, List.cons_append, List.map_cons, List.map_nil, List.sum_cons, List.sum_nil, Value.category, Option.toList, List.contains_cons, List.contains_nil, true_or, or_true, true_and, Nat.zero_le, Nat.reduceAdd, Nat.reduceLeDiff, Nat.reduceLT, Nat.reduceBEq, Bool.true_or, Bool.or_true, Bool.false_or, Bool.or_false, ↓reduceIte, Bool.false_eq_true, Nat.add_zero, Nat.zero_add, Nat.reduceEqDiff, Nat.reduceSub, b2i_0, ne_eq, Nat.reduceEqDiff, not_false_eq_true, not_true_eq_false, true_and, and_true, true_implies, false_implies, implies_true, and_self]
    refine ⟨tD T, tE T 0, 0, hRC2.1, hT2.1, tD12, rfl, by omega, (hT2.2.2.2.2.2.1 0 (by omega)).1, n, bt, pl + 1, some (pl + 1), frS (tD T) (tE T 0) 0, hRC2, rfl, by have := frS_lt (D := tD T) (m := tE T 0) (c := 0); omega, fun w hw => (by cases hw), fun _ => ?_⟩
    have e15' : zI (sI σ2 56 15 (i2 (some (pl + 1)))) 56 15 = i2 (some (pl + 1)) := by rw [zI_at, if_pos rfl]
    have hq3 : RQ σ (sI σ2 56 15 (i2 (some (pl + 1)))) := hq2.trans (rq_56 (by omega))
    have hz3 : zd (sI σ2 56 15 (i2 (some (pl + 1)))) 56 = some (0, 9) := g2.1
    show zd (sI σ2 56 15 (i2 (some (pl + 1)))) 56 = _ ∧ _
    simp only [Option.getD]
    generalize sI σ2 56 15 (i2 (some (pl + 1))) = σ3 at e15' hq3 hz3
    refine ⟨hz3, ?_⟩
    rw [e15']
    have hne : ¬ i2 (some (pl + 1)) = -9 := z_m9 (by omega)
    refine ⟨fun _ => hQ0 (pl + 1) T ?_ σ3 hq3 e15', fun h => absurd h hne⟩
    rw [ePt]
    unfold pSt
    rw [if_neg hroom]
    cases hdr : drO n bt (pl + 1) (tD T) with
    | none => rfl
    | some v =>
      have hd := dr_dw.mp hdr
      have hb2 := hno v hd.1
      simp only
      have : tE T v ||| 2 ^ v = 2 ^ tD T - 1 := by
        rw [or_full (hEl v hd.2) hd.2]
        rw [fsS, stS_bit] at hb2
        simpa [hd.2] using hb2
      rw [if_pos this]
