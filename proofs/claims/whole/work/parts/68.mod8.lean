theorem cpR_s0 (f g : Nat → Int32) (k : Nat) : upd (cpR f g 0 k) k (f k) = cpR f g 0 (k + 1) := by
  have := cpR_s f g 0 k
  rwa [Nat.zero_add] at this
theorem cpR_in0 {f g : Nat → Int32} {k j : Nat} (h : j < k) : cpR f g 0 k j = f j := by
  have := cpR_in (f := f) (g := g) (o := 0) h
  rwa [Nat.zero_add] at this
def AI (σ τ : ZS) (s a b c : Nat) : Prop := zd τ = zd σ ∧ zR τ = zR σ ∧ zJ τ = zJ σ ∧ (∀ i : Nat, (i < 61 ∨ i = 65 ∨ (67 ≤ i ∧ i ≤ 71) ∨ 73 ≤ i) → zI τ i = zI σ i) ∧ zI τ 61 = cpR (fun k => zI σ 75 (12 * s + k)) (zI σ 61) 0 b ∧ zI τ 62 = cpR (fun k => zI σ 76 (12 * s + k)) (zI σ 62) 0 b ∧ zI τ 63 = cpR (fun k => zI σ 77 (24 * s + k)) (zI σ 63) 0 a ∧ zI τ 64 = cpR (fun k => zI σ 78 (4 * s + k)) (zI σ 64) 0 c ∧ zI τ 66 = cpR (fun k => zI σ 79 (24 * s + k)) (zI σ 66) 0 a ∧ zI τ 72 = cpR (fun k => zI σ 80 (12 * s + k)) (zI σ 72) 0 b
def w_X12_again : WPt := fun args σ Q => match args with
  | [.ref x, .int d] => x = 56 ∧ PubM σ (q_again · d) Q
  | _ => False
set_option maxHeartbeats 4000000 in
theorem m_X12_again : Meets yX12_again cX12_again 3 (some .int) 2 w_X12_again := by
  refine Meets.mk (by decide) fun args σ Φ h => ?_
  unfold w_X12_again at h
  split at h
  rotate_left
  · exact h.elim
  rename_i x d
  obtain ⟨x, rfl⟩ : ∃ q : Nat, q = x := ⟨x, rfl⟩
  obtain ⟨hx, A, hK, hA, hQ⟩ := h
  subst hx
  refine ⟨Nat.le_of_ble_eq_true rfl, fun C hC hR => ?_⟩
  have hf := mod_f hK
  have hN := hA.1
  have hD1 := hA.t.1
  have hD := hA.t.2.1
  have hS := hA.t.2.2.1
  have hW := hA.2.2.1.2.1
  have hE := hA.2.2.1.2.2.1
  have hp := z_pow31 hD
  have hV := hK.2
  refine r_X12_again_0 hC hR m_X12_in (by decide) _ _ _ ?_
  simp only [T_X12_again_0, x_psh, x_ild, x_lld, x_ald, x_ist, x_ast, x_lst, x_inc, x_iadd, x_isub, x_imul, x_iand, x_ior, x_ixor, x_ishl, x_ishr, x_iushr, x_idiv, x_irem, x_ladd, x_land, x_lor, x_lshl, x_lshr, x_ineg, x_i2l, x_l2i, x_i2b, x_lcmp, x_dup, x_dup2, x_if_eq, x_if_ne, x_if_lt, x_if_ge, x_if_gt, x_if_le, x_ic_eq, x_ic_ne, x_ic_lt, x_ic_ge, x_ic_gt, x_ic_le, x_getI, x_getR, x_putI, x_putZ, x_putR, x_iald, x_bald, x_lald, x_iast, x_bast, x_last, x_alen, x_acp, x_mmax, x_mmin, x_callV, x_callS, x_iret, x_zret, x_lret, x_aret, x_vret, x_tsw, x_stop, zst1, zst2, zkill, zkl, zsplit, zmask, zent, zentL, List.getElem?_cons_zero, List.getElem?_cons_succ, List.set_cons_zero, List.set_cons_succ, List.set_nil, List.length_cons, List.length_nil, List.replicate, List.nil_append, List.cons_append, List.map_cons, List.map_nil, List.sum_cons, List.sum_nil, Value.category, Option.toList, List.contains_cons, List.contains_nil, true_or, or_true, true_and, Nat.zero_le, Nat.reduceAdd, Nat.reduceLeDiff, Nat.reduceLT, Nat.reduceBEq, Bool.true_or, Bool.or_true, Bool.false_or, Bool.or_false, ↓reduceIte, Bool.false_eq_true, Nat.add_zero, Nat.zero_add, Nat.reduceEqDiff, Nat.reduceSub, hf, w_X12_in, b2i_0, ne_eq, Nat.reduceEqDiff, not_false_eq_true, not_true_eq_false, true_and, and_true, true_implies, false_implies, implies_true, and_self]
  simp only [in_1, b2i_0, ne_eq, Nat.reduceEqDiff, not_false_eq_true, not_true_eq_false, true_and, and_true, true_implies, false_implies, implies_true, and_self]
  unfold q_again at hQ
  rcases ix_cs d (show 2 < 2 ^ 31 by omega) with ⟨s, hs, rfl, h1, h2⟩ | ⟨h1, h2⟩
  · simp only [h1] at hQ
    simp only [h2, b2i_0, ne_eq, Nat.reduceEqDiff, not_false_eq_true, not_true_eq_false, true_and, and_true, true_implies, false_implies, implies_true, and_self]
    refine ⟨2, Or.inr rfl, vp_in_nI (by omega) (by omega), ?_⟩
    rw [nI_clamp (by omega)]
    have m24 : ∀ k, nI 24 * nI s + nI k = nI (24 * s + k) := fun k => by rw [pk_mul, nI_add]
    have m12 : ∀ k, nI 12 * nI s + nI k = nI (12 * s + k) := fun k => by rw [pk_mul, nI_add]
    have m4 : ∀ k, nI 4 * nI s + nI k = nI (4 * s + k) := fun k => by rw [pk_mul, nI_add]
    have hM : MKV σ s (if s = 0 then a1 A else a2 A) := by
      by_cases s0 : s = 0
      · rw [if_pos s0, s0]; exact hV.2.2.2.2.1
      · rw [if_neg s0, show s = 1 by omega]; exact hV.2.2.2.2.2
    have hOk : ∀ X, (if s = 0 then a1 A else a2 A) = some X → SdOk X := by
      by_cases s0 : s = 0
      · rw [if_pos s0]; exact hA.2.2.2.1
      · rw [if_neg s0]; exact hA.2.2.2.2
    generalize (if s = 0 then a1 A else a2 A) = o at hM hOk hQ
    cases o with
    | none =>
      have e : zI σ 74 s = 0 := hM
      rw [e]
      exact ⟨fun q => absurd rfl q, fun _ => hQ σ (ZF.refl _ _ _) hK⟩
    | some X =>
      obtain ⟨a1', ⟨b1, b2, b3, b4, b5, b6⟩, ⟨c1, c2⟩, ⟨d1, d2⟩⟩ := hM
      have hX := hOk X rfl
      have hXD := hX.1.2.1
      have hXS := hX.1.2.2.1
      have hXW := hX.2.1
      have hXE := hX.2.2.1
      rw [a1']
      refine ⟨fun _ => ?_, fun q => absurd q (by decide)⟩
      have k3 : ∀ c, c ≤ 4 → ∀ τ, AI σ τ s 24 12 c → WW C 139 [some (.ref 56), some (.int (nI s)), some (.int (nI c))] [] τ := by
        refine fun c hc => zloop (P := fun c => ∀ τ, AI σ τ s 24 12 c → WW C 139 [some (.ref 56), some (.int (nI s)), some (.int (nI c))] [] τ) 4 (fun c hc ih τ hI => ?_) (fun τ hI => ?_) c hc
        · have ⟨i1, i2, i3, i4, i5, i6, i7, i8, i9, i10⟩ := hI
          have g : ModS τ := hK.1.of i1 i2
          unfold ModS at g
          refine r_X12_again_139 hC hR m_X12_in (by decide) _ _ _ ?_
          simp only [T_X12_again_139, x_psh, x_ild, x_lld, x_ald, x_ist, x_ast, x_lst, x_inc, x_iadd, x_isub, x_imul, x_iand, x_ior, x_ixor, x_ishl, x_ishr, x_iushr, x_idiv, x_irem, x_ladd, x_land, x_lor, x_lshl, x_lshr, x_ineg, x_i2l, x_l2i, x_i2b, x_lcmp, x_dup, x_dup2, x_if_eq, x_if_ne, x_if_lt, x_if_ge, x_if_gt, x_if_le, x_ic_eq, x_ic_ne, x_ic_lt, x_ic_ge, x_ic_gt, x_ic_le, x_getI, x_getR, x_putI, x_putZ, x_putR, x_iald, x_bald, x_lald, x_iast, x_bast, x_last, x_alen, x_acp, x_mmax, x_mmin, x_callV, x_callS, x_iret, x_zret, x_lret, x_aret, x_vret, x_tsw, x_stop, zst1, zst2, zkill, zkl, zsplit, zmask, zent, zentL, List.getElem?_cons_zero, List.getElem?_cons_succ, List.set_cons_zero, List.set_cons_succ, List.set_nil, List.length_cons, List.length_nil, List.replicate, List.nil_append, List.cons_append, List.map_cons, List.map_nil, List.sum_cons, List.sum_nil, Value.category, Option.toList, List.contains_cons, List.contains_nil, true_or, or_true, true_and, Nat.zero_le, Nat.reduceAdd, Nat.reduceLeDiff, Nat.reduceLT, Nat.reduceBEq, Bool.true_or, Bool.or_true, Bool.false_or, Bool.or_false, ↓reduceIte, Bool.false_eq_true, Nat.add_zero, Nat.zero_add, Nat.reduceEqDiff, Nat.reduceSub, g, b2i_0, ne_eq, Nat.reduceEqDiff, not_false_eq_true, not_true_eq_false, true_and, and_true, true_implies, false_implies, implies_true, and_self]
          refine ⟨fun q => absurd q (by rw [z_l4]; exact nI_ge (by omega) (by omega)), fun _ => ?_⟩
          rw [z_l4, m4, nI_clamp (by omega), nI_clamp (by omega), nI_i3]
          refine ⟨8, rfl, vp_in_nI (by omega) (by omega), 4, rfl, vp_in_nI (by omega) (by omega), ?_⟩
          refine ih _ ⟨i1, i2, i3, fun i hi => by rw [zI_off _ _ _ (by omega)]; exact i4 i hi, ?_, ?_, ?_, ?_, ?_, ?_⟩
          all_goals first
            | (rw [zI_off _ _ _ (by decide)]; assumption)
            | (rw [sI_row, i8, i4 78 (by decide)]; exact cpR_s0 (fun k => zI σ 78 (4 * s + k)) _ _)
        · have ⟨i1, i2, i3, i4, i5, i6, i7, i8, i9, i10⟩ := hI
          have g : ModS τ := hK.1.of i1 i2
          unfold ModS at g
          have e81 := i4 81 (by decide)
          refine r_X12_again_139 hC hR m_X12_in (by decide) _ _ _ ?_
          simp only [T_X12_again_139, x_psh, x_ild, x_lld, x_ald, x_ist, x_ast, x_lst, x_inc, x_iadd, x_isub, x_imul, x_iand, x_ior, x_ixor, x_ishl, x_ishr, x_iushr, x_idiv, x_irem, x_ladd, x_land, x_lor, x_lshl, x_lshr, x_ineg, x_i2l, x_l2i, x_i2b, x_lcmp, x_dup, x_dup2, x_if_eq, x_if_ne, x_if_lt, x_if_ge, x_if_gt, x_if_le, x_ic_eq, x_ic_ne, x_ic_lt, x_ic_ge, x_ic_gt, x_ic_le, x_getI, x_getR, x_putI, x_putZ, x_putR, x_iald, x_bald, x_lald, x_iast, x_bast, x_last, x_alen, x_acp, x_mmax, x_mmin, x_callV, x_callS, x_iret, x_zret, x_lret, x_aret, x_vret, x_tsw, x_stop, zst1, zst2, zkill, zkl, zsplit, zmask, zent, zentL, List.getElem?_cons_zero, List.getElem?_cons_succ, List.set_cons_zero, List.set_cons_succ, List.set_nil, List.length_cons, List.length_nil, List.replicate, List.nil_append, List.cons_append, List.map_cons, List.map_nil, List.sum_cons, List.sum_nil, Value.category, Option.toList, List.contains_cons, List.contains_nil, true_or, or_true, true_and, Nat.zero_le, Nat.reduceAdd, Nat.reduceLeDiff, Nat.reduceLT, Nat.reduceBEq, Bool.true_or, Bool.or_true, Bool.false_or, Bool.or_false, ↓reduceIte, Bool.false_eq_true, Nat.add_zero, Nat.zero_add, Nat.reduceEqDiff, Nat.reduceSub, g, zd_sI, zR_sI, b2i_0, ne_eq, Nat.reduceEqDiff, not_false_eq_true, not_true_eq_false, true_and, and_true, true_implies, false_implies, implies_true, and_self]
          refine ⟨fun _ => ?_, fun q => absurd (by rw [z_l4]; exact nI_le (by omega) (by omega)) q⟩
          simp only [zI_off _ _ _ (show (81 : Nat) ≠ 56 by decide), e81]
          rw [z_l4, show nI 4 * nI s = nI (4 * s) from pk_mul 4 s, z_l1, z_l2, z_l3, nI_add, nI_add, nI_add, nI_clamp (by omega), nI_clamp (by omega), nI_clamp (by omega), nI_clamp (by omega), b1, b2, c1, d1]
          refine ⟨8, rfl, vp_in_nI (by omega) (by omega), 8, rfl, vp_in_nI (by omega) (by omega), 8, rfl, vp_in_nI (by omega) (by omega), 8, rfl, vp_in_nI (by omega) (by omega), ?_⟩
          generalize hτ : sI (sI (sI (sI τ 56 10 (nI (tD (xT X)))) 56 11 (nI (tS (xT X)))) 56 16 (nI (xW X))) 56 23 (nI (xE X)) = τ'
          have hzd : zd τ' = zd τ := by rw [← hτ]; rfl
          have hzR : zR τ' = zR τ := by rw [← hτ]; rfl
          have hzJ : zJ τ' = zJ τ := by rw [← hτ]; rfl
          have ho : ∀ i : Nat, i ≠ 56 → zI τ' i = zI τ i := fun i hi => by rw [← hτ, zI_off _ _ _ hi, zI_off _ _ _ hi, zI_off _ _ _ hi, zI_off _ _ _ hi]
          have r10 : zI τ' 56 10 = nI (tD (xT X)) := by rw [← hτ, zI_at, if_neg (by decide), zI_at, if_neg (by decide), zI_at, if_neg (by decide), zI_at, if_pos rfl]
          have r11 : zI τ' 56 11 = nI (tS (xT X)) := by rw [← hτ, zI_at, if_neg (by decide), zI_at, if_neg (by decide), zI_at, if_pos rfl]
          have r16 : zI τ' 56 16 = nI (xW X) := by rw [← hτ, zI_at, if_neg (by decide), zI_at, if_pos rfl]
          have r23 : zI τ' 56 23 = nI (xE X) := by rw [← hτ, zI_at, if_pos rfl]
          have r13 : zI τ' 56 13 = zI σ 56 13 := by rw [← hτ, zI_at, if_neg (by decide), zI_at, if_neg (by decide), zI_at, if_neg (by decide), zI_at, if_neg (by decide), i4 56 (by decide)]
          rw [r10]
          have hz : ZF σ τ' 56 82 := ⟨by rw [hzd, i1], fun i hi => ⟨by rw [hzR, i2], by rw [ho i (by omega)]; exact i4 i (by omega), by rw [hzJ, i3]⟩⟩
          refine hQ τ' hz ⟨(hK.1.of i1 i2).of hzd hzR, ⟨r10, r11, fun k hk => ?_, fun k hk => ?_, fun k hk => ?_, fun k i hk hi => ?_⟩, hV.2.1.of r13 (by rw [ho 65 (by decide)]; exact i4 65 (by decide)), ⟨r16, fun k hk => ?_⟩, ⟨r23, fun k hk => ?_⟩, hV.2.2.2.2.1.of (fun i h1 h2 => by rw [ho i (by omega)]; exact i4 i (by omega)), hV.2.2.2.2.2.of (fun i h1 h2 => by rw [ho i (by omega)]; exact i4 i (by omega))⟩
          · have hk : k < tD (xT X) := hk
            rw [ho 61 (by decide), i5, cpR_in0 (by omega)]; exact b3 k hk
          · rw [ho 62 (by decide), i6, cpR_in0 (by omega)]; exact b4 k hk
          · have hk : k < tS (xT X) := hk
            rw [ho 64 (by decide), i8, cpR_in0 (by omega)]; exact b5 k hk
          · have hk : k < tS (xT X) := hk
            have hi : i < tL (xT X) k := hi
            have := (hX.1.2.2.2.2.2.1 k hk).2.1
            rw [ho 63 (by decide), i7, cpR_in0 (by omega)]; exact b6 k i hk hi
          · have hk : k < xW X := hk
            rw [ho 66 (by decide), i9, cpR_in0 (by omega)]; exact c2 k hk
          · have hk : k < xE X := hk
            rw [ho 72 (by decide), i10, cpR_in0 (by omega)]; exact d2 k hk
      have k2 : ∀ b, b ≤ 12 → ∀ τ, AI σ τ s 24 b 0 → WW C 74 [some (.ref 56), some (.int (nI s)), some (.int (nI b))] [] τ := by
        refine fun c hc => zloop (P := fun c => ∀ τ, AI σ τ s 24 c 0 → WW C 74 [some (.ref 56), some (.int (nI s)), some (.int (nI c))] [] τ) 12 (fun c hc ih τ hI => ?_) (fun τ hI => ?_) c hc
        · have ⟨i1, i2, i3, i4, i5, i6, i7, i8, i9, i10⟩ := hI
          have g : ModS τ := hK.1.of i1 i2
          unfold ModS at g
          refine r_X12_again_74 hC hR m_X12_in (by decide) _ _ _ ?_
          simp only [T_X12_again_74, x_psh, x_ild, x_lld, x_ald, x_ist, x_ast, x_lst, x_inc, x_iadd, x_isub, x_imul, x_iand, x_ior, x_ixor, x_ishl, x_ishr, x_iushr, x_idiv, x_irem, x_ladd, x_land, x_lor, x_lshl, x_lshr, x_ineg, x_i2l, x_l2i, x_i2b, x_lcmp, x_dup, x_dup2, x_if_eq, x_if_ne, x_if_lt, x_if_ge, x_if_gt, x_if_le, x_ic_eq, x_ic_ne, x_ic_lt, x_ic_ge, x_ic_gt, x_ic_le, x_getI, x_getR, x_putI, x_putZ, x_putR, x_iald, x_bald, x_lald, x_iast, x_bast, x_last, x_alen, x_acp, x_mmax, x_mmin, x_callV, x_callS, x_iret, x_zret, x_lret, x_aret, x_vret, x_tsw, x_stop, zst1, zst2, zkill, zkl, zsplit, zmask, zent, zentL, List.getElem?_cons_zero, List.getElem?_cons_succ, List.set_cons_zero, List.set_cons_succ, List.set_nil, List.length_cons, List.length_nil, List.replicate, List.nil_append, List.cons_append, List.map_cons, List.map_nil, List.sum_cons, List.sum_nil, Value.category, Option.toList, List.contains_cons, List.contains_nil, true_or, or_true, true_and, Nat.zero_le, Nat.reduceAdd, Nat.reduceLeDiff, Nat.reduceLT, Nat.reduceBEq, Bool.true_or, Bool.or_true, Bool.false_or, Bool.or_false, ↓reduceIte, Bool.false_eq_true, Nat.add_zero, Nat.zero_add, Nat.reduceEqDiff, Nat.reduceSub, g, zd_sI, zR_sI, b2i_0, ne_eq, Nat.reduceEqDiff, not_false_eq_true, not_true_eq_false, true_and, and_true, true_implies, false_implies, implies_true, and_self]
          refine ⟨fun q => absurd q (by rw [z_l12]; exact nI_ge (by omega) (by omega)), fun _ => ?_⟩
          rw [z_l12, m12, nI_clamp (by omega), nI_clamp (by omega), nI_i3]
          refine ⟨24, rfl, vp_in_nI (by omega) (by omega), 12, rfl, vp_in_nI (by omega) (by omega), 24, rfl, vp_in_nI (by omega) (by omega), 12, rfl, vp_in_nI (by omega) (by omega), 24, rfl, vp_in_nI (by omega) (by omega), 12, rfl, vp_in_nI (by omega) (by omega), ?_⟩
          refine ih _ ⟨i1, i2, i3, fun i hi => by rw [zI_off _ _ _ (by omega), zI_off _ _ _ (by omega), zI_off _ _ _ (by omega)]; exact i4 i hi, ?_, ?_, ?_, ?_, ?_, ?_⟩
          all_goals first
            | (rw [zI_off _ _ _ (by decide), zI_off _ _ _ (by decide), zI_off _ _ _ (by decide)]; assumption)
            | (rw [zI_off _ _ _ (by decide), zI_off _ _ _ (by decide), sI_row, i5, i4 75 (by decide)]; exact cpR_s0 (fun k => zI σ 75 (12 * s + k)) _ _)
            | (rw [zI_off _ _ _ (by decide), sI_row, zI_off _ _ _ (by decide), zI_off _ _ _ (by decide), i6, i4 76 (by decide)]; exact cpR_s0 (fun k => zI σ 76 (12 * s + k)) _ _)
            | (rw [sI_row, zI_off _ _ _ (by decide), zI_off _ _ _ (by decide), zI_off _ _ _ (by decide), zI_off _ _ _ (by decide), i10, i4 80 (by decide)]; exact cpR_s0 (fun k => zI σ 80 (12 * s + k)) _ _)
        · refine r_X12_again_74 hC hR m_X12_in (by decide) _ _ _ ?_
          simp only [T_X12_again_74, x_psh, x_ild, x_lld, x_ald, x_ist, x_ast, x_lst, x_inc, x_iadd, x_isub, x_imul, x_iand, x_ior, x_ixor, x_ishl, x_ishr, x_iushr, x_idiv, x_irem, x_ladd, x_land, x_lor, x_lshl, x_lshr, x_ineg, x_i2l, x_l2i, x_i2b, x_lcmp, x_dup, x_dup2, x_if_eq, x_if_ne, x_if_lt, x_if_ge, x_if_gt, x_if_le, x_ic_eq, x_ic_ne, x_ic_lt, x_ic_ge, x_ic_gt, x_ic_le, x_getI, x_getR, x_putI, x_putZ, x_putR, x_iald, x_bald, x_lald, x_iast, x_bast, x_last, x_alen, x_acp, x_mmax, x_mmin, x_callV, x_callS, x_iret, x_zret, x_lret, x_aret, x_vret, x_tsw, x_stop, zst1, zst2, zkill, zkl, zsplit, zmask, zent, zentL, List.getElem?_cons_zero, List.getElem?_cons_succ, List.set_cons_zero, List.set_cons_succ, List.set_nil, List.length_cons, List.length_nil, List.replicate, List.nil_append, List.cons_append, List.map_cons, List.map_nil, List.sum_cons, List.sum_nil, Value.category, Option.toList, List.contains_cons, List.contains_nil, true_or, or_true, true_and, Nat.zero_le, Nat.reduceAdd, Nat.reduceLeDiff, Nat.reduceLT, Nat.reduceBEq, Bool.true_or, Bool.or_true, Bool.false_or, Bool.or_false, ↓reduceIte, Bool.false_eq_true, Nat.add_zero, Nat.zero_add, Nat.reduceEqDiff, Nat.reduceSub, b2i_0, ne_eq, Nat.reduceEqDiff, not_false_eq_true, not_true_eq_false, true_and, and_true, true_implies, false_implies, implies_true, and_self]
          refine ⟨fun _ => ?_, fun q => absurd (by rw [z_l12]; exact nI_le (by omega) (by omega)) q⟩
          exact k3 0 (by omega) τ hI
      have k1 : ∀ a, a ≤ 24 → ∀ τ, AI σ τ s a 0 0 → WW C 26 [some (.ref 56), some (.int (nI s)), some (.int (nI a))] [] τ := by
        refine fun c hc => zloop (P := fun c => ∀ τ, AI σ τ s c 0 0 → WW C 26 [some (.ref 56), some (.int (nI s)), some (.int (nI c))] [] τ) 24 (fun c hc ih τ hI => ?_) (fun τ hI => ?_) c hc
        · have ⟨i1, i2, i3, i4, i5, i6, i7, i8, i9, i10⟩ := hI
          have g : ModS τ := hK.1.of i1 i2
          unfold ModS at g
          refine r_X12_again_26 hC hR m_X12_in (by decide) _ _ _ ?_
          simp only [T_X12_again_26, x_psh, x_ild, x_lld, x_ald, x_ist, x_ast, x_lst, x_inc, x_iadd, x_isub, x_imul, x_iand, x_ior, x_ixor, x_ishl, x_ishr, x_iushr, x_idiv, x_irem, x_ladd, x_land, x_lor, x_lshl, x_lshr, x_ineg, x_i2l, x_l2i, x_i2b, x_lcmp, x_dup, x_dup2, x_if_eq, x_if_ne, x_if_lt, x_if_ge, x_if_gt, x_if_le, x_ic_eq, x_ic_ne, x_ic_lt, x_ic_ge, x_ic_gt, x_ic_le, x_getI, x_getR, x_putI, x_putZ, x_putR, x_iald, x_bald, x_lald, x_iast, x_bast, x_last, x_alen, x_acp, x_mmax, x_mmin, x_callV, x_callS, x_iret, x_zret, x_lret, x_aret, x_vret, x_tsw, x_stop, zst1, zst2, zkill, zkl, zsplit, zmask, zent, zentL, List.getElem?_cons_zero, List.getElem?_cons_succ, List.set_cons_zero, List.set_cons_succ, List.set_nil, List.length_cons, List.length_nil, List.replicate, List.nil_append, List.cons_append, List.map_cons, List.map_nil, List.sum_cons, List.sum_nil, Value.category, Option.toList, List.contains_cons, List.contains_nil, true_or, or_true, true_and, Nat.zero_le, Nat.reduceAdd, Nat.reduceLeDiff, Nat.reduceLT, Nat.reduceBEq, Bool.true_or, Bool.or_true, Bool.false_or, Bool.or_false, ↓reduceIte, Bool.false_eq_true, Nat.add_zero, Nat.zero_add, Nat.reduceEqDiff, Nat.reduceSub, g, zd_sI, zR_sI, b2i_0, ne_eq, Nat.reduceEqDiff, not_false_eq_true, not_true_eq_false, true_and, and_true, true_implies, false_implies, implies_true, and_self]
          refine ⟨fun q => absurd q (by rw [z_l24]; exact nI_ge (by omega) (by omega)), fun _ => ?_⟩
          rw [z_l24, m24, nI_clamp (by omega), nI_clamp (by omega), nI_i3]
          refine ⟨48, rfl, vp_in_nI (by omega) (by omega), 24, rfl, vp_in_nI (by omega) (by omega), 48, rfl, vp_in_nI (by omega) (by omega), 24, rfl, vp_in_nI (by omega) (by omega), ?_⟩
          refine ih _ ⟨i1, i2, i3, fun i hi => by rw [zI_off _ _ _ (by omega), zI_off _ _ _ (by omega)]; exact i4 i hi, ?_, ?_, ?_, ?_, ?_, ?_⟩
          all_goals first
            | (rw [zI_off _ _ _ (by decide), zI_off _ _ _ (by decide)]; assumption)
            | (rw [zI_off _ _ _ (by decide), sI_row, i7, i4 77 (by decide)]; exact cpR_s0 (fun k => zI σ 77 (24 * s + k)) _ _)
            | (rw [sI_row, zI_off _ _ _ (by decide), zI_off _ _ _ (by decide), i9, i4 79 (by decide)]; exact cpR_s0 (fun k => zI σ 79 (24 * s + k)) _ _)
        · refine r_X12_again_26 hC hR m_X12_in (by decide) _ _ _ ?_
          simp only [T_X12_again_26, x_psh, x_ild, x_lld, x_ald, x_ist, x_ast, x_lst, x_inc, x_iadd, x_isub, x_imul, x_iand, x_ior, x_ixor, x_ishl, x_ishr, x_iushr, x_idiv, x_irem, x_ladd, x_land, x_lor, x_lshl, x_lshr, x_ineg, x_i2l, x_l2i, x_i2b, x_lcmp, x_dup, x_dup2, x_if_eq, x_if_ne, x_if_lt, x_if_ge, x_if_gt, x_if_le, x_ic_eq, x_ic_ne, x_ic_lt, x_ic_ge, x_ic_gt, x_ic_le, x_getI, x_getR, x_putI, x_putZ, x_putR, x_iald, x_bald, x_lald, x_iast, x_bast, x_last, x_alen, x_acp, x_mmax, x_mmin, x_callV, x_callS, x_iret, x_zret, x_lret, x_aret, x_vret, x_tsw, x_stop, zst1, zst2, zkill, zkl, zsplit, zmask, zent, zentL, List.getElem?_cons_zero, List.getElem?_cons_succ, List.set_cons_zero, List.set_cons_succ, List.set_nil, List.length_cons, List.length_nil, List.replicate, List.nil_append, List.cons_append, List.map_cons, List.map_nil, List.sum_cons, List.sum_nil, Value.category, Option.toList, List.contains_cons, List.contains_nil, true_or, or_true, true_and, Nat.zero_le, Nat.reduceAdd, Nat.reduceLeDiff, Nat.reduceLT, Nat.reduceBEq, Bool.true_or, Bool.or_true, Bool.false_or, Bool.or_false, ↓reduceIte, Bool.false_eq_true, Nat.add_zero, Nat.zero_add, Nat.reduceEqDiff, Nat.reduceSub, b2i_0, ne_eq, Nat.reduceEqDiff, not_false_eq_true, not_true_eq_false, true_and, and_true, true_implies, false_implies, implies_true, and_self]
          refine ⟨fun _ => ?_, fun q => absurd (by rw [z_l24]; exact nI_le (by omega) (by omega)) q⟩
          exact k2 0 (by omega) τ hI
      refine k1 0 (by omega) _ ⟨rfl, rfl, rfl, fun i hi => rfl, ?_, ?_, ?_, ?_, ?_, ?_⟩
      all_goals (rw [cpR_0])
  · simp only [h1] at hQ
    simp only [h2, b2i_0, ne_eq, Nat.reduceEqDiff, not_false_eq_true, not_true_eq_false, true_and, and_true, true_implies, false_implies, implies_true, and_self]
    exact hQ σ (ZF.refl _ _ _) hK
