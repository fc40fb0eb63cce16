/-- a row copied behind an offset, so far -/
def cpR (f g : Nat → Int32) (o k : Nat) : Nat → Int32 := fun j => if o ≤ j ∧ j < o + k then f (j - o) else g j
theorem cpR_0 (f g : Nat → Int32) (o : Nat) : cpR f g o 0 = g := by
  funext j
  unfold cpR
  rw [if_neg (by omega)]
theorem cpR_s (f g : Nat → Int32) (o k : Nat) : upd (cpR f g o k) (o + k) (f k) = cpR f g o (k + 1) := by
  funext j
  by_cases h : j = o + k
  · subst h
    rw [pk_us]
    unfold cpR
    rw [if_pos (by omega), show o + k - o = k by omega]
  · rw [pk_un h]
    unfold cpR
    by_cases h2 : o ≤ j ∧ j < o + k
    · rw [if_pos h2, if_pos (by omega)]
    · rw [if_neg h2, if_neg (by omega)]
theorem cpR_in {f g : Nat → Int32} {o k j : Nat} (h : j < k) : cpR f g o k (o + j) = f j := by
  unfold cpR
  rw [if_pos (by omega), show o + j - o = j by omega]
theorem cpR_out {f g : Nat → Int32} {o k j : Nat} (h : j < o ∨ o + k ≤ j) : cpR f g o k j = g j := by
  unfold cpR
  rw [if_neg (by omega)]
def KI (σ τ : ZS) (s a b c : Nat) : Prop := zd τ = zd σ ∧ zR τ = zR σ ∧ zJ τ = zJ σ ∧ (∀ i : Nat, i < 74 ∨ 81 ≤ i → zI τ i = zI σ i) ∧ zI τ 74 = upd (zI σ 74) s 1 ∧ zI τ 75 = cpR (zI σ 61) (zI σ 75) (12 * s) b ∧ zI τ 76 = cpR (zI σ 62) (zI σ 76) (12 * s) b ∧ zI τ 77 = cpR (zI σ 63) (zI σ 77) (24 * s) a ∧ zI τ 78 = cpR (zI σ 64) (zI σ 78) (4 * s) c ∧ zI τ 79 = cpR (zI σ 66) (zI σ 79) (24 * s) a ∧ zI τ 80 = cpR (zI σ 72) (zI σ 80) (12 * s) b
theorem sI_row (σ : ZS) (i j : Nat) (v : Int32) : zI (sI σ i j v) i = upd (zI σ i) j v := by rw [zI_sI, if_pos rfl]
theorem MKV.keep {σ τ : ZS} {s s' : Nat} {o : Option SD} (h : MKV σ s' o) (hs : s < 2) (hs' : s' < 2) (hne : s' ≠ s) (hok : ∀ X, o = some X → SdOk X) (hI : KI σ τ s 24 12 4) {τ' : ZS} (ho : ∀ i : Nat, i ≠ 81 → zI τ' i = zI τ i) (h81 : ∀ j, (j < 4 * s ∨ 4 * s + 4 ≤ j) → zI τ' 81 j = zI τ 81 j) : MKV τ' s' o := by
  have ⟨i1, i2, i3, i4, i5, i6, i7, i8, i9, i10, i11⟩ := hI
  cases o with
  | none =>
    show zI τ' 74 s' = 0
    rw [ho 74 (by decide), i5, pk_un hne]
    exact h
  | some X =>
    have hX := hok X rfl
    have hD := hX.1.2.1
    have hS := hX.1.2.2.1
    have hW := hX.2.1
    have hE := hX.2.2.1
    obtain ⟨a1, ⟨b1, b2, b3, b4, b5, b6⟩, ⟨c1, c2⟩, ⟨d1, d2⟩⟩ := h
    have e81 : ∀ j, (j < 4 * s ∨ 4 * s + 4 ≤ j) → zI τ' 81 j = zI σ 81 j := fun j hj => by rw [h81 j hj, i4 81 (by decide)]
    refine ⟨?_, ⟨?_, ?_, fun k hk => ?_, fun k hk => ?_, fun k hk => ?_, fun k i hk hi => ?_⟩, ⟨?_, fun k hk => ?_⟩, ⟨?_, fun k hk => ?_⟩⟩
    · rw [ho 74 (by decide), i5, pk_un hne]; exact a1
    · rw [e81 _ (by omega)]; exact b1
    · rw [e81 _ (by omega)]; exact b2
    · show zI τ' 75 (12 * s' + k) = _
      rw [ho 75 (by decide), i6, cpR_out (by omega)]; exact b3 k hk
    · show zI τ' 76 (12 * s' + k) = _
      rw [ho 76 (by decide), i7, cpR_out (by omega)]; exact b4 k hk
    · show zI τ' 78 (4 * s' + k) = _
      rw [ho 78 (by decide), i9, cpR_out (by omega)]; exact b5 k hk
    · have := (hX.1.2.2.2.2.2.1 k hk).2.1
      show zI τ' 77 (24 * s' + (6 * k + i)) = _
      rw [ho 77 (by decide), i8, cpR_out (by omega)]; exact b6 k i hk hi
    · rw [e81 _ (by omega)]; exact c1
    · show zI τ' 79 (24 * s' + k) = _
      rw [ho 79 (by decide), i10, cpR_out (by omega)]; exact c2 k hk
    · rw [e81 _ (by omega)]; exact d1
    · show zI τ' 80 (12 * s' + k) = _
      rw [ho 80 (by decide), i11, cpR_out (by omega)]; exact d2 k hk
def w_X12_keep : WPt := fun args σ Q => match args with
  | [.ref x, .int d] => x = 56 ∧ PubM σ (q_keep · d) Q
  | _ => False
set_option maxHeartbeats 4000000 in
theorem m_X12_keep : Meets yX12_keep cX12_keep 3 (some .int) 2 w_X12_keep := by
  refine Meets.mk (by decide) fun args σ Φ h => ?_
  unfold w_X12_keep at h
  split at h
  rotate_left
  · exact h.elim
  rename_i x d
  obtain ⟨x, rfl⟩ : ∃ q : Nat, q = x := ⟨x, rfl⟩
  obtain ⟨hx, A, hK, hA, hQ⟩ := h
  subst hx
  refine ⟨Nat.le_of_ble_eq_true rfl, fun C hC hR => ?_⟩
  have hf := mod_f hK
  have hN := hA.1
  have hD1 := hA.t.1
  have hD := hA.t.2.1
  have hS := hA.t.2.2.1
  have hW := hA.2.2.1.2.1
  have hE := hA.2.2.1.2.2.1
  have hp := z_pow31 hD
  have hV := hK.2
  refine r_X12_keep_0 hC hR m_X12_in (by decide) _ _ _ ?_
  simp only [T_X12_keep_0, x_psh, x_ild, x_lld, x_ald, x_ist, x_ast, x_lst, x_inc, x_iadd, x_isub, x_imul, x_iand, x_ior, x_ixor, x_ishl, x_ishr, x_iushr, x_idiv, x_irem, x_ladd, x_land, x_lor, x_lshl, x_lshr, x_ineg, x_i2l, x_l2i, x_i2b, x_lcmp, x_dup, x_dup2, x_if_eq, x_if_ne, x_if_lt, x_if_ge, x_if_gt, x_if_le, x_ic_eq, x_ic_ne, x_ic_lt, x_ic_ge, x_ic_gt, x_ic_le, x_getI, x_getR, x_putI, x_putZ, x_putR, x_iald, x_bald, x_lald, x_iast, x_bast, x_last, x_alen, x_acp, x_mmax, x_mmin, x_callV, x_callS, x_iret, x_zret, x_lret, x_aret, x_vret, x_tsw, x_stop, zst1, zst2, zkill, zkl, zsplit, zmask, zent, zentL, List.getElem?_cons_zero, List.getElem?_cons_succ, List.set_cons_zero, List.set_cons_succ, List.set_nil, List.length_cons, List.length_nil, List.replicate, List.nil_append, List.cons_append, List.map_cons, List.map_nil, List.sum_cons, List.sum_nil, Value.category, Option.toList, List.contains_cons, List.contains_nil, true_or, or_true, true_and, Nat.zero_le, Nat.reduceAdd, Nat.reduceLeDiff, Nat.reduceLT, Nat.reduceBEq, Bool.true_or, Bool.or_true, Bool.false_or, Bool.or_false, ↓reduceIte, Bool.false_eq_true, Nat.add_zero, Nat.zero_add, Nat.reduceEqDiff, Nat.reduceSub, hf, w_X12_in, b2i_0, ne_eq, Nat.reduceEqDiff, not_false_eq_true, not_true_eq_false, true_and, and_true, true_implies, false_implies, implies_true, and_self]
  simp only [in_1, b2i_0, ne_eq, Nat.reduceEqDiff, not_false_eq_true, not_true_eq_false, true_and, and_true, true_implies, false_implies, implies_true, and_self]
  unfold q_keep at hQ
  rcases ix_cs d (show 2 < 2 ^ 31 by omega) with ⟨s, hs, rfl, h1, h2⟩ | ⟨h1, h2⟩
  · simp only [h1] at hQ
    simp only [h2, b2i_0, ne_eq, Nat.reduceEqDiff, not_false_eq_true, not_true_eq_false, true_and, and_true, true_implies, false_implies, implies_true, and_self]
    refine ⟨2, Or.inr ⟨rfl, by decide⟩, vp_in_nI (by omega) (by omega), ?_⟩
    rw [nI_clamp (by omega)]
    have cs := nI_clamp (show s < 2 ^ 31 by omega)
    have m24 : ∀ k, nI 24 * nI s + nI k = nI (24 * s + k) := fun k => by rw [pk_mul, nI_add]
    have m12 : ∀ k, nI 12 * nI s + nI k = nI (12 * s + k) := fun k => by rw [pk_mul, nI_add]
    have m4 : ∀ k, nI 4 * nI s + nI k = nI (4 * s + k) := fun k => by rw [pk_mul, nI_add]
    have k3 : ∀ c, c ≤ 4 → ∀ τ, KI σ τ s 24 12 c → WW C 134 [some (.ref 56), some (.int (nI s)), some (.int (nI c))] [] τ := by
      refine fun c hc => zloop (P := fun c => ∀ τ, KI σ τ s 24 12 c → WW C 134 [some (.ref 56), some (.int (nI s)), some (.int (nI c))] [] τ) 4 (fun c hc ih τ hI => ?_) (fun τ hI => ?_) c hc
      · have ⟨i1, i2, i3, i4, i5, i6, i7, i8, i9, i10, i11⟩ := hI
        have g : ModS τ := hK.1.of i1 i2
        unfold ModS at g
        refine r_X12_keep_134 hC hR m_X12_in (by decide) _ _ _ ?_
        simp only [T_X12_keep_134, x_psh, x_ild, x_lld, x_ald, x_ist, x_ast, x_lst, x_inc, x_iadd, x_isub, x_imul, x_iand, x_ior, x_ixor, x_ishl, x_ishr, x_iushr, x_idiv, x_irem, x_ladd, x_land, x_lor, x_lshl, x_lshr, x_ineg, x_i2l, x_l2i, x_i2b, x_lcmp, x_dup, x_dup2, x_if_eq, x_if_ne, x_if_lt, x_if_ge, x_if_gt, x_if_le, x_ic_eq, x_ic_ne, x_ic_lt, x_ic_ge, x_ic_gt, x_ic_le, x_getI, x_getR, x_putI, x_putZ, x_putR, x_iald, x_bald, x_lald, x_iast, x_bast, x_last, x_alen, x_acp, x_mmax, x_mmin, x_callV, x_callS, x_iret, x_zret, x_lret, x_aret, x_vret, x_tsw, x_stop, zst1, zst2, zkill, zkl, zsplit, zmask, zent, zentL, List.getElem?_cons_zero, List.getElem?_cons_succ, List.set_cons_zero, List.set_cons_succ, List.set_nil, List.length_cons, List.length_nil, List.replicate, List.nil_append, List.cons_append, List.map_cons, List.map_nil, List.sum_cons, List.sum_nil, Value.category, Option.toList, List.contains_cons, List.contains_nil, true_or, or_true, true_and, Nat.zero_le, Nat.reduceAdd, Nat.reduceLeDiff, Nat.reduceLT, Nat.reduceBEq, Bool.true_or, Bool.or_true, Bool.false_or, Bool.or_false, ↓reduceIte, Bool.false_eq_true, Nat.add_zero, Nat.zero_add, Nat.reduceEqDiff, Nat.reduceSub, g, b2i_0, ne_eq, Nat.reduceEqDiff, not_false_eq_true, not_true_eq_false, true_and, and_true, true_implies, false_implies, implies_true, and_self]
        refine ⟨fun q => absurd q (by rw [z_l4]; exact nI_ge (by omega) (by omega)), fun _ => ⟨4, rfl, vp_in_nI (by omega) (by omega), 8, rfl, ?_, ?_⟩⟩
        · rw [z_l4, m4]; exact vp_in_nI (by omega) (by omega)
        rw [z_l4, m4, nI_clamp (by omega), nI_clamp (by omega), nI_i3]
        refine ih _ ⟨i1, i2, i3, fun i hi => by rw [zI_off _ _ _ (by omega)]; exact i4 i hi, ?_, ?_, ?_, ?_, ?_, ?_, ?_⟩
        all_goals first
          | (rw [zI_off _ _ _ (by decide)]; assumption)
          | (rw [sI_row, i9, i4 64 (by decide), cpR_s])
      · have ⟨i1, i2, i3, i4, i5, i6, i7, i8, i9, i10, i11⟩ := hI
        have g : ModS τ := hK.1.of i1 i2
        unfold ModS at g
        have e56 := i4 56 (by decide)
        refine r_X12_keep_134 hC hR m_X12_in (by decide) _ _ _ ?_
        simp only [T_X12_keep_134, x_psh, x_ild, x_lld, x_ald, x_ist, x_ast, x_lst, x_inc, x_iadd, x_isub, x_imul, x_iand, x_ior, x_ixor, x_ishl, x_ishr, x_iushr, x_idiv, x_irem, x_ladd, x_land, x_lor, x_lshl, x_lshr, x_ineg, x_i2l, x_l2i, x_i2b, x_lcmp, x_dup, x_dup2, x_if_eq, x_if_ne, x_if_lt, x_if_ge, x_if_gt, x_if_le, x_ic_eq, x_ic_ne, x_ic_lt, x_ic_ge, x_ic_gt, x_ic_le, x_getI, x_getR, x_putI, x_putZ, x_putR, x_iald, x_bald, x_lald, x_iast, x_bast, x_last, x_alen, x_acp, x_mmax, x_mmin, x_callV, x_callS, x_iret, x_zret, x_lret, x_aret, x_vret, x_tsw, x_stop, zst1, zst2, zkill, zkl, zsplit, zmask, zent, zentL, List.getElem?_cons_zero, List.getElem?_cons_succ, List.set_cons_zero, List.set_cons_succ, List.set_nil, List.length_cons, List.length_nil, List.replicate, List.nil_append, List.cons_append, List.map_cons, List.map_nil, List.sum_cons, List.sum_nil, Value.category, Option.toList, List.contains_cons, List.contains_nil, true_or, or_true, true_and, Nat.zero_le, Nat.reduceAdd, Nat.reduceLeDiff, Nat.reduceLT, Nat.reduceBEq, Bool.true_or, Bool.or_true, Bool.false_or, Bool.or_false, ↓reduceIte, Bool.false_eq_true, Nat.add_zero, Nat.zero_add, Nat.reduceEqDiff, Nat.reduceSub, g, zd_sI, zR_sI, e56, hf, b2i_0, ne_eq, Nat.reduceEqDiff, not_false_eq_true, not_true_eq_false, true_and, and_true, true_implies, false_implies, implies_true, and_self]
        refine ⟨fun _ => ?_, fun q => absurd (by rw [z_l4]; exact nI_le (by omega) (by omega)) q⟩
        simp only [zI_off _ _ _ (show (56 : Nat) ≠ 81 by decide), e56, hf]
        rw [z_l4, show nI 4 * nI s = nI (4 * s) from pk_mul 4 s, z_l1, z_l2, z_l3, nI_add, nI_add, nI_add, nI_clamp (by omega), nI_clamp (by omega), nI_clamp (by omega), nI_clamp (by omega)]
        refine ⟨8, rfl, vp_in_nI (by omega) (by omega), 8, rfl, vp_in_nI (by omega) (by omega), 8, rfl, vp_in_nI (by omega) (by omega), 8, rfl, vp_in_nI (by omega) (by omega), ?_⟩
        have c81 := i4 81 (by decide)
        generalize hτ : sI (sI (sI (sI τ 81 (4 * s) (nI (tD (aT A)))) 81 (4 * s + 1) (nI (tS (aT A)))) 81 (4 * s + 2) (nI (xW (aX A)))) 81 (4 * s + 3) (nI (xE (aX A))) = τ'
        have hzd : zd τ' = zd τ := by rw [← hτ]; rfl
        have hzR : zR τ' = zR τ := by rw [← hτ]; rfl
        have hzJ : zJ τ' = zJ τ := by rw [← hτ]; rfl
        have ho : ∀ i : Nat, i ≠ 81 → zI τ' i = zI τ i := fun i hi => by rw [← hτ, zI_off _ _ _ hi, zI_off _ _ _ hi, zI_off _ _ _ hi, zI_off _ _ _ hi]
        have h81 : ∀ j, (j < 4 * s ∨ 4 * s + 4 ≤ j) → zI τ' 81 j = zI τ 81 j := fun j hj => by rw [← hτ, zI_at, if_neg (by omega), zI_at, if_neg (by omega), zI_at, if_neg (by omega), zI_at, if_neg (by omega)]
        have r0 : zI τ' 81 (4 * s) = nI (tD (aT A)) := by rw [← hτ, zI_at, if_neg (by omega), zI_at, if_neg (by omega), zI_at, if_neg (by omega), zI_at, if_pos rfl]
        have r1 : zI τ' 81 (4 * s + 1) = nI (tS (aT A)) := by rw [← hτ, zI_at, if_neg (by omega), zI_at, if_neg (by omega), zI_at, if_pos rfl]
        have r2 : zI τ' 81 (4 * s + 2) = nI (xW (aX A)) := by rw [← hτ, zI_at, if_neg (by omega), zI_at, if_pos rfl]
        have r3 : zI τ' 81 (4 * s + 3) = nI (xE (aX A)) := by rw [← hτ, zI_at, if_pos rfl]
        have own : MKV τ' s (some (aX A)) := by
          refine ⟨?_, ⟨r0, r1, fun k hk => ?_, fun k hk => ?_, fun k hk => ?_, fun k i hk hi => ?_⟩, ⟨r2, fun k hk => ?_⟩, ⟨r3, fun k hk => ?_⟩⟩
          · rw [ho 74 (by decide), i5, pk_us]
          · show zI τ' 75 (12 * s + k) = _
            have hk : k < tD (aT A) := hk
            rw [ho 75 (by decide), i6, cpR_in (by omega)]; exact hV.1.2.2.1 k hk
          · show zI τ' 76 (12 * s + k) = _
            rw [ho 76 (by decide), i7, cpR_in (by omega)]; exact hV.1.2.2.2.1 k hk
          · show zI τ' 78 (4 * s + k) = _
            have hk : k < tS (aT A) := hk
            rw [ho 78 (by decide), i9, cpR_in (by omega)]; exact hV.1.2.2.2.2.1 k hk
          · have hk : k < tS (aT A) := hk
            have hi : i < tL (aT A) k := hi
            have := (hA.l hk).2
            show zI τ' 77 (24 * s + (6 * k + i)) = _
            rw [ho 77 (by decide), i8, cpR_in (by omega)]; exact hV.1.2.2.2.2.2 k i hk hi
          · show zI τ' 79 (24 * s + k) = _
            rw [ho 79 (by decide), i10, cpR_in (by omega)]; exact hV.2.2.1.2 k hk
          · show zI τ' 80 (12 * s + k) = _
            rw [ho 80 (by decide), i11, cpR_in (by omega)]; exact hV.2.2.2.1.2 k hk
        have hz : ZF σ τ' 56 82 := ⟨by rw [hzd, i1], fun i hi => ⟨by rw [hzR, i2], by rw [ho i (by omega)]; exact i4 i (by omega), by rw [hzJ, i3]⟩⟩
        have hsame : ∀ i : Nat, i < 74 → zI τ' i = zI σ i := fun i hi => by rw [ho i (by omega)]; exact i4 i (by omega)
        have base : ∀ o1 o2, MKV τ' 0 o1 → MKV τ' 1 o2 → ModR τ' (A.1, aX A, o1, o2) := fun o1 o2 m1 m2 => by
          refine ⟨(hK.1.of i1 i2).of hzd hzR, hV.1.of ?_ ?_ ?_, hV.2.1.of ?_ ?_, hV.2.2.1.of ?_ ?_, hV.2.2.2.1.of ?_ ?_, m1, m2⟩
          all_goals first
            | (rw [hsame 56 (by decide)]; done)
            | (exact hsame _ (by decide))
            | (intro i h1 h2; exact hsame i (by omega))
        by_cases s0 : s = 0
        · simp only [if_pos s0] at hQ
          subst s0
          exact hQ τ' hz (base _ _ own (hV.2.2.2.2.2.keep (s := 0) (by omega) (by omega) (by omega) hA.2.2.2.2 hI ho h81))
        · simp only [if_neg s0] at hQ
          have s1 : s = 1 := by omega
          subst s1
          exact hQ τ' hz (base _ _ (hV.2.2.2.2.1.keep (s := 1) (by omega) (by omega) (by omega) hA.2.2.2.1 hI ho h81) own)
    have k2 : ∀ b, b ≤ 12 → ∀ τ, KI σ τ s 24 b 0 → WW C 69 [some (.ref 56), some (.int (nI s)), some (.int (nI b))] [] τ := by
      refine fun c hc => zloop (P := fun c => ∀ τ, KI σ τ s 24 c 0 → WW C 69 [some (.ref 56), some (.int (nI s)), some (.int (nI c))] [] τ) 12 (fun c hc ih τ hI => ?_) (fun τ hI => ?_) c hc
      · have ⟨i1, i2, i3, i4, i5, i6, i7, i8, i9, i10, i11⟩ := hI
        have g : ModS τ := hK.1.of i1 i2
        unfold ModS at g
        refine r_X12_keep_69 hC hR m_X12_in (by decide) _ _ _ ?_
        simp only [T_X12_keep_69, x_psh, x_ild, x_lld, x_ald, x_ist, x_ast, x_lst, x_inc, x_iadd, x_isub, x_imul, x_iand, x_ior, x_ixor, x_ishl, x_ishr, x_iushr, x_idiv, x_irem, x_ladd, x_land, x_lor, x_lshl, x_lshr, x_ineg, x_i2l, x_l2i, x_i2b, x_lcmp, x_dup, x_dup2, x_if_eq, x_if_ne, x_if_lt, x_if_ge, x_if_gt, x_if_le, x_ic_eq, x_ic_ne, x_ic_lt, x_ic_ge, x_ic_gt, x_ic_le, x_getI, x_getR, x_putI, x_putZ, x_putR, x_iald, x_bald, x_lald, x_iast, x_bast, x_last, x_alen, x_acp, x_mmax, x_mmin, x_callV, x_callS, x_iret, x_zret, x_lret, x_aret, x_vret, x_tsw, x_stop, zst1, zst2, zkill, zkl, zsplit, zmask, zent, zentL, List.getElem?_cons_zero, List.getElem?_cons_succ, List.set_cons_zero, List.set_cons_succ, List.set_nil, List.length_cons, List.length_nil, List.replicate, List.nil_append, List.cons_append, List.map_cons, List.map_nil, List.sum_cons, List.sum_nil, Value.category, Option.toList, List.contains_cons, List.contains_nil, true_or, or_true, true_and, Nat.zero_le, Nat.reduceAdd, Nat.reduceLeDiff, Nat.reduceLT, Nat.reduceBEq, Bool.true_or, Bool.or_true, Bool.false_or, Bool.or_false, ↓reduceIte, Bool.false_eq_true, Nat.add_zero, Nat.zero_add, Nat.reduceEqDiff, Nat.reduceSub, g, zd_sI, zR_sI, b2i_0, ne_eq, Nat.reduceEqDiff, not_false_eq_true, not_true_eq_false, true_and, and_true, true_implies, false_implies, implies_true, and_self]
        refine ⟨fun q => absurd q (by rw [z_l12]; exact nI_ge (by omega) (by omega)), fun _ => ?_⟩
        rw [z_l12, m12, nI_clamp (by omega), nI_clamp (by omega), nI_i3]
        refine ⟨12, rfl, vp_in_nI (by omega) (by omega), 24, rfl, vp_in_nI (by omega) (by omega), 12, rfl, vp_in_nI (by omega) (by omega), 24, rfl, vp_in_nI (by omega) (by omega), 12, rfl, vp_in_nI (by omega) (by omega), 24, rfl, vp_in_nI (by omega) (by omega), ?_⟩
        refine ih _ ⟨i1, i2, i3, fun i hi => by rw [zI_off _ _ _ (by omega), zI_off _ _ _ (by omega), zI_off _ _ _ (by omega)]; exact i4 i hi, ?_, ?_, ?_, ?_, ?_, ?_, ?_⟩
        all_goals first
          | (rw [zI_off _ _ _ (by decide), zI_off _ _ _ (by decide), zI_off _ _ _ (by decide)]; assumption)
          | (rw [zI_off _ _ _ (by decide), zI_off _ _ _ (by decide), sI_row, i6, i4 61 (by decide), cpR_s])
          | (rw [zI_off _ _ _ (by decide), sI_row, zI_off _ _ _ (by decide), zI_off _ _ _ (by decide), i7, i4 62 (by decide), cpR_s])
          | (rw [sI_row, zI_off _ _ _ (by decide), zI_off _ _ _ (by decide), zI_off _ _ _ (by decide), zI_off _ _ _ (by decide), i11, i4 72 (by decide), cpR_s])
      · refine r_X12_keep_69 hC hR m_X12_in (by decide) _ _ _ ?_
        simp only [T_X12_keep_69, x_psh, x_ild, x_lld, x_ald, x_ist, x_ast, x_lst, x_inc, x_iadd, x_isub, x_imul, x_iand, x_ior, x_ixor, x_ishl, x_ishr, x_iushr, x_idiv, x_irem, x_ladd, x_land, x_lor, x_lshl, x_lshr, x_ineg, x_i2l, x_l2i, x_i2b, x_lcmp, x_dup, x_dup2, x_if_eq, x_if_ne, x_if_lt, x_if_ge, x_if_gt, x_if_le, x_ic_eq, x_ic_ne, x_ic_lt, x_ic_ge, x_ic_gt, x_ic_le, x_getI, x_getR, x_putI, x_putZ, x_putR, x_iald, x_bald, x_lald, x_iast, x_bast, x_last, x_alen, x_acp, x_mmax, x_mmin, x_callV, x_callS, x_iret, x_zret, x_lret, x_aret, x_vret, x_tsw, x_stop, zst1, zst2, zkill, zkl, zsplit, zmask, zent, zentL, List.getElem?_cons_zero, List.getElem?_cons_succ, List.set_cons_zero, List.set_cons_succ, List.set_nil, List.length_cons, List.length_nil, List.replicate, List.nil_append, List.cons_append, List.map_cons, List.map_nil, List.sum_cons, List.sum_nil, Value.category, Option.toList, List.contains_cons, List.contains_nil, true_or, or_true, true_and, Nat.zero_le, Nat.reduceAdd, Nat.reduceLeDiff, Nat.reduceLT, Nat.reduceBEq, Bool.true_or, Bool.or_true, Bool.false_or, Bool.or_false, ↓reduceIte, Bool.false_eq_true, Nat.add_zero, Nat.zero_add, Nat.reduceEqDiff, Nat.reduceSub, b2i_0, ne_eq, Nat.reduceEqDiff, not_false_eq_true, not_true_eq_false, true_and, and_true, true_implies, false_implies, implies_true, and_self]
        refine ⟨fun _ => ?_, fun q => absurd (by rw [z_l12]; exact nI_le (by omega) (by omega)) q⟩
        exact k3 0 (by omega) τ hI
    have k1 : ∀ a, a ≤ 24 → ∀ τ, KI σ τ s a 0 0 → WW C 21 [some (.ref 56), some (.int (nI s)), some (.int (nI a))] [] τ := by
      refine fun c hc => zloop (P := fun c => ∀ τ, KI σ τ s c 0 0 → WW C 21 [some (.ref 56), some (.int (nI s)), some (.int (nI c))] [] τ) 24 (fun c hc ih τ hI => ?_) (fun τ hI => ?_) c hc
      · have ⟨i1, i2, i3, i4, i5, i6, i7, i8, i9, i10, i11⟩ := hI
        have g : ModS τ := hK.1.of i1 i2
        unfold ModS at g
        refine r_X12_keep_21 hC hR m_X12_in (by decide) _ _ _ ?_
        simp only [T_X12_keep_21, x_psh, x_ild, x_lld, x_ald, x_ist, x_ast, x_lst, x_inc, x_iadd, x_isub, x_imul, x_iand, x_ior, x_ixor, x_ishl, x_ishr, x_iushr, x_idiv, x_irem, x_ladd, x_land, x_lor, x_lshl, x_lshr, x_ineg, x_i2l, x_l2i, x_i2b, x_lcmp, x_dup, x_dup2, x_if_eq, x_if_ne, x_if_lt, x_if_ge, x_if_gt, x_if_le, x_ic_eq, x_ic_ne, x_ic_lt, x_ic_ge, x_ic_gt, x_ic_le, x_getI, x_getR, x_putI, x_putZ, x_putR, x_iald, x_bald, x_lald, x_iast, x_bast, x_last, x_alen, x_acp, x_mmax, x_mmin, x_callV, x_callS, x_iret, x_zret, x_lret, x_aret, x_vret, x_tsw, x_stop, zst1, zst2, zkill, zkl, zsplit, zmask, zent, zentL, List.getElem?_cons_zero, List.getElem?_cons_succ, List.set_cons_zero, List.set_cons_succ, List.set_nil, List.length_cons, List.length_nil, List.replicate, List.nil_append, List.cons_append, List.map_cons, List.map_nil, List.sum_cons, List.sum_nil, Value.category, Option.toList, List.contains_cons, List.contains_nil, true_or, or_true, true_and, Nat.zero_le, Nat.reduceAdd, Nat.reduceLeDiff, Nat.reduceLT, Nat.reduceBEq, Bool.true_or, Bool.or_true, Bool.false_or, Bool.or_false, ↓reduceIte, Bool.false_eq_true, Nat.add_zero, Nat.zero_add, Nat.reduceEqDiff, Nat.reduceSub, g, zd_sI, zR_sI, b2i_0, ne_eq, Nat.reduceEqDiff, not_false_eq_true, not_true_eq_false, true_and, and_true, true_implies, false_implies, implies_true, and_self]
        refine ⟨fun q => absurd q (by rw [z_l24]; exact nI_ge (by omega) (by omega)), fun _ => ?_⟩
        rw [z_l24, m24, nI_clamp (by omega), nI_clamp (by omega), nI_i3]
        refine ⟨24, rfl, vp_in_nI (by omega) (by omega), 48, rfl, vp_in_nI (by omega) (by omega), 24, rfl, vp_in_nI (by omega) (by omega), 48, rfl, vp_in_nI (by omega) (by omega), ?_⟩
        refine ih _ ⟨i1, i2, i3, fun i hi => by rw [zI_off _ _ _ (by omega), zI_off _ _ _ (by omega)]; exact i4 i hi, ?_, ?_, ?_, ?_, ?_, ?_, ?_⟩
        all_goals first
          | (rw [zI_off _ _ _ (by decide), zI_off _ _ _ (by decide)]; assumption)
          | (rw [zI_off _ _ _ (by decide), sI_row, i8, i4 63 (by decide), cpR_s])
          | (rw [sI_row, zI_off _ _ _ (by decide), zI_off _ _ _ (by decide), i10, i4 66 (by decide), cpR_s])
      · refine r_X12_keep_21 hC hR m_X12_in (by decide) _ _ _ ?_
        simp only [T_X12_keep_21, x_psh, x_ild, x_lld, x_ald, x_ist, x_ast, x_lst, x_inc, x_iadd, x_isub, x_imul, x_iand, x_ior, x_ixor, x_ishl, x_ishr, x_iushr, x_idiv, x_irem, x_ladd, x_land, x_lor, x_lshl, x_lshr, x_ineg, x_i2l, x_l2i, x_i2b, x_lcmp, x_dup, x_dup2, x_if_eq, x_if_ne, x_if_lt, x_if_ge, x_if_gt, x_if_le, x_ic_eq, x_ic_ne, x_ic_lt, x_ic_ge, x_ic_gt, x_ic_le, x_getI, x_getR, x_putI, x_putZ, x_putR, x_iald, x_bald, x_lald, x_iast, x_bast, x_last, x_alen, x_acp, x_mmax, x_mmin, x_callV, x_callS, x_iret, x_zret, x_lret, x_aret, x_vret, x_tsw, x_stop, zst1, zst2, zkill, zkl, zsplit, zmask, zent, zentL, List.getElem?_cons_zero, List.getElem?_cons_succ, List.set_cons_zero, List.set_cons_succ, List.set_nil, List.length_cons, List.length_nil, List.replicate, List.nil_append, List.cons_append, List.map_cons, List.map_nil, List.sum_cons, List.sum_nil, Value.category, Option.toList, List.contains_cons, List.contains_nil, true_or, or_true, true_and, Nat.zero_le, Nat.reduceAdd, Nat.reduceLeDiff, Nat.reduceLT, Nat.reduceBEq, Bool.true_or, Bool.or_true, Bool.false_or, Bool.or_false, ↓reduceIte, Bool.false_eq_true, Nat.add_zero, Nat.zero_add, Nat.reduceEqDiff, Nat.reduceSub, b2i_0, ne_eq, Nat.reduceEqDiff, not_false_eq_true, not_true_eq_false, true_and, and_true, true_implies, false_implies, implies_true, and_self]
        refine ⟨fun _ => ?_, fun q => absurd (by rw [z_l24]; exact nI_le (by omega) (by omega)) q⟩
        exact k2 0 (by omega) τ hI
    refine k1 0 (by omega) _ ⟨rfl, rfl, rfl, fun i hi => zI_off _ _ _ (by omega), sI_row _ _ _ _, ?_, ?_, ?_, ?_, ?_, ?_⟩
    all_goals (rw [zI_off _ _ _ (by decide), cpR_0])
  · simp only [h1] at hQ
    simp only [h2, b2i_0, ne_eq, Nat.reduceEqDiff, not_false_eq_true, not_true_eq_false, true_and, and_true, true_implies, false_implies, implies_true, and_self]
    exact hQ σ (ZF.refl _ _ _) hK
