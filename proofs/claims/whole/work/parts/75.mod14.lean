/-! what fits -/
def MdT (σ : ZS) (T : TD) : Prop := ModS σ ∧ MTV σ T ∧ TdOk T
theorem MdT.of {σ : ZS} {A : AD} (h : ModR σ A) (ha : AOk A) : MdT σ (aT A) := ⟨h.1, h.2.1, ha.t⟩
theorem MdT.q {σ σ' : ZS} {T : TD} (h : MdT σ T) (hq : MoQ σ σ') : MdT σ' T := by
  obtain ⟨h1, h2, h3⟩ := h
  refine ⟨h1.of hq.1 hq.2.1, h2.of (hq.2.2.1 10 (by decide) (by decide) (by decide) (by decide)) (hq.2.2.1 11 (by decide) (by decide) (by decide) (by decide)) (fun i q1 q2 => hq.2.2.2.1 i (by omega)), h3⟩
/-- the doors that fit at a place, some of them still -/
def fxS (T : TD) (k st : Nat) : Nat → Nat := fun i => dif (sF T k i) (sH T k i &&& st)
theorem sF_bit (T : TD) (k i d : Nat) : (sF T k i).testBit d = (decide (d < tD T) && decide (tG T (6 * k + i) = 8 ∨ tG T (6 * k + i) = tN T d)) := by
  unfold sF sndS
  rw [stS_bit]
theorem sH_bit (T : TD) (k i d : Nat) : (sH T k i).testBit d = (decide (d < tD T) && decide (tG T (6 * k + i) ≠ 8)) := by
  unfold sH hshS
  by_cases h : tG T (6 * k + i) = 8
  · rw [if_pos h, Nat.zero_testBit]; simp [h]
  · rw [if_neg h, Nat.testBit_two_pow_sub_one]; simp [h]
def ftB (T : TD) (k i d st : Nat) : Bool := decide (tG T (6 * k + i) = 8) || (!st.testBit d && decide (tN T d = tG T (6 * k + i)))
theorem fxS_bit {T : TD} {k st i d : Nat} (hd : d < tD T) : (fxS T k st i).testBit d = ftB T k i d st := by
  unfold fxS ftB
  rw [dif_bit, Nat.testBit_and, sF_bit, sH_bit]
  by_cases h : tG T (6 * k + i) = 8
  · simp [h, hd]
  · by_cases h2 : tN T d = tG T (6 * k + i)
    · cases st.testBit d <;> simp [h, hd, h2]
    · have : ¬ tG T (6 * k + i) = tN T d := fun e => h2 e.symm
      cases st.testBit d <;> simp [h, hd, h2, this]
theorem fxS_out {T : TD} {k st i d : Nat} (hd : tD T ≤ d) : (fxS T k st i).testBit d = false := by
  unfold fxS
  rw [dif_bit, sF_bit]
  simp; omega
theorem fxS_0 (T : TD) (k : Nat) : fxS T k 0 = sF T k := by
  funext i
  apply Nat.eq_of_testBit_eq
  intro d
  unfold fxS
  rw [dif_bit, Nat.testBit_and, Nat.zero_testBit]
  simp
def w_X12_fits : WPt := fun args σ Q => match args with
  | [.ref x, .int a, .int b, .int c, .int e] => x = 56 ∧ ∃ T k i d st, MdT σ T ∧ a = nI k ∧ k < tS T ∧ b = nI i ∧ i < tL T k ∧ c = nI d ∧ d < tD T ∧ e = nI st ∧ st < 2 ^ 31 ∧ Q (some (.int (b2i ((fxS T k st i).testBit d = true)))) σ
  | _ => False
theorem m_X12_fits : Meets yX12_fits cX12_fits 6 (some .boolean) 1 w_X12_fits := by
  refine Meets.mk (by decide) fun args σ Φ h => ?_
  unfold w_X12_fits at h
  split at h
  rotate_left
  · exact h.elim
  rename_i x a b c e
  obtain ⟨x, rfl⟩ : ∃ q : Nat, q = x := ⟨x, rfl⟩
  obtain ⟨hx, T, k, i, d, st, ⟨hm, hv, hT⟩, rfl, hk, rfl, hi, rfl, hd, rfl, hst, hQ⟩ := h
  subst hx
  refine ⟨Nat.le_of_ble_eq_true rfl, fun C hC hR => ?_⟩
  have g := hm
  unfold ModS at g
  have hD := hT.2.1
  have hS := hT.2.2.1
  have hL := (hT.2.2.2.2.2.1 k hk).2.1
  have hG := (hT.2.2.2.2.2.1 k hk).2.2 i hi
  have hN := (hT.2.2.2.1 d hd).1
  rw [fxS_bit hd] at hQ
  refine r_X12_fits_0 hC hR _ _ _ ?_
  simp only [T_X12_fits_0, x_psh, x_ild, x_lld, x_ald, x_ist, x_ast, x_lst, x_inc, x_iadd, x_isub, x_imul, x_iand, x_ior, x_ixor, x_ishl, x_ishr, x_iushr, x_idiv, x_irem, x_ladd, x_land, x_lor, x_lshl, x_lshr, x_ineg, x_i2l, x_l2i, x_i2b, x_lcmp, x_dup, x_dup2, x_if_eq, x_if_ne, x_if_lt, x_if_ge, x_if_gt, x_if_le, x_ic_eq, x_ic_ne, x_ic_lt, x_ic_ge, x_ic_gt, x_ic_le, x_getI, x_getR, x_putI, x_putZ, x_putR, x_iald, x_bald, x_lald, x_iast, x_bast, x_last, x_alen, x_acp, x_mmax, x_mmin, x_callV, x_callS, x_iret, x_zret, x_lret, x_aret, x_vret, x_tsw, x_stop, zst1, zst2, zkill, zkl, zsplit, zmask, zent, zentL, List.getElem?_cons_zero, List.getElem?_cons_succ, List.set_cons_zero, List.set_cons_succ, List.set_nil, List.length_cons, List.length_nil, List.replicate, List.nil_append, List.cons_append, List.map_cons, List.map_nil, List.sum_cons, List.sum_nil, Value.category, Option.toList, List.contains_cons, List.contains_nil, true_or, or_true, true_and, Nat.zero_le, Nat.reduceAdd, Nat.reduceLeDiff, Nat.reduceLT, Nat.reduceBEq, Bool.true_or, Bool.or_true, Bool.false_or, Bool.or_false, ↓reduceIte, Bool.false_eq_true, Nat.add_zero, Nat.zero_add, Nat.reduceEqDiff, Nat.reduceSub, g, or_true, true_or, b2i_0, ne_eq, Nat.reduceEqDiff, not_false_eq_true, not_true_eq_false, true_and, and_true, true_implies, false_implies, implies_true, and_self]
  rw [z_l6, pk_mul, nI_add, nI_clamp (by omega), hv.2.2.2.2.2 k i hk hi, z_l8, nI_eq (by omega) (by omega)]
  refine ⟨24, rfl, vp_in_nI (by omega) (by omega), fun q => ?_, fun q => ?_⟩
  · rw [b2i_t (by simp [ftB, q])] at hQ
    exact hQ
  · rw [z_b1 hst (by omega)]
    simp only [b2i_0]
    refine ⟨fun q2 => ?_, fun q2 => ⟨12, rfl, vp_in_nI (by omega) (by omega), ?_⟩⟩
    · have q2 : st.testBit d = true := by simpa using q2
      rw [b2i_f (by simp [ftB, q, q2])] at hQ
      exact hQ
    · have q2 : st.testBit d = false := by simpa using q2
      rw [nI_clamp (by omega), hv.2.2.1 d hd, nI_eq (by omega) (by omega)]
      refine ⟨fun q3 => ?_, fun q3 => ?_⟩
      · rw [b2i_f (by simp [ftB, q, q3])] at hQ
        exact hQ
      · rw [b2i_t (by simp [ftB, q2, q3])] at hQ
        exact hQ
def w_X12_heard : WPt := fun args σ Q => match args with
  | [.ref x, .int d, .int y] => x = 56 ∧ PubM σ (q_heard · d y) Q
  | _ => False
set_option maxHeartbeats 1000000 in
theorem m_X12_heard : Meets yX12_heard cX12_heard 6 (some .int) 3 w_X12_heard := by
  refine Meets.mk (by decide) fun args σ Φ h => ?_
  unfold w_X12_heard at h
  split at h
  rotate_left
  · exact h.elim
  rename_i x d y
  obtain ⟨x, rfl⟩ : ∃ q : Nat, q = x := ⟨x, rfl⟩
  obtain ⟨hx, A, hK, hA, hQ⟩ := h
  subst hx
  refine ⟨Nat.le_of_ble_eq_true rfl, fun C hC hR => ?_⟩
  have hf := mod_f hK
  have hN := hA.1
  have hD1 := hA.t.1
  have hD := hA.t.2.1
  have hS := hA.t.2.2.1
  have hW := hA.2.2.1.2.1
  have hE := hA.2.2.1.2.2.1
  have hp := z_pow31 hD
  have hV := hK.2
  refine r_X12_heard_0 hC hR m_X12_isSong (by decide) m_X12_in (by decide) m_X12_fits (by decide) _ _ _ ?_
  simp only [T_X12_heard_0, x_psh, x_ild, x_lld, x_ald, x_ist, x_ast, x_lst, x_inc, x_iadd, x_isub, x_imul, x_iand, x_ior, x_ixor, x_ishl, x_ishr, x_iushr, x_idiv, x_irem, x_ladd, x_land, x_lor, x_lshl, x_lshr, x_ineg, x_i2l, x_l2i, x_i2b, x_lcmp, x_dup, x_dup2, x_if_eq, x_if_ne, x_if_lt, x_if_ge, x_if_gt, x_if_le, x_ic_eq, x_ic_ne, x_ic_lt, x_ic_ge, x_ic_gt, x_ic_le, x_getI, x_getR, x_putI, x_putZ, x_putR, x_iald, x_bald, x_lald, x_iast, x_bast, x_last, x_alen, x_acp, x_mmax, x_mmin, x_callV, x_callS, x_iret, x_zret, x_lret, x_aret, x_vret, x_tsw, x_stop, zst1, zst2, zkill, zkl, zsplit, zmask, zent, zentL, List.getElem?_cons_zero, List.getElem?_cons_succ, List.set_cons_zero, List.set_cons_succ, List.set_nil, List.length_cons, List.length_nil, List.replicate, List.nil_append, List.cons_append, List.map_cons, List.map_nil, List.sum_cons, List.sum_nil, Value.category, Option.toList, List.contains_cons, List.contains_nil, true_or, or_true, true_and, Nat.zero_le, Nat.reduceAdd, Nat.reduceLeDiff, Nat.reduceLT, Nat.reduceBEq, Bool.true_or, Bool.or_true, Bool.false_or, Bool.or_false, ↓reduceIte, Bool.false_eq_true, Nat.add_zero, Nat.zero_add, Nat.reduceEqDiff, Nat.reduceSub, hf, w_X12_isSong, w_X12_in, b2i_0, ne_eq, Nat.reduceEqDiff, not_false_eq_true, not_true_eq_false, true_and, and_true, true_implies, false_implies, implies_true, and_self]
  unfold q_heard at hQ
  simp only [in_23, b2i_0, ne_eq, Nat.reduceEqDiff, not_false_eq_true, not_true_eq_false, true_and, and_true, true_implies, false_implies, implies_true, and_self]
  refine ⟨tS (aT A), rfl, by omega, ?_⟩
  rcases ix_cs d (show tS (aT A) < 2 ^ 31 by omega) with ⟨k, hk, rfl, h1, h2⟩ | ⟨h1, h2⟩
  · simp only [h1] at hQ
    simp only [h2, b2i_0, ne_eq, Nat.reduceEqDiff, not_false_eq_true, not_true_eq_false, true_and, and_true, true_implies, false_implies, implies_true, and_self]
    rcases ix_cs y (show 24 < 2 ^ 31 by omega) with ⟨a, ha, rfl, h3, h4⟩ | ⟨h3, h4⟩
    · simp only [h3] at hQ
      simp only [h4, b2i_0, ne_eq, Nat.reduceEqDiff, not_false_eq_true, not_true_eq_false, true_and, and_true, true_implies, false_implies, implies_true, and_self]
      have hq := hQ σ (ZF.refl _ _ _) hK
      clear hQ
      have hL := hA.l hk
      have hFl : ∀ k, k < xW (aX A) → xF (aX A) k < tD (aT A) := hA.2.2.1.2.2.2.1
      generalize hn : tL (aT A) k = n at hq hL
      generalize hm : xW (aX A) = m at hq hW hFl
      generalize hP : hrB (sF (aT A) k) (xF (aX A)) n = P at hq
      have hsz : zI σ 64 k = nI n := by rw [← hn]; exact hV.1.2.2.2.2.1 k hk
      have hwk : ∀ i, i < m → zI σ 66 i = nI (xF (aX A) i) := fun i hi => hV.2.2.1.2 i (by omega)
      have inner : ∀ p, a ≤ p → p + n ≤ m → (P p = true → Φ (some (.int (nI p))) σ) → (P p = false → WW C 27 [some (.ref 56), some (.int (nI k)), none, some (.int (nI (p + 1))), none, none] [] σ) → ∀ i, i ≤ n → WW C 48 [some (.ref 56), some (.int (nI k)), none, some (.int (nI p)), some (.int (b2i (anyB (fun i => !(sF (aT A) k i).testBit (xF (aX A) (p + i))) i = false))), some (.int (nI i))] [] σ := by
        intro p hap hpm hyes hno
        refine zloop (P := fun i => WW C 48 [some (.ref 56), some (.int (nI k)), none, some (.int (nI p)), some (.int (b2i (anyB (fun i => !(sF (aT A) k i).testBit (xF (aX A) (p + i))) i = false))), some (.int (nI i))] [] σ) n (fun i hi ih => ?_) ?_
        · refine r_X12_heard_48 hC hR m_X12_isSong (by decide) m_X12_in (by decide) m_X12_fits (by decide) _ _ _ ?_
          simp only [T_X12_heard_48, x_psh, x_ild, x_lld, x_ald, x_ist, x_ast, x_lst, x_inc, x_iadd, x_isub, x_imul, x_iand, x_ior, x_ixor, x_ishl, x_ishr, x_iushr, x_idiv, x_irem, x_ladd, x_land, x_lor, x_lshl, x_lshr, x_ineg, x_i2l, x_l2i, x_i2b, x_lcmp, x_dup, x_dup2, x_if_eq, x_if_ne, x_if_lt, x_if_ge, x_if_gt, x_if_le, x_ic_eq, x_ic_ne, x_ic_lt, x_ic_ge, x_ic_gt, x_ic_le, x_getI, x_getR, x_putI, x_putZ, x_putR, x_iald, x_bald, x_lald, x_iast, x_bast, x_last, x_alen, x_acp, x_mmax, x_mmin, x_callV, x_callS, x_iret, x_zret, x_lret, x_aret, x_vret, x_tsw, x_stop, zst1, zst2, zkill, zkl, zsplit, zmask, zent, zentL, List.getElem?_cons_zero, List.getElem?_cons_succ, List.set_cons_zero, List.set_cons_succ, List.set_nil, List.length_cons, List.length_nil, List.replicate, List.nil_append, List.cons_append, List.map_cons, List.map_nil, List.sum_cons, List.sum_nil, Value.category, Option.toList, List.contains_cons, List.contains_nil, true_or, or_true, true_and, Nat.zero_le, Nat.reduceAdd, Nat.reduceLeDiff, Nat.reduceLT, Nat.reduceBEq, Bool.true_or, Bool.or_true, Bool.false_or, Bool.or_false, ↓reduceIte, Bool.false_eq_true, Nat.add_zero, Nat.zero_add, Nat.reduceEqDiff, Nat.reduceSub, hf, w_X12_fits, b2i_0, ne_eq, Nat.reduceEqDiff, not_false_eq_true, not_true_eq_false, true_and, and_true, true_implies, false_implies, implies_true, and_self]
          refine ⟨4, rfl, vp_in_nI (by omega) (by omega), ?_⟩
          rw [nI_clamp (show k < 2 ^ 31 by omega), hsz, nI_add, nI_clamp (show p + i < 2 ^ 31 by omega)]
          simp only [nI_i3]
          refine ⟨fun q => absurd q (nI_ge hi (by omega)), fun _ => ?_⟩
          have hst : anyB (fun i => !(sF (aT A) k i).testBit (xF (aX A) (p + i))) (i + 1) = (anyB (fun i => !(sF (aT A) k i).testBit (xF (aX A) (p + i))) i || !(sF (aT A) k i).testBit (xF (aX A) (p + i))) := rfl
          refine ⟨fun q => ?_, fun q => ⟨24, rfl, vp_in_nI (by omega) (by omega), aT A, k, i, xF (aX A) (p + i), 0, MdT.of hK hA, rfl, hk, rfl, by omega, hwk _ (by omega), hFl _ (by omega), rfl, by omega, ?_⟩⟩
          · have q : anyB (fun i => !(sF (aT A) k i).testBit (xF (aX A) (p + i))) i = true := by simpa using q
            rw [b2i_f (by rw [hst, q]; simp)] at ih
            exact ih
          · have q : anyB (fun i => !(sF (aT A) k i).testBit (xF (aX A) (p + i))) i = false := by simpa using q
            simp only [b2i_0, fxS_0]
            refine ⟨fun q2 => ?_, fun q2 => ?_⟩
            · have q2 : (sF (aT A) k i).testBit (xF (aX A) (p + i)) = false := by simpa using q2
              rw [b2i_f (by rw [hst, q, q2]; simp)] at ih
              exact ih
            · have q2 : (sF (aT A) k i).testBit (xF (aX A) (p + i)) = true := by simpa using q2
              rw [b2i_t (by rw [hst, q, q2]; simp)] at ih
              exact ih
        · refine r_X12_heard_48 hC hR m_X12_isSong (by decide) m_X12_in (by decide) m_X12_fits (by decide) _ _ _ ?_
          simp only [T_X12_heard_48, x_psh, x_ild, x_lld, x_ald, x_ist, x_ast, x_lst, x_inc, x_iadd, x_isub, x_imul, x_iand, x_ior, x_ixor, x_ishl, x_ishr, x_iushr, x_idiv, x_irem, x_ladd, x_land, x_lor, x_lshl, x_lshr, x_ineg, x_i2l, x_l2i, x_i2b, x_lcmp, x_dup, x_dup2, x_if_eq, x_if_ne, x_if_lt, x_if_ge, x_if_gt, x_if_le, x_ic_eq, x_ic_ne, x_ic_lt, x_ic_ge, x_ic_gt, x_ic_le, x_getI, x_getR, x_putI, x_putZ, x_putR, x_iald, x_bald, x_lald, x_iast, x_bast, x_last, x_alen, x_acp, x_mmax, x_mmin, x_callV, x_callS, x_iret, x_zret, x_lret, x_aret, x_vret, x_tsw, x_stop, zst1, zst2, zkill, zkl, zsplit, zmask, zent, zentL, List.getElem?_cons_zero, List.getElem?_cons_succ, List.set_cons_zero, List.set_cons_succ, List.set_nil, List.length_cons, List.length_nil, List.replicate, List.nil_append, List.cons_append, List.map_cons, List.map_nil, List.sum_cons, List.sum_nil, Value.category, Option.toList, List.contains_cons, List.contains_nil, true_or, or_true, true_and, Nat.zero_le, Nat.reduceAdd, Nat.reduceLeDiff, Nat.reduceLT, Nat.reduceBEq, Bool.true_or, Bool.or_true, Bool.false_or, Bool.or_false, ↓reduceIte, Bool.false_eq_true, Nat.add_zero, Nat.zero_add, Nat.reduceEqDiff, Nat.reduceSub, hf, w_X12_fits, b2i_0, ne_eq, Nat.reduceEqDiff, not_false_eq_true, not_true_eq_false, true_and, and_true, true_implies, false_implies, implies_true, and_self]
          refine ⟨4, rfl, vp_in_nI (by omega) (by omega), ?_⟩
          rw [nI_clamp (show k < 2 ^ 31 by omega), hsz]
          refine ⟨fun _ => ?_, fun q => absurd (nI_le (Nat.le_refl _) (by omega)) q⟩
          have hPp : P p = !anyB (fun i => !(sF (aT A) k i).testBit (xF (aX A) (p + i))) n := by rw [← hP]; rfl
          rw [nI_i3]
          refine ⟨fun q => hno ?_, fun q => hyes ?_⟩
          · rw [hPp]; simpa using q
          · rw [hPp]; simpa using q
      have outer := zloop (P := fun j => (∀ i, i < j → P (a + i) = false) → WW C 27 [some (.ref 56), some (.int (nI k)), none, some (.int (nI (a + j))), none, none] [] σ) (m + 1 - n - a) (fun j hj ih hn0 => ?_) ?_ 0 (by omega)
      · exact outer (fun i hi => by omega)
      · refine r_X12_heard_27 hC hR m_X12_isSong (by decide) m_X12_in (by decide) m_X12_fits (by decide) _ _ _ ?_
        simp only [T_X12_heard_27, x_psh, x_ild, x_lld, x_ald, x_ist, x_ast, x_lst, x_inc, x_iadd, x_isub, x_imul, x_iand, x_ior, x_ixor, x_ishl, x_ishr, x_iushr, x_idiv, x_irem, x_ladd, x_land, x_lor, x_lshl, x_lshr, x_ineg, x_i2l, x_l2i, x_i2b, x_lcmp, x_dup, x_dup2, x_if_eq, x_if_ne, x_if_lt, x_if_ge, x_if_gt, x_if_le, x_ic_eq, x_ic_ne, x_ic_lt, x_ic_ge, x_ic_gt, x_ic_le, x_getI, x_getR, x_putI, x_putZ, x_putR, x_iald, x_bald, x_lald, x_iast, x_bast, x_last, x_alen, x_acp, x_mmax, x_mmin, x_callV, x_callS, x_iret, x_zret, x_lret, x_aret, x_vret, x_tsw, x_stop, zst1, zst2, zkill, zkl, zsplit, zmask, zent, zentL, List.getElem?_cons_zero, List.getElem?_cons_succ, List.set_cons_zero, List.set_cons_succ, List.set_nil, List.length_cons, List.length_nil, List.replicate, List.nil_append, List.cons_append, List.map_cons, List.map_nil, List.sum_cons, List.sum_nil, Value.category, Option.toList, List.contains_cons, List.contains_nil, true_or, or_true, true_and, Nat.zero_le, Nat.reduceAdd, Nat.reduceLeDiff, Nat.reduceLT, Nat.reduceBEq, Bool.true_or, Bool.or_true, Bool.false_or, Bool.or_false, ↓reduceIte, Bool.false_eq_true, Nat.add_zero, Nat.zero_add, Nat.reduceEqDiff, Nat.reduceSub, hf, b2i_0, ne_eq, Nat.reduceEqDiff, not_false_eq_true, not_true_eq_false, true_and, and_true, true_implies, false_implies, implies_true, and_self]
        refine ⟨4, rfl, vp_in_nI (by omega) (by omega), ?_⟩
        rw [nI_clamp (show k < 2 ^ 31 by omega), hsz, nI_add, hm]
        refine ⟨fun q => absurd q (nI_nlt (by omega) (by omega)), fun _ => ?_⟩
        have := inner (a + j) (by omega) (by omega) (fun h => ?_) (fun h => ?_) 0 (by omega)
        · rw [b2i_t (show anyB (fun i => !(sF (aT A) k i).testBit (xF (aX A) (a + j + i))) 0 = false from rfl)] at this
          exact this
        · have e : fstB (fun k => P (a + k)) (m + 1 - n - a) = j := fstB_eq hj h hn0
          unfold fplS at hq
          rw [e, if_pos hj] at hq
          exact hq
        · refine ih (fun i hi => ?_)
          by_cases e : i = j
          · subst e; exact h
          · exact hn0 i (by omega)
      · intro hn0
        refine r_X12_heard_27 hC hR m_X12_isSong (by decide) m_X12_in (by decide) m_X12_fits (by decide) _ _ _ ?_
        simp only [T_X12_heard_27, x_psh, x_ild, x_lld, x_ald, x_ist, x_ast, x_lst, x_inc, x_iadd, x_isub, x_imul, x_iand, x_ior, x_ixor, x_ishl, x_ishr, x_iushr, x_idiv, x_irem, x_ladd, x_land, x_lor, x_lshl, x_lshr, x_ineg, x_i2l, x_l2i, x_i2b, x_lcmp, x_dup, x_dup2, x_if_eq, x_if_ne, x_if_lt, x_if_ge, x_if_gt, x_if_le, x_ic_eq, x_ic_ne, x_ic_lt, x_ic_ge, x_ic_gt, x_ic_le, x_getI, x_getR, x_putI, x_putZ, x_putR, x_iald, x_bald, x_lald, x_iast, x_bast, x_last, x_alen, x_acp, x_mmax, x_mmin, x_callV, x_callS, x_iret, x_zret, x_lret, x_aret, x_vret, x_tsw, x_stop, zst1, zst2, zkill, zkl, zsplit, zmask, zent, zentL, List.getElem?_cons_zero, List.getElem?_cons_succ, List.set_cons_zero, List.set_cons_succ, List.set_nil, List.length_cons, List.length_nil, List.replicate, List.nil_append, List.cons_append, List.map_cons, List.map_nil, List.sum_cons, List.sum_nil, Value.category, Option.toList, List.contains_cons, List.contains_nil, true_or, or_true, true_and, Nat.zero_le, Nat.reduceAdd, Nat.reduceLeDiff, Nat.reduceLT, Nat.reduceBEq, Bool.true_or, Bool.or_true, Bool.false_or, Bool.or_false, ↓reduceIte, Bool.false_eq_true, Nat.add_zero, Nat.zero_add, Nat.reduceEqDiff, Nat.reduceSub, hf, b2i_0, ne_eq, Nat.reduceEqDiff, not_false_eq_true, not_true_eq_false, true_and, and_true, true_implies, false_implies, implies_true, and_self]
        refine ⟨4, rfl, vp_in_nI (by omega) (by omega), ?_⟩
        rw [nI_clamp (show k < 2 ^ 31 by omega), hsz, nI_add, hm]
        refine ⟨fun _ => ?_, fun q => absurd (nI_lt (by omega) (by omega)) q⟩
        have e : ¬ fstB (fun k => P (a + k)) (m + 1 - n - a) < m + 1 - n - a := fun h => by
          have h2 := fstB_yes (fun k => P (a + k)) _ h
          rw [hn0 _ h] at h2
          cases h2
        unfold fplS at hq
        rw [if_neg e] at hq
        exact hq
    · simp only [h3] at hQ
      simp only [h4, b2i_0, ne_eq, Nat.reduceEqDiff, not_false_eq_true, not_true_eq_false, true_and, and_true, true_implies, false_implies, implies_true, and_self]
      exact hQ σ (ZF.refl _ _ _) hK
  · simp only [h1] at hQ
    simp only [h2, b2i_0, ne_eq, Nat.reduceEqDiff, not_false_eq_true, not_true_eq_false, true_and, and_true, true_implies, false_implies, implies_true, and_self]
    exact hQ σ (ZF.refl _ _ _) hK
