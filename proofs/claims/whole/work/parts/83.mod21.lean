def gsB (T : TD) (F : Nat → Nat) (n x : Nat) : Bool := decide ((gsF T F x.testBit n).1 ≠ 0)
/-- what the memory says of the ear -/
def EaR (σ : ZS) (n : Nat) (g : Nat → Nat) : Prop := zI σ 56 23 = nI n ∧ n ≤ 12 ∧ ∀ k, k < n → zI σ 72 k = nI (g k) ∧ g k ≤ 8
def w_X12_goes : WPt := fun args σ Q => match args with
  | [.ref x, .int w] => x = 56 ∧ ∃ T n g y, MdT σ T ∧ EaR σ n g ∧ w = nI y ∧ y < 2 ^ 31 ∧ Q (some (.int (b2i (gsB T (eF T g) n y = true)))) σ
  | _ => False
theorem m_X12_goes : Meets yX12_goes cX12_goes 5 (some .boolean) 2 w_X12_goes := by
  refine Meets.mk (by decide) fun args σ Φ h => ?_
  unfold w_X12_goes at h
  split at h
  rotate_left
  · exact h.elim
  rename_i x w
  obtain ⟨x, rfl⟩ : ∃ q : Nat, q = x := ⟨x, rfl⟩
  obtain ⟨hx, T, n, g, y, hM, ⟨hn, hn12, hg⟩, rfl, hy, hQ⟩ := h
  subst hx
  refine ⟨Nat.le_of_ble_eq_true rfl, fun C hC hR => ?_⟩
  have hT := hM.2.2
  have hD := hT.2.1
  have hp := z_pow31 hD
  have gm := hM.1
  unfold ModS at gm
  have e10 : zI σ 56 10 = nI (tD T) := hM.2.1.1
  have hl := gsF_lt hT (F := eF T g) (eF_lt T g) y.testBit
  refine r_X12_goes_0 hC hR m_X12_beside (by decide) m_X12_sounding (by decide) _ _ _ ?_
  simp only [T_X12_goes_0, x_psh, x_ild, x_lld, x_ald, x_ist, x_ast, x_lst, x_inc, x_iadd, x_isub, x_imul, x_iand, x_ior, x_ixor, x_ishl, x_ishr, x_iushr, x_idiv, x_irem, x_ladd, x_land, x_lor, x_lshl, x_lshr, x_ineg, x_i2l, x_l2i, x_i2b, x_lcmp, x_dup, x_dup2, x_if_eq, x_if_ne, x_if_lt, x_if_ge, x_if_gt, x_if_le, x_ic_eq, x_ic_ne, x_ic_lt, x_ic_ge, x_ic_gt, x_ic_le, x_getI, x_getR, x_putI, x_putZ, x_putR, x_iald, x_bald, x_lald, x_iast, x_bast, x_last, x_alen, x_acp, x_mmax, x_mmin, x_callV, x_callS, x_iret, x_zret, x_lret, x_aret, x_vret, x_tsw, x_stop, zst1, zst2, zkill, zkl, zsplit, zmask, zent, zentL, List.getElem?_cons_zero, List.getElem?_cons_succ, List.set_cons_zero, List.set_cons_succ, List.set_nil, List.length_cons, List.length_nil, List.replicate, List.nil_append, List.cons_append, List.map_cons, List.map_nil, List.sum_cons, List.sum_nil, Value.category, Option.toList, List.contains_cons, List.contains_nil, true_or, or_true, true_and, Nat.zero_le, Nat.reduceAdd, Nat.reduceLeDiff, Nat.reduceLT, Nat.reduceBEq, Bool.true_or, Bool.or_true, Bool.false_or, Bool.or_false, ↓reduceIte, Bool.false_eq_true, Nat.add_zero, Nat.zero_add, Nat.reduceEqDiff, Nat.reduceSub, gm, e10, b2i_0, ne_eq, Nat.reduceEqDiff, not_false_eq_true, not_true_eq_false, true_and, and_true, true_implies, false_implies, implies_true, and_self]
  rw [z_l31, z_l1, z_p2 (tD T) (by omega), z_p2m (tD T) (by omega)]
  have key := zloop (P := fun i => WW C 14 [some (.ref 56), some (.int (nI y)), some (.int (nI (gsF T (eF T g) y.testBit i).1)), some (.int (b2i ((gsF T (eF T g) y.testBit i).2 = true))), some (.int (nI i))] [] σ) n (fun i hi ih => ?_) ?_ 0 (by omega)
  · have : b2i ((gsF T (eF T g) y.testBit 0).2 = true) = 1 := rfl
    rw [this] at key
    exact key
  · refine r_X12_goes_14 hC hR m_X12_beside (by decide) m_X12_sounding (by decide) _ _ _ ?_
    simp only [T_X12_goes_14, x_psh, x_ild, x_lld, x_ald, x_ist, x_ast, x_lst, x_inc, x_iadd, x_isub, x_imul, x_iand, x_ior, x_ixor, x_ishl, x_ishr, x_iushr, x_idiv, x_irem, x_ladd, x_land, x_lor, x_lshl, x_lshr, x_ineg, x_i2l, x_l2i, x_i2b, x_lcmp, x_dup, x_dup2, x_if_eq, x_if_ne, x_if_lt, x_if_ge, x_if_gt, x_if_le, x_ic_eq, x_ic_ne, x_ic_lt, x_ic_ge, x_ic_gt, x_ic_le, x_getI, x_getR, x_putI, x_putZ, x_putR, x_iald, x_bald, x_lald, x_iast, x_bast, x_last, x_alen, x_acp, x_mmax, x_mmin, x_callV, x_callS, x_iret, x_zret, x_lret, x_aret, x_vret, x_tsw, x_stop, zst1, zst2, zkill, zkl, zsplit, zmask, zent, zentL, List.getElem?_cons_zero, List.getElem?_cons_succ, List.set_cons_zero, List.set_cons_succ, List.set_nil, List.length_cons, List.length_nil, List.replicate, List.nil_append, List.cons_append, List.map_cons, List.map_nil, List.sum_cons, List.sum_nil, Value.category, Option.toList, List.contains_cons, List.contains_nil, true_or, or_true, true_and, Nat.zero_le, Nat.reduceAdd, Nat.reduceLeDiff, Nat.reduceLT, Nat.reduceBEq, Bool.true_or, Bool.or_true, Bool.false_or, Bool.or_false, ↓reduceIte, Bool.false_eq_true, Nat.add_zero, Nat.zero_add, Nat.reduceEqDiff, Nat.reduceSub, gm, hn, w_X12_beside, w_X12_sounding, b2i_0, ne_eq, Nat.reduceEqDiff, not_false_eq_true, not_true_eq_false, true_and, and_true, true_implies, false_implies, implies_true, and_self]
    refine ⟨fun q => absurd q (nI_ge hi (by omega)), fun _ => ?_⟩
    rw [z_b1 hy (by omega), nI_i3, nI_clamp (by omega), (hg i hi).1]
    simp only [b2i_1]
    rw [gsF] at ih
    refine ⟨fun q => ?_, fun q => ⟨fun q2 => ?_, fun q2 => ?_⟩⟩
    · rw [if_neg q] at ih
      exact ih
    · rw [if_pos q, if_neg q2] at ih
      have hli := hl i
      refine ⟨T, _, hM, rfl, by omega, 12, rfl, vp_in_nI (by omega) (by omega), T, g i, hM, rfl, (hg i hi).2, ?_⟩
      rw [z_and]
      exact ih
    · rw [if_pos q, if_pos (by simpa using q2)] at ih
      refine ⟨12, rfl, vp_in_nI (by omega) (by omega), T, g i, hM, rfl, (hg i hi).2, ?_⟩
      rw [z_and]
      exact ih
  · refine r_X12_goes_14 hC hR m_X12_beside (by decide) m_X12_sounding (by decide) _ _ _ ?_
    simp only [T_X12_goes_14, x_psh, x_ild, x_lld, x_ald, x_ist, x_ast, x_lst, x_inc, x_iadd, x_isub, x_imul, x_iand, x_ior, x_ixor, x_ishl, x_ishr, x_iushr, x_idiv, x_irem, x_ladd, x_land, x_lor, x_lshl, x_lshr, x_ineg, x_i2l, x_l2i, x_i2b, x_lcmp, x_dup, x_dup2, x_if_eq, x_if_ne, x_if_lt, x_if_ge, x_if_gt, x_if_le, x_ic_eq, x_ic_ne, x_ic_lt, x_ic_ge, x_ic_gt, x_ic_le, x_getI, x_getR, x_putI, x_putZ, x_putR, x_iald, x_bald, x_lald, x_iast, x_bast, x_last, x_alen, x_acp, x_mmax, x_mmin, x_callV, x_callS, x_iret, x_zret, x_lret, x_aret, x_vret, x_tsw, x_stop, zst1, zst2, zkill, zkl, zsplit, zmask, zent, zentL, List.getElem?_cons_zero, List.getElem?_cons_succ, List.set_cons_zero, List.set_cons_succ, List.set_nil, List.length_cons, List.length_nil, List.replicate, List.nil_append, List.cons_append, List.map_cons, List.map_nil, List.sum_cons, List.sum_nil, Value.category, Option.toList, List.contains_cons, List.contains_nil, true_or, or_true, true_and, Nat.zero_le, Nat.reduceAdd, Nat.reduceLeDiff, Nat.reduceLT, Nat.reduceBEq, Bool.true_or, Bool.or_true, Bool.false_or, Bool.or_false, ↓reduceIte, Bool.false_eq_true, Nat.add_zero, Nat.zero_add, Nat.reduceEqDiff, Nat.reduceSub, gm, hn, or_true, true_or, b2i_0, ne_eq, Nat.reduceEqDiff, not_false_eq_true, not_true_eq_false, true_and, and_true, true_implies, false_implies, implies_true, and_self]
    refine ⟨fun _ => ?_, fun q => absurd (nI_le (Nat.le_refl _) (by omega)) q⟩
    have hli := hl n
    have e0 : (nI (gsF T (eF T g) y.testBit n).1 = 0) = ((gsF T (eF T g) y.testBit n).1 = 0) := propext (nI_eq (b := 0) (by omega) (by omega))
    simp only [e0]
    refine ⟨fun q => ?_, fun q => ?_⟩
    · rw [b2i_f (by simp [gsB, q])] at hQ
      exact hQ
    · rw [b2i_t (by simp [gsB, q])] at hQ
      exact hQ
/-- both parts go, told either way -/
theorem gs_pt {T : TD} (hT : TdOk T) {F : Nat → Nat} (hF : ∀ i, F i < 2 ^ tD T) (n x : Nat) : (gsB T F n x && gsB T F n (dif (2 ^ n - 1) x)) = ptB T F x n (2 ^ tD T - 1) (2 ^ tD T - 1) := by
  have hall : 2 ^ tD T - 1 < 2 ^ tD T := by have := Nat.two_pow_pos (tD T); omega
  have h1 : ∀ P, chB T F P n (2 ^ tD T - 1) = decide ((gsF T F P n).1 ≠ 0) := by
    intro P
    have hc := ch_gs hT hF P n _ hall
    have hl := gsF_lt hT hF P n
    have h2 : (2 ^ tD T - 1) &&& (gsF T F P n).1 = (gsF T F P n).1 := by
      apply Nat.eq_of_testBit_eq
      intro i
      rw [Nat.testBit_and, Nat.testBit_two_pow_sub_one]
      by_cases hi : i < tD T
      · simp [hi]
      · rw [Nat.testBit_lt_two_pow (Nat.lt_of_lt_of_le hl (Nat.pow_le_pow_right (by decide) (by omega)))]
        simp
    have h3 : (gsF T F P n).2 = true → (gsF T F P n).1 ≠ 0 := by
      have : ∀ m, (gsF T F P m).2 = true → (gsF T F P m).1 = 2 ^ tD T - 1 := by
        intro m
        induction m with
        | zero => intro _; rfl
        | succ m ih =>
          rw [gsF]
          split
          · intro h; cases h
          · exact ih
      intro h
      rw [this n h]
      have : 2 ^ 1 ≤ 2 ^ tD T := Nat.pow_le_pow_right (by decide) hT.1
      omega
    rw [h2] at hc
    cases hb : chB T F P n (2 ^ tD T - 1) with
    | true =>
      have := hc.mp hb
      have hne : (gsF T F P n).1 ≠ 0 := this.elim h3 id
      exact (decide_eq_true hne).symm
    | false =>
      refine (decide_eq_false ?_).symm
      intro hne
      rw [hc.mpr (Or.inr hne)] at hb
      cases hb
  have hcg : ∀ P Q : Nat → Bool, ∀ m, (∀ i, i < m → P i = Q i) → gsF T F P m = gsF T F Q m := by
    intro P Q m
    induction m with
    | zero => intro _; rfl
    | succ m ih =>
      intro h
      rw [gsF, gsF, h m (by omega), ih (fun i hi => h i (by omega))]
  rw [ptB_ch, h1, h1]
  have e2 : gsB T F n (dif (2 ^ n - 1) x) = decide ((gsF T F (fun i => !x.testBit i) n).1 ≠ 0) := by
    unfold gsB
    rw [hcg (dif (2 ^ n - 1) x).testBit (fun i => !x.testBit i) n (fun i hi => by rw [dif_bit, Nat.testBit_two_pow_sub_one]; simp [hi])]
  rw [e2]
  unfold gsB
  exact Bool.and_comm _ _
def w_X12_parted : WPt := fun args σ Q => match args with
  | [.ref x, .int z] => x = 56 ∧ PubM σ (q_parted · z) Q
  | _ => False
set_option maxHeartbeats 1000000 in
theorem m_X12_parted : Meets yX12_parted cX12_parted 5 (some .int) 3 w_X12_parted := by
  refine Meets.mk (by decide) fun args σ Φ h => ?_
  unfold w_X12_parted at h
  split at h
  rotate_left
  · exact h.elim
  rename_i x z
  obtain ⟨x, rfl⟩ : ∃ q : Nat, q = x := ⟨x, rfl⟩
  obtain ⟨hx, A, hK, hA, hQ⟩ := h
  subst hx
  refine ⟨Nat.le_of_ble_eq_true rfl, fun C hC hR => ?_⟩
  have hf := mod_f hK
  have hN := hA.1
  have hD1 := hA.t.1
  have hD := hA.t.2.1
  have hS := hA.t.2.2.1
  have hW := hA.2.2.1.2.1
  have hE := hA.2.2.1.2.2.1
  have hp := z_pow31 hD
  have hV := hK.2
  refine r_X12_parted_0 hC hR m_X12_goes (by decide) _ _ _ ?_
  simp only [T_X12_parted_0, x_psh, x_ild, x_lld, x_ald, x_ist, x_ast, x_lst, x_inc, x_iadd, x_isub, x_imul, x_iand, x_ior, x_ixor, x_ishl, x_ishr, x_iushr, x_idiv, x_irem, x_ladd, x_land, x_lor, x_lshl, x_lshr, x_ineg, x_i2l, x_l2i, x_i2b, x_lcmp, x_dup, x_dup2, x_if_eq, x_if_ne, x_if_lt, x_if_ge, x_if_gt, x_if_le, x_ic_eq, x_ic_ne, x_ic_lt, x_ic_ge, x_ic_gt, x_ic_le, x_getI, x_getR, x_putI, x_putZ, x_putR, x_iald, x_bald, x_lald, x_iast, x_bast, x_last, x_alen, x_acp, x_mmax, x_mmin, x_callV, x_callS, x_iret, x_zret, x_lret, x_aret, x_vret, x_tsw, x_stop, zst1, zst2, zkill, zkl, zsplit, zmask, zent, zentL, List.getElem?_cons_zero, List.getElem?_cons_succ, List.set_cons_zero, List.set_cons_succ, List.set_nil, List.length_cons, List.length_nil, List.replicate, List.nil_append, List.cons_append, List.map_cons, List.map_nil, List.sum_cons, List.sum_nil, Value.category, Option.toList, List.contains_cons, List.contains_nil, true_or, or_true, true_and, Nat.zero_le, Nat.reduceAdd, Nat.reduceLeDiff, Nat.reduceLT, Nat.reduceBEq, Bool.true_or, Bool.or_true, Bool.false_or, Bool.or_false, ↓reduceIte, Bool.false_eq_true, Nat.add_zero, Nat.zero_add, Nat.reduceEqDiff, Nat.reduceSub, b2i_0, ne_eq, Nat.reduceEqDiff, not_false_eq_true, not_true_eq_false, true_and, and_true, true_implies, false_implies, implies_true, and_self]
  have hq : Φ (some (.int (q_parted A z).1)) σ := hQ σ (ZF.refl _ _ _) hK
  clear hQ
  dsimp only [q_parted] at hq
  have hM := MdT.of hK hA
  have hT := hA.t
  have hEa : EaR σ (xE (aX A)) (xG (aX A)) := ⟨hV.2.2.2.1.1, hE, fun k hk => ⟨hV.2.2.2.1.2 k hk, hA.2.2.1.2.2.2.2 k hk⟩⟩
  generalize hn : xE (aX A) = n at hq hE hEa
  generalize hg : xG (aX A) = g at hq hEa
  have hF := eF_lt (aT A) g
  have hn31 : 2 ^ n ≤ 4096 := z_pow31 hE
  generalize hP : (fun x => ptB (aT A) (eF (aT A) g) x n (2 ^ tD (aT A) - 1) (2 ^ tD (aT A) - 1)) = P
  have hPx : ∀ x, (gsB (aT A) (eF (aT A) g) n x && gsB (aT A) (eF (aT A) g) n (dif (2 ^ n - 1) x)) = P x := fun x => by rw [← hP]; exact gs_pt hT hF n x
  have hCt : ptC (aT A) (eF (aT A) g) n (2 ^ tD (aT A) - 1) (2 ^ tD (aT A) - 1) = cntB P (2 ^ n) := by rw [← hP]; exact pt_cnt _ _ _ _ _
  have hL := pt_fst (aT A) (eF (aT A) g) n (2 ^ tD (aT A) - 1) (2 ^ tD (aT A) - 1)
  have hL1 : ∀ x, ptL (aT A) (eF (aT A) g) n (2 ^ tD (aT A) - 1) (2 ^ tD (aT A) - 1) = some x → x < 2 ^ n ∧ P x = true ∧ ∀ y, y < x → P y = false := fun x h => by rw [← hP]; exact hL.1 x h
  have hL2 : ptL (aT A) (eF (aT A) g) n (2 ^ tD (aT A) - 1) (2 ^ tD (aT A) - 1) = none → ∀ x, x < 2 ^ n → P x = false := fun h x hx => by rw [← hP]; exact hL.2 h x hx
  clear hL
  generalize ptL (aT A) (eF (aT A) g) n (2 ^ tD (aT A) - 1) (2 ^ tD (aT A) - 1) = lo at hL1 hL2 hq
  rw [hCt] at hq
  have hcz : ∀ m, cntB P m = 0 ↔ ∀ y, y < m → P y = false := by
    intro m
    induction m with
    | zero => exact ⟨fun _ y hy => absurd hy (by omega), fun _ => rfl⟩
    | succ m ih =>
      rw [cntB]
      constructor
      · intro h y hy
        have h1 : cntB P m = 0 := by omega
        by_cases e : y = m
        · subst e
          cases hp : P y
          · rfl
          · rw [hp] at h; simp at h
        · exact ih.mp h1 y (by omega)
      · intro h
        rw [ih.mpr (fun y hy => h y (by omega)), h m (by omega)]
        rfl
  have key := zloop (P := fun m => ∀ fo : Option Nat, (∀ v, fo = some v → v < m ∧ P v = true ∧ ∀ y, y < v → P y = false) → (fo = none → ∀ y, y < m → P y = false) → WW C 8 [some (.ref 56), some (.int z), some (.int (nI (cntB P m))), some (.int (i2 fo)), some (.int (nI m))] [] σ) (2 ^ n) (fun m hm ih fo hf1 hf2 => ?_) (fun fo hf1 hf2 => ?_) 0 (Nat.zero_le _)
  · exact key none (fun v h => by cases h) (fun _ y hy => by omega)
  · refine r_X12_parted_8 hC hR m_X12_goes (by decide) _ _ _ ?_
    simp only [T_X12_parted_8, x_psh, x_ild, x_lld, x_ald, x_ist, x_ast, x_lst, x_inc, x_iadd, x_isub, x_imul, x_iand, x_ior, x_ixor, x_ishl, x_ishr, x_iushr, x_idiv, x_irem, x_ladd, x_land, x_lor, x_lshl, x_lshr, x_ineg, x_i2l, x_l2i, x_i2b, x_lcmp, x_dup, x_dup2, x_if_eq, x_if_ne, x_if_lt, x_if_ge, x_if_gt, x_if_le, x_ic_eq, x_ic_ne, x_ic_lt, x_ic_ge, x_ic_gt, x_ic_le, x_getI, x_getR, x_putI, x_putZ, x_putR, x_iald, x_bald, x_lald, x_iast, x_bast, x_last, x_alen, x_acp, x_mmax, x_mmin, x_callV, x_callS, x_iret, x_zret, x_lret, x_aret, x_vret, x_tsw, x_stop, zst1, zst2, zkill, zkl, zsplit, zmask, zent, zentL, List.getElem?_cons_zero, List.getElem?_cons_succ, List.set_cons_zero, List.set_cons_succ, List.set_nil, List.length_cons, List.length_nil, List.replicate, List.nil_append, List.cons_append, List.map_cons, List.map_nil, List.sum_cons, List.sum_nil, Value.category, Option.toList, List.contains_cons, List.contains_nil, true_or, or_true, true_and, Nat.zero_le, Nat.reduceAdd, Nat.reduceLeDiff, Nat.reduceLT, Nat.reduceBEq, Bool.true_or, Bool.or_true, Bool.false_or, Bool.or_false, ↓reduceIte, Bool.false_eq_true, Nat.add_zero, Nat.zero_add, Nat.reduceEqDiff, Nat.reduceSub, hf, w_X12_goes, b2i_0, ne_eq, Nat.reduceEqDiff, not_false_eq_true, not_true_eq_false, true_and, and_true, true_implies, false_implies, implies_true, and_self]
    rw [hn, z_l31, z_l1, z_p2 n (by omega)]
    refine ⟨fun q => absurd q (nI_ge hm (by omega)), fun _ => ⟨aT A, n, g, m, hM, hEa, rfl, by omega, ?_⟩⟩
    have hPm := hPx m
    have hcnt := cntB_le P m
    have ih' : P m = false → WW C 8 [some (.ref 56), some (.int z), some (.int (nI (cntB P m))), some (.int (i2 fo)), some (.int (nI (m + 1)))] [] σ := by
      intro hp
      have := ih fo (fun v h => ⟨by have := (hf1 v h).1; omega, (hf1 v h).2⟩) (fun h y hy => by
        by_cases e : y = m
        · subst e; exact hp
        · exact hf2 h y (by omega))
      rw [cntB, hp] at this
      exact this
    rw [z_p2m n (by omega), z_dif' (by omega)]
    simp only [nI_i3, nI_add]
    refine ⟨fun q => ?_, fun q => ⟨aT A, n, g, dif (2 ^ n - 1) m, hM, hEa, rfl, ?_, ?_⟩⟩
    · have q : gsB (aT A) (eF (aT A) g) n m = false := by simpa using q
      rw [q] at hPm
      exact ih' (by rw [← hPm]; rfl)
    · have : dif (2 ^ n - 1) m < 2 ^ n := dif_lt (by have := Nat.two_pow_pos n; omega)
      omega
    · have q : gsB (aT A) (eF (aT A) g) n m = true := by simpa using q
      refine ⟨fun q2 => ?_, fun q2 => ?_⟩
      · have q2 : gsB (aT A) (eF (aT A) g) n (dif (2 ^ n - 1) m) = false := by simpa using q2
        rw [q, q2] at hPm
        exact ih' (by rw [← hPm]; rfl)
      · have q2 : gsB (aT A) (eF (aT A) g) n (dif (2 ^ n - 1) m) = true := by simpa using q2
        rw [q, q2] at hPm
        have hp : P m = true := by rw [← hPm]; rfl
        have e0 : (nI (cntB P m) = 0) = (cntB P m = 0) := propext (nI_eq (b := 0) (by omega) (by omega))
        have hs : cntB P (m + 1) = cntB P m + 1 := by rw [cntB, hp]; rfl
        simp only [e0]
        rw [← hs]
        refine ⟨fun q3 => ?_, fun q3 => ?_⟩
        · refine ih fo (fun v h => ⟨by have := (hf1 v h).1; omega, (hf1 v h).2⟩) (fun h => ?_)
          exact absurd ((hcz m).mpr (hf2 h)) q3
        · refine ih (some m) (fun v h => ?_) (fun h => by cases h)
          cases h
          exact ⟨by omega, hp, (hcz m).mp q3⟩
  · refine r_X12_parted_8 hC hR m_X12_goes (by decide) _ _ _ ?_
    simp only [T_X12_parted_8, x_psh, x_ild, x_lld, x_ald, x_ist, x_ast, x_lst, x_inc, x_iadd, x_isub, x_imul, x_iand, x_ior, x_ixor, x_ishl, x_ishr, x_iushr, x_idiv, x_irem, x_ladd, x_land, x_lor, x_lshl, x_lshr, x_ineg, x_i2l, x_l2i, x_i2b, x_lcmp, x_dup, x_dup2, x_if_eq, x_if_ne, x_if_lt, x_if_ge, x_if_gt, x_if_le, x_ic_eq, x_ic_ne, x_ic_lt, x_ic_ge, x_ic_gt, x_ic_le, x_getI, x_getR, x_putI, x_putZ, x_putR, x_iald, x_bald, x_lald, x_iast, x_bast, x_last, x_alen, x_acp, x_mmax, x_mmin, x_callV, x_callS, x_iret, x_zret, x_lret, x_aret, x_vret, x_tsw, x_stop, zst1, zst2, zkill, zkl, zsplit, zmask, zent, zentL, List.getElem?_cons_zero, List.getElem?_cons_succ, List.set_cons_zero, List.set_cons_succ, List.set_nil, List.length_cons, List.length_nil, List.replicate, List.nil_append, List.cons_append, List.map_cons, List.map_nil, List.sum_cons, List.sum_nil, Value.category, Option.toList, List.contains_cons, List.contains_nil, true_or, or_true, true_and, Nat.zero_le, Nat.reduceAdd, Nat.reduceLeDiff, Nat.reduceLT, Nat.reduceBEq, Bool.true_or, Bool.or_true, Bool.false_or, Bool.or_false, ↓reduceIte, Bool.false_eq_true, Nat.add_zero, Nat.zero_add, Nat.reduceEqDiff, Nat.reduceSub, hf, w_X12_goes, b2i_0, ne_eq, Nat.reduceEqDiff, not_false_eq_true, not_true_eq_false, true_and, and_true, true_implies, false_implies, implies_true, and_self]
    rw [hn, z_l31, z_l1, z_p2 n (by omega)]
    refine ⟨fun _ => ⟨fun q => ?_, fun q => ?_⟩, fun q => absurd (nI_le (Nat.le_refl _) (by omega)) q⟩
    · simp only [if_pos q] at hq
      exact hq
    · simp only [if_neg q] at hq
      have e : fo = lo := by
        cases fo with
        | none =>
          cases lo with
          | none => rfl
          | some v =>
            have h1 := hL1 v rfl
            rw [hf2 rfl v h1.1] at h1
            cases h1.2.1
        | some v =>
          have hv := hf1 v rfl
          cases lo with
          | none =>
            rw [hL2 rfl v hv.1] at hv
            cases hv.2.1
          | some u =>
            have hu := hL1 u rfl
            rcases Nat.lt_trichotomy u v with h | h | h
            · rw [hv.2.2 u h] at hu; cases hu.2.1
            · rw [h]
            · rw [hu.2.2 v h] at hv; cases hv.2.1
      rw [e]
      exact hq
