def lsbO (s : Nat) : Option Nat := if s = 0 then none else some (lsb s)
def i2 (o : Option Nat) : Int32 := match o with
  | none => -9
  | some d => nI d
theorem i2_lsb (s : Nat) : (if s = 0 then -9 else nI (lsb s)) = i2 (lsbO s) := by unfold lsbO; split <;> rfl
/-- the k-th door of the first way -/
def fstW (T : TD) (F : Nat → Nat) (n : Nat) : Nat → Option Nat
  | 0 => lsbO (opnS T F n (n - 1))
  | k + 1 => match fstW T F n k with
    | none => none
    | some d => lsbO (opnS T F n (n - 1 - (k + 1)) &&& tE T d)
theorem lsb_bit : ∀ s, s < 4096 → s ≠ 0 → s.testBit (lsb s) = true := z_4096 (P := fun s => s ≠ 0 → s.testBit (lsb s) = true) (by decide +kernel)
def w_X9_doorOfFirst : WPt := fun args σ Q => match args with
  | [.ref u, .ref t, .int p] => ∃ n F G T, TuneS σ u ∧ TuneV σ u n F G ∧ TownR σ t T ∧ 1 ≤ n ∧ (∀ k, k < n → F k < 2 ^ tD T) ∧ (∀ k, k < n → p = nI k → Q (some (.int (i2 (fstW T F n k)))) σ) ∧ (¬ (0 ≤ p ∧ p < nI n) → Q (some (.int (-9))) σ)
  | _ => False
theorem m_X9_doorOfFirst : Meets yX9_doorOfFirst cX9_doorOfFirst 5 (some .int) 4 w_X9_doorOfFirst := by
  refine Meets.mk (by decide) fun args σ Φ h => ?_
  unfold w_X9_doorOfFirst at h
  split at h
  rotate_left
  · exact h.elim
  rename_i u t p
  obtain ⟨u, rfl⟩ : ∃ q : Nat, q = u := ⟨u, rfl⟩
  obtain ⟨t, rfl⟩ : ∃ q : Nat, q = t := ⟨t, rfl⟩
  obtain ⟨n, F, G, T, hu, hv, hT, hn1, hFD, hQ1, hQ2⟩ := h
  refine ⟨Nat.le_of_ble_eq_true rfl, fun C hC hR => ?_⟩
  have v1 := hv.1
  have hn := hv.2.1
  have hp := hT.d31
  have hD := hT.2.2.2.1
  have hlt := opnS_lt (T := T) (F := F) (n := n) (fun k hk => (hv.2.2 k hk).2.1)
  have hltD : ∀ j, j < n → opnS T F n j < 2 ^ tD T := fun j hj => by
    cases j with
    | zero => exact hFD _ (by omega)
    | succ j => exact and_lt31 (hFD _ (by omega))
  have hfd : ∀ j d, j < n → fstW T F n j = some d → d < tD T := by
    intro j d hj e
    have aux : ∀ s, s < 2 ^ tD T → lsbO s = some d → d < tD T := by
      intro s hs e
      unfold lsbO at e
      split at e
      · cases e
      next h0 =>
        have e2 := Option.some.inj e
        rw [← e2]
        exact z_bit_lt hs (lsb_bit s (by omega) h0)
    cases j with
    | zero => exact aux _ (hltD _ (by omega)) e
    | succ j =>
      rw [fstW] at e
      split at e
      · cases e
      · exact aux _ (and_lt31' (hltD _ (by omega))) e
  refine r_X9_doorOfFirst_0 hC hR m_X9_openAt (by decide) m_X11_leastOf (by decide) m_X8_joinedTo (by decide) _ _ _ ?_
  simp only [T_X9_doorOfFirst_0, x_psh, x_ild, x_lld, x_ald, x_ist, x_ast, x_lst, x_inc, x_iadd, x_isub, x_imul, x_iand, x_ior, x_ixor, x_ishl, x_ishr, x_iushr, x_idiv, x_irem, x_ladd, x_land, x_lor, x_lshl, x_lshr, x_ineg, x_i2l, x_l2i, x_i2b, x_lcmp, x_dup, x_dup2, x_if_eq, x_if_ne, x_if_lt, x_if_ge, x_if_gt, x_if_le, x_ic_eq, x_ic_ne, x_ic_lt, x_ic_ge, x_ic_gt, x_ic_le, x_getI, x_getR, x_putI, x_putZ, x_putR, x_iald, x_bald, x_lald, x_iast, x_bast, x_last, x_alen, x_acp, x_mmax, x_mmin, x_callV, x_callS, x_iret, x_zret, x_lret, x_aret, x_vret, x_tsw, x_stop, zst1, zst2, zkill, zkl, zsplit, zmask, zent, zentL, List.getElem?_cons_zero, List.getElem?_cons_succ, List.set_cons_zero, List.set_cons_succ, List.set_nil, List.length_cons, List.length_nil, List.replicate, List.nil_append, List.cons_append, List.map_cons, List.map_nil, List.sum_cons, List.sum_nil, Value.category, Option.toList, List.contains_cons, List.contains_nil, true_or, or_true, true_and, Nat.zero_le, Nat.reduceAdd, Nat.reduceLeDiff, Nat.reduceLT, Nat.reduceBEq, Bool.true_or, Bool.or_true, Bool.false_or, Bool.or_false, ↓reduceIte, Bool.false_eq_true, Nat.add_zero, Nat.zero_add, Nat.reduceEqDiff, Nat.reduceSub, w_X9_openAt, w_X11_leastOf, v1]
  refine ⟨fun q => hQ2 fun q2 => absurd q (Int32.not_lt.mpr q2.1), fun q => ⟨hu.1, fun q1 => ⟨hu.1, n, F, G, T, 0, hu, hv, hT, rfl, by omega, opnS T F n (n - 1 - 0), rfl, hlt _ (by omega), ?_⟩, fun q1 => hQ2 fun q2 => q1 q2.2⟩⟩
  obtain ⟨k, hk31, rfl⟩ := z_ge0 p q
  have hk : k < n := (nI_ltI hk31 (by omega)).mp q1
  rw [i2_lsb]
  have key := zloop (P := fun i => WW C 28 [some (.ref u), some (.ref t), some (.int (nI k)), some (.int (i2 (fstW T F n i))), some (.int (nI (i + 1)))] [] σ) k (fun i hi ih => ?_) ?_ 0 (by omega)
  · exact key
  · cases hf : fstW T F n i with
    | none =>
      -- it stays none up to k
      have stay : ∀ j, fstW T F n (i + j) = none := fun j => by
        induction j with
        | zero => exact hf
        | succ j ihj => rw [← Nat.add_assoc, fstW, ihj]
      have hk0 := stay (k - i)
      rw [show i + (k - i) = k by omega] at hk0
      have hQ := hQ1 k hk rfl
      rw [hk0] at hQ
      refine r_X9_doorOfFirst_28 hC hR m_X9_openAt (by decide) m_X11_leastOf (by decide) m_X8_joinedTo (by decide) _ _ _ ?_
      simp only [T_X9_doorOfFirst_28, x_psh, x_ild, x_lld, x_ald, x_ist, x_ast, x_lst, x_inc, x_iadd, x_isub, x_imul, x_iand, x_ior, x_ixor, x_ishl, x_ishr, x_iushr, x_idiv, x_irem, x_ladd, x_land, x_lor, x_lshl, x_lshr, x_ineg, x_i2l, x_l2i, x_i2b, x_lcmp, x_dup, x_dup2, x_if_eq, x_if_ne, x_if_lt, x_if_ge, x_if_gt, x_if_le, x_ic_eq, x_ic_ne, x_ic_lt, x_ic_ge, x_ic_gt, x_ic_le, x_getI, x_getR, x_putI, x_putZ, x_putR, x_iald, x_bald, x_lald, x_iast, x_bast, x_last, x_alen, x_acp, x_mmax, x_mmin, x_callV, x_callS, x_iret, x_zret, x_lret, x_aret, x_vret, x_tsw, x_stop, zst1, zst2, zkill, zkl, zsplit, zmask, zent, zentL, List.getElem?_cons_zero, List.getElem?_cons_succ, List.set_cons_zero, List.set_cons_succ, List.set_nil, List.length_cons, List.length_nil, List.replicate, List.nil_append, List.cons_append, List.map_cons, List.map_nil, List.sum_cons, List.sum_nil, Value.category, Option.toList, List.contains_cons, List.contains_nil, true_or, or_true, true_and, Nat.zero_le, Nat.reduceAdd, Nat.reduceLeDiff, Nat.reduceLT, Nat.reduceBEq, Bool.true_or, Bool.or_true, Bool.false_or, Bool.or_false, ↓reduceIte, Bool.false_eq_true, Nat.add_zero, Nat.zero_add, Nat.reduceEqDiff, Nat.reduceSub, v1, i2]
      exact ⟨fun q => absurd q (nI_nlt (by omega) (by omega)), fun _ => ⟨hu.1, fun q => absurd q (nI_ge (by omega) (by omega)), fun _ => ⟨fun _ => hQ, fun q => absurd trivial q⟩⟩⟩
    | some d =>
      have hd := hfd i d (by omega) hf
      refine r_X9_doorOfFirst_28 hC hR m_X9_openAt (by decide) m_X11_leastOf (by decide) m_X8_joinedTo (by decide) _ _ _ ?_
      simp only [T_X9_doorOfFirst_28, x_psh, x_ild, x_lld, x_ald, x_ist, x_ast, x_lst, x_inc, x_iadd, x_isub, x_imul, x_iand, x_ior, x_ixor, x_ishl, x_ishr, x_iushr, x_idiv, x_irem, x_ladd, x_land, x_lor, x_lshl, x_lshr, x_ineg, x_i2l, x_l2i, x_i2b, x_lcmp, x_dup, x_dup2, x_if_eq, x_if_ne, x_if_lt, x_if_ge, x_if_gt, x_if_le, x_ic_eq, x_ic_ne, x_ic_lt, x_ic_ge, x_ic_gt, x_ic_le, x_getI, x_getR, x_putI, x_putZ, x_putR, x_iald, x_bald, x_lald, x_iast, x_bast, x_last, x_alen, x_acp, x_mmax, x_mmin, x_callV, x_callS, x_iret, x_zret, x_lret, x_aret, x_vret, x_tsw, x_stop, zst1, zst2, zkill, zkl, zsplit, zmask, zent, zentL, List.getElem?_cons_zero, List.getElem?_cons_succ, List.set_cons_zero, List.set_cons_succ, List.set_nil, List.length_cons, List.length_nil, List.replicate, List.nil_append, List.cons_append, List.map_cons, List.map_nil, List.sum_cons, List.sum_nil, Value.category, Option.toList, List.contains_cons, List.contains_nil, true_or, or_true, true_and, Nat.zero_le, Nat.reduceAdd, Nat.reduceLeDiff, Nat.reduceLT, Nat.reduceBEq, Bool.true_or, Bool.or_true, Bool.false_or, Bool.or_false, ↓reduceIte, Bool.false_eq_true, Nat.add_zero, Nat.zero_add, Nat.reduceEqDiff, Nat.reduceSub, w_X9_openAt, w_X8_joinedTo, w_X11_leastOf, v1, i2]
      refine ⟨fun q => absurd q (nI_nlt (by omega) (by omega)), fun _ => ⟨hu.1, fun q => absurd q (nI_ge (by omega) (by omega)), fun _ => ⟨fun q => absurd q (z_m9 (by omega)), fun _ => ⟨hu.1, n, F, G, T, i + 1, hu, hv, hT, rfl, by omega, hT.1.1, T, hT, fun j hj e => ?_, fun q => absurd (not_lt_pos (by omega) hd) q⟩⟩⟩⟩
      have e2 : d = j := (nI_eq (by omega) (by omega)).mp e
      subst e2
      refine ⟨opnS T F n (n - 1 - (i + 1)) &&& tE T d, z_and _ _, and_lt31' (hlt _ (by omega)), ?_⟩
      rw [i2_lsb, nI_i3]
      rw [show fstW T F n (i + 1) = lsbO (opnS T F n (n - 1 - (i + 1)) &&& tE T d) by rw [fstW, hf]] at ih
      exact ih
  · refine r_X9_doorOfFirst_28 hC hR m_X9_openAt (by decide) m_X11_leastOf (by decide) m_X8_joinedTo (by decide) _ _ _ ?_
    simp only [T_X9_doorOfFirst_28, x_psh, x_ild, x_lld, x_ald, x_ist, x_ast, x_lst, x_inc, x_iadd, x_isub, x_imul, x_iand, x_ior, x_ixor, x_ishl, x_ishr, x_iushr, x_idiv, x_irem, x_ladd, x_land, x_lor, x_lshl, x_lshr, x_ineg, x_i2l, x_l2i, x_i2b, x_lcmp, x_dup, x_dup2, x_if_eq, x_if_ne, x_if_lt, x_if_ge, x_if_gt, x_if_le, x_ic_eq, x_ic_ne, x_ic_lt, x_ic_ge, x_ic_gt, x_ic_le, x_getI, x_getR, x_putI, x_putZ, x_putR, x_iald, x_bald, x_lald, x_iast, x_bast, x_last, x_alen, x_acp, x_mmax, x_mmin, x_callV, x_callS, x_iret, x_zret, x_lret, x_aret, x_vret, x_tsw, x_stop, zst1, zst2, zkill, zkl, zsplit, zmask, zent, zentL, List.getElem?_cons_zero, List.getElem?_cons_succ, List.set_cons_zero, List.set_cons_succ, List.set_nil, List.length_cons, List.length_nil, List.replicate, List.nil_append, List.cons_append, List.map_cons, List.map_nil, List.sum_cons, List.sum_nil, Value.category, Option.toList, List.contains_cons, List.contains_nil, true_or, or_true, true_and, Nat.zero_le, Nat.reduceAdd, Nat.reduceLeDiff, Nat.reduceLT, Nat.reduceBEq, Bool.true_or, Bool.or_true, Bool.false_or, Bool.or_false, ↓reduceIte, Bool.false_eq_true, Nat.add_zero, Nat.zero_add, Nat.reduceEqDiff, Nat.reduceSub, v1]
    exact ⟨fun _ => hQ1 k hk rfl, fun q => absurd (nI_lt (by omega) (by omega)) q⟩
/-- the doors ahead of place p -/
def bgnS (T : TD) (F : Nat → Nat) : Nat → Nat
  | 0 => 2 ^ tD T - 1
  | p + 1 => arS T (bgnS T F p &&& F p)
def w_X9_placesBegun : WPt := fun args σ Q => match args with
  | [.ref u, .ref t] => ∃ n F G T, TuneS σ u ∧ TuneV σ u n F G ∧ TownR σ t T ∧ Q (some (.int (nI (fstB (fun p => decide (bgnS T F p &&& F p = 0)) n)))) σ
  | _ => False
theorem m_X9_placesBegun : Meets yX9_placesBegun cX9_placesBegun 4 (some .int) 3 w_X9_placesBegun := by
  refine Meets.mk (by decide) fun args σ Φ h => ?_
  unfold w_X9_placesBegun at h
  split at h
  rotate_left
  · exact h.elim
  rename_i u t
  obtain ⟨u, rfl⟩ : ∃ q : Nat, q = u := ⟨u, rfl⟩
  obtain ⟨t, rfl⟩ : ∃ q : Nat, q = t := ⟨t, rfl⟩
  obtain ⟨n, F, G, T, hu, hv, hT, hQ⟩ := h
  refine ⟨Nat.le_of_ble_eq_true rfl, fun C hC hR => ?_⟩
  have v1 := hv.1
  have hn := hv.2.1
  have hp := hT.d31
  refine r_X9_placesBegun_0 hC hR m_X8_allDoors (by decide) m_X9_fitsAt (by decide) m_X8_around (by decide) _ _ _ ?_
  simp only [T_X9_placesBegun_0, x_psh, x_ild, x_lld, x_ald, x_ist, x_ast, x_lst, x_inc, x_iadd, x_isub, x_imul, x_iand, x_ior, x_ixor, x_ishl, x_ishr, x_iushr, x_idiv, x_irem, x_ladd, x_land, x_lor, x_lshl, x_lshr, x_ineg, x_i2l, x_l2i, x_i2b, x_lcmp, x_dup, x_dup2, x_if_eq, x_if_ne, x_if_lt, x_if_ge, x_if_gt, x_if_le, x_ic_eq, x_ic_ne, x_ic_lt, x_ic_ge, x_ic_gt, x_ic_le, x_getI, x_getR, x_putI, x_putZ, x_putR, x_iald, x_bald, x_lald, x_iast, x_bast, x_last, x_alen, x_acp, x_mmax, x_mmin, x_callV, x_callS, x_iret, x_zret, x_lret, x_aret, x_vret, x_tsw, x_stop, zst1, zst2, zkill, zkl, zsplit, zmask, zent, zentL, List.getElem?_cons_zero, List.getElem?_cons_succ, List.set_cons_zero, List.set_cons_succ, List.set_nil, List.length_cons, List.length_nil, List.replicate, List.nil_append, List.cons_append, List.map_cons, List.map_nil, List.sum_cons, List.sum_nil, Value.category, Option.toList, List.contains_cons, List.contains_nil, true_or, or_true, true_and, Nat.zero_le, Nat.reduceAdd, Nat.reduceLeDiff, Nat.reduceLT, Nat.reduceBEq, Bool.true_or, Bool.or_true, Bool.false_or, Bool.or_false, ↓reduceIte, Bool.false_eq_true, Nat.add_zero, Nat.zero_add, Nat.reduceEqDiff, Nat.reduceSub, w_X8_allDoors]
  refine ⟨hT.1.1, tD T, hT.1.1, hT.2.1, hT.2.2.2.1, ?_⟩
  have key := zloop (P := fun i => (∀ j, j < i → ¬ bgnS T F j &&& F j = 0) → WW C 7 [some (.ref u), some (.ref t), some (.int (nI (bgnS T F i))), some (.int (nI i))] [] σ) n (fun i hi ih hno => ?_) ?_ 0 (by omega)
  · exact key fun j hj => absurd hj (Nat.not_lt_zero j)
  · have hF := (hv.2.2 i hi).2.1
    refine r_X9_placesBegun_7 hC hR m_X8_allDoors (by decide) m_X9_fitsAt (by decide) m_X8_around (by decide) _ _ _ ?_
    simp only [T_X9_placesBegun_7, x_psh, x_ild, x_lld, x_ald, x_ist, x_ast, x_lst, x_inc, x_iadd, x_isub, x_imul, x_iand, x_ior, x_ixor, x_ishl, x_ishr, x_iushr, x_idiv, x_irem, x_ladd, x_land, x_lor, x_lshl, x_lshr, x_ineg, x_i2l, x_l2i, x_i2b, x_lcmp, x_dup, x_dup2, x_if_eq, x_if_ne, x_if_lt, x_if_ge, x_if_gt, x_if_le, x_ic_eq, x_ic_ne, x_ic_lt, x_ic_ge, x_ic_gt, x_ic_le, x_getI, x_getR, x_putI, x_putZ, x_putR, x_iald, x_bald, x_lald, x_iast, x_bast, x_last, x_alen, x_acp, x_mmax, x_mmin, x_callV, x_callS, x_iret, x_zret, x_lret, x_aret, x_vret, x_tsw, x_stop, zst1, zst2, zkill, zkl, zsplit, zmask, zent, zentL, List.getElem?_cons_zero, List.getElem?_cons_succ, List.set_cons_zero, List.set_cons_succ, List.set_nil, List.length_cons, List.length_nil, List.replicate, List.nil_append, List.cons_append, List.map_cons, List.map_nil, List.sum_cons, List.sum_nil, Value.category, Option.toList, List.contains_cons, List.contains_nil, true_or, or_true, true_and, Nat.zero_le, Nat.reduceAdd, Nat.reduceLeDiff, Nat.reduceLT, Nat.reduceBEq, Bool.true_or, Bool.or_true, Bool.false_or, Bool.or_false, ↓reduceIte, Bool.false_eq_true, Nat.add_zero, Nat.zero_add, Nat.reduceEqDiff, Nat.reduceSub, w_X9_fitsAt, w_X8_around, v1]
    refine ⟨hu.1, fun q => absurd q (nI_ge hi (by omega)), fun _ => ⟨hu.1, n, F, G, hu, hv, fun j hj e => ?_, fun q => absurd (not_lt_pos (by omega) hi) q⟩⟩
    have e2 : i = j := (nI_eq (by omega) (by omega)).mp e
    subst e2
    have hl : bgnS T F i &&& F i < 4096 := and_lt31 hF
    rw [z_and, z_l0, nI_eq (by omega) (by omega)]
    refine ⟨fun q => ⟨hT.1.1, T, _, hT, rfl, by omega, ?_⟩, fun q => ?_⟩
    · rw [show nI i + 1 = nI (i + 1) from nI_1 i]
      refine ih fun j hj => ?_
      by_cases e : j = i
      · subst e; exact q
      · exact hno j (by omega)
    · rw [fstB_eq hi (by simpa using q) (fun j hj => by simpa using hno j hj)] at hQ
      exact hQ
  · intro hno
    refine r_X9_placesBegun_7 hC hR m_X8_allDoors (by decide) m_X9_fitsAt (by decide) m_X8_around (by decide) _ _ _ ?_
    simp only [T_X9_placesBegun_7, x_psh, x_ild, x_lld, x_ald, x_ist, x_ast, x_lst, x_inc, x_iadd, x_isub, x_imul, x_iand, x_ior, x_ixor, x_ishl, x_ishr, x_iushr, x_idiv, x_irem, x_ladd, x_land, x_lor, x_lshl, x_lshr, x_ineg, x_i2l, x_l2i, x_i2b, x_lcmp, x_dup, x_dup2, x_if_eq, x_if_ne, x_if_lt, x_if_ge, x_if_gt, x_if_le, x_ic_eq, x_ic_ne, x_ic_lt, x_ic_ge, x_ic_gt, x_ic_le, x_getI, x_getR, x_putI, x_putZ, x_putR, x_iald, x_bald, x_lald, x_iast, x_bast, x_last, x_alen, x_acp, x_mmax, x_mmin, x_callV, x_callS, x_iret, x_zret, x_lret, x_aret, x_vret, x_tsw, x_stop, zst1, zst2, zkill, zkl, zsplit, zmask, zent, zentL, List.getElem?_cons_zero, List.getElem?_cons_succ, List.set_cons_zero, List.set_cons_succ, List.set_nil, List.length_cons, List.length_nil, List.replicate, List.nil_append, List.cons_append, List.map_cons, List.map_nil, List.sum_cons, List.sum_nil, Value.category, Option.toList, List.contains_cons, List.contains_nil, true_or, or_true, true_and, Nat.zero_le, Nat.reduceAdd, Nat.reduceLeDiff, Nat.reduceLT, Nat.reduceBEq, Bool.true_or, Bool.or_true, Bool.false_or, Bool.or_false, ↓reduceIte, Bool.false_eq_true, Nat.add_zero, Nat.zero_add, Nat.reduceEqDiff, Nat.reduceSub, v1]
    refine ⟨hu.1, fun _ => ?_, fun q => absurd (nI_le (Nat.le_refl _) (by omega)) q⟩
    have e : fstB (fun p => decide (bgnS T F p &&& F p = 0)) n = n := by
      have h1 := fstB_le (fun p => decide (bgnS T F p &&& F p = 0)) n
      rcases Nat.lt_or_ge (fstB (fun p => decide (bgnS T F p &&& F p = 0)) n) n with h | h
      · have := fstB_yes _ _ h
        simp at this
        exact absurd this (hno _ h)
      · omega
    rw [e] at hQ
    exact ⟨hu.1, hQ⟩
/-- the doors ahead of place p, some of them still -/
def sngS (T : TD) (F G : Nat → Nat) (fr st : Nat) : Nat → Nat
  | 0 => fr
  | p + 1 => arS T (sngS T F G fr st p &&& dif (F p) (G p &&& st))
def sngB (T : TD) (F G : Nat → Nat) (fr st n : Nat) : Bool := !anyB (fun p => decide (sngS T F G fr st p &&& dif (F p) (G p &&& st) = 0)) n
def w_X9_canBeSung : WPt := fun args σ Q => match args with
  | [.ref u, .ref t, .int x, .int y] => ∃ n F G T fr st, TuneS σ u ∧ TuneV σ u n F G ∧ TownR σ t T ∧ x = nI fr ∧ y = nI st ∧ Q (some (.int (b2i (sngB T F G fr st n = true)))) σ
  | _ => False
theorem m_X9_canBeSung : Meets yX9_canBeSung cX9_canBeSung 6 (some .boolean) 3 w_X9_canBeSung := by
  refine Meets.mk (by decide) fun args σ Φ h => ?_
  unfold w_X9_canBeSung at h
  split at h
  rotate_left
  · exact h.elim
  rename_i u t x y
  obtain ⟨u, rfl⟩ : ∃ q : Nat, q = u := ⟨u, rfl⟩
  obtain ⟨t, rfl⟩ : ∃ q : Nat, q = t := ⟨t, rfl⟩
  obtain ⟨n, F, G, T, fr, st, hu, hv, hT, rfl, rfl, hQ⟩ := h
  refine ⟨Nat.le_of_ble_eq_true rfl, fun C hC hR => ?_⟩
  have v1 := hv.1
  have hn := hv.2.1
  have hp := hT.d31
  have ⟨s1, s2, s3, s4, s5, s6, s7⟩ := hu
  refine r_X9_canBeSung_0 hC hR m_X8_around (by decide) _ _ _ ?_
  simp only [T_X9_canBeSung_0, x_psh, x_ild, x_lld, x_ald, x_ist, x_ast, x_lst, x_inc, x_iadd, x_isub, x_imul, x_iand, x_ior, x_ixor, x_ishl, x_ishr, x_iushr, x_idiv, x_irem, x_ladd, x_land, x_lor, x_lshl, x_lshr, x_ineg, x_i2l, x_l2i, x_i2b, x_lcmp, x_dup, x_dup2, x_if_eq, x_if_ne, x_if_lt, x_if_ge, x_if_gt, x_if_le, x_ic_eq, x_ic_ne, x_ic_lt, x_ic_ge, x_ic_gt, x_ic_le, x_getI, x_getR, x_putI, x_putZ, x_putR, x_iald, x_bald, x_lald, x_iast, x_bast, x_last, x_alen, x_acp, x_mmax, x_mmin, x_callV, x_callS, x_iret, x_zret, x_lret, x_aret, x_vret, x_tsw, x_stop, zst1, zst2, zkill, zkl, zsplit, zmask, zent, zentL, List.getElem?_cons_zero, List.getElem?_cons_succ, List.set_cons_zero, List.set_cons_succ, List.set_nil, List.length_cons, List.length_nil, List.replicate, List.nil_append, List.cons_append, List.map_cons, List.map_nil, List.sum_cons, List.sum_nil, Value.category, Option.toList, List.contains_cons, List.contains_nil, true_or, or_true, true_and, Nat.zero_le, Nat.reduceAdd, Nat.reduceLeDiff, Nat.reduceLT, Nat.reduceBEq, Bool.true_or, Bool.or_true, Bool.false_or, Bool.or_false, ↓reduceIte, Bool.false_eq_true, Nat.add_zero, Nat.zero_add, Nat.reduceEqDiff, Nat.reduceSub]
  have key := zloop (P := fun i => (∀ j, j < i → ¬ sngS T F G fr st j &&& dif (F j) (G j &&& st) = 0) → WW C 6 [some (.ref u), some (.ref t), none, some (.int (nI st)), some (.int (nI (sngS T F G fr st i))), some (.int (nI i))] [] σ) n (fun i hi ih hno => ?_) ?_ 0 (by omega)
  · exact key fun j hj => absurd hj (Nat.not_lt_zero j)
  · have hF := (hv.2.2 i hi).2.1
    refine r_X9_canBeSung_6 hC hR m_X8_around (by decide) _ _ _ ?_
    simp only [T_X9_canBeSung_6, x_psh, x_ild, x_lld, x_ald, x_ist, x_ast, x_lst, x_inc, x_iadd, x_isub, x_imul, x_iand, x_ior, x_ixor, x_ishl, x_ishr, x_iushr, x_idiv, x_irem, x_ladd, x_land, x_lor, x_lshl, x_lshr, x_ineg, x_i2l, x_l2i, x_i2b, x_lcmp, x_dup, x_dup2, x_if_eq, x_if_ne, x_if_lt, x_if_ge, x_if_gt, x_if_le, x_ic_eq, x_ic_ne, x_ic_lt, x_ic_ge, x_ic_gt, x_ic_le, x_getI, x_getR, x_putI, x_putZ, x_putR, x_iald, x_bald, x_lald, x_iast, x_bast, x_last, x_alen, x_acp, x_mmax, x_mmin, x_callV, x_callS, x_iret, x_zret, x_lret, x_aret, x_vret, x_tsw, x_stop, zst1, zst2, zkill, zkl, zsplit, zmask, zent, zentL, List.getElem?_cons_zero, List.getElem?_cons_succ, List.set_cons_zero, List.set_cons_succ, List.set_nil, List.length_cons, List.length_nil, List.replicate, List.nil_append, List.cons_append, List.map_cons, List.map_nil, List.sum_cons, List.sum_nil, Value.category, Option.toList, List.contains_cons, List.contains_nil, true_or, or_true, true_and, Nat.zero_le, Nat.reduceAdd, Nat.reduceLeDiff, Nat.reduceLT, Nat.reduceBEq, Bool.true_or, Bool.or_true, Bool.false_or, Bool.or_false, ↓reduceIte, Bool.false_eq_true, Nat.add_zero, Nat.zero_add, Nat.reduceEqDiff, Nat.reduceSub, w_X8_around, v1, s1, s5, s6, s2, s3]
    refine ⟨fun q => absurd q (nI_ge hi (by omega)), fun _ => ⟨fun q => absurd q (by rw [z_l12]; exact nI_ge (by omega) (by omega)), fun _ => ⟨by omega, 12, rfl, vp_in_nI (by omega) (by omega), by omega, 12, rfl, vp_in_nI (by omega) (by omega), ?_⟩⟩⟩
    have hl : sngS T F G fr st i &&& dif (F i) (G i &&& st) < 4096 := and_lt31 (dif_lt (n := 12) hF)
    rw [nI_clamp (by omega), (hv.2.2 i hi).1, (hv.2.2 i hi).2.2.1, z_and, z_dif (by omega), z_and, z_l0, nI_eq (by omega) (by omega)]
    refine ⟨fun q => ⟨hT.1.1, T, _, hT, rfl, by omega, ?_⟩, fun q => ?_⟩
    · rw [show nI i + 1 = nI (i + 1) from nI_1 i]
      refine ih fun j hj => ?_
      by_cases e : j = i
      · subst e; exact q
      · exact hno j (by omega)
    · have e : ¬ sngB T F G fr st n = true := by
        unfold sngB
        rw [(anyB_iff _ _).mpr ⟨i, hi, by simpa using q⟩]
        simp
      rw [b2i_f e] at hQ
      exact hQ
  · intro hno
    refine r_X9_canBeSung_6 hC hR m_X8_around (by decide) _ _ _ ?_
    simp only [T_X9_canBeSung_6, x_psh, x_ild, x_lld, x_ald, x_ist, x_ast, x_lst, x_inc, x_iadd, x_isub, x_imul, x_iand, x_ior, x_ixor, x_ishl, x_ishr, x_iushr, x_idiv, x_irem, x_ladd, x_land, x_lor, x_lshl, x_lshr, x_ineg, x_i2l, x_l2i, x_i2b, x_lcmp, x_dup, x_dup2, x_if_eq, x_if_ne, x_if_lt, x_if_ge, x_if_gt, x_if_le, x_ic_eq, x_ic_ne, x_ic_lt, x_ic_ge, x_ic_gt, x_ic_le, x_getI, x_getR, x_putI, x_putZ, x_putR, x_iald, x_bald, x_lald, x_iast, x_bast, x_last, x_alen, x_acp, x_mmax, x_mmin, x_callV, x_callS, x_iret, x_zret, x_lret, x_aret, x_vret, x_tsw, x_stop, zst1, zst2, zkill, zkl, zsplit, zmask, zent, zentL, List.getElem?_cons_zero, List.getElem?_cons_succ, List.set_cons_zero, List.set_cons_succ, List.set_nil, List.length_cons, List.length_nil, List.replicate, List.nil_append, List.cons_append, List.map_cons, List.map_nil, List.sum_cons, List.sum_nil, Value.category, Option.toList, List.contains_cons, List.contains_nil, true_or, or_true, true_and, Nat.zero_le, Nat.reduceAdd, Nat.reduceLeDiff, Nat.reduceLT, Nat.reduceBEq, Bool.true_or, Bool.or_true, Bool.false_or, Bool.or_false, ↓reduceIte, Bool.false_eq_true, Nat.add_zero, Nat.zero_add, Nat.reduceEqDiff, Nat.reduceSub, v1, s1]
    refine ⟨fun _ => ?_, fun q => absurd (nI_le (Nat.le_refl _) (by omega)) q⟩
    have e : sngB T F G fr st n = true := by
      unfold sngB
      cases h : anyB (fun p => decide (sngS T F G fr st p &&& dif (F p) (G p &&& st) = 0)) n with
      | false => rfl
      | true =>
        obtain ⟨j, h1, h2⟩ := (anyB_iff _ _).mp h
        exact absurd (by simpa using h2) (hno j h1)
    rw [b2i_t e] at hQ
    exact hQ
/-! counting ways -/
theorem lN_ix {p d : Nat} : nI p * 12 + nI d = nI (12 * p + d) := by rw [z_l12, pk_mul, nI_add, Nat.mul_comm]
def w_X9_countedAt : WPt := fun args σ Q => match args with
  | [.ref u, .ref t, .int x, .int y] => ∃ (T : TD) (p s : Nat) (c : Nat → Nat), TuneS σ u ∧ TownR σ t T ∧ x = nI p ∧ p < 12 ∧ y = nI s ∧ s < 2 ^ 31 ∧ (∀ d, d < tD T → zJ σ (u + 3) (12 * p + d) = lN (c d)) ∧ Q (some (.long (lN (sumN (fun d => if s.testBit d then c d else 0) (tD T))))) σ
  | _ => False
theorem m_X9_countedAt : Meets yX9_countedAt cX9_countedAt 7 (some .long) 2 w_X9_countedAt := by
  refine Meets.mk (by decide) fun args σ Φ h => ?_
  unfold w_X9_countedAt at h
  split at h
  rotate_left
  · exact h.elim
  rename_i u t x y
  obtain ⟨u, rfl⟩ : ∃ q : Nat, q = u := ⟨u, rfl⟩
  obtain ⟨t, rfl⟩ : ∃ q : Nat, q = t := ⟨t, rfl⟩
  obtain ⟨T, p, s, c, hu, hT, rfl, hp12, rfl, hs, hc, hQ⟩ := h
  refine ⟨Nat.le_of_ble_eq_true rfl, fun C hC hR => ?_⟩
  have v1 := hT.2.1
  have t1 := hT.1.1
  have hD := hT.2.2.2.1
  have ⟨s1, s2, s3, s4, s5, s6, s7⟩ := hu
  refine r_X9_countedAt_0 hC hR m_X11_has (by decide) _ _ _ ?_
  simp only [T_X9_countedAt_0, x_psh, x_ild, x_lld, x_ald, x_ist, x_ast, x_lst, x_inc, x_iadd, x_isub, x_imul, x_iand, x_ior, x_ixor, x_ishl, x_ishr, x_iushr, x_idiv, x_irem, x_ladd, x_land, x_lor, x_lshl, x_lshr, x_ineg, x_i2l, x_l2i, x_i2b, x_lcmp, x_dup, x_dup2, x_if_eq, x_if_ne, x_if_lt, x_if_ge, x_if_gt, x_if_le, x_ic_eq, x_ic_ne, x_ic_lt, x_ic_ge, x_ic_gt, x_ic_le, x_getI, x_getR, x_putI, x_putZ, x_putR, x_iald, x_bald, x_lald, x_iast, x_bast, x_last, x_alen, x_acp, x_mmax, x_mmin, x_callV, x_callS, x_iret, x_zret, x_lret, x_aret, x_vret, x_tsw, x_stop, zst1, zst2, zkill, zkl, zsplit, zmask, zent, zentL, List.getElem?_cons_zero, List.getElem?_cons_succ, List.set_cons_zero, List.set_cons_succ, List.set_nil, List.length_cons, List.length_nil, List.replicate, List.nil_append, List.cons_append, List.map_cons, List.map_nil, List.sum_cons, List.sum_nil, Value.category, Option.toList, List.contains_cons, List.contains_nil, true_or, or_true, true_and, Nat.zero_le, Nat.reduceAdd, Nat.reduceLeDiff, Nat.reduceLT, Nat.reduceBEq, Bool.true_or, Bool.or_true, Bool.false_or, Bool.or_false, ↓reduceIte, Bool.false_eq_true, Nat.add_zero, Nat.zero_add, Nat.reduceEqDiff, Nat.reduceSub]
  have key := zloop (P := fun i => WW C 6 [some (.ref u), some (.ref t), some (.int (nI p)), some (.int (nI s)), some (.long (lN (sumN (fun d => if s.testBit d then c d else 0) i))), none, some (.int (nI i))] [] σ) (tD T) (fun i hi ih => ?_) ?_ 0 (by omega)
  · exact key
  · refine r_X9_countedAt_6 hC hR m_X11_has (by decide) _ _ _ ?_
    simp only [T_X9_countedAt_6, x_psh, x_ild, x_lld, x_ald, x_ist, x_ast, x_lst, x_inc, x_iadd, x_isub, x_imul, x_iand, x_ior, x_ixor, x_ishl, x_ishr, x_iushr, x_idiv, x_irem, x_ladd, x_land, x_lor, x_lshl, x_lshr, x_ineg, x_i2l, x_l2i, x_i2b, x_lcmp, x_dup, x_dup2, x_if_eq, x_if_ne, x_if_lt, x_if_ge, x_if_gt, x_if_le, x_ic_eq, x_ic_ne, x_ic_lt, x_ic_ge, x_ic_gt, x_ic_le, x_getI, x_getR, x_putI, x_putZ, x_putR, x_iald, x_bald, x_lald, x_iast, x_bast, x_last, x_alen, x_acp, x_mmax, x_mmin, x_callV, x_callS, x_iret, x_zret, x_lret, x_aret, x_vret, x_tsw, x_stop, zst1, zst2, zkill, zkl, zsplit, zmask, zent, zentL, List.getElem?_cons_zero, List.getElem?_cons_succ, List.set_cons_zero, List.set_cons_succ, List.set_nil, List.length_cons, List.length_nil, List.replicate, List.nil_append, List.cons_append, List.map_cons, List.map_nil, List.sum_cons, List.sum_nil, Value.category, Option.toList, List.contains_cons, List.contains_nil, true_or, or_true, true_and, Nat.zero_le, Nat.reduceAdd, Nat.reduceLeDiff, Nat.reduceLT, Nat.reduceBEq, Bool.true_or, Bool.or_true, Bool.false_or, Bool.or_false, ↓reduceIte, Bool.false_eq_true, Nat.add_zero, Nat.zero_add, Nat.reduceEqDiff, Nat.reduceSub, w_X11_has, v1, t1, s1, s7, s4]
    refine ⟨fun q => absurd q (nI_ge hi (by omega)), fun _ => ⟨fun q => absurd q (nI_pos (by omega)), fun _ => ⟨fun q => absurd q (by rw [z_l12]; exact nI_ge (by omega) (by omega)), fun _ => ⟨s, i, rfl, rfl, hs, by omega, ?_⟩⟩⟩⟩
    rw [b2i_0, show nI i + 1 = nI (i + 1) from nI_1 i, lN_ix]
    refine ⟨fun hb => ?_, fun hb => ⟨by omega, 144, rfl, vp_in_nI (by omega) (by omega), ?_⟩⟩
    · rw [show sumN (fun d => if s.testBit d then c d else 0) i = sumN (fun d => if s.testBit d then c d else 0) (i + 1) by rw [sumN, if_neg hb, Nat.add_zero]]
      exact ih
    · rw [nI_clamp (by omega), hc i hi, lN_add, show sumN (fun d => if s.testBit d then c d else 0) i + c i = sumN (fun d => if s.testBit d then c d else 0) (i + 1) by rw [sumN, if_pos (Decidable.not_not.mp hb)]]
      exact ih
  · refine r_X9_countedAt_6 hC hR m_X11_has (by decide) _ _ _ ?_
    simp only [T_X9_countedAt_6, x_psh, x_ild, x_lld, x_ald, x_ist, x_ast, x_lst, x_inc, x_iadd, x_isub, x_imul, x_iand, x_ior, x_ixor, x_ishl, x_ishr, x_iushr, x_idiv, x_irem, x_ladd, x_land, x_lor, x_lshl, x_lshr, x_ineg, x_i2l, x_l2i, x_i2b, x_lcmp, x_dup, x_dup2, x_if_eq, x_if_ne, x_if_lt, x_if_ge, x_if_gt, x_if_le, x_ic_eq, x_ic_ne, x_ic_lt, x_ic_ge, x_ic_gt, x_ic_le, x_getI, x_getR, x_putI, x_putZ, x_putR, x_iald, x_bald, x_lald, x_iast, x_bast, x_last, x_alen, x_acp, x_mmax, x_mmin, x_callV, x_callS, x_iret, x_zret, x_lret, x_aret, x_vret, x_tsw, x_stop, zst1, zst2, zkill, zkl, zsplit, zmask, zent, zentL, List.getElem?_cons_zero, List.getElem?_cons_succ, List.set_cons_zero, List.set_cons_succ, List.set_nil, List.length_cons, List.length_nil, List.replicate, List.nil_append, List.cons_append, List.map_cons, List.map_nil, List.sum_cons, List.sum_nil, Value.category, Option.toList, List.contains_cons, List.contains_nil, true_or, or_true, true_and, Nat.zero_le, Nat.reduceAdd, Nat.reduceLeDiff, Nat.reduceLT, Nat.reduceBEq, Bool.true_or, Bool.or_true, Bool.false_or, Bool.or_false, ↓reduceIte, Bool.false_eq_true, Nat.add_zero, Nat.zero_add, Nat.reduceEqDiff, Nat.reduceSub, v1, t1]
    exact ⟨fun _ => hQ, fun q => absurd (nI_le (Nat.le_refl _) (by omega)) q⟩
/-- one more place -/
def cntP (T : TD) (f : Nat) (c : Nat → Nat) : Nat → Nat := fun d => if f.testBit d then sumN (fun e => if (tE T d).testBit e then c e else 0) (tD T) else 0
def w_X9_countPlace : WPt := fun args σ Q => match args with
  | [.ref u, .ref t, .int x] => ∃ (T : TD) (n : Nat) (F G : Nat → Nat) (p : Nat) (c : Nat → Nat), TuneS σ u ∧ TuneV σ u n F G ∧ TownR σ t T ∧ apTU u t ∧ x = nI (p + 1) ∧ p + 1 < n ∧ (∀ d, d < tD T → zJ σ (u + 3) (12 * p + d) = lN (c d)) ∧ ∀ σ', Fr σ σ' (u + 3) (u + 4) → (∀ d, d < tD T → zJ σ' (u + 3) (12 * (p + 1) + d) = lN (cntP T (F (p + 1)) c d)) → Q none σ'
  | _ => False
theorem m_X9_countPlace : Meets yX9_countPlace cX9_countPlace 5 none 3 w_X9_countPlace := by
  refine Meets.mk (by decide) fun args σ Φ h => ?_
  unfold w_X9_countPlace at h
  split at h
  rotate_left
  · exact h.elim
  rename_i u t x
  obtain ⟨u, rfl⟩ : ∃ q : Nat, q = u := ⟨u, rfl⟩
  obtain ⟨t, rfl⟩ : ∃ q : Nat, q = t := ⟨t, rfl⟩
  obtain ⟨T, n, F, G, p, c, hu, hv, hT, hap, rfl, hpn, hc, hQ⟩ := h
  unfold apTU at hap
  refine ⟨Nat.le_of_ble_eq_true rfl, fun C hC hR => ?_⟩
  have hn := hv.2.1
  have hD := hT.2.2.2.1
  have hp := hT.d31
  refine r_X9_countPlace_0 hC hR m_X9_fitsAt (by decide) m_X11_has (by decide) m_X8_joinedTo (by decide) m_X9_countedAt (by decide) _ _ _ ?_
  simp only [T_X9_countPlace_0, x_psh, x_ild, x_lld, x_ald, x_ist, x_ast, x_lst, x_inc, x_iadd, x_isub, x_imul, x_iand, x_ior, x_ixor, x_ishl, x_ishr, x_iushr, x_idiv, x_irem, x_ladd, x_land, x_lor, x_lshl, x_lshr, x_ineg, x_i2l, x_l2i, x_i2b, x_lcmp, x_dup, x_dup2, x_if_eq, x_if_ne, x_if_lt, x_if_ge, x_if_gt, x_if_le, x_ic_eq, x_ic_ne, x_ic_lt, x_ic_ge, x_ic_gt, x_ic_le, x_getI, x_getR, x_putI, x_putZ, x_putR, x_iald, x_bald, x_lald, x_iast, x_bast, x_last, x_alen, x_acp, x_mmax, x_mmin, x_callV, x_callS, x_iret, x_zret, x_lret, x_aret, x_vret, x_tsw, x_stop, zst1, zst2, zkill, zkl, zsplit, zmask, zent, zentL, List.getElem?_cons_zero, List.getElem?_cons_succ, List.set_cons_zero, List.set_cons_succ, List.set_nil, List.length_cons, List.length_nil, List.replicate, List.nil_append, List.cons_append, List.map_cons, List.map_nil, List.sum_cons, List.sum_nil, Value.category, Option.toList, List.contains_cons, List.contains_nil, true_or, or_true, true_and, Nat.zero_le, Nat.reduceAdd, Nat.reduceLeDiff, Nat.reduceLT, Nat.reduceBEq, Bool.true_or, Bool.or_true, Bool.false_or, Bool.or_false, ↓reduceIte, Bool.false_eq_true, Nat.add_zero, Nat.zero_add, Nat.reduceEqDiff, Nat.reduceSub]
  have key := zloop (P := fun i => ∀ τ, Fr σ τ (u + 3) (u + 4) → (∀ j, j < 12 * (p + 1) → zJ τ (u + 3) j = zJ σ (u + 3) j) → (∀ d, d < i → zJ τ (u + 3) (12 * (p + 1) + d) = lN (cntP T (F (p + 1)) c d)) → WW C 2 [some (.ref u), some (.ref t), some (.int (nI (p + 1))), some (.int (nI i)), none] [] τ) (tD T) (fun i hi ih τ hf hlo hdone => ?_) ?_ 0 (by omega)
  · exact key σ (Fr.refl _ _ _) (fun _ _ => rfl) (fun d hd => absurd hd (Nat.not_lt_zero d))
  · have hT' : TownR τ t T := hT.fr hf (by omega)
    have hu' : TuneS τ u := hu.of hf.1 hf.2.1
    have hv' : TuneV τ u n F G := hv.fr hf (by omega)
    have hF := (hv.2.2 (p + 1) hpn).2.1
    have v1 := hT'.2.1
    have t1 := hT'.1.1
    have ⟨s1, s2, s3, s4, s5, s6, s7⟩ := hu'
    have hE := (hT.2.2.2.2.2.2.1 i hi).2
    refine r_X9_countPlace_2 hC hR m_X9_fitsAt (by decide) m_X11_has (by decide) m_X8_joinedTo (by decide) m_X9_countedAt (by decide) _ _ _ ?_
    simp only [T_X9_countPlace_2, x_psh, x_ild, x_lld, x_ald, x_ist, x_ast, x_lst, x_inc, x_iadd, x_isub, x_imul, x_iand, x_ior, x_ixor, x_ishl, x_ishr, x_iushr, x_idiv, x_irem, x_ladd, x_land, x_lor, x_lshl, x_lshr, x_ineg, x_i2l, x_l2i, x_i2b, x_lcmp, x_dup, x_dup2, x_if_eq, x_if_ne, x_if_lt, x_if_ge, x_if_gt, x_if_le, x_ic_eq, x_ic_ne, x_ic_lt, x_ic_ge, x_ic_gt, x_ic_le, x_getI, x_getR, x_putI, x_putZ, x_putR, x_iald, x_bald, x_lald, x_iast, x_bast, x_last, x_alen, x_acp, x_mmax, x_mmin, x_callV, x_callS, x_iret, x_zret, x_lret, x_aret, x_vret, x_tsw, x_stop, zst1, zst2, zkill, zkl, zsplit, zmask, zent, zentL, List.getElem?_cons_zero, List.getElem?_cons_succ, List.set_cons_zero, List.set_cons_succ, List.set_nil, List.length_cons, List.length_nil, List.replicate, List.nil_append, List.cons_append, List.map_cons, List.map_nil, List.sum_cons, List.sum_nil, Value.category, Option.toList, List.contains_cons, List.contains_nil, true_or, or_true, true_and, Nat.zero_le, Nat.reduceAdd, Nat.reduceLeDiff, Nat.reduceLT, Nat.reduceBEq, Bool.true_or, Bool.or_true, Bool.false_or, Bool.or_false, ↓reduceIte, Bool.false_eq_true, Nat.add_zero, Nat.zero_add, Nat.reduceEqDiff, Nat.reduceSub, w_X9_fitsAt, w_X11_has, w_X8_joinedTo, w_X9_countedAt, v1, t1, s1, s7, s4]
    refine ⟨fun q => absurd q (nI_ge hi (by omega)), fun _ => ⟨n, F, G, hu', hv', fun j hj e => ?_, fun q => absurd (not_lt_pos (by omega) hpn) q⟩⟩
    have e2 : p + 1 = j := (nI_eq (by omega) (by omega)).mp e
    subst e2
    refine ⟨F (p + 1), i, rfl, rfl, by omega, by omega, by omega, ?_⟩
    rw [b2i_0, lN_ix, show nI i + 1 = nI (i + 1) from nI_1 i, nI_clamp (show 12 * (p + 1) + i < 2 ^ 31 by omega)]
    have fin : ∀ v : Nat, v = cntP T (F (p + 1)) c i → WW C 2 [some (.ref u), some (.ref t), some (.int (nI (p + 1))), some (.int (nI (i + 1))), none] [] (sJ τ (u + 3) (12 * (p + 1) + i) (lN v)) := by
      intro v hv2
      refine ih _ (hf.sJ (by omega) (by omega)) (fun j hj => ?_) (fun d hd => ?_)
      · rw [zJ_sJ, if_pos rfl, pk_uLn (by omega)]
        exact hlo j hj
      · rw [zJ_sJ, if_pos rfl]
        by_cases e : d = i
        · subst e; rw [pk_uLs, hv2]
        · rw [pk_uLn (by omega)]
          exact hdone d (by omega)
    refine ⟨fun hb => ⟨144, rfl, vp_in_nI (by omega) (by omega), fin 0 (by unfold cntP; rw [if_neg hb])⟩, fun hb => ⟨T, hT', fun j hj e => ?_, fun q => absurd (not_lt_pos (by omega) hi) q⟩⟩
    have e2 : i = j := (nI_eq (by omega) (by omega)).mp e
    subst e2
    refine ⟨T, p, tE T i, c, hu', hT', by rw [← nI_i3]; exact Int32.add_sub_cancel _ _, by omega, rfl, by omega, fun d hd => ?_, 144, rfl, vp_in_nI (by omega) (by omega), fin _ (by unfold cntP; rw [if_pos (Decidable.not_not.mp hb)])⟩
    rw [hlo _ (by omega)]
    exact hc d hd
  · intro τ hf hlo hdone
    have hT' : TownR τ t T := hT.fr hf (by omega)
    have v1 := hT'.2.1
    have t1 := hT'.1.1
    refine r_X9_countPlace_2 hC hR m_X9_fitsAt (by decide) m_X11_has (by decide) m_X8_joinedTo (by decide) m_X9_countedAt (by decide) _ _ _ ?_
    simp only [T_X9_countPlace_2, x_psh, x_ild, x_lld, x_ald, x_ist, x_ast, x_lst, x_inc, x_iadd, x_isub, x_imul, x_iand, x_ior, x_ixor, x_ishl, x_ishr, x_iushr, x_idiv, x_irem, x_ladd, x_land, x_lor, x_lshl, x_lshr, x_ineg, x_i2l, x_l2i, x_i2b, x_lcmp, x_dup, x_dup2, x_if_eq, x_if_ne, x_if_lt, x_if_ge, x_if_gt, x_if_le, x_ic_eq, x_ic_ne, x_ic_lt, x_ic_ge, x_ic_gt, x_ic_le, x_getI, x_getR, x_putI, x_putZ, x_putR, x_iald, x_bald, x_lald, x_iast, x_bast, x_last, x_alen, x_acp, x_mmax, x_mmin, x_callV, x_callS, x_iret, x_zret, x_lret, x_aret, x_vret, x_tsw, x_stop, zst1, zst2, zkill, zkl, zsplit, zmask, zent, zentL, List.getElem?_cons_zero, List.getElem?_cons_succ, List.set_cons_zero, List.set_cons_succ, List.set_nil, List.length_cons, List.length_nil, List.replicate, List.nil_append, List.cons_append, List.map_cons, List.map_nil, List.sum_cons, List.sum_nil, Value.category, Option.toList, List.contains_cons, List.contains_nil, true_or, or_true, true_and, Nat.zero_le, Nat.reduceAdd, Nat.reduceLeDiff, Nat.reduceLT, Nat.reduceBEq, Bool.true_or, Bool.or_true, Bool.false_or, Bool.or_false, ↓reduceIte, Bool.false_eq_true, Nat.add_zero, Nat.zero_add, Nat.reduceEqDiff, Nat.reduceSub, v1, t1]
    exact ⟨fun _ => hQ τ hf hdone, fun q => absurd (nI_le (Nat.le_refl _) (by omega)) q⟩
