def cwW (T : TD) (F : Nat → Nat) (fr : Nat) : Nat → Nat → Nat
  | 0 => fun d => if (F 0 &&& fr).testBit d then 1 else 0
  | p + 1 => cntP T (F (p + 1)) (cwW T F fr p)
def cwR (T : TD) (F : Nat → Nat) (fr to n : Nat) : Nat := if n = 0 then 1 else sumN (fun d => if to.testBit d then cwW T F fr (n - 1) d else 0) (tD T)
def w_X9_countWays : WPt := fun args σ Q => match args with
  | [.ref u, .ref t, .int x, .int y] => ∃ (T : TD) (n : Nat) (F G : Nat → Nat) (fr to : Nat), TuneS σ u ∧ TuneV σ u n F G ∧ TownR σ t T ∧ apTU u t ∧ x = nI fr ∧ y = nI to ∧ fr < 2 ^ 31 ∧ to < 2 ^ 31 ∧ ∀ σ', Fr σ σ' (u + 3) (u + 4) → Q (some (.long (lN (cwR T F fr to n)))) σ'
  | _ => False
theorem m_X9_countWays : Meets yX9_countWays cX9_countWays 5 (some .long) 4 w_X9_countWays := by
  refine Meets.mk (by decide) fun args σ Φ h => ?_
  unfold w_X9_countWays at h
  split at h
  rotate_left
  · exact h.elim
  rename_i u t x y
  obtain ⟨u, rfl⟩ : ∃ q : Nat, q = u := ⟨u, rfl⟩
  obtain ⟨t, rfl⟩ : ∃ q : Nat, q = t := ⟨t, rfl⟩
  obtain ⟨T, n, F, G, fr, to, hu, hv, hT, hap, rfl, rfl, hfr, hto, hQ⟩ := h
  have hap2 := hap
  unfold apTU at hap
  refine ⟨Nat.le_of_ble_eq_true rfl, fun C hC hR => ?_⟩
  have hn := hv.2.1
  have hD := hT.2.2.2.1
  have hp := hT.d31
  have v1 := hv.1
  refine r_X9_countWays_0 hC hR m_X9_fitsAt (by decide) m_X11_has (by decide) m_X9_countPlace (by decide) m_X9_countedAt (by decide) _ _ _ ?_
  simp only [T_X9_countWays_0, x_psh, x_ild, x_lld, x_ald, x_ist, x_ast, x_lst, x_inc, x_iadd, x_isub, x_imul, x_iand, x_ior, x_ixor, x_ishl, x_ishr, x_iushr, x_idiv, x_irem, x_ladd, x_land, x_lor, x_lshl, x_lshr, x_ineg, x_i2l, x_l2i, x_i2b, x_lcmp, x_dup, x_dup2, x_if_eq, x_if_ne, x_if_lt, x_if_ge, x_if_gt, x_if_le, x_ic_eq, x_ic_ne, x_ic_lt, x_ic_ge, x_ic_gt, x_ic_le, x_getI, x_getR, x_putI, x_putZ, x_putR, x_iald, x_bald, x_lald, x_iast, x_bast, x_last, x_alen, x_acp, x_mmax, x_mmin, x_callV, x_callS, x_iret, x_zret, x_lret, x_aret, x_vret, x_tsw, x_stop, zst1, zst2, zkill, zkl, zsplit, zmask, zent, zentL, List.getElem?_cons_zero, List.getElem?_cons_succ, List.set_cons_zero, List.set_cons_succ, List.set_nil, List.length_cons, List.length_nil, List.replicate, List.nil_append, List.cons_append, List.map_cons, List.map_nil, List.sum_cons, List.sum_nil, Value.category, Option.toList, List.contains_cons, List.contains_nil, true_or, or_true, true_and, Nat.zero_le, Nat.reduceAdd, Nat.reduceLeDiff, Nat.reduceLT, Nat.reduceBEq, Bool.true_or, Bool.or_true, Bool.false_or, Bool.or_false, ↓reduceIte, Bool.false_eq_true, Nat.add_zero, Nat.zero_add, Nat.reduceEqDiff, Nat.reduceSub, v1]
  refine ⟨hu.1, fun q => ?_, fun q => ?_⟩
  rotate_left
  · have h0 : n = 0 := (nI_eq (by omega) (by decide)).mp q
    have := hQ σ (Fr.refl _ _ _)
    rw [cwR, if_pos h0] at this
    exact this
  have hn0 : n ≠ 0 := fun e => q (by rw [e]; rfl)
  -- the later places
  have key2 := zloop (P := fun i => ∀ τ, Fr σ τ (u + 3) (u + 4) → (∀ d, d < tD T → zJ τ (u + 3) (12 * i + d) = lN (cwW T F fr i d)) → WW C 57 [some (.ref u), some (.ref t), none, some (.int (nI to)), some (.int (nI (i + 1)))] [] τ) (n - 1) (fun i hi ih τ hf hc => ?_) ?_ 0 (by omega)
  · -- the first place
    have key1 := zloop (P := fun i => ∀ τ, Fr σ τ (u + 3) (u + 4) → (∀ d, d < i → zJ τ (u + 3) d = lN (cwW T F fr 0 d)) → WW C 12 [some (.ref u), some (.ref t), some (.int (nI fr)), some (.int (nI to)), some (.int (nI i))] [] τ) (tD T) (fun i hi ih τ hf hc => ?_) ?_ 0 (by omega)
    · exact key1 σ (Fr.refl _ _ _) (fun d hd => absurd hd (Nat.not_lt_zero d))
    · have hT' : TownR τ t T := hT.fr hf (by omega)
      have hu' : TuneS τ u := hu.of hf.1 hf.2.1
      have hv' : TuneV τ u n F G := hv.fr hf (by omega)
      have hF := (hv.2.2 0 (by omega)).2.1
      have w1 := hT'.2.1
      have t1 := hT'.1.1
      have ⟨s1, s2, s3, s4, s5, s6, s7⟩ := hu'
      refine r_X9_countWays_12 hC hR m_X9_fitsAt (by decide) m_X11_has (by decide) m_X9_countPlace (by decide) m_X9_countedAt (by decide) _ _ _ ?_
      simp only [T_X9_countWays_12, x_psh, x_ild, x_lld, x_ald, x_ist, x_ast, x_lst, x_inc, x_iadd, x_isub, x_imul, x_iand, x_ior, x_ixor, x_ishl, x_ishr, x_iushr, x_idiv, x_irem, x_ladd, x_land, x_lor, x_lshl, x_lshr, x_ineg, x_i2l, x_l2i, x_i2b, x_lcmp, x_dup, x_dup2, x_if_eq, x_if_ne, x_if_lt, x_if_ge, x_if_gt, x_if_le, x_ic_eq, x_ic_ne, x_ic_lt, x_ic_ge, x_ic_gt, x_ic_le, x_getI, x_getR, x_putI, x_putZ, x_putR, x_iald, x_bald, x_lald, x_iast, x_bast, x_last, x_alen, x_acp, x_mmax, x_mmin, x_callV, x_callS, x_iret, x_zret, x_lret, x_aret, x_vret, x_tsw, x_stop, zst1, zst2, zkill, zkl, zsplit, zmask, zent, zentL, List.getElem?_cons_zero, List.getElem?_cons_succ, List.set_cons_zero, List.set_cons_succ, List.set_nil, List.length_cons, List.length_nil, List.replicate, List.nil_append, List.cons_append, List.map_cons, List.map_nil, List.sum_cons, List.sum_nil, Value.category, Option.toList, List.contains_cons, List.contains_nil, true_or, or_true, true_and, Nat.zero_le, Nat.reduceAdd, Nat.reduceLeDiff, Nat.reduceLT, Nat.reduceBEq, Bool.true_or, Bool.or_true, Bool.false_or, Bool.or_false, ↓reduceIte, Bool.false_eq_true, Nat.add_zero, Nat.zero_add, Nat.reduceEqDiff, Nat.reduceSub, w_X9_fitsAt, w_X11_has, w1, t1, s1, s7, s4]
      refine ⟨fun q => absurd q (nI_ge hi (by omega)), fun _ => ⟨by omega, n, F, G, hu', hv', fun j hj e => ?_, fun q => absurd (not_lt_pos (p := 0) (by omega) (by omega)) q⟩⟩
      have e2 : 0 = j := (nI_eq (a := 0) (by omega) (by omega)).mp e
      subst e2
      have hl : F 0 &&& fr < 4096 := and_lt31' hF
      refine ⟨F 0 &&& fr, i, z_and _ _, rfl, by omega, by omega, ?_⟩
      rw [b2i_0, show nI i + 1 = nI (i + 1) from nI_1 i, nI_clamp (show i < 2 ^ 31 by omega)]
      have fin : ∀ v : Nat, v = cwW T F fr 0 i → WW C 12 [some (.ref u), some (.ref t), some (.int (nI fr)), some (.int (nI to)), some (.int (nI (i + 1)))] [] (sJ τ (u + 3) i (lN v)) := by
        intro v hv2
        refine ih _ (hf.sJ (by omega) (by omega)) (fun d hd => ?_)
        rw [zJ_sJ, if_pos rfl]
        by_cases e : d = i
        · subst e; rw [pk_uLs, hv2]
        · rw [pk_uLn e]
          exact hc d (by omega)
      exact ⟨fun hb => ⟨144, rfl, vp_in_nI (by omega) (by omega), fin 0 (by simp [cwW, hb])⟩, fun hb => ⟨144, rfl, vp_in_nI (by omega) (by omega), fin 1 (by simp only [cwW, Decidable.not_not.mp hb, if_true])⟩⟩
    · intro τ hf hc
      have hT' : TownR τ t T := hT.fr hf (by omega)
      have w1 := hT'.2.1
      have t1 := hT'.1.1
      refine r_X9_countWays_12 hC hR m_X9_fitsAt (by decide) m_X11_has (by decide) m_X9_countPlace (by decide) m_X9_countedAt (by decide) _ _ _ ?_
      simp only [T_X9_countWays_12, x_psh, x_ild, x_lld, x_ald, x_ist, x_ast, x_lst, x_inc, x_iadd, x_isub, x_imul, x_iand, x_ior, x_ixor, x_ishl, x_ishr, x_iushr, x_idiv, x_irem, x_ladd, x_land, x_lor, x_lshl, x_lshr, x_ineg, x_i2l, x_l2i, x_i2b, x_lcmp, x_dup, x_dup2, x_if_eq, x_if_ne, x_if_lt, x_if_ge, x_if_gt, x_if_le, x_ic_eq, x_ic_ne, x_ic_lt, x_ic_ge, x_ic_gt, x_ic_le, x_getI, x_getR, x_putI, x_putZ, x_putR, x_iald, x_bald, x_lald, x_iast, x_bast, x_last, x_alen, x_acp, x_mmax, x_mmin, x_callV, x_callS, x_iret, x_zret, x_lret, x_aret, x_vret, x_tsw, x_stop, zst1, zst2, zkill, zkl, zsplit, zmask, zent, zentL, List.getElem?_cons_zero, List.getElem?_cons_succ, List.set_cons_zero, List.set_cons_succ, List.set_nil, List.length_cons, List.length_nil, List.replicate, List.nil_append, List.cons_append, List.map_cons, List.map_nil, List.sum_cons, List.sum_nil, Value.category, Option.toList, List.contains_cons, List.contains_nil, true_or, or_true, true_and, Nat.zero_le, Nat.reduceAdd, Nat.reduceLeDiff, Nat.reduceLT, Nat.reduceBEq, Bool.true_or, Bool.or_true, Bool.false_or, Bool.or_false, ↓reduceIte, Bool.false_eq_true, Nat.add_zero, Nat.zero_add, Nat.reduceEqDiff, Nat.reduceSub, w1, t1]
      exact ⟨fun _ => key2 τ hf (fun d hd => by rw [Nat.mul_zero, Nat.zero_add]; exact hc d hd), fun q => absurd (nI_le (Nat.le_refl _) (by omega)) q⟩
  · have hT' : TownR τ t T := hT.fr hf (by omega)
    have hu' : TuneS τ u := hu.of hf.1 hf.2.1
    have hv' : TuneV τ u n F G := hv.fr hf (by omega)
    have w1 := hv'.1
    have s1 := hu'.1
    refine r_X9_countWays_57 hC hR m_X9_fitsAt (by decide) m_X11_has (by decide) m_X9_countPlace (by decide) m_X9_countedAt (by decide) _ _ _ ?_
    simp only [T_X9_countWays_57, x_psh, x_ild, x_lld, x_ald, x_ist, x_ast, x_lst, x_inc, x_iadd, x_isub, x_imul, x_iand, x_ior, x_ixor, x_ishl, x_ishr, x_iushr, x_idiv, x_irem, x_ladd, x_land, x_lor, x_lshl, x_lshr, x_ineg, x_i2l, x_l2i, x_i2b, x_lcmp, x_dup, x_dup2, x_if_eq, x_if_ne, x_if_lt, x_if_ge, x_if_gt, x_if_le, x_ic_eq, x_ic_ne, x_ic_lt, x_ic_ge, x_ic_gt, x_ic_le, x_getI, x_getR, x_putI, x_putZ, x_putR, x_iald, x_bald, x_lald, x_iast, x_bast, x_last, x_alen, x_acp, x_mmax, x_mmin, x_callV, x_callS, x_iret, x_zret, x_lret, x_aret, x_vret, x_tsw, x_stop, zst1, zst2, zkill, zkl, zsplit, zmask, zent, zentL, List.getElem?_cons_zero, List.getElem?_cons_succ, List.set_cons_zero, List.set_cons_succ, List.set_nil, List.length_cons, List.length_nil, List.replicate, List.nil_append, List.cons_append, List.map_cons, List.map_nil, List.sum_cons, List.sum_nil, Value.category, Option.toList, List.contains_cons, List.contains_nil, true_or, or_true, true_and, Nat.zero_le, Nat.reduceAdd, Nat.reduceLeDiff, Nat.reduceLT, Nat.reduceBEq, Bool.true_or, Bool.or_true, Bool.false_or, Bool.or_false, ↓reduceIte, Bool.false_eq_true, Nat.add_zero, Nat.zero_add, Nat.reduceEqDiff, Nat.reduceSub, w_X9_countPlace, w1, s1]
    refine ⟨fun q => absurd q (nI_ge (by omega) (by omega)), fun _ => ⟨fun q => absurd q (by rw [z_l12]; exact nI_ge (by omega) (by omega)), fun _ => ⟨T, n, F, G, i, cwW T F fr i, hu', hv', hT', hap2, rfl, by omega, hc, fun σ' hf' hc' => ?_⟩⟩⟩
    rw [nI_i3]
    exact ih σ' (hf.trans hf') hc'
  · intro τ hf hc
    have hT' : TownR τ t T := hT.fr hf (by omega)
    have hu' : TuneS τ u := hu.of hf.1 hf.2.1
    have hv' : TuneV τ u n F G := hv.fr hf (by omega)
    have w1 := hv'.1
    have s1 := hu'.1
    have e0 : nI n - 1 = nI (n - 1) := pk_sub (b := 1) (by omega)
    refine r_X9_countWays_57 hC hR m_X9_fitsAt (by decide) m_X11_has (by decide) m_X9_countPlace (by decide) m_X9_countedAt (by decide) _ _ _ ?_
    simp only [T_X9_countWays_57, x_psh, x_ild, x_lld, x_ald, x_ist, x_ast, x_lst, x_inc, x_iadd, x_isub, x_imul, x_iand, x_ior, x_ixor, x_ishl, x_ishr, x_iushr, x_idiv, x_irem, x_ladd, x_land, x_lor, x_lshl, x_lshr, x_ineg, x_i2l, x_l2i, x_i2b, x_lcmp, x_dup, x_dup2, x_if_eq, x_if_ne, x_if_lt, x_if_ge, x_if_gt, x_if_le, x_ic_eq, x_ic_ne, x_ic_lt, x_ic_ge, x_ic_gt, x_ic_le, x_getI, x_getR, x_putI, x_putZ, x_putR, x_iald, x_bald, x_lald, x_iast, x_bast, x_last, x_alen, x_acp, x_mmax, x_mmin, x_callV, x_callS, x_iret, x_zret, x_lret, x_aret, x_vret, x_tsw, x_stop, zst1, zst2, zkill, zkl, zsplit, zmask, zent, zentL, List.getElem?_cons_zero, List.getElem?_cons_succ, List.set_cons_zero, List.set_cons_succ, List.set_nil, List.length_cons, List.length_nil, List.replicate, List.nil_append, List.cons_append, List.map_cons, List.map_nil, List.sum_cons, List.sum_nil, Value.category, Option.toList, List.contains_cons, List.contains_nil, true_or, or_true, true_and, Nat.zero_le, Nat.reduceAdd, Nat.reduceLeDiff, Nat.reduceLT, Nat.reduceBEq, Bool.true_or, Bool.or_true, Bool.false_or, Bool.or_false, ↓reduceIte, Bool.false_eq_true, Nat.add_zero, Nat.zero_add, Nat.reduceEqDiff, Nat.reduceSub, w_X9_countedAt, w1, s1, e0]
    refine ⟨fun _ => ⟨T, n - 1, to, cwW T F fr (n - 1), hu', hT', rfl, by omega, rfl, hto, hc, ?_⟩, fun q => absurd (nI_le (by omega) (by omega)) q⟩
    have := hQ τ hf
    rw [cwR, if_neg hn0] at this
    exact this
/-! the walk: where a song is -/
def hrB (F f : Nat → Nat) (n p : Nat) : Bool := !anyB (fun i => !(F i).testBit (f (p + i))) n
def w_X10_isHereThroughout : WPt := fun args σ Q => match args with
  | [.ref w, .ref u, .int x] => ∃ (n m : Nat) (F G f : Nat → Nat) (p : Nat), WalkS σ w ∧ WalkV σ w m f ∧ TuneS σ u ∧ TuneV σ u n F G ∧ x = nI p ∧ p + n ≤ m ∧ Q (some (.int (b2i (hrB F f n p = true)))) σ
  | _ => False
theorem m_X10_isHereThroughout : Meets yX10_isHereThroughout cX10_isHereThroughout 5 (some .boolean) 2 w_X10_isHereThroughout := by
  refine Meets.mk (by decide) fun args σ Φ h => ?_
  unfold w_X10_isHereThroughout at h
  split at h
  rotate_left
  · exact h.elim
  rename_i w u x
  obtain ⟨w, rfl⟩ : ∃ q : Nat, q = w := ⟨w, rfl⟩
  obtain ⟨u, rfl⟩ : ∃ q : Nat, q = u := ⟨u, rfl⟩
  obtain ⟨n, m, F, G, f, p, hw, hwv, hu, hv, rfl, hpm, hQ⟩ := h
  refine ⟨Nat.le_of_ble_eq_true rfl, fun C hC hR => ?_⟩
  have hn := hv.2.1
  have hm := hwv.2.1
  have v1 := hv.1
  have s1 := hu.1
  refine r_X10_isHereThroughout_0 hC hR m_X10_doorAt (by decide) m_X9_fitsAt (by decide) m_X11_has (by decide) _ _ _ ?_
  simp only [T_X10_isHereThroughout_0, x_psh, x_ild, x_lld, x_ald, x_ist, x_ast, x_lst, x_inc, x_iadd, x_isub, x_imul, x_iand, x_ior, x_ixor, x_ishl, x_ishr, x_iushr, x_idiv, x_irem, x_ladd, x_land, x_lor, x_lshl, x_lshr, x_ineg, x_i2l, x_l2i, x_i2b, x_lcmp, x_dup, x_dup2, x_if_eq, x_if_ne, x_if_lt, x_if_ge, x_if_gt, x_if_le, x_ic_eq, x_ic_ne, x_ic_lt, x_ic_ge, x_ic_gt, x_ic_le, x_getI, x_getR, x_putI, x_putZ, x_putR, x_iald, x_bald, x_lald, x_iast, x_bast, x_last, x_alen, x_acp, x_mmax, x_mmin, x_callV, x_callS, x_iret, x_zret, x_lret, x_aret, x_vret, x_tsw, x_stop, zst1, zst2, zkill, zkl, zsplit, zmask, zent, zentL, List.getElem?_cons_zero, List.getElem?_cons_succ, List.set_cons_zero, List.set_cons_succ, List.set_nil, List.length_cons, List.length_nil, List.replicate, List.nil_append, List.cons_append, List.map_cons, List.map_nil, List.sum_cons, List.sum_nil, Value.category, Option.toList, List.contains_cons, List.contains_nil, true_or, or_true, true_and, Nat.zero_le, Nat.reduceAdd, Nat.reduceLeDiff, Nat.reduceLT, Nat.reduceBEq, Bool.true_or, Bool.or_true, Bool.false_or, Bool.or_false, ↓reduceIte, Bool.false_eq_true, Nat.add_zero, Nat.zero_add, Nat.reduceEqDiff, Nat.reduceSub]
  have key := zloop (P := fun i => (∀ j, j < i → (F j).testBit (f (p + j)) = true) → WW C 2 [some (.ref w), some (.ref u), some (.int (nI p)), some (.int (nI i)), none] [] σ) n (fun i hi ih hno => ?_) ?_ 0 (by omega)
  · exact key fun j hj => absurd hj (Nat.not_lt_zero j)
  · have hF := (hv.2.2 i hi).2.1
    have hf := (hwv.2.2 (p + i) (by omega)).2
    refine r_X10_isHereThroughout_2 hC hR m_X10_doorAt (by decide) m_X9_fitsAt (by decide) m_X11_has (by decide) _ _ _ ?_
    simp only [T_X10_isHereThroughout_2, x_psh, x_ild, x_lld, x_ald, x_ist, x_ast, x_lst, x_inc, x_iadd, x_isub, x_imul, x_iand, x_ior, x_ixor, x_ishl, x_ishr, x_iushr, x_idiv, x_irem, x_ladd, x_land, x_lor, x_lshl, x_lshr, x_ineg, x_i2l, x_l2i, x_i2b, x_lcmp, x_dup, x_dup2, x_if_eq, x_if_ne, x_if_lt, x_if_ge, x_if_gt, x_if_le, x_ic_eq, x_ic_ne, x_ic_lt, x_ic_ge, x_ic_gt, x_ic_le, x_getI, x_getR, x_putI, x_putZ, x_putR, x_iald, x_bald, x_lald, x_iast, x_bast, x_last, x_alen, x_acp, x_mmax, x_mmin, x_callV, x_callS, x_iret, x_zret, x_lret, x_aret, x_vret, x_tsw, x_stop, zst1, zst2, zkill, zkl, zsplit, zmask, zent, zentL, List.getElem?_cons_zero, List.getElem?_cons_succ, List.set_cons_zero, List.set_cons_succ, List.set_nil, List.length_cons, List.length_nil, List.replicate, List.nil_append, List.cons_append, List.map_cons, List.map_nil, List.sum_cons, List.sum_nil, Value.category, Option.toList, List.contains_cons, List.contains_nil, true_or, or_true, true_and, Nat.zero_le, Nat.reduceAdd, Nat.reduceLeDiff, Nat.reduceLT, Nat.reduceBEq, Bool.true_or, Bool.or_true, Bool.false_or, Bool.or_false, ↓reduceIte, Bool.false_eq_true, Nat.add_zero, Nat.zero_add, Nat.reduceEqDiff, Nat.reduceSub, w_X10_doorAt, w_X9_fitsAt, w_X11_has, v1, s1]
    refine ⟨fun q => absurd q (nI_ge hi (by omega)), fun _ => ⟨hw.1, m, f, hw, hwv, fun j hj e => ?_, fun q => absurd (by rw [nI_add]; exact not_lt_pos (by omega) (show p + i < m by omega)) q⟩⟩
    rw [nI_add] at e
    have e2 : p + i = j := (nI_eq (by omega) (by omega)).mp e
    subst e2
    refine ⟨fun q => absurd q (z_m9 (by omega)), fun _ => ⟨n, F, G, hu, hv, fun j hj e => ?_, fun q => absurd (not_lt_pos (by omega) hi) q⟩⟩
    have e2 : i = j := (nI_eq (by omega) (by omega)).mp e
    subst e2
    refine ⟨F i, f (p + i), rfl, rfl, by omega, by omega, ?_⟩
    rw [b2i_0, show nI i + 1 = nI (i + 1) from nI_1 i]
    refine ⟨fun hb => ih fun j hj => ?_, fun hb => ?_⟩
    · by_cases e : j = i
      · subst e; exact Decidable.not_not.mp hb
      · exact hno j (by omega)
    · have e : ¬ hrB F f n p = true := by
        unfold hrB
        rw [(anyB_iff _ _).mpr ⟨i, hi, by simpa using hb⟩]
        simp
      rw [b2i_f e] at hQ
      exact hQ
  · intro hno
    refine r_X10_isHereThroughout_2 hC hR m_X10_doorAt (by decide) m_X9_fitsAt (by decide) m_X11_has (by decide) _ _ _ ?_
    simp only [T_X10_isHereThroughout_2, x_psh, x_ild, x_lld, x_ald, x_ist, x_ast, x_lst, x_inc, x_iadd, x_isub, x_imul, x_iand, x_ior, x_ixor, x_ishl, x_ishr, x_iushr, x_idiv, x_irem, x_ladd, x_land, x_lor, x_lshl, x_lshr, x_ineg, x_i2l, x_l2i, x_i2b, x_lcmp, x_dup, x_dup2, x_if_eq, x_if_ne, x_if_lt, x_if_ge, x_if_gt, x_if_le, x_ic_eq, x_ic_ne, x_ic_lt, x_ic_ge, x_ic_gt, x_ic_le, x_getI, x_getR, x_putI, x_putZ, x_putR, x_iald, x_bald, x_lald, x_iast, x_bast, x_last, x_alen, x_acp, x_mmax, x_mmin, x_callV, x_callS, x_iret, x_zret, x_lret, x_aret, x_vret, x_tsw, x_stop, zst1, zst2, zkill, zkl, zsplit, zmask, zent, zentL, List.getElem?_cons_zero, List.getElem?_cons_succ, List.set_cons_zero, List.set_cons_succ, List.set_nil, List.length_cons, List.length_nil, List.replicate, List.nil_append, List.cons_append, List.map_cons, List.map_nil, List.sum_cons, List.sum_nil, Value.category, Option.toList, List.contains_cons, List.contains_nil, true_or, or_true, true_and, Nat.zero_le, Nat.reduceAdd, Nat.reduceLeDiff, Nat.reduceLT, Nat.reduceBEq, Bool.true_or, Bool.or_true, Bool.false_or, Bool.or_false, ↓reduceIte, Bool.false_eq_true, Nat.add_zero, Nat.zero_add, Nat.reduceEqDiff, Nat.reduceSub, v1, s1]
    refine ⟨fun _ => ?_, fun q => absurd (nI_le (Nat.le_refl _) (by omega)) q⟩
    have e : hrB F f n p = true := by
      unfold hrB
      cases h : anyB (fun i => !(F i).testBit (f (p + i))) n with
      | false => rfl
      | true =>
        obtain ⟨j, h1, h2⟩ := (anyB_iff _ _).mp h
        rw [hno j h1] at h2
        cases h2
    rw [b2i_t e] at hQ
    exact hQ
/-- the first place from a on -/
def fplS (P : Nat → Bool) (m n a : Nat) : Option Nat := if fstB (fun k => P (a + k)) (m + 1 - n - a) < m + 1 - n - a then some (a + fstB (fun k => P (a + k)) (m + 1 - n - a)) else none
def w_X10_firstPlaceOf : WPt := fun args σ Q => match args with
  | [.ref w, .ref u, .int x] => ∃ (n m : Nat) (F G f : Nat → Nat) (a : Nat), WalkS σ w ∧ WalkV σ w m f ∧ TuneS σ u ∧ TuneV σ u n F G ∧ x = nI a ∧ a < 24 ∧ Q (some (.int (i2 (fplS (hrB F f n) m n a)))) σ
  | _ => False
theorem m_X10_firstPlaceOf : Meets yX10_firstPlaceOf cX10_firstPlaceOf 4 (some .int) 3 w_X10_firstPlaceOf := by
  refine Meets.mk (by decide) fun args σ Φ h => ?_
  unfold w_X10_firstPlaceOf at h
  split at h
  rotate_left
  · exact h.elim
  rename_i w u x
  obtain ⟨w, rfl⟩ : ∃ q : Nat, q = w := ⟨w, rfl⟩
  obtain ⟨u, rfl⟩ : ∃ q : Nat, q = u := ⟨u, rfl⟩
  obtain ⟨n, m, F, G, f, a, hw, hwv, hu, hv, rfl, ha, hQ⟩ := h
  refine ⟨Nat.le_of_ble_eq_true rfl, fun C hC hR => ?_⟩
  have hn := hv.2.1
  have hm := hwv.2.1
  have v1 := hv.1
  have s1 := hu.1
  have w1 := hwv.1
  have t1 := hw.1
  refine r_X10_firstPlaceOf_0 hC hR m_X10_isHereThroughout (by decide) _ _ _ ?_
  simp only [T_X10_firstPlaceOf_0, x_psh, x_ild, x_lld, x_ald, x_ist, x_ast, x_lst, x_inc, x_iadd, x_isub, x_imul, x_iand, x_ior, x_ixor, x_ishl, x_ishr, x_iushr, x_idiv, x_irem, x_ladd, x_land, x_lor, x_lshl, x_lshr, x_ineg, x_i2l, x_l2i, x_i2b, x_lcmp, x_dup, x_dup2, x_if_eq, x_if_ne, x_if_lt, x_if_ge, x_if_gt, x_if_le, x_ic_eq, x_ic_ne, x_ic_lt, x_ic_ge, x_ic_gt, x_ic_le, x_getI, x_getR, x_putI, x_putZ, x_putR, x_iald, x_bald, x_lald, x_iast, x_bast, x_last, x_alen, x_acp, x_mmax, x_mmin, x_callV, x_callS, x_iret, x_zret, x_lret, x_aret, x_vret, x_tsw, x_stop, zst1, zst2, zkill, zkl, zsplit, zmask, zent, zentL, List.getElem?_cons_zero, List.getElem?_cons_succ, List.set_cons_zero, List.set_cons_succ, List.set_nil, List.length_cons, List.length_nil, List.replicate, List.nil_append, List.cons_append, List.map_cons, List.map_nil, List.sum_cons, List.sum_nil, Value.category, Option.toList, List.contains_cons, List.contains_nil, true_or, or_true, true_and, Nat.zero_le, Nat.reduceAdd, Nat.reduceLeDiff, Nat.reduceLT, Nat.reduceBEq, Bool.true_or, Bool.or_true, Bool.false_or, Bool.or_false, ↓reduceIte, Bool.false_eq_true, Nat.add_zero, Nat.zero_add, Nat.reduceEqDiff, Nat.reduceSub]
  have cmp : ∀ p : Nat, p < 2 ^ 30 → (nI m - nI n < nI p ↔ m < p + n) := fun p hp => by
    rw [Int32.lt_iff_toInt_lt, pk_sub_toInt (by omega) (by omega), nI_toInt (by omega)]
    omega
  have key := zloop (P := fun i => (∀ j, j < i → hrB F f n (a + j) = false) → WW C 2 [some (.ref w), some (.ref u), none, some (.int (nI (a + i)))] [] σ) (m + 1 - n - a) (fun i hi ih hno => ?_) ?_ 0 (by omega)
  · exact key fun j hj => absurd hj (Nat.not_lt_zero j)
  · refine r_X10_firstPlaceOf_2 hC hR m_X10_isHereThroughout (by decide) _ _ _ ?_
    simp only [T_X10_firstPlaceOf_2, x_psh, x_ild, x_lld, x_ald, x_ist, x_ast, x_lst, x_inc, x_iadd, x_isub, x_imul, x_iand, x_ior, x_ixor, x_ishl, x_ishr, x_iushr, x_idiv, x_irem, x_ladd, x_land, x_lor, x_lshl, x_lshr, x_ineg, x_i2l, x_l2i, x_i2b, x_lcmp, x_dup, x_dup2, x_if_eq, x_if_ne, x_if_lt, x_if_ge, x_if_gt, x_if_le, x_ic_eq, x_ic_ne, x_ic_lt, x_ic_ge, x_ic_gt, x_ic_le, x_getI, x_getR, x_putI, x_putZ, x_putR, x_iald, x_bald, x_lald, x_iast, x_bast, x_last, x_alen, x_acp, x_mmax, x_mmin, x_callV, x_callS, x_iret, x_zret, x_lret, x_aret, x_vret, x_tsw, x_stop, zst1, zst2, zkill, zkl, zsplit, zmask, zent, zentL, List.getElem?_cons_zero, List.getElem?_cons_succ, List.set_cons_zero, List.set_cons_succ, List.set_nil, List.length_cons, List.length_nil, List.replicate, List.nil_append, List.cons_append, List.map_cons, List.map_nil, List.sum_cons, List.sum_nil, Value.category, Option.toList, List.contains_cons, List.contains_nil, true_or, or_true, true_and, Nat.zero_le, Nat.reduceAdd, Nat.reduceLeDiff, Nat.reduceLT, Nat.reduceBEq, Bool.true_or, Bool.or_true, Bool.false_or, Bool.or_false, ↓reduceIte, Bool.false_eq_true, Nat.add_zero, Nat.zero_add, Nat.reduceEqDiff, Nat.reduceSub, w_X10_isHereThroughout, v1, s1, w1, t1]
    rw [cmp _ (by omega)]
    refine ⟨fun q => absurd q (by omega), fun _ => ⟨n, m, F, G, f, a + i, hw, hwv, hu, hv, rfl, by omega, ?_⟩⟩
    rw [b2i_0, nI_i3]
    refine ⟨fun hb => ih fun j hj => ?_, fun hb => ?_⟩
    · by_cases e : j = i
      · subst e; simpa using hb
      · exact hno j (by omega)
    · have e := fstB_eq (p := fun k => hrB F f n (a + k)) hi (Decidable.not_not.mp hb) hno
      rw [fplS, e, if_pos hi] at hQ
      exact hQ
  · intro hno
    refine r_X10_firstPlaceOf_2 hC hR m_X10_isHereThroughout (by decide) _ _ _ ?_
    simp only [T_X10_firstPlaceOf_2, x_psh, x_ild, x_lld, x_ald, x_ist, x_ast, x_lst, x_inc, x_iadd, x_isub, x_imul, x_iand, x_ior, x_ixor, x_ishl, x_ishr, x_iushr, x_idiv, x_irem, x_ladd, x_land, x_lor, x_lshl, x_lshr, x_ineg, x_i2l, x_l2i, x_i2b, x_lcmp, x_dup, x_dup2, x_if_eq, x_if_ne, x_if_lt, x_if_ge, x_if_gt, x_if_le, x_ic_eq, x_ic_ne, x_ic_lt, x_ic_ge, x_ic_gt, x_ic_le, x_getI, x_getR, x_putI, x_putZ, x_putR, x_iald, x_bald, x_lald, x_iast, x_bast, x_last, x_alen, x_acp, x_mmax, x_mmin, x_callV, x_callS, x_iret, x_zret, x_lret, x_aret, x_vret, x_tsw, x_stop, zst1, zst2, zkill, zkl, zsplit, zmask, zent, zentL, List.getElem?_cons_zero, List.getElem?_cons_succ, List.set_cons_zero, List.set_cons_succ, List.set_nil, List.length_cons, List.length_nil, List.replicate, List.nil_append, List.cons_append, List.map_cons, List.map_nil, List.sum_cons, List.sum_nil, Value.category, Option.toList, List.contains_cons, List.contains_nil, true_or, or_true, true_and, Nat.zero_le, Nat.reduceAdd, Nat.reduceLeDiff, Nat.reduceLT, Nat.reduceBEq, Bool.true_or, Bool.or_true, Bool.false_or, Bool.or_false, ↓reduceIte, Bool.false_eq_true, Nat.add_zero, Nat.zero_add, Nat.reduceEqDiff, Nat.reduceSub, v1, s1, w1, t1]
    have e : ¬ fstB (fun k => hrB F f n (a + k)) (m + 1 - n - a) < m + 1 - n - a := fun h => by
      have := fstB_yes _ _ h
      rw [hno _ h] at this
      cases this
    rw [fplS, if_neg e] at hQ
    rw [cmp _ (by omega)]
    refine ⟨fun _ => hQ, fun q => absurd ?_ q⟩
    omega
