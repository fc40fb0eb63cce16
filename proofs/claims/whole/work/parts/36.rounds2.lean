def JF (σ σ' : ZS) (a : Nat) : Prop := zd σ' = zd σ ∧ zR σ' = zR σ ∧ zI σ' = zI σ ∧ offJ σ σ' a
theorem JF.refl (σ : ZS) (a : Nat) : JF σ σ a := ⟨rfl, rfl, rfl, fun _ _ => rfl⟩
theorem JF.trans {σ σ1 σ2 : ZS} {a : Nat} (h : JF σ σ1 a) (g : JF σ1 σ2 a) : JF σ σ2 a := ⟨g.1.trans h.1, g.2.1.trans h.2.1, g.2.2.1.trans h.2.2.1, fun i hi => (g.2.2.2 i hi).trans (h.2.2.2 i hi)⟩
theorem TownR.j {σ σ' : ZS} {a t : Nat} {T : TD} (hT : TownR σ t T) (hf : JF σ σ' a) : TownR σ' t T := ⟨hT.1.of hf.1 hf.2.1, by have := hT.2; unfold TownV at *; rw [hf.2.2.1]; exact this⟩
theorem TuneV.j {σ σ' : ZS} {a u n : Nat} {F G : Nat → Nat} (hv : TuneV σ u n F G) (hf : JF σ σ' a) : TuneV σ' u n F G := by unfold TuneV at *; rw [hf.2.2.1]; exact hv
def MemR (σ : ZS) (a : Nat) (T : TD) (F : Nat → Nat) (M : Nat → Nat) : Prop := ∀ r, r < 4096 → zJ σ a r = lN (M r) ∧ M r < 2 ^ 48 ∧ ∀ d, d < tD T → nib (M r) d = 0 ∨ nib (M r) d = gnS T F d r
def gW (n : Nat) : WPt := fun args σ Q => match args with
  | [.ref t, .ref u, .ref a, .int x, .int y] => ∃ (T : TD) (F G M : Nat → Nat) (d r : Nat), TownR σ t T ∧ TuneS σ u ∧ TuneV σ u (tD T) F G ∧ zd σ a = some (3, 4096) ∧ MemR σ a T F M ∧ x = nI d ∧ d < tD T ∧ y = nI r ∧ r < 2 ^ tD T ∧ ones r ≤ n ∧ ∀ σ' M', JF σ σ' a → MemR σ' a T F M' → (∀ q, r < q → M' q = M q) → Q (some (.int (nI (gnS T F d r)))) σ'
  | _ => False
def gtW (n : Nat) : WPt := fun args σ Q => match args with
  | [.ref t, .ref u, .ref a, .int x, .int y] => ∃ (T : TD) (F G M : Nat → Nat) (e r : Nat), TownR σ t T ∧ TuneS σ u ∧ TuneV σ u (tD T) F G ∧ zd σ a = some (3, 4096) ∧ MemR σ a T F M ∧ x = nI e ∧ e < tD T ∧ y = nI r ∧ r < 2 ^ tD T ∧ r.testBit e = true ∧ ones r ≤ n + 1 ∧ ∀ σ' M', JF σ σ' a → MemR σ' a T F M' → (∀ q, r ≤ q → M' q = M q) → Q (some (.int (nI (gtS T F e r)))) σ'
  | _ => False
theorem z_l15 : (15 : Int32) = nI 15 := rfl
set_option maxHeartbeats 2000000 in
theorem m_gainThrough (n D : Nat) (hD3 : 2 ≤ D) (ihg : Meets yX4_gainOf cX4_gainOf 9 (some .int) D (gW n)) : Meets yX4_gainThrough cX4_gainThrough 7 (some .int) (D + 1) (gtW n) := by
  refine Meets.mk (by decide) fun args σ Φ h => ?_
  unfold gtW at h
  split at h
  rotate_left
  · exact h.elim
  rename_i t u a x y
  obtain ⟨T, F, G, M, e, r, hT, hu, hv, ha, hM, rfl, he, rfl, hr, hb, hn, hQ⟩ := h
  refine ⟨Nat.le_of_ble_eq_true rfl, fun C hC hR => ?_⟩
  have hD := hT.2.2.2.1
  have hp := hT.d31
  have h1 := ones_clr (r := r) (by omega) hb
  have h2 := clrB_lt2 hb
  have hoD := ones_le_D hr
  refine r_X4_gainThrough_0 hC hR ihg (by omega) m_J6_bitCount_0f7a4 (by omega) m_X9_worthAt (by omega) _ _ _ ?_
  simp only [T_X4_gainThrough_0, x_psh, x_ild, x_lld, x_ald, x_ist, x_ast, x_lst, x_inc, x_iadd, x_isub, x_imul, x_iand, x_ior, x_ixor, x_ishl, x_ishr, x_iushr, x_idiv, x_irem, x_ladd, x_land, x_lor, x_lshl, x_lshr, x_ineg, x_i2l, x_l2i, x_i2b, x_lcmp, x_dup, x_dup2, x_if_eq, x_if_ne, x_if_lt, x_if_ge, x_if_gt, x_if_le, x_ic_eq, x_ic_ne, x_ic_lt, x_ic_ge, x_ic_gt, x_ic_le, x_getI, x_getR, x_putI, x_putZ, x_putR, x_iald, x_bald, x_lald, x_iast, x_bast, x_last, x_alen, x_acp, x_mmax, x_mmin, x_callV, x_callS, x_iret, x_zret, x_lret, x_aret, x_vret, x_tsw, x_stop, zst1, zst2, zkill, zkl, zsplit, zmask, zent, zentL, List.getElem?_cons_zero, List.getElem?_cons_succ, List.set_cons_zero, List.set_cons_succ, List.set_nil, List.length_cons, List.length_nil, List.replicate, List.nil_append, List.cons_append, List.map_cons, List.map_nil, List.sum_cons, List.sum_nil, Value.category, Option.toList, List.contains_cons, List.contains_nil, true_or, or_true, true_and, Nat.zero_le, Nat.reduceAdd, Nat.reduceLeDiff, Nat.reduceLT, Nat.reduceBEq, Bool.true_or, Bool.or_true, Bool.false_or, Bool.or_false, ↓reduceIte, Bool.false_eq_true, Nat.add_zero, Nat.zero_add, Nat.reduceEqDiff, Nat.reduceSub, gW, w_J6_bitCount_0f7a4, w_X9_worthAt]
  refine ⟨T, F, G, M, e, clrB r e, hT, hu, hv, ha, hM, rfl, he, ?_, by omega, by omega, fun σ' M' hf hM' hk => ?_⟩
  · rw [z_l31, z_l1, z_p2 e (by omega)]
    exact z_clr' (by omega) (by omega)
  have hT' : TownR σ' t T := hT.j hf
  have hu' : TuneS σ' u := hu.of hf.1 hf.2.1
  have hv' : TuneV σ' u (tD T) F G := hv.j hf
  have g14 := gnS_le T F e (r := clrB r e) (by omega)
  refine ⟨hT'.1.1, r, rfl, by omega, ?_⟩
  rw [hT'.2.1, pk_sub hoD, z_l1, nI_eq (by omega) (by omega)]
  have hq := hQ σ' M' hf hM' (fun q hq => hk q (by omega))
  refine ⟨fun q => ⟨hu'.1, tD T, F, G, tD T - ones r, e, hu', hv', rfl, by omega, rfl, by omega, ?_⟩, fun q => ?_⟩
  · rw [gtS, if_neg q] at hq
    rw [nI_add]
    exact hq
  · rw [gtS, if_pos q] at hq
    exact hq
set_option maxHeartbeats 4000000 in
theorem m_gainOf (n D : Nat) (hD3 : 2 ≤ D) (w : WPt) (iht : Meets yX4_gainThrough cX4_gainThrough 7 (some .int) D w) (hw : n = 0 ∨ w = gtW (n - 1)) : Meets yX4_gainOf cX4_gainOf 9 (some .int) (D + 1) (gW n) := by
  refine Meets.mk (by decide) fun args σ Φ h => ?_
  unfold gW at h
  split at h
  rotate_left
  · exact h.elim
  rename_i t u a x y
  obtain ⟨T, F, G, M, d, r, hT, hu, hv, ha, hM, rfl, hd, rfl, hr, hn, hQ⟩ := h
  refine ⟨Nat.le_of_ble_eq_true rfl, fun C hC hR => ?_⟩
  have hD := hT.2.2.2.1
  have hp := hT.d31
  have t1 := hT.1.1
  have v1 := hT.2.1
  by_cases h0 : r = 0
  · subst h0
    have hq := hQ σ M (JF.refl _ _) hM (fun _ _ => rfl)
    rw [gnS_0] at hq
    refine r_X4_gainOf_0 hC hR (by omega) m_X8_joinedTo (by omega) m_X11_has (by omega) iht (by omega) _ _ _ ?_
    simp only [T_X4_gainOf_0, x_psh, x_ild, x_lld, x_ald, x_ist, x_ast, x_lst, x_inc, x_iadd, x_isub, x_imul, x_iand, x_ior, x_ixor, x_ishl, x_ishr, x_iushr, x_idiv, x_irem, x_ladd, x_land, x_lor, x_lshl, x_lshr, x_ineg, x_i2l, x_l2i, x_i2b, x_lcmp, x_dup, x_dup2, x_if_eq, x_if_ne, x_if_lt, x_if_ge, x_if_gt, x_if_le, x_ic_eq, x_ic_ne, x_ic_lt, x_ic_ge, x_ic_gt, x_ic_le, x_getI, x_getR, x_putI, x_putZ, x_putR, x_iald, x_bald, x_lald, x_iast, x_bast, x_last, x_alen, x_acp, x_mmax, x_mmin, x_callV, x_callS, x_iret, x_zret, x_lret, x_aret, x_vret, x_tsw, x_stop, zst1, zst2, zkill, zkl, zsplit, zmask, zent, zentL, List.getElem?_cons_zero, List.getElem?_cons_succ, List.set_cons_zero, List.set_cons_succ, List.set_nil, List.length_cons, List.length_nil, List.replicate, List.nil_append, List.cons_append, List.map_cons, List.map_nil, List.sum_cons, List.sum_nil, Value.category, Option.toList, List.contains_cons, List.contains_nil, true_or, or_true, true_and, Nat.zero_le, Nat.reduceAdd, Nat.reduceLeDiff, Nat.reduceLT, Nat.reduceBEq, Bool.true_or, Bool.or_true, Bool.false_or, Bool.or_false, ↓reduceIte, Bool.false_eq_true, Nat.add_zero, Nat.zero_add, Nat.reduceEqDiff, Nat.reduceSub]
    exact ⟨fun _ => hq, fun q => absurd (by decide) q⟩
  have hw2 : w = gtW (n - 1) := hw.resolve_left (fun e => by have := ones_pos (r := r) (by omega) h0; omega)
  subst hw2
  have hn1 : 1 ≤ n := by have := ones_pos (r := r) (by omega) h0; omega
  have hE := (hT.2.2.2.2.2.2.1 d hd).2
  have hnear : tE T d &&& r < 4096 := by have := and_lt31 (a := tE T d) hr; omega
  obtain ⟨m1, m2, m3⟩ := hM r (by omega)
  have hnib := nib_lt (M r) d
  have hsh : 4 * d < 64 := by omega
  -- the end: what is found is written into its four bits
  have fin : ∀ (τ : ZS) (N : Nat → Nat) (g : Nat), g = gnS T F d r → nib (M r) d = 0 → JF σ τ a → MemR τ a T F N → (∀ q, r ≤ q → N q = M q) → ∃ n_1, zd τ a = some (3, n_1) ∧ vp_in (nI r) n_1 ∧ ∃ n_1, zd τ a = some (3, n_1) ∧ vp_in (nI r) n_1 ∧ Φ (some (.int (nI g))) (sJ τ a (nI r).toNatClampNeg (zJ τ a (nI r).toNatClampNeg ||| (nI g).toInt64 <<< ((nI (4 * d)).toInt64 &&& 63))) := by
    intro τ N g hg hz hf hN hk
    have g14 := gnS_le T F d (r := r) (by omega)
    refine ⟨4096, by rw [hf.1]; exact ha, vp_in_nI (by omega) (by omega), 4096, by rw [hf.1]; exact ha, vp_in_nI (by omega) (by omega), ?_⟩
    obtain ⟨k1, k2, k3⟩ := hN r (by omega)
    rw [nI_clamp (by omega), k1, nI_l (by omega), wb_shl g hsh, fb_orL, hg, hk r (Nat.le_refl _)]
    have hlt : M r ||| gnS T F d r * 2 ^ (4 * d) < 2 ^ 48 := by
      refine Nat.or_lt_two_pow m2 ?_
      have h1 : gnS T F d r * 2 ^ (4 * d) < 2 ^ 4 * 2 ^ (4 * d) := Nat.mul_lt_mul_of_pos_right (by omega) (Nat.two_pow_pos _)
      rw [← Nat.pow_add] at h1
      exact Nat.lt_of_lt_of_le h1 (Nat.pow_le_pow_right (by decide) (by omega))
    refine hQ _ (va_up N r (M r ||| gnS T F d r * 2 ^ (4 * d))) ⟨hf.1, hf.2.1, hf.2.2.1, fun i hi => ?_⟩ (fun q hq => ?_) (fun q hq => ?_)
    · rw [zJ_sJ, if_neg hi]; exact hf.2.2.2 i hi
    · rw [zJ_sJ, if_pos rfl]
      obtain ⟨j1, j2, j3⟩ := hN q hq
      unfold vp_updL va_up
      split
      next e =>
        subst e
        refine ⟨rfl, hlt, fun d' hd' => ?_⟩
        rw [nib_or (by omega)]
        split
        next e2 => subst e2; rw [hz, Nat.zero_or]; exact Or.inr rfl
        next e2 => exact m3 d' hd'
      next => exact ⟨j1, j2, j3⟩
    · unfold va_up
      rw [if_neg (by omega)]
      exact hk q (by omega)
  refine r_X4_gainOf_0 hC hR (by omega) m_X8_joinedTo (by omega) m_X11_has (by omega) iht (by omega) _ _ _ ?_
  simp only [T_X4_gainOf_0, x_psh, x_ild, x_lld, x_ald, x_ist, x_ast, x_lst, x_inc, x_iadd, x_isub, x_imul, x_iand, x_ior, x_ixor, x_ishl, x_ishr, x_iushr, x_idiv, x_irem, x_ladd, x_land, x_lor, x_lshl, x_lshr, x_ineg, x_i2l, x_l2i, x_i2b, x_lcmp, x_dup, x_dup2, x_if_eq, x_if_ne, x_if_lt, x_if_ge, x_if_gt, x_if_le, x_ic_eq, x_ic_ne, x_ic_lt, x_ic_ge, x_ic_gt, x_ic_le, x_getI, x_getR, x_putI, x_putZ, x_putR, x_iald, x_bald, x_lald, x_iast, x_bast, x_last, x_alen, x_acp, x_mmax, x_mmin, x_callV, x_callS, x_iret, x_zret, x_lret, x_aret, x_vret, x_tsw, x_stop, zst1, zst2, zkill, zkl, zsplit, zmask, zent, zentL, List.getElem?_cons_zero, List.getElem?_cons_succ, List.set_cons_zero, List.set_cons_succ, List.set_nil, List.length_cons, List.length_nil, List.replicate, List.nil_append, List.cons_append, List.map_cons, List.map_nil, List.sum_cons, List.sum_nil, Value.category, Option.toList, List.contains_cons, List.contains_nil, true_or, or_true, true_and, Nat.zero_le, Nat.reduceAdd, Nat.reduceLeDiff, Nat.reduceLT, Nat.reduceBEq, Bool.true_or, Bool.or_true, Bool.false_or, Bool.or_false, ↓reduceIte, Bool.false_eq_true, Nat.add_zero, Nat.zero_add, Nat.reduceEqDiff, Nat.reduceSub, w_X8_joinedTo]
  refine ⟨fun q => absurd q (by rw [z_l0]; exact fun q => absurd ((nI_leI (by omega) (by omega)).mp q) (by omega)), fun _ => ⟨4096, Or.inr ha, fun _ => ⟨4096, ha, vp_in_nI (by omega) (by omega), ?_⟩, fun q => absurd (nI_lt (by omega) (by decide)) q⟩⟩
  have e4 : 4 * nI d = nI (4 * d) := by rw [z_l4, pk_mul]
  rw [nI_clamp (by omega), m1, e4, z_lshr hsh (by omega), lN_i, z_l15, z_and]
  show (nI (nib (M r) d) = 0 → _) ∧ (¬ nI (nib (M r) d) = 0 → Φ (some (.int (nI (nib (M r) d)))) σ)
  rw [z_l0, nI_eq (by omega) (by omega)]
  refine ⟨fun hz => ⟨t1, T, hT, fun j hj e => ?_, fun q => absurd (not_lt_pos (by omega) hd) q⟩, fun hz => ?_⟩
  rotate_left
  · have hq := hQ σ M (JF.refl _ _) hM (fun _ _ => rfl)
    rw [(m3 d hd).resolve_left hz]
    exact hq
  have e2 : d = j := (nI_eq (by omega) (by omega)).mp e
  subst e2
  rw [z_and]
  have geq := gnS_eq T F d (r := r) (by omega) h0
  have key := zloop (P := fun k => ∀ τ N, JF σ τ a → MemR τ a T F N → (∀ q, r ≤ q → N q = M q) → WW C 56 [some (.ref t), some (.ref u), some (.ref a), none, some (.int (nI r)), some (.int (nI (4 * d))), some (.int (nI (mxS (tE T d &&& r).testBit (fun e => gtS T F e r) k))), some (.int (nI (tE T d &&& r))), some (.int (nI k))] [] τ) (tD T) (fun k hk ih τ N hf hN hkeep => ?_) ?_ 0 (by omega)
  · exact key σ M (JF.refl _ _) hM (fun _ _ => rfl)
  · have hT' : TownR τ t T := hT.j hf
    have hu' : TuneS τ u := hu.of hf.1 hf.2.1
    have hv' : TuneV τ u (tD T) F G := hv.j hf
    have w1 := hT'.1.1
    have x1 := hT'.2.1
    refine r_X4_gainOf_56 hC hR (by omega) m_X8_joinedTo (by omega) m_X11_has (by omega) iht (by omega) _ _ _ ?_
    simp only [T_X4_gainOf_56, x_psh, x_ild, x_lld, x_ald, x_ist, x_ast, x_lst, x_inc, x_iadd, x_isub, x_imul, x_iand, x_ior, x_ixor, x_ishl, x_ishr, x_iushr, x_idiv, x_irem, x_ladd, x_land, x_lor, x_lshl, x_lshr, x_ineg, x_i2l, x_l2i, x_i2b, x_lcmp, x_dup, x_dup2, x_if_eq, x_if_ne, x_if_lt, x_if_ge, x_if_gt, x_if_le, x_ic_eq, x_ic_ne, x_ic_lt, x_ic_ge, x_ic_gt, x_ic_le, x_getI, x_getR, x_putI, x_putZ, x_putR, x_iald, x_bald, x_lald, x_iast, x_bast, x_last, x_alen, x_acp, x_mmax, x_mmin, x_callV, x_callS, x_iret, x_zret, x_lret, x_aret, x_vret, x_tsw, x_stop, zst1, zst2, zkill, zkl, zsplit, zmask, zent, zentL, List.getElem?_cons_zero, List.getElem?_cons_succ, List.set_cons_zero, List.set_cons_succ, List.set_nil, List.length_cons, List.length_nil, List.replicate, List.nil_append, List.cons_append, List.map_cons, List.map_nil, List.sum_cons, List.sum_nil, Value.category, Option.toList, List.contains_cons, List.contains_nil, true_or, or_true, true_and, Nat.zero_le, Nat.reduceAdd, Nat.reduceLeDiff, Nat.reduceLT, Nat.reduceBEq, Bool.true_or, Bool.or_true, Bool.false_or, Bool.or_false, ↓reduceIte, Bool.false_eq_true, Nat.add_zero, Nat.zero_add, Nat.reduceEqDiff, Nat.reduceSub, w1, x1, w_X11_has, gtW]
    refine ⟨fun q => absurd q (nI_ge hk (by omega)), fun _ => ?_⟩
    rw [z_l31, z_shr (by omega) (by omega), z_l0, nI_eq (Nat.lt_of_le_of_lt (by rw [Nat.shiftRight_eq_div_pow]; exact Nat.div_le_self _ _) (show tE T d &&& r < 2 ^ 31 by omega)) (by omega)]
    refine ⟨fun q => ?_, fun q => ⟨_, k, rfl, rfl, by omega, by omega, ?_⟩⟩
    · have hst := mxS_stop (p := (tE T d &&& r).testBit) (v := fun e => gtS T F e r) (z_shr0 q) (tD T - k)
      rw [show k + (tD T - k) = tD T by omega] at hst
      exact fin τ N _ (by rw [geq, hst]) hz hf hN hkeep
    · rw [← z_l0, b2i_0, nI_i3]
      refine ⟨fun hb => ?_, fun hb => ?_⟩
      · rw [show mxS (tE T d &&& r).testBit (fun e => gtS T F e r) k = mxS (tE T d &&& r).testBit (fun e => gtS T F e r) (k + 1) by rw [mxS, if_neg hb]]
        exact ih τ N hf hN hkeep
      · have hb2 : (tE T d &&& r).testBit k = true := Decidable.not_not.mp hb
        have hb3 : r.testBit k = true := by rw [Nat.testBit_and, Bool.and_eq_true] at hb2; exact hb2.2
        refine ⟨T, F, G, N, k, r, hT', hu', hv', by rw [hf.1]; exact ha, hN, rfl, hk, rfl, hr, hb3, by omega, fun σ' M' hf' hM' hk' => ?_⟩
        have gt14 : gtS T F k r ≤ 100 := by
          have := gnS_le T F k (r := clrB r k) (by have := clrB_lt2 hb3; omega)
          have : wtS T F k r ≤ 1 := by unfold wtS; split <;> omega
          unfold gtS
          split <;> omega
        have mx14 : mxS (tE T d &&& r).testBit (fun e => gtS T F e r) k ≤ 100 := mxS_le (by omega) k fun e he => by
          have h5 := Nat.lt_of_le_of_lt (clrB_le r e) (show r < 4096 by omega)
          have := gnS_le T F e (r := clrB r e) h5
          have : wtS T F e r ≤ 1 := by unfold wtS; split <;> omega
          show gtS T F e r ≤ 100
          unfold gtS
          split <;> omega
        have emax : (if nI (mxS (tE T d &&& r).testBit (fun e => gtS T F e r) k) < nI (gtS T F k r) then nI (gtS T F k r) else nI (mxS (tE T d &&& r).testBit (fun e => gtS T F e r) k)) = nI (mxS (tE T d &&& r).testBit (fun e => gtS T F e r) (k + 1)) := by
          rw [mxS, if_pos hb2]
          have hc := nI_ltI (a := mxS (tE T d &&& r).testBit (fun e => gtS T F e r) k) (b := gtS T F k r) (by omega) (by omega)
          by_cases hlt : mxS (tE T d &&& r).testBit (fun e => gtS T F e r) k < gtS T F k r
          · rw [if_pos (hc.mpr hlt), Nat.max_eq_right (by omega)]
          · rw [if_neg (mt hc.mp hlt), Nat.max_eq_left (by omega)]
        rw [emax]
        exact ih σ' M' (hf.trans hf') hM' (fun q hq => (hk' q hq).trans (hkeep q hq))
  · intro τ N hf hN hkeep
    have hT' : TownR τ t T := hT.j hf
    have w1 := hT'.1.1
    have x1 := hT'.2.1
    refine r_X4_gainOf_56 hC hR (by omega) m_X8_joinedTo (by omega) m_X11_has (by omega) iht (by omega) _ _ _ ?_
    simp only [T_X4_gainOf_56, x_psh, x_ild, x_lld, x_ald, x_ist, x_ast, x_lst, x_inc, x_iadd, x_isub, x_imul, x_iand, x_ior, x_ixor, x_ishl, x_ishr, x_iushr, x_idiv, x_irem, x_ladd, x_land, x_lor, x_lshl, x_lshr, x_ineg, x_i2l, x_l2i, x_i2b, x_lcmp, x_dup, x_dup2, x_if_eq, x_if_ne, x_if_lt, x_if_ge, x_if_gt, x_if_le, x_ic_eq, x_ic_ne, x_ic_lt, x_ic_ge, x_ic_gt, x_ic_le, x_getI, x_getR, x_putI, x_putZ, x_putR, x_iald, x_bald, x_lald, x_iast, x_bast, x_last, x_alen, x_acp, x_mmax, x_mmin, x_callV, x_callS, x_iret, x_zret, x_lret, x_aret, x_vret, x_tsw, x_stop, zst1, zst2, zkill, zkl, zsplit, zmask, zent, zentL, List.getElem?_cons_zero, List.getElem?_cons_succ, List.set_cons_zero, List.set_cons_succ, List.set_nil, List.length_cons, List.length_nil, List.replicate, List.nil_append, List.cons_append, List.map_cons, List.map_nil, List.sum_cons, List.sum_nil, Value.category, Option.toList, List.contains_cons, List.contains_nil, true_or, or_true, true_and, Nat.zero_le, Nat.reduceAdd, Nat.reduceLeDiff, Nat.reduceLT, Nat.reduceBEq, Bool.true_or, Bool.or_true, Bool.false_or, Bool.or_false, ↓reduceIte, Bool.false_eq_true, Nat.add_zero, Nat.zero_add, Nat.reduceEqDiff, Nat.reduceSub, w1, x1]
    exact ⟨fun _ => fin τ N _ geq.symm hz hf hN hkeep, fun q => absurd (nI_le (Nat.le_refl _) (by omega)) q⟩
