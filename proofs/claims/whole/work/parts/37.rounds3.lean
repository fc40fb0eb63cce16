theorem m_gains : ∀ n, Meets yX4_gainOf cX4_gainOf 9 (some .int) (2 * n + 3) (gW n)
  | 0 => m_gainOf 0 2 (by omega) _ (meets_false _ _ _ _ 2) (Or.inl rfl)
  | n + 1 => by
    have h1 := m_gainThrough n (2 * n + 3) (by omega) (m_gains n)
    exact m_gainOf (n + 1) (2 * n + 4) (by omega) _ h1 (Or.inr rfl)
def w_X4_gainOf : WPt := gW 13
theorem m_X4_gainOf : Meets yX4_gainOf cX4_gainOf 9 (some .int) 29 w_X4_gainOf := m_gains 13
def w_X4_gainThrough : WPt := gtW 13
theorem m_X4_gainThrough : Meets yX4_gainThrough cX4_gainThrough 7 (some .int) 30 w_X4_gainThrough := m_gainThrough 13 29 (by omega) (m_gains 13)
def w_X4_othersThan : WPt := fun args σ Q => match args with
  | [.ref t, .int x] => ∃ (T : TD) (d : Nat), TownR σ t T ∧ x = nI d ∧ d < tD T ∧ Q (some (.int (nI (clrB (2 ^ tD T - 1) d)))) σ
  | _ => False
theorem m_X4_othersThan : Meets yX4_othersThan cX4_othersThan 2 (some .int) 2 w_X4_othersThan := by
  refine Meets.mk (by decide) fun args σ Φ h => ?_
  unfold w_X4_othersThan at h
  split at h
  rotate_left
  · exact h.elim
  rename_i t x
  obtain ⟨t, rfl⟩ : ∃ q : Nat, q = t := ⟨t, rfl⟩
  obtain ⟨T, d, hT, rfl, hd, hQ⟩ := h
  refine ⟨Nat.le_of_ble_eq_true rfl, fun C hC hR => ?_⟩
  have hD := hT.2.2.2.1
  have hp := hT.d31
  refine r_X4_othersThan_0 hC hR m_X8_allDoors (by decide) _ _ _ ?_
  simp only [T_X4_othersThan_0, x_psh, x_ild, x_lld, x_ald, x_ist, x_ast, x_lst, x_inc, x_iadd, x_isub, x_imul, x_iand, x_ior, x_ixor, x_ishl, x_ishr, x_iushr, x_idiv, x_irem, x_ladd, x_land, x_lor, x_lshl, x_lshr, x_ineg, x_i2l, x_l2i, x_i2b, x_lcmp, x_dup, x_dup2, x_if_eq, x_if_ne, x_if_lt, x_if_ge, x_if_gt, x_if_le, x_ic_eq, x_ic_ne, x_ic_lt, x_ic_ge, x_ic_gt, x_ic_le, x_getI, x_getR, x_putI, x_putZ, x_putR, x_iald, x_bald, x_lald, x_iast, x_bast, x_last, x_alen, x_acp, x_mmax, x_mmin, x_callV, x_callS, x_iret, x_zret, x_lret, x_aret, x_vret, x_tsw, x_stop, zst1, zst2, zkill, zkl, zsplit, zmask, zent, zentL, List.getElem?_cons_zero, List.getElem?_cons_succ, List.set_cons_zero, List.set_cons_succ, List.set_nil, List.length_cons, List.length_nil, List.replicate, List.nil_append, List.cons_append, List.map_cons, List.map_nil, List.sum_cons, List.sum_nil, Value.category, Option.toList, List.contains_cons, List.contains_nil, true_or, or_true, true_and, Nat.zero_le, Nat.reduceAdd, Nat.reduceLeDiff, Nat.reduceLT, Nat.reduceBEq, Bool.true_or, Bool.or_true, Bool.false_or, Bool.or_false, ↓reduceIte, Bool.false_eq_true, Nat.add_zero, Nat.zero_add, Nat.reduceEqDiff, Nat.reduceSub, w_X8_allDoors]
  refine ⟨hT.1.1, tD T, hT.1.1, hT.2.1, hD, ?_⟩
  rw [z_l31, z_l1, z_p2 d (by omega), z_clr' (by omega) (by omega)]
  exact hQ
def RoS (σ : ZS) (g : Nat) : Prop := zd σ g = some (0, 1) ∧ zd σ (g + 1) = some (3, 4096) ∧ zR σ g 0 = g + 1
theorem RoS.of {σ σ' : ZS} {w : Nat} (h : RoS σ w) (h1 : zd σ' = zd σ) (h2 : zR σ' = zR σ) : RoS σ' w := by unfold RoS at *; rw [h1, h2]; exact h
/-- the gain from a door with all others to come -/
def gaS (T : TD) (F : Nat → Nat) (d : Nat) : Nat := gnS T F d (clrB (2 ^ tD T - 1) d)
def bwS (T : TD) (F : Nat → Nat) (d : Nat) : Option Nat := if gaS T F d = 1 then none else some (gaS T F d - 2 + (if (F 0).testBit d then 1 else 0))
theorem mem0 {σ : ZS} {a : Nat} {T : TD} {F : Nat → Nat} (h : ∀ r, r < 4096 → zJ σ a r = 0) : MemR σ a T F (fun _ => 0) := fun r hr => ⟨h r hr, (by show (0 : Nat) < 2 ^ 48; decide), fun d _ => Or.inl (by show nib 0 d = 0; unfold nib; simp)⟩
def w_X4_greatestWorth : WPt := fun args σ Q => match args with
  | [.ref g, .ref t, .ref u, .int x] => ∃ (T : TD) (F G : Nat → Nat) (d : Nat), RoS σ g ∧ TownR σ t T ∧ TuneS σ u ∧ TuneV σ u (tD T) F G ∧ x = nI d ∧ d < tD T ∧ ∀ σ', JF σ σ' (g + 1) → Q (some (.int (i2 (bwS T F d)))) σ'
  | _ => False
theorem m_X4_greatestWorth : Meets yX4_greatestWorth cX4_greatestWorth 5 (some .int) 30 w_X4_greatestWorth := by
  refine Meets.mk (by decide) fun args σ Φ h => ?_
  unfold w_X4_greatestWorth at h
  split at h
  rotate_left
  · exact h.elim
  rename_i g t u x
  obtain ⟨g, rfl⟩ : ∃ q : Nat, q = g := ⟨g, rfl⟩
  obtain ⟨t, rfl⟩ : ∃ q : Nat, q = t := ⟨t, rfl⟩
  obtain ⟨u, rfl⟩ : ∃ q : Nat, q = u := ⟨u, rfl⟩
  obtain ⟨T, F, G, d, hg, hT, hu, hv, rfl, hd, hQ⟩ := h
  refine ⟨Nat.le_of_ble_eq_true rfl, fun C hC hR => ?_⟩
  have hD := hT.2.2.2.1
  have hp := hT.d31
  have ⟨g1, g2, g3⟩ := hg
  refine r_X4_greatestWorth_0 hC hR m_J7_fill_d0a16 (by decide) m_X4_othersThan (by decide) m_X4_gainOf (by decide) m_X9_worthAt (by decide) _ _ _ ?_
  simp only [T_X4_greatestWorth_0, x_psh, x_ild, x_lld, x_ald, x_ist, x_ast, x_lst, x_inc, x_iadd, x_isub, x_imul, x_iand, x_ior, x_ixor, x_ishl, x_ishr, x_iushr, x_idiv, x_irem, x_ladd, x_land, x_lor, x_lshl, x_lshr, x_ineg, x_i2l, x_l2i, x_i2b, x_lcmp, x_dup, x_dup2, x_if_eq, x_if_ne, x_if_lt, x_if_ge, x_if_gt, x_if_le, x_ic_eq, x_ic_ne, x_ic_lt, x_ic_ge, x_ic_gt, x_ic_le, x_getI, x_getR, x_putI, x_putZ, x_putR, x_iald, x_bald, x_lald, x_iast, x_bast, x_last, x_alen, x_acp, x_mmax, x_mmin, x_callV, x_callS, x_iret, x_zret, x_lret, x_aret, x_vret, x_tsw, x_stop, zst1, zst2, zkill, zkl, zsplit, zmask, zent, zentL, List.getElem?_cons_zero, List.getElem?_cons_succ, List.set_cons_zero, List.set_cons_succ, List.set_nil, List.length_cons, List.length_nil, List.replicate, List.nil_append, List.cons_append, List.map_cons, List.map_nil, List.sum_cons, List.sum_nil, Value.category, Option.toList, List.contains_cons, List.contains_nil, true_or, or_true, true_and, Nat.zero_le, Nat.reduceAdd, Nat.reduceLeDiff, Nat.reduceLT, Nat.reduceBEq, Bool.true_or, Bool.or_true, Bool.false_or, Bool.or_false, ↓reduceIte, Bool.false_eq_true, Nat.add_zero, Nat.zero_add, Nat.reduceEqDiff, Nat.reduceSub, g1, g3, w_J7_fill_d0a16, w_X4_othersThan, w_X4_gainOf, gW, w_X9_worthAt]
  refine ⟨by omega, 4096, g2, by decide, fun σ1 f1 f2 f3 f4 f5 => ?_⟩
  have hf0 : JF σ σ1 (g + 1) := ⟨f1, f2, f3, f4⟩
  have hg1 := hg.of f1 f2
  have ⟨a1, a2, a3⟩ := hg1
  have hT1 : TownR σ1 t T := hT.j hf0
  have hu1 : TuneS σ1 u := hu.of f1 f2
  have hv1 : TuneV σ1 u (tD T) F G := hv.j hf0
  have hcl : clrB (2 ^ tD T - 1) d < 2 ^ tD T := clrB_lt (by have := Nat.two_pow_pos (tD T); omega)
  refine ⟨a1, by rw [a3]; omega, T, d, hT1, rfl, hd, T, F, G, _, d, _, hT1, hu1, hv1, by rw [a3]; exact a2, by rw [a3]; exact mem0 f5, rfl, hd, rfl, hcl, by have := ones_le (clrB (2 ^ tD T - 1) d); omega, fun σ2 M' hf hM' hk => ?_⟩
  rw [a3] at hf
  have hT2 : TownR σ2 t T := hT1.j hf
  have hu2 : TuneS σ2 u := hu1.of hf.1 hf.2.1
  have hv2 : TuneV σ2 u (tD T) F G := hv1.j hf
  have hq := hQ σ2 (hf0.trans hf)
  have g14 := gnS_le T F d (r := clrB (2 ^ tD T - 1) d) (by omega)
  rw [z_l1, nI_eq (by omega) (by omega)]
  refine ⟨fun q => ⟨hu2.1, tD T, F, G, 0, d, hu2, hv2, rfl, by omega, rfl, by omega, ?_⟩, fun q => ?_⟩
  · unfold bwS gaS at hq
    rw [if_neg q] at hq
    rw [z_l2, pk_sub (by omega), nI_add]
    exact hq
  · unfold bwS gaS at hq
    rw [if_pos q] at hq
    exact hq
/-- the next door of the best round -/
def nbS (T : TD) (F : Nat → Nat) (d r : Nat) : Option Nat := if fstB (fun e => (tE T d &&& r).testBit e && decide (gtS T F e r = gnS T F d r)) (tD T) < tD T then some (fstB (fun e => (tE T d &&& r).testBit e && decide (gtS T F e r = gnS T F d r)) (tD T)) else none
def w_X4_nextOfBest : WPt := fun args σ Q => match args with
  | [.ref g, .ref t, .ref u, .int x, .int y] => ∃ (T : TD) (F G M : Nat → Nat) (d r : Nat), RoS σ g ∧ TownR σ t T ∧ TuneS σ u ∧ TuneV σ u (tD T) F G ∧ MemR σ (g + 1) T F M ∧ x = nI d ∧ d < tD T ∧ y = nI r ∧ r < 2 ^ tD T ∧ ∀ σ' M', JF σ σ' (g + 1) → MemR σ' (g + 1) T F M' → Q (some (.int (i2 (nbS T F d r)))) σ'
  | _ => False
set_option maxHeartbeats 2000000 in
theorem m_X4_nextOfBest : Meets yX4_nextOfBest cX4_nextOfBest 8 (some .int) 31 w_X4_nextOfBest := by
  refine Meets.mk (by decide) fun args σ Φ h => ?_
  unfold w_X4_nextOfBest at h
  split at h
  rotate_left
  · exact h.elim
  rename_i g t u x y
  obtain ⟨g, rfl⟩ : ∃ q : Nat, q = g := ⟨g, rfl⟩
  obtain ⟨t, rfl⟩ : ∃ q : Nat, q = t := ⟨t, rfl⟩
  obtain ⟨u, rfl⟩ : ∃ q : Nat, q = u := ⟨u, rfl⟩
  obtain ⟨T, F, G, M, d, r, hg, hT, hu, hv, hM, rfl, hd, rfl, hr, hQ⟩ := h
  refine ⟨Nat.le_of_ble_eq_true rfl, fun C hC hR => ?_⟩
  have hD := hT.2.2.2.1
  have hp := hT.d31
  have ⟨g1, g2, g3⟩ := hg
  have hE := (hT.2.2.2.2.2.2.1 d hd).2
  have hnear : tE T d &&& r < 4096 := by have := and_lt31 (a := tE T d) hr; omega
  have g14 := gnS_le T F d (r := r) (by omega)
  have ho := ones_le r
  refine r_X4_nextOfBest_0 hC hR m_X4_gainOf (by decide) m_X8_joinedTo (by decide) m_X11_has (by decide) m_X4_gainThrough (by decide) _ _ _ ?_
  simp only [T_X4_nextOfBest_0, x_psh, x_ild, x_lld, x_ald, x_ist, x_ast, x_lst, x_inc, x_iadd, x_isub, x_imul, x_iand, x_ior, x_ixor, x_ishl, x_ishr, x_iushr, x_idiv, x_irem, x_ladd, x_land, x_lor, x_lshl, x_lshr, x_ineg, x_i2l, x_l2i, x_i2b, x_lcmp, x_dup, x_dup2, x_if_eq, x_if_ne, x_if_lt, x_if_ge, x_if_gt, x_if_le, x_ic_eq, x_ic_ne, x_ic_lt, x_ic_ge, x_ic_gt, x_ic_le, x_getI, x_getR, x_putI, x_putZ, x_putR, x_iald, x_bald, x_lald, x_iast, x_bast, x_last, x_alen, x_acp, x_mmax, x_mmin, x_callV, x_callS, x_iret, x_zret, x_lret, x_aret, x_vret, x_tsw, x_stop, zst1, zst2, zkill, zkl, zsplit, zmask, zent, zentL, List.getElem?_cons_zero, List.getElem?_cons_succ, List.set_cons_zero, List.set_cons_succ, List.set_nil, List.length_cons, List.length_nil, List.replicate, List.nil_append, List.cons_append, List.map_cons, List.map_nil, List.sum_cons, List.sum_nil, Value.category, Option.toList, List.contains_cons, List.contains_nil, true_or, or_true, true_and, Nat.zero_le, Nat.reduceAdd, Nat.reduceLeDiff, Nat.reduceLT, Nat.reduceBEq, Bool.true_or, Bool.or_true, Bool.false_or, Bool.or_false, ↓reduceIte, Bool.false_eq_true, Nat.add_zero, Nat.zero_add, Nat.reduceEqDiff, Nat.reduceSub, g1, g3, w_X4_gainOf, gW, w_X8_joinedTo]
  refine ⟨by omega, T, F, G, M, d, r, hT, hu, hv, g2, hM, rfl, hd, rfl, hr, by omega, fun σ1 M1 hf1 hM1 hk1 => ?_⟩
  have hT1 : TownR σ1 t T := hT.j hf1
  refine ⟨hT1.1.1, T, hT1, fun j hj e => ?_, fun q => absurd (not_lt_pos (by omega) hd) q⟩
  have e2 : d = j := (nI_eq (by omega) (by omega)).mp e
  subst e2
  rw [z_and]
  have key := zloop (P := fun k => ∀ τ N, JF σ τ (g + 1) → MemR τ (g + 1) T F N → (∀ e, e < k → ((tE T d &&& r).testBit e && decide (gtS T F e r = gnS T F d r)) = false) → WW C 27 [some (.ref g), some (.ref t), some (.ref u), none, some (.int (nI r)), some (.int (nI (gnS T F d r))), some (.int (nI (tE T d &&& r))), some (.int (nI k))] [] τ) (tD T) (fun k hk ih τ N hf hN hno => ?_) ?_ 0 (by omega)
  · exact key σ1 M1 hf1 hM1 (fun e he => absurd he (Nat.not_lt_zero e))
  · have hT' : TownR τ t T := hT.j hf
    have hu' : TuneS τ u := hu.of hf.1 hf.2.1
    have hv' : TuneV τ u (tD T) F G := hv.j hf
    have ⟨a1, a2, a3⟩ := hg.of hf.1 hf.2.1
    have w1 := hT'.1.1
    have x1 := hT'.2.1
    refine r_X4_nextOfBest_27 hC hR m_X4_gainOf (by decide) m_X8_joinedTo (by decide) m_X11_has (by decide) m_X4_gainThrough (by decide) _ _ _ ?_
    simp only [T_X4_nextOfBest_27, x_psh, x_ild, x_lld, x_ald, x_ist, x_ast, x_lst, x_inc, x_iadd, x_isub, x_imul, x_iand, x_ior, x_ixor, x_ishl, x_ishr, x_iushr, x_idiv, x_irem, x_ladd, x_land, x_lor, x_lshl, x_lshr, x_ineg, x_i2l, x_l2i, x_i2b, x_lcmp, x_dup, x_dup2, x_if_eq, x_if_ne, x_if_lt, x_if_ge, x_if_gt, x_if_le, x_ic_eq, x_ic_ne, x_ic_lt, x_ic_ge, x_ic_gt, x_ic_le, x_getI, x_getR, x_putI, x_putZ, x_putR, x_iald, x_bald, x_lald, x_iast, x_bast, x_last, x_alen, x_acp, x_mmax, x_mmin, x_callV, x_callS, x_iret, x_zret, x_lret, x_aret, x_vret, x_tsw, x_stop, zst1, zst2, zkill, zkl, zsplit, zmask, zent, zentL, List.getElem?_cons_zero, List.getElem?_cons_succ, List.set_cons_zero, List.set_cons_succ, List.set_nil, List.length_cons, List.length_nil, List.replicate, List.nil_append, List.cons_append, List.map_cons, List.map_nil, List.sum_cons, List.sum_nil, Value.category, Option.toList, List.contains_cons, List.contains_nil, true_or, or_true, true_and, Nat.zero_le, Nat.reduceAdd, Nat.reduceLeDiff, Nat.reduceLT, Nat.reduceBEq, Bool.true_or, Bool.or_true, Bool.false_or, Bool.or_false, ↓reduceIte, Bool.false_eq_true, Nat.add_zero, Nat.zero_add, Nat.reduceEqDiff, Nat.reduceSub, w1, x1, a1, a3, w_X11_has, w_X4_gainThrough, gtW]
    refine ⟨fun q => absurd q (nI_ge hk (by omega)), fun _ => ⟨_, k, rfl, rfl, by omega, by omega, ?_⟩⟩
    rw [b2i_0, nI_i3]
    have nxt : ((tE T d &&& r).testBit k && decide (gtS T F k r = gnS T F d r)) = false → ∀ e, e < k + 1 → ((tE T d &&& r).testBit e && decide (gtS T F e r = gnS T F d r)) = false := by
      intro h e he
      by_cases q : e = k
      · subst q; exact h
      · exact hno e (by omega)
    refine ⟨fun hb => ?_, fun hb => ?_⟩
    · exact ih τ N hf hN (nxt (by simp [hb]))
    · have hb2 : (tE T d &&& r).testBit k = true := Decidable.not_not.mp hb
      have hb3 : r.testBit k = true := by rw [Nat.testBit_and, Bool.and_eq_true] at hb2; exact hb2.2
      have gt14 : gtS T F k r ≤ 100 := by
        have := gnS_le T F k (r := clrB r k) (by have := clrB_lt2 hb3; omega)
        have : wtS T F k r ≤ 1 := by unfold wtS; split <;> omega
        unfold gtS
        split <;> omega
      refine ⟨by omega, T, F, G, N, k, r, hT', hu', hv', a2, hN, rfl, hk, rfl, hr, hb3, by omega, fun σ' M' hf' hM' hk' => ?_⟩
      rw [nI_eq (by omega) (by omega)]
      refine ⟨fun q => ?_, fun q => ?_⟩
      · exact ih σ' M' (hf.trans hf') hM' (nxt (by simp [q]))
      · have e := fstB_eq (p := fun e => (tE T d &&& r).testBit e && decide (gtS T F e r = gnS T F d r)) hk (by simp [hb2, q]) hno
        have hq := hQ σ' M' (hf.trans hf') hM'
        rw [nbS, e, if_pos hk] at hq
        exact hq
  · intro τ N hf hN hno
    have hT' : TownR τ t T := hT.j hf
    have w1 := hT'.1.1
    have x1 := hT'.2.1
    refine r_X4_nextOfBest_27 hC hR m_X4_gainOf (by decide) m_X8_joinedTo (by decide) m_X11_has (by decide) m_X4_gainThrough (by decide) _ _ _ ?_
    simp only [T_X4_nextOfBest_27, x_psh, x_ild, x_lld, x_ald, x_ist, x_ast, x_lst, x_inc, x_iadd, x_isub, x_imul, x_iand, x_ior, x_ixor, x_ishl, x_ishr, x_iushr, x_idiv, x_irem, x_ladd, x_land, x_lor, x_lshl, x_lshr, x_ineg, x_i2l, x_l2i, x_i2b, x_lcmp, x_dup, x_dup2, x_if_eq, x_if_ne, x_if_lt, x_if_ge, x_if_gt, x_if_le, x_ic_eq, x_ic_ne, x_ic_lt, x_ic_ge, x_ic_gt, x_ic_le, x_getI, x_getR, x_putI, x_putZ, x_putR, x_iald, x_bald, x_lald, x_iast, x_bast, x_last, x_alen, x_acp, x_mmax, x_mmin, x_callV, x_callS, x_iret, x_zret, x_lret, x_aret, x_vret, x_tsw, x_stop, zst1, zst2, zkill, zkl, zsplit, zmask, zent, zentL, List.getElem?_cons_zero, List.getElem?_cons_succ, List.set_cons_zero, List.set_cons_succ, List.set_nil, List.length_cons, List.length_nil, List.replicate, List.nil_append, List.cons_append, List.map_cons, List.map_nil, List.sum_cons, List.sum_nil, Value.category, Option.toList, List.contains_cons, List.contains_nil, true_or, or_true, true_and, Nat.zero_le, Nat.reduceAdd, Nat.reduceLeDiff, Nat.reduceLT, Nat.reduceBEq, Bool.true_or, Bool.or_true, Bool.false_or, Bool.or_false, ↓reduceIte, Bool.false_eq_true, Nat.add_zero, Nat.zero_add, Nat.reduceEqDiff, Nat.reduceSub, w1, x1]
    have e : ¬ fstB (fun e => (tE T d &&& r).testBit e && decide (gtS T F e r = gnS T F d r)) (tD T) < tD T := fun h => by
      have := fstB_yes _ _ h
      rw [hno _ h] at this
      cases this
    have hq := hQ τ N hf hN
    rw [nbS, if_neg e] at hq
    exact ⟨fun _ => hq, fun q => absurd (nI_le (Nat.le_refl _) (by omega)) q⟩
def bstS (T : TD) (F : Nat → Nat) (o : Option Nat) (r : Nat) : Option Nat × Nat := match o with
  | none => (none, r)
  | some e => match nbS T F e r with
    | none => (none, r)
    | some e' => (some e', clrB r e')
/-- the k-th door of the best round, and what is still to come then -/
def bdS (T : TD) (F : Nat → Nat) (d : Nat) : Nat → Option Nat × Nat
  | 0 => (some d, clrB (2 ^ tD T - 1) d)
  | k + 1 => bstS T F (bdS T F d k).1 (bdS T F d k).2
theorem nbS_ok {T : TD} {F : Nat → Nat} {d r e : Nat} (h : nbS T F d r = some e) : e < tD T := by
  unfold nbS at h
  split at h
  next h1 => have := Option.some.inj h; omega
  next => cases h
theorem bstS_ok {T : TD} {F : Nat → Nat} {o : Option Nat} {r : Nat} (hr : r < 2 ^ tD T) : (bstS T F o r).2 < 2 ^ tD T ∧ ∀ e, (bstS T F o r).1 = some e → e < tD T := by
  cases o with
  | none => exact ⟨hr, fun e he => by cases he⟩
  | some d =>
    cases h2 : nbS T F d r with
    | none =>
      have e : bstS T F (some d) r = (none, r) := by unfold bstS; simp only [h2]
      rw [e]
      exact ⟨hr, fun e he => by cases he⟩
    | some e' =>
      have e : bstS T F (some d) r = (some e', clrB r e') := by unfold bstS; simp only [h2]
      rw [e]
      exact ⟨clrB_lt hr, fun q hq => by cases hq; exact nbS_ok h2⟩
theorem bdS_ok {T : TD} {F : Nat → Nat} {d : Nat} (hd : d < tD T) : ∀ k, (bdS T F d k).2 < 2 ^ tD T ∧ ∀ e, (bdS T F d k).1 = some e → e < tD T
  | 0 => ⟨clrB_lt (by have := Nat.two_pow_pos (tD T); omega), fun e he => by cases he; exact hd⟩
  | k + 1 => by
    rw [bdS]
    exact bstS_ok (bdS_ok hd k).1
def w_X4_doorOfBest : WPt := fun args σ Q => match args with
  | [.ref g, .ref t, .ref u, .int x, .int y] => ∃ (T : TD) (F G : Nat → Nat) (d : Nat), RoS σ g ∧ TownR σ t T ∧ TuneS σ u ∧ TuneV σ u (tD T) F G ∧ x = nI d ∧ d < tD T ∧ ∀ σ', JF σ σ' (g + 1) → (∀ i, i < tD T → y = nI i → Q (some (.int (i2 (if gaS T F d = 1 then none else (bdS T F d i).1)))) σ') ∧ (¬ (0 ≤ y ∧ y < nI (tD T)) → Q (some (.int (-9))) σ')
  | _ => False
set_option maxHeartbeats 2000000 in
theorem m_X4_doorOfBest : Meets yX4_doorOfBest cX4_doorOfBest 8 (some .int) 32 w_X4_doorOfBest := by
  refine Meets.mk (by decide) fun args σ Φ h => ?_
  unfold w_X4_doorOfBest at h
  split at h
  rotate_left
  · exact h.elim
  rename_i g t u x y
  obtain ⟨g, rfl⟩ : ∃ q : Nat, q = g := ⟨g, rfl⟩
  obtain ⟨t, rfl⟩ : ∃ q : Nat, q = t := ⟨t, rfl⟩
  obtain ⟨u, rfl⟩ : ∃ q : Nat, q = u := ⟨u, rfl⟩
  obtain ⟨T, F, G, d, hg, hT, hu, hv, rfl, hd, hQ⟩ := h
  refine ⟨Nat.le_of_ble_eq_true rfl, fun C hC hR => ?_⟩
  have hD := hT.2.2.2.1
  have hp := hT.d31
  have ⟨g1, g2, g3⟩ := hg
  refine r_X4_doorOfBest_0 hC hR m_J7_fill_d0a16 (by decide) m_X4_othersThan (by decide) m_X4_gainOf (by decide) m_X4_nextOfBest (by decide) _ _ _ ?_
  simp only [T_X4_doorOfBest_0, x_psh, x_ild, x_lld, x_ald, x_ist, x_ast, x_lst, x_inc, x_iadd, x_isub, x_imul, x_iand, x_ior, x_ixor, x_ishl, x_ishr, x_iushr, x_idiv, x_irem, x_ladd, x_land, x_lor, x_lshl, x_lshr, x_ineg, x_i2l, x_l2i, x_i2b, x_lcmp, x_dup, x_dup2, x_if_eq, x_if_ne, x_if_lt, x_if_ge, x_if_gt, x_if_le, x_ic_eq, x_ic_ne, x_ic_lt, x_ic_ge, x_ic_gt, x_ic_le, x_getI, x_getR, x_putI, x_putZ, x_putR, x_iald, x_bald, x_lald, x_iast, x_bast, x_last, x_alen, x_acp, x_mmax, x_mmin, x_callV, x_callS, x_iret, x_zret, x_lret, x_aret, x_vret, x_tsw, x_stop, zst1, zst2, zkill, zkl, zsplit, zmask, zent, zentL, List.getElem?_cons_zero, List.getElem?_cons_succ, List.set_cons_zero, List.set_cons_succ, List.set_nil, List.length_cons, List.length_nil, List.replicate, List.nil_append, List.cons_append, List.map_cons, List.map_nil, List.sum_cons, List.sum_nil, Value.category, Option.toList, List.contains_cons, List.contains_nil, true_or, or_true, true_and, Nat.zero_le, Nat.reduceAdd, Nat.reduceLeDiff, Nat.reduceLT, Nat.reduceBEq, Bool.true_or, Bool.or_true, Bool.false_or, Bool.or_false, ↓reduceIte, Bool.false_eq_true, Nat.add_zero, Nat.zero_add, Nat.reduceEqDiff, Nat.reduceSub, g1, g3, w_J7_fill_d0a16, w_X4_othersThan, w_X4_gainOf, gW]
  refine ⟨by omega, 4096, g2, by decide, fun σ1 f1 f2 f3 f4 f5 => ?_⟩
  have hf0 : JF σ σ1 (g + 1) := ⟨f1, f2, f3, f4⟩
  have hg1 := hg.of f1 f2
  have ⟨a1, a2, a3⟩ := hg1
  have hT1 : TownR σ1 t T := hT.j hf0
  have hu1 : TuneS σ1 u := hu.of f1 f2
  have hv1 : TuneV σ1 u (tD T) F G := hv.j hf0
  have hcl : clrB (2 ^ tD T - 1) d < 2 ^ tD T := clrB_lt (by have := Nat.two_pow_pos (tD T); omega)
  refine ⟨T, d, hT1, rfl, hd, fun q => (hQ σ1 hf0).2 fun q2 => absurd q (Int32.not_lt.mpr q2.1), fun q => ⟨hT1.1.1, ?_⟩⟩
  rw [hT1.2.1]
  refine ⟨fun q1 => (hQ σ1 hf0).2 fun q2 => absurd q2.2 (Int32.not_lt.mpr q1), fun q1 => ?_⟩
  obtain ⟨i, hi31, rfl⟩ := z_ge0 y q
  have hi : i < tD T := by
    rcases Nat.lt_or_ge i (tD T) with h | h
    · exact h
    · exact absurd (nI_le h (by omega)) q1
  refine ⟨a1, by rw [a3]; omega, T, F, G, _, d, _, hT1, hu1, hv1, by rw [a3]; exact a2, by rw [a3]; exact mem0 f5, rfl, hd, rfl, hcl, by have := ones_le (clrB (2 ^ tD T - 1) d); omega, fun σ2 M' hf hM' hk => ?_⟩
  rw [a3] at hf hM'
  have g14 := gnS_le T F d (r := clrB (2 ^ tD T - 1) d) (by omega)
  rw [z_l1, nI_eq (by omega) (by omega)]
  refine ⟨fun hne => ?_, fun he => ?_⟩
  rotate_left
  · have hq := (hQ σ2 (hf0.trans hf)).1 i hi rfl
    rw [if_pos (show gaS T F d = 1 from he)] at hq
    exact hq
  have hqf : ∀ τ, JF σ τ (g + 1) → Φ (some (.int (i2 (bdS T F d i).1))) τ := fun τ hfτ => by
    have hq := (hQ τ hfτ).1 i hi rfl
    rw [if_neg (show ¬ gaS T F d = 1 from hne)] at hq
    exact hq
  have key := zloop (P := fun k => ∀ τ N x, JF σ τ (g + 1) → MemR τ (g + 1) T F N → (∀ e, (bdS T F d k).1 = some e → x = nI (bdS T F d k).2) → WW C 54 [some (.ref g), some (.ref t), some (.ref u), none, some (.int (nI i)), some (.int x), some (.int (i2 (bdS T F d k).1)), some (.int (nI (k + 1)))] [] τ) i (fun k hk ih τ N x hfτ hN hx => ?_) ?_ 0 (by omega)
  · exact key σ2 M' _ (hf0.trans hf) hM' (fun e he => rfl)
  · have hbd := bdS_ok (F := F) hd k
    cases ho : (bdS T F d k).1 with
    | none =>
      have stay : ∀ j, (bdS T F d (k + j)).1 = none := fun j => by
        induction j with
        | zero => exact ho
        | succ j ihj => rw [← Nat.add_assoc, bdS, ihj]; rfl
      have hki := stay (i - k)
      rw [show k + (i - k) = i by omega] at hki
      have hq := hqf τ hfτ
      rw [hki] at hq
      refine r_X4_doorOfBest_54 hC hR m_J7_fill_d0a16 (by decide) m_X4_othersThan (by decide) m_X4_gainOf (by decide) m_X4_nextOfBest (by decide) _ _ _ ?_
      simp only [T_X4_doorOfBest_54, x_psh, x_ild, x_lld, x_ald, x_ist, x_ast, x_lst, x_inc, x_iadd, x_isub, x_imul, x_iand, x_ior, x_ixor, x_ishl, x_ishr, x_iushr, x_idiv, x_irem, x_ladd, x_land, x_lor, x_lshl, x_lshr, x_ineg, x_i2l, x_l2i, x_i2b, x_lcmp, x_dup, x_dup2, x_if_eq, x_if_ne, x_if_lt, x_if_ge, x_if_gt, x_if_le, x_ic_eq, x_ic_ne, x_ic_lt, x_ic_ge, x_ic_gt, x_ic_le, x_getI, x_getR, x_putI, x_putZ, x_putR, x_iald, x_bald, x_lald, x_iast, x_bast, x_last, x_alen, x_acp, x_mmax, x_mmin, x_callV, x_callS, x_iret, x_zret, x_lret, x_aret, x_vret, x_tsw, x_stop, zst1, zst2, zkill, zkl, zsplit, zmask, zent, zentL, List.getElem?_cons_zero, List.getElem?_cons_succ, List.set_cons_zero, List.set_cons_succ, List.set_nil, List.length_cons, List.length_nil, List.replicate, List.nil_append, List.cons_append, List.map_cons, List.map_nil, List.sum_cons, List.sum_nil, Value.category, Option.toList, List.contains_cons, List.contains_nil, true_or, or_true, true_and, Nat.zero_le, Nat.reduceAdd, Nat.reduceLeDiff, Nat.reduceLT, Nat.reduceBEq, Bool.true_or, Bool.or_true, Bool.false_or, Bool.or_false, ↓reduceIte, Bool.false_eq_true, Nat.add_zero, Nat.zero_add, Nat.reduceEqDiff, Nat.reduceSub, i2]
      exact ⟨fun q => absurd q (nI_nlt (by omega) (by omega)), fun _ => ⟨fun _ => hq, fun q => absurd trivial q⟩⟩
    | some e =>
      have he := hbd.2 e ho
      have hx2 := hx e ho
      subst hx2
      refine r_X4_doorOfBest_54 hC hR m_J7_fill_d0a16 (by decide) m_X4_othersThan (by decide) m_X4_gainOf (by decide) m_X4_nextOfBest (by decide) _ _ _ ?_
      simp only [T_X4_doorOfBest_54, x_psh, x_ild, x_lld, x_ald, x_ist, x_ast, x_lst, x_inc, x_iadd, x_isub, x_imul, x_iand, x_ior, x_ixor, x_ishl, x_ishr, x_iushr, x_idiv, x_irem, x_ladd, x_land, x_lor, x_lshl, x_lshr, x_ineg, x_i2l, x_l2i, x_i2b, x_lcmp, x_dup, x_dup2, x_if_eq, x_if_ne, x_if_lt, x_if_ge, x_if_gt, x_if_le, x_ic_eq, x_ic_ne, x_ic_lt, x_ic_ge, x_ic_gt, x_ic_le, x_getI, x_getR, x_putI, x_putZ, x_putR, x_iald, x_bald, x_lald, x_iast, x_bast, x_last, x_alen, x_acp, x_mmax, x_mmin, x_callV, x_callS, x_iret, x_zret, x_lret, x_aret, x_vret, x_tsw, x_stop, zst1, zst2, zkill, zkl, zsplit, zmask, zent, zentL, List.getElem?_cons_zero, List.getElem?_cons_succ, List.set_cons_zero, List.set_cons_succ, List.set_nil, List.length_cons, List.length_nil, List.replicate, List.nil_append, List.cons_append, List.map_cons, List.map_nil, List.sum_cons, List.sum_nil, Value.category, Option.toList, List.contains_cons, List.contains_nil, true_or, or_true, true_and, Nat.zero_le, Nat.reduceAdd, Nat.reduceLeDiff, Nat.reduceLT, Nat.reduceBEq, Bool.true_or, Bool.or_true, Bool.false_or, Bool.or_false, ↓reduceIte, Bool.false_eq_true, Nat.add_zero, Nat.zero_add, Nat.reduceEqDiff, Nat.reduceSub, i2, w_X4_nextOfBest]
      refine ⟨fun q => absurd q (nI_nlt (by omega) (by omega)), fun _ => ⟨fun q => absurd q (z_m9 (by omega)), fun _ => ⟨by rw [hfτ.1]; exact g1, T, F, G, N, e, (bdS T F d k).2, hg.of hfτ.1 hfτ.2.1, hT.j hfτ, hu.of hfτ.1 hfτ.2.1, hv.j hfτ, hN, rfl, he, rfl, hbd.1, fun σ' M2 hf' hM2 => ?_⟩⟩⟩
      rw [nI_i3]
      have ih2 := fun x => ih σ' M2 x (hfτ.trans hf') hM2
      have e1 : (bdS T F d (k + 1)).1 = nbS T F e (bdS T F d k).2 := by
        rw [bdS, ho]
        cases h3 : nbS T F e (bdS T F d k).2 with
        | none => unfold bstS; simp only [h3]
        | some e' => unfold bstS; simp only [h3]
      rw [e1] at ih2
      refine ih2 _ fun e' he' => ?_
      have hlt := nbS_ok he'
      have e2 : (bdS T F d (k + 1)).2 = clrB (bdS T F d k).2 e' := by
        rw [bdS, ho]
        unfold bstS
        simp only [he']
      rw [e2, he']
      show nI _ &&& (1 <<< (nI e' &&& 31) ^^^ -1) = _
      rw [z_l31, z_l1, z_p2 e' (by omega)]
      exact z_clr' (by omega) (by omega)
  · intro τ N x hfτ hN hx
    refine r_X4_doorOfBest_54 hC hR m_J7_fill_d0a16 (by decide) m_X4_othersThan (by decide) m_X4_gainOf (by decide) m_X4_nextOfBest (by decide) _ _ _ ?_
    simp only [T_X4_doorOfBest_54, x_psh, x_ild, x_lld, x_ald, x_ist, x_ast, x_lst, x_inc, x_iadd, x_isub, x_imul, x_iand, x_ior, x_ixor, x_ishl, x_ishr, x_iushr, x_idiv, x_irem, x_ladd, x_land, x_lor, x_lshl, x_lshr, x_ineg, x_i2l, x_l2i, x_i2b, x_lcmp, x_dup, x_dup2, x_if_eq, x_if_ne, x_if_lt, x_if_ge, x_if_gt, x_if_le, x_ic_eq, x_ic_ne, x_ic_lt, x_ic_ge, x_ic_gt, x_ic_le, x_getI, x_getR, x_putI, x_putZ, x_putR, x_iald, x_bald, x_lald, x_iast, x_bast, x_last, x_alen, x_acp, x_mmax, x_mmin, x_callV, x_callS, x_iret, x_zret, x_lret, x_aret, x_vret, x_tsw, x_stop, zst1, zst2, zkill, zkl, zsplit, zmask, zent, zentL, List.getElem?_cons_zero, List.getElem?_cons_succ, List.set_cons_zero, List.set_cons_succ, List.set_nil, List.length_cons, List.length_nil, List.replicate, List.nil_append, List.cons_append, List.map_cons, List.map_nil, List.sum_cons, List.sum_nil, Value.category, Option.toList, List.contains_cons, List.contains_nil, true_or, or_true, true_and, Nat.zero_le, Nat.reduceAdd, Nat.reduceLeDiff, Nat.reduceLT, Nat.reduceBEq, Bool.true_or, Bool.or_true, Bool.false_or, Bool.or_false, ↓reduceIte, Bool.false_eq_true, Nat.add_zero, Nat.zero_add, Nat.reduceEqDiff, Nat.reduceSub]
    exact ⟨fun _ => hqf τ hfτ, fun q => absurd (nI_lt (by omega) (by omega)) q⟩
