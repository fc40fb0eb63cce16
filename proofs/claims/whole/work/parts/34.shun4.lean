/-! counting ways that shun a song -/
def ShF (σ σ' : ZS) (h : Nat) : Prop := zd σ' = zd σ ∧ zI σ' = zI σ ∧ (∀ i : Nat, i ≠ h → zR σ' i = zR σ i) ∧ (∀ i : Nat, i ≠ h + 5 → i ≠ h + 6 → zJ σ' i = zJ σ i) ∧ ShS σ' h
theorem ShF.refl {σ : ZS} {h : Nat} (hh : ShS σ h) : ShF σ σ h := ⟨rfl, rfl, fun _ _ => rfl, fun _ _ _ => rfl, hh⟩
theorem ShF.trans {σ σ1 σ2 : ZS} {h : Nat} (a : ShF σ σ1 h) (b : ShF σ1 σ2 h) : ShF σ σ2 h := ⟨b.1.trans a.1, b.2.1.trans a.2.1, fun i hi => (b.2.2.1 i hi).trans (a.2.2.1 i hi), fun i h1 h2 => (b.2.2.2.1 i h1 h2).trans (a.2.2.2.1 i h1 h2), b.2.2.2.2⟩
theorem ShV.f {σ σ' : ZS} {h k : Nat} {T : TD} (hv : ShV σ h T k) (hf : ShF σ σ' h) : ShV σ' h T k := by unfold ShV at *; rw [hf.2.1]; exact hv
theorem TownR.f {σ σ' : ZS} {h t : Nat} {T : TD} (hT : TownR σ t T) (hf : ShF σ σ' h) (hap : apH h t) : TownR σ' t T := by
  unfold apH at hap
  refine ⟨?_, ?_⟩
  · have hs := hT.1
    unfold TownS at *
    rw [hf.1, hf.2.2.1 t (by omega)]
    exact hs
  · have hs := hT.2
    unfold TownV at *
    rw [hf.2.1]
    exact hs
/-- counts, and next counts, where they lie now -/
def CtR (σ : ZS) (h : Nat) (c n : Nat → Int64) : Prop := (∀ r, r < 384 → zJ σ (zR σ h 6) r = c r) ∧ (∀ r, r < 384 → zJ σ (zR σ h 7) r = n r)
theorem ShS.ct {σ : ZS} {h : Nat} (hh : ShS σ h) : zd σ (zR σ h 6) = some (3, 384) ∧ zd σ (zR σ h 7) = some (3, 384) ∧ zR σ h 6 ≠ 0 ∧ zR σ h 7 ≠ 0 ∧ zR σ h 6 ≠ zR σ h 7 ∧ (zR σ h 6 = h + 5 ∨ zR σ h 6 = h + 6) ∧ (zR σ h 7 = h + 5 ∨ zR σ h 7 = h + 6) := by
  obtain ⟨s1, s2, s3, s4, s5, s6, s7, s8, s9, s10, s11, s12⟩ := hh
  rcases s12 with ⟨q1, q2⟩ | ⟨q1, q2⟩
  · rw [q1, q2]; exact ⟨s6, s7, by omega, by omega, by omega, Or.inl rfl, Or.inr rfl⟩
  · rw [q1, q2]; exact ⟨s7, s6, by omega, by omega, by omega, Or.inr rfl, Or.inl rfl⟩
theorem ShF.sJ7 {σ σ1 : ZS} {h j : Nat} {v : Int64} (hf : ShF σ σ1 h) : ShF σ (sJ σ1 (zR σ1 h 7) j v) h := by
  have hc := hf.2.2.2.2.ct
  refine ⟨hf.1, hf.2.1, hf.2.2.1, fun i h1 h2 => ?_, hf.2.2.2.2.of rfl rfl⟩
  rw [zJ_sJ, if_neg (by rcases hc.2.2.2.2.2.2 with e | e <;> rw [e] <;> assumption)]
  exact hf.2.2.2.1 i h1 h2
def caI (T : TD) (k : Nat) (v : Int64) (s : Nat) (p : Nat → Int64) : Nat → Nat → Int64
  | 0 => p
  | d + 1 => if (tE T (s / 32)).testBit d then (match stO T k (s % 32) d with
      | none => caI T k v s p d
      | some r => vp_updL (caI T k v s p d) r (caI T k v s p d r + v)) else caI T k v s p d
def w_X6_countAround : WPt := fun args σ Q => match args with
  | [.ref h, .ref t, .int x] => ∃ (T : TD) (k : Nat) (c n : Nat → Int64) (s : Nat), ShS σ h ∧ ShV σ h T k ∧ TownR σ t T ∧ apH h t ∧ CtR σ h c n ∧ x = nI s ∧ s < 384 ∧ s / 32 < tD T ∧ ∀ σ', ShF σ σ' h → zR σ' = zR σ → CtR σ' h c (caI T k (c s) s n (tD T)) → Q none σ'
  | _ => False
set_option maxHeartbeats 2000000 in
theorem m_X6_countAround : Meets yX6_countAround cX6_countAround 6 none 3 w_X6_countAround := by
  refine Meets.mk (by decide) fun args σ Φ h => ?_
  unfold w_X6_countAround at h
  split at h
  rotate_left
  · exact h.elim
  rename_i h0 t x
  obtain ⟨h0, rfl⟩ : ∃ q : Nat, q = h0 := ⟨h0, rfl⟩
  obtain ⟨t, rfl⟩ : ∃ q : Nat, q = t := ⟨t, rfl⟩
  obtain ⟨T, k, c, n, s, hh, hv, hT, hap, hct, rfl, hs, hsd, hQ⟩ := h
  refine ⟨Nat.le_of_ble_eq_true rfl, fun C hC hR => ?_⟩
  have hD := hT.2.2.2.1
  have hp := hT.d31
  have hE := (hT.2.2.2.2.2.2.1 _ hsd).2
  refine r_X6_countAround_0 hC hR m_X8_joinedTo (by decide) m_X11_has (by decide) m_X6_stateAt (by decide) _ _ _ ?_
  simp only [T_X6_countAround_0, x_psh, x_ild, x_lld, x_ald, x_ist, x_ast, x_lst, x_inc, x_iadd, x_isub, x_imul, x_iand, x_ior, x_ixor, x_ishl, x_ishr, x_iushr, x_idiv, x_irem, x_ladd, x_land, x_lor, x_lshl, x_lshr, x_ineg, x_i2l, x_l2i, x_i2b, x_lcmp, x_dup, x_dup2, x_if_eq, x_if_ne, x_if_lt, x_if_ge, x_if_gt, x_if_le, x_ic_eq, x_ic_ne, x_ic_lt, x_ic_ge, x_ic_gt, x_ic_le, x_getI, x_getR, x_putI, x_putZ, x_putR, x_iald, x_bald, x_lald, x_iast, x_bast, x_last, x_alen, x_acp, x_mmax, x_mmin, x_callV, x_callS, x_iret, x_zret, x_lret, x_aret, x_vret, x_tsw, x_stop, zst1, zst2, zkill, zkl, zsplit, zmask, zent, zentL, List.getElem?_cons_zero, List.getElem?_cons_succ, List.set_cons_zero, List.set_cons_succ, List.set_nil, List.length_cons, List.length_nil, List.replicate, List.nil_append, List.cons_append, List.map_cons, List.map_nil, List.sum_cons, List.sum_nil, Value.category, Option.toList, List.contains_cons, List.contains_nil, true_or, or_true, true_and, Nat.zero_le, Nat.reduceAdd, Nat.reduceLeDiff, Nat.reduceLT, Nat.reduceBEq, Bool.true_or, Bool.or_true, Bool.false_or, Bool.or_false, ↓reduceIte, Bool.false_eq_true, Nat.add_zero, Nat.zero_add, Nat.reduceEqDiff, Nat.reduceSub, w_X8_joinedTo]
  refine ⟨by decide, hT.1.1, T, hT, fun d hd e => ?_, fun q => ?_⟩
  rotate_left
  · rw [z_l32, z_div32 (by omega)] at q
    exact absurd (not_lt_pos (by omega) hsd) q
  rw [z_l32, z_div32 (by omega)] at e
  have e2 : s / 32 = d := (nI_eq (by omega) (by omega)).mp e
  subst e2
  have key := zloop (P := fun d => ∀ τ, ShF σ τ h0 → zR τ = zR σ → CtR τ h0 c (caI T k (c s) s n d) → WW C 12 [some (.ref h0), some (.ref t), some (.int (nI s)), some (.int (nI (tE T (s / 32)))), some (.int (nI d)), none] [] τ) (tD T) (fun d hd ih τ hf hr hct' => ?_) ?_ 0 (by omega)
  · exact key σ (ShF.refl hh) rfl hct
  · have hh' := hf.2.2.2.2
    have hT' : TownR τ t T := hT.f hf hap
    have hv' := hv.f hf
    have z1 := hh'.1
    have t1 := hT'.1.1
    have v1 := hT'.2.1
    have hcc := hh'.ct
    -- what comes behind the state that is reached
    have tail : ∀ o : Option Nat, (∀ r, o = some r → r < 384) → caI T k (c s) s n (d + 1) = (match o with | none => caI T k (c s) s n d | some r => vp_updL (caI T k (c s) s n d) r (caI T k (c s) s n d r + c s)) → WW C 46 [some (.ref h0), some (.ref t), some (.int (nI s)), some (.int (nI (tE T (s / 32)))), some (.int (nI d)), none] [.int (i2 o)] τ := by
      intro o ho heq
      refine r_X6_countAround_46 hC hR m_X8_joinedTo (by decide) m_X11_has (by decide) m_X6_stateAt (by decide) _ _ _ ?_
      simp only [T_X6_countAround_46, x_psh, x_ild, x_lld, x_ald, x_ist, x_ast, x_lst, x_inc, x_iadd, x_isub, x_imul, x_iand, x_ior, x_ixor, x_ishl, x_ishr, x_iushr, x_idiv, x_irem, x_ladd, x_land, x_lor, x_lshl, x_lshr, x_ineg, x_i2l, x_l2i, x_i2b, x_lcmp, x_dup, x_dup2, x_if_eq, x_if_ne, x_if_lt, x_if_ge, x_if_gt, x_if_le, x_ic_eq, x_ic_ne, x_ic_lt, x_ic_ge, x_ic_gt, x_ic_le, x_getI, x_getR, x_putI, x_putZ, x_putR, x_iald, x_bald, x_lald, x_iast, x_bast, x_last, x_alen, x_acp, x_mmax, x_mmin, x_callV, x_callS, x_iret, x_zret, x_lret, x_aret, x_vret, x_tsw, x_stop, zst1, zst2, zkill, zkl, zsplit, zmask, zent, zentL, List.getElem?_cons_zero, List.getElem?_cons_succ, List.set_cons_zero, List.set_cons_succ, List.set_nil, List.length_cons, List.length_nil, List.replicate, List.nil_append, List.cons_append, List.map_cons, List.map_nil, List.sum_cons, List.sum_nil, Value.category, Option.toList, List.contains_cons, List.contains_nil, true_or, or_true, true_and, Nat.zero_le, Nat.reduceAdd, Nat.reduceLeDiff, Nat.reduceLT, Nat.reduceBEq, Bool.true_or, Bool.or_true, Bool.false_or, Bool.or_false, ↓reduceIte, Bool.false_eq_true, Nat.add_zero, Nat.zero_add, Nat.reduceEqDiff, Nat.reduceSub, z1]
      rw [i2_m9 ho]
      cases o with
      | none =>
        refine ⟨fun _ => ?_, fun q => absurd rfl q⟩
        rw [nI_i3]
        refine ih τ hf hr ?_
        rw [heq]
        exact hct'
      | some r =>
        have hr3 := ho r rfl
        refine ⟨fun q => (by cases q), fun _ => ⟨hcc.2.2.2.1, 384, hcc.2.1, vp_in_nI hr3 (by omega), hcc.2.2.1, 384, hcc.1, vp_in_nI hs (by omega), 384, hcc.2.1, vp_in_nI hr3 (by omega), ?_⟩⟩
        rw [nI_i3, show i2 (some r) = nI r from rfl, nI_clamp (by omega), nI_clamp (by omega), hct'.1 s hs, hct'.2 r hr3]
        refine ih _ hf.sJ7 hr ⟨fun q hq => ?_, fun q hq => ?_⟩
        · rw [zR_sJ, zJ_sJ, if_neg hcc.2.2.2.2.1]
          exact hct'.1 q hq
        · rw [zR_sJ, zJ_sJ, if_pos rfl, heq]
          show vp_updL (zJ τ (zR τ h0 7)) r _ q = vp_updL (caI T k (c s) s n d) r _ q
          unfold vp_updL
          split
          · rfl
          · exact hct'.2 q hq
    refine r_X6_countAround_12 hC hR m_X8_joinedTo (by decide) m_X11_has (by decide) m_X6_stateAt (by decide) _ _ _ ?_
    simp only [T_X6_countAround_12, x_psh, x_ild, x_lld, x_ald, x_ist, x_ast, x_lst, x_inc, x_iadd, x_isub, x_imul, x_iand, x_ior, x_ixor, x_ishl, x_ishr, x_iushr, x_idiv, x_irem, x_ladd, x_land, x_lor, x_lshl, x_lshr, x_ineg, x_i2l, x_l2i, x_i2b, x_lcmp, x_dup, x_dup2, x_if_eq, x_if_ne, x_if_lt, x_if_ge, x_if_gt, x_if_le, x_ic_eq, x_ic_ne, x_ic_lt, x_ic_ge, x_ic_gt, x_ic_le, x_getI, x_getR, x_putI, x_putZ, x_putR, x_iald, x_bald, x_lald, x_iast, x_bast, x_last, x_alen, x_acp, x_mmax, x_mmin, x_callV, x_callS, x_iret, x_zret, x_lret, x_aret, x_vret, x_tsw, x_stop, zst1, zst2, zkill, zkl, zsplit, zmask, zent, zentL, List.getElem?_cons_zero, List.getElem?_cons_succ, List.set_cons_zero, List.set_cons_succ, List.set_nil, List.length_cons, List.length_nil, List.replicate, List.nil_append, List.cons_append, List.map_cons, List.map_nil, List.sum_cons, List.sum_nil, Value.category, Option.toList, List.contains_cons, List.contains_nil, true_or, or_true, true_and, Nat.zero_le, Nat.reduceAdd, Nat.reduceLeDiff, Nat.reduceLT, Nat.reduceBEq, Bool.true_or, Bool.or_true, Bool.false_or, Bool.or_false, ↓reduceIte, Bool.false_eq_true, Nat.add_zero, Nat.zero_add, Nat.reduceEqDiff, Nat.reduceSub, t1, v1, z1, w_X11_has, w_X6_stateAt]
    refine ⟨fun q => absurd q (nI_ge hd (by omega)), fun _ => ⟨_, d, rfl, rfl, by omega, by omega, ?_⟩⟩
    rw [b2i_0]
    refine ⟨fun hb => ?_, fun hb => ⟨by decide, T, k, d, s % 32, hh', hv', hT', rfl, hd, by rw [z_l32, z_rem32 (by omega)], by omega, ?_⟩⟩
    · exact tail none (fun r h => (by cases h)) (by rw [caI, if_neg hb])
    · exact tail (stO T k (s % 32) d) (fun r h => stO_lt hv.1 hv.2.1 (by omega) h) (by rw [caI, if_pos (Decidable.not_not.mp hb)])
  · intro τ hf hr hct'
    have hT' : TownR τ t T := hT.f hf hap
    have t1 := hT'.1.1
    have v1 := hT'.2.1
    refine r_X6_countAround_12 hC hR m_X8_joinedTo (by decide) m_X11_has (by decide) m_X6_stateAt (by decide) _ _ _ ?_
    simp only [T_X6_countAround_12, x_psh, x_ild, x_lld, x_ald, x_ist, x_ast, x_lst, x_inc, x_iadd, x_isub, x_imul, x_iand, x_ior, x_ixor, x_ishl, x_ishr, x_iushr, x_idiv, x_irem, x_ladd, x_land, x_lor, x_lshl, x_lshr, x_ineg, x_i2l, x_l2i, x_i2b, x_lcmp, x_dup, x_dup2, x_if_eq, x_if_ne, x_if_lt, x_if_ge, x_if_gt, x_if_le, x_ic_eq, x_ic_ne, x_ic_lt, x_ic_ge, x_ic_gt, x_ic_le, x_getI, x_getR, x_putI, x_putZ, x_putR, x_iald, x_bald, x_lald, x_iast, x_bast, x_last, x_alen, x_acp, x_mmax, x_mmin, x_callV, x_callS, x_iret, x_zret, x_lret, x_aret, x_vret, x_tsw, x_stop, zst1, zst2, zkill, zkl, zsplit, zmask, zent, zentL, List.getElem?_cons_zero, List.getElem?_cons_succ, List.set_cons_zero, List.set_cons_succ, List.set_nil, List.length_cons, List.length_nil, List.replicate, List.nil_append, List.cons_append, List.map_cons, List.map_nil, List.sum_cons, List.sum_nil, Value.category, Option.toList, List.contains_cons, List.contains_nil, true_or, or_true, true_and, Nat.zero_le, Nat.reduceAdd, Nat.reduceLeDiff, Nat.reduceLT, Nat.reduceBEq, Bool.true_or, Bool.or_true, Bool.false_or, Bool.or_false, ↓reduceIte, Bool.false_eq_true, Nat.add_zero, Nat.zero_add, Nat.reduceEqDiff, Nat.reduceSub, t1, v1]
    exact ⟨fun _ => hQ τ hf hr hct', fun q => absurd (nI_le (Nat.le_refl _) (by omega)) q⟩
def csI (T : TD) (k : Nat) (c : Nat → Int64) : Nat → Nat → Int64
  | 0 => fun _ => 0
  | s + 1 => if c s = 0 then csI T k c s else caI T k (c s) s (csI T k c s) (tD T)
theorem lg_cmp0 (x : Int64) : lg_cmp x 0 = 0 ↔ x = 0 := by
  unfold lg_cmp
  constructor
  · intro h
    split at h
    · exact absurd h (by decide)
    · split at h
      · assumption
      · exact absurd h (by decide)
  · intro h
    subst h
    decide
def w_X6_countStep : WPt := fun args σ Q => match args with
  | [.ref h, .ref t] => ∃ (T : TD) (k : Nat) (c n : Nat → Int64), ShS σ h ∧ ShV σ h T k ∧ TownR σ t T ∧ apH h t ∧ CtR σ h c n ∧ (∀ s, s < 384 → tD T ≤ s / 32 → c s = 0) ∧ ∀ σ' n', ShF σ σ' h → CtR σ' h (csI T k c 384) n' → Q none σ'
  | _ => False
set_option maxHeartbeats 2000000 in
theorem m_X6_countStep : Meets yX6_countStep cX6_countStep 3 none 4 w_X6_countStep := by
  refine Meets.mk (by decide) fun args σ Φ h => ?_
  unfold w_X6_countStep at h
  split at h
  rotate_left
  · exact h.elim
  rename_i h0 t
  obtain ⟨h0, rfl⟩ : ∃ q : Nat, q = h0 := ⟨h0, rfl⟩
  obtain ⟨t, rfl⟩ : ∃ q : Nat, q = t := ⟨t, rfl⟩
  obtain ⟨T, k, c, n, hh, hv, hT, hap, hct, hc0, hQ⟩ := h
  refine ⟨Nat.le_of_ble_eq_true rfl, fun C hC hR => ?_⟩
  have hD := hT.2.2.2.1
  have s1 := hh.1
  have hcc := hh.ct
  refine r_X6_countStep_0 hC hR m_J7_fill_d0a16 (by decide) m_X6_countAround (by decide) _ _ _ ?_
  simp only [T_X6_countStep_0, x_psh, x_ild, x_lld, x_ald, x_ist, x_ast, x_lst, x_inc, x_iadd, x_isub, x_imul, x_iand, x_ior, x_ixor, x_ishl, x_ishr, x_iushr, x_idiv, x_irem, x_ladd, x_land, x_lor, x_lshl, x_lshr, x_ineg, x_i2l, x_l2i, x_i2b, x_lcmp, x_dup, x_dup2, x_if_eq, x_if_ne, x_if_lt, x_if_ge, x_if_gt, x_if_le, x_ic_eq, x_ic_ne, x_ic_lt, x_ic_ge, x_ic_gt, x_ic_le, x_getI, x_getR, x_putI, x_putZ, x_putR, x_iald, x_bald, x_lald, x_iast, x_bast, x_last, x_alen, x_acp, x_mmax, x_mmin, x_callV, x_callS, x_iret, x_zret, x_lret, x_aret, x_vret, x_tsw, x_stop, zst1, zst2, zkill, zkl, zsplit, zmask, zent, zentL, List.getElem?_cons_zero, List.getElem?_cons_succ, List.set_cons_zero, List.set_cons_succ, List.set_nil, List.length_cons, List.length_nil, List.replicate, List.nil_append, List.cons_append, List.map_cons, List.map_nil, List.sum_cons, List.sum_nil, Value.category, Option.toList, List.contains_cons, List.contains_nil, true_or, or_true, true_and, Nat.zero_le, Nat.reduceAdd, Nat.reduceLeDiff, Nat.reduceLT, Nat.reduceBEq, Bool.true_or, Bool.or_true, Bool.false_or, Bool.or_false, ↓reduceIte, Bool.false_eq_true, Nat.add_zero, Nat.zero_add, Nat.reduceEqDiff, Nat.reduceSub, s1, w_J7_fill_d0a16]
  refine ⟨hcc.2.2.2.1, 384, hcc.2.1, by omega, fun σ1 f1 f2 f3 f4 f5 => ?_⟩
  have hf0 : ShF σ σ1 h0 := ⟨f1, f3, fun i _ => by rw [f2], fun i h1 h2 => f4 i (by rcases hcc.2.2.2.2.2.2 with e | e <;> rw [e] <;> assumption), hh.of f1 f2⟩
  have key := zloop (P := fun s => ∀ τ, ShF σ τ h0 → zR τ = zR σ → CtR τ h0 c (csI T k c s) → WW C 10 [some (.ref h0), some (.ref t), some (.int (nI s))] [] τ) 384 (fun s hs ih τ hf hr hct' => ?_) ?_ 0 (by omega)
  · refine key σ1 hf0 f2 ⟨fun r hr => ?_, fun r hr => ?_⟩
    · rw [f2, f4 _ hcc.2.2.2.2.1]
      exact hct.1 r hr
    · rw [f2, f5 r hr]
      rfl
  · have hh' := hf.2.2.2.2
    have hT' : TownR τ t T := hT.f hf hap
    have hv' := hv.f hf
    have z1 := hh'.1
    have hcc' := hh'.ct
    refine r_X6_countStep_10 hC hR m_J7_fill_d0a16 (by decide) m_X6_countAround (by decide) _ _ _ ?_
    simp only [T_X6_countStep_10, x_psh, x_ild, x_lld, x_ald, x_ist, x_ast, x_lst, x_inc, x_iadd, x_isub, x_imul, x_iand, x_ior, x_ixor, x_ishl, x_ishr, x_iushr, x_idiv, x_irem, x_ladd, x_land, x_lor, x_lshl, x_lshr, x_ineg, x_i2l, x_l2i, x_i2b, x_lcmp, x_dup, x_dup2, x_if_eq, x_if_ne, x_if_lt, x_if_ge, x_if_gt, x_if_le, x_ic_eq, x_ic_ne, x_ic_lt, x_ic_ge, x_ic_gt, x_ic_le, x_getI, x_getR, x_putI, x_putZ, x_putR, x_iald, x_bald, x_lald, x_iast, x_bast, x_last, x_alen, x_acp, x_mmax, x_mmin, x_callV, x_callS, x_iret, x_zret, x_lret, x_aret, x_vret, x_tsw, x_stop, zst1, zst2, zkill, zkl, zsplit, zmask, zent, zentL, List.getElem?_cons_zero, List.getElem?_cons_succ, List.set_cons_zero, List.set_cons_succ, List.set_nil, List.length_cons, List.length_nil, List.replicate, List.nil_append, List.cons_append, List.map_cons, List.map_nil, List.sum_cons, List.sum_nil, Value.category, Option.toList, List.contains_cons, List.contains_nil, true_or, or_true, true_and, Nat.zero_le, Nat.reduceAdd, Nat.reduceLeDiff, Nat.reduceLT, Nat.reduceBEq, Bool.true_or, Bool.or_true, Bool.false_or, Bool.or_false, ↓reduceIte, Bool.false_eq_true, Nat.add_zero, Nat.zero_add, Nat.reduceEqDiff, Nat.reduceSub, z1, w_X6_countAround]
    refine ⟨fun q => absurd q (by rw [z_l384]; exact nI_ge hs (by omega)), fun _ => ⟨hcc'.2.2.1, 384, hcc'.1, vp_in_nI hs (by omega), ?_⟩⟩
    rw [nI_clamp (by omega), hct'.1 s hs, lg_cmp0, nI_i3]
    refine ⟨fun q => ih τ hf hr (by rw [csI, if_pos q]; exact hct'), fun q => ⟨T, k, c, csI T k c s, s, hh', hv', hT', hap, hct', rfl, hs, ?_, fun σ' hf' hr' hct2 => ?_⟩⟩
    · rcases Nat.lt_or_ge (s / 32) (tD T) with h | h
      · exact h
      · exact absurd (hc0 s hs h) q
    · exact ih σ' (hf.trans hf') (hr'.trans hr) (by rw [csI, if_neg q]; exact hct2)
  · intro τ hf hr hct'
    have hh' := hf.2.2.2.2
    have z1 := hh'.1
    have hcc' := hh'.ct
    refine r_X6_countStep_10 hC hR m_J7_fill_d0a16 (by decide) m_X6_countAround (by decide) _ _ _ ?_
    simp only [T_X6_countStep_10, x_psh, x_ild, x_lld, x_ald, x_ist, x_ast, x_lst, x_inc, x_iadd, x_isub, x_imul, x_iand, x_ior, x_ixor, x_ishl, x_ishr, x_iushr, x_idiv, x_irem, x_ladd, x_land, x_lor, x_lshl, x_lshr, x_ineg, x_i2l, x_l2i, x_i2b, x_lcmp, x_dup, x_dup2, x_if_eq, x_if_ne, x_if_lt, x_if_ge, x_if_gt, x_if_le, x_ic_eq, x_ic_ne, x_ic_lt, x_ic_ge, x_ic_gt, x_ic_le, x_getI, x_getR, x_putI, x_putZ, x_putR, x_iald, x_bald, x_lald, x_iast, x_bast, x_last, x_alen, x_acp, x_mmax, x_mmin, x_callV, x_callS, x_iret, x_zret, x_lret, x_aret, x_vret, x_tsw, x_stop, zst1, zst2, zkill, zkl, zsplit, zmask, zent, zentL, List.getElem?_cons_zero, List.getElem?_cons_succ, List.set_cons_zero, List.set_cons_succ, List.set_nil, List.length_cons, List.length_nil, List.replicate, List.nil_append, List.cons_append, List.map_cons, List.map_nil, List.sum_cons, List.sum_nil, Value.category, Option.toList, List.contains_cons, List.contains_nil, true_or, or_true, true_and, Nat.zero_le, Nat.reduceAdd, Nat.reduceLeDiff, Nat.reduceLT, Nat.reduceBEq, Bool.true_or, Bool.or_true, Bool.false_or, Bool.or_false, ↓reduceIte, Bool.false_eq_true, Nat.add_zero, Nat.zero_add, Nat.reduceEqDiff, Nat.reduceSub, z1, zd_sR]
    refine ⟨fun _ => ⟨hcc'.2.2.1, hcc'.2.2.2.1, hcc'.2.2.2.1, hcc'.2.2.1, ?_⟩, fun q => absurd (by decide) q⟩
    have e6 : zR (sR (sR τ h0 6 (zR τ h0 7)) h0 7 (zR τ h0 6)) h0 6 = zR τ h0 7 := by
      rw [zR_sR, if_pos rfl, zR_sR, if_pos rfl]; rfl
    have e7 : zR (sR (sR τ h0 6 (zR τ h0 7)) h0 7 (zR τ h0 6)) h0 7 = zR τ h0 6 := by
      rw [zR_sR, if_pos rfl]; rfl
    have eo : ∀ j, j ≠ 6 → j ≠ 7 → zR (sR (sR τ h0 6 (zR τ h0 7)) h0 7 (zR τ h0 6)) h0 j = zR τ h0 j := by
      intro j h1 h2
      rw [zR_sR, if_pos rfl, zR_sR, if_pos rfl]
      unfold va_up
      rw [if_neg h2, if_neg h1]
    refine hQ _ c ⟨hf.1, hf.2.1, fun i hi => ?_, hf.2.2.2.1, ?_⟩ ⟨fun r hr2 => ?_, fun r hr2 => ?_⟩
    · rw [zR_sR, if_neg hi, zR_sR, if_neg hi]
      exact hf.2.2.1 i hi
    · obtain ⟨q1, q2, q3, q4, q5, q6, q7, q8, q9, q10, q11, q12⟩ := hh'
      refine ⟨q1, q2, q3, q4, q5, q6, q7, ?_, ?_, ?_, ?_, ?_⟩
      · rw [eo 1 (by decide) (by decide)]; exact q8
      · rw [eo 2 (by decide) (by decide)]; exact q9
      · rw [eo 3 (by decide) (by decide)]; exact q10
      · rw [eo 4 (by decide) (by decide)]; exact q11
      · rw [e6, e7]
        rcases q12 with ⟨a1, a2⟩ | ⟨a1, a2⟩
        · exact Or.inr ⟨a2, a1⟩
        · exact Or.inl ⟨a2, a1⟩
    · rw [e6]; exact hct'.2 r hr2
    · rw [e7]; exact hct'.1 r hr2
def cnI (T : TD) (k a : Nat) : Nat → Nat → Int64
  | 0 => fun r => if r = a then 1 else 0
  | n + 1 => csI T k (cnI T k a n) 384
def sumL (f : Nat → Int64) : Nat → Int64
  | 0 => 0
  | k + 1 => sumL f k + f k
def sfI (T : TD) (k fr to n : Nat) : Int64 := match stO T k 0 fr with
  | none => 0
  | some a => sumL (fun j => cnI T k a n (32 * to + j)) 32
/-- nothing is counted at doors that are not there -/
theorem caI_0 {T : TD} {k s : Nat} {v : Int64} {p : Nat → Int64} (h1 : 1 ≤ tL T k) (h6 : tL T k ≤ 6) (hp : ∀ r, tD T ≤ r / 32 → p r = 0) : ∀ d, d ≤ tD T → ∀ r, tD T ≤ r / 32 → caI T k v s p d r = 0
  | 0, _, r, hr => hp r hr
  | d + 1, hd, r, hr => by
    have ih := caI_0 (s := s) (v := v) h1 h6 hp d (by omega)
    rw [caI]
    split
    · cases hq : stO T k (s % 32) d with
      | none => exact ih r hr
      | some q =>
        show vp_updL (caI T k v s p d) q _ r = 0
        unfold vp_updL
        rw [if_neg]
        · exact ih r hr
        · intro e
          subst e
          have := (stO_div h1 h6 hq).1
          omega
    · exact ih r hr
theorem csI_0 {T : TD} {k : Nat} {c : Nat → Int64} (h1 : 1 ≤ tL T k) (h6 : tL T k ≤ 6) : ∀ s, ∀ r, tD T ≤ r / 32 → csI T k c s r = 0
  | 0, _, _ => rfl
  | s + 1, r, hr => by
    have ih := csI_0 (c := c) h1 h6 s
    rw [csI]
    split
    · exact ih r hr
    · exact caI_0 h1 h6 ih _ (Nat.le_refl _) r hr
theorem cnI_0 {T : TD} {k a : Nat} (h1 : 1 ≤ tL T k) (h6 : tL T k ≤ 6) (ha : a / 32 < tD T) : ∀ n r, tD T ≤ r / 32 → cnI T k a n r = 0
  | 0, r, hr => by
    rw [cnI]
    show (if r = a then (1 : Int64) else 0) = 0
    rw [if_neg (by intro e; subst e; omega)]
  | n + 1, r, hr => csI_0 h1 h6 384 r hr
def w_X6_countWays : WPt := fun args σ Q => match args with
  | [.ref h, .ref t, .int x, .int y, .int z] => ∃ (T : TD) (k fr to n : Nat), ShS σ h ∧ ShV σ h T k ∧ TownR σ t T ∧ apH h t ∧ x = nI fr ∧ y = nI to ∧ z = nI n ∧ fr < tD T ∧ to < tD T ∧ n ≤ 12 ∧ ∀ σ', ShF σ σ' h → Q (some (.long (sfI T k fr to n))) σ'
  | _ => False
set_option maxHeartbeats 2000000 in
theorem m_X6_countWays : Meets yX6_countWays cX6_countWays 9 (some .long) 5 w_X6_countWays := by
  refine Meets.mk (by decide) fun args σ Φ h => ?_
  unfold w_X6_countWays at h
  split at h
  rotate_left
  · exact h.elim
  rename_i h0 t x y z
  obtain ⟨h0, rfl⟩ : ∃ q : Nat, q = h0 := ⟨h0, rfl⟩
  obtain ⟨t, rfl⟩ : ∃ q : Nat, q = t := ⟨t, rfl⟩
  obtain ⟨T, k, fr, to, n, hh, hv, hT, hap, rfl, rfl, rfl, hfr, hto, hn, hQ⟩ := h
  refine ⟨Nat.le_of_ble_eq_true rfl, fun C hC hR => ?_⟩
  have hD := hT.2.2.2.1
  have s1 := hh.1
  have hcc := hh.ct
  refine r_X6_countWays_0 hC hR m_J7_fill_d0a16 (by decide) m_X6_stateAt (by decide) m_X6_countStep (by decide) _ _ _ ?_
  simp only [T_X6_countWays_0, x_psh, x_ild, x_lld, x_ald, x_ist, x_ast, x_lst, x_inc, x_iadd, x_isub, x_imul, x_iand, x_ior, x_ixor, x_ishl, x_ishr, x_iushr, x_idiv, x_irem, x_ladd, x_land, x_lor, x_lshl, x_lshr, x_ineg, x_i2l, x_l2i, x_i2b, x_lcmp, x_dup, x_dup2, x_if_eq, x_if_ne, x_if_lt, x_if_ge, x_if_gt, x_if_le, x_ic_eq, x_ic_ne, x_ic_lt, x_ic_ge, x_ic_gt, x_ic_le, x_getI, x_getR, x_putI, x_putZ, x_putR, x_iald, x_bald, x_lald, x_iast, x_bast, x_last, x_alen, x_acp, x_mmax, x_mmin, x_callV, x_callS, x_iret, x_zret, x_lret, x_aret, x_vret, x_tsw, x_stop, zst1, zst2, zkill, zkl, zsplit, zmask, zent, zentL, List.getElem?_cons_zero, List.getElem?_cons_succ, List.set_cons_zero, List.set_cons_succ, List.set_nil, List.length_cons, List.length_nil, List.replicate, List.nil_append, List.cons_append, List.map_cons, List.map_nil, List.sum_cons, List.sum_nil, Value.category, Option.toList, List.contains_cons, List.contains_nil, true_or, or_true, true_and, Nat.zero_le, Nat.reduceAdd, Nat.reduceLeDiff, Nat.reduceLT, Nat.reduceBEq, Bool.true_or, Bool.or_true, Bool.false_or, Bool.or_false, ↓reduceIte, Bool.false_eq_true, Nat.add_zero, Nat.zero_add, Nat.reduceEqDiff, Nat.reduceSub, s1, w_J7_fill_d0a16, w_X6_stateAt]
  refine ⟨hcc.2.2.1, 384, hcc.1, by omega, fun σ1 f1 f2 f3 f4 f5 => ?_⟩
  have hf0 : ShF σ σ1 h0 := ⟨f1, f3, fun i _ => by rw [f2], fun i h1 h2 => f4 i (by rcases hcc.2.2.2.2.2.1 with e | e <;> rw [e] <;> assumption), hh.of f1 f2⟩
  have hh1 := hf0.2.2.2.2
  have hT1 : TownR σ1 t T := hT.f hf0 hap
  refine ⟨hh1.1, T, k, fr, 0, hh1, hv.f hf0, hT1, rfl, hfr, rfl, by omega, ?_⟩
  rw [i2_m9 (fun s hs => stO_lt hv.1 hv.2.1 (by omega) hs)]
  cases ho : stO T k 0 fr with
  | none =>
    refine ⟨fun q => absurd rfl q, fun _ => ?_⟩
    have := hQ σ1 hf0
    rw [sfI, ho] at this
    exact this
  | some a =>
    have ha := stO_lt hv.1 hv.2.1 (by omega) ho
    have hcc1 := hh1.ct
    have had : a / 32 < tD T := by rw [(stO_div hv.1 hv.2.1 ho).1]; exact hfr
    have hQ' : ∀ σ', ShF σ σ' h0 → Φ (some (.long (sumL (fun j => cnI T k a n (32 * to + j)) 32))) σ' := fun σ' hf => by
      have := hQ σ' hf
      rw [sfI, ho] at this
      exact this
    refine ⟨fun _ => ⟨hh1.1, hcc1.2.2.1, 384, hcc1.1, vp_in_nI ha (by omega), ?_⟩, fun q => (by cases q)⟩
    rw [show i2 (some a) = nI a from rfl, nI_clamp (by omega)]
    -- the steps
    have key := zloop (P := fun i => ∀ τ n', ShF σ τ h0 → CtR τ h0 (cnI T k a i) n' → WW C 37 [some (.ref h0), some (.ref t), none, some (.int (nI to)), some (.int (nI n)), none, some (.int (nI i)), none, none] [] τ) n (fun i hi ih τ n' hf hct => ?_) ?_ 0 (by omega)
    · refine key _ (zJ σ1 (zR σ1 h0 7)) ?_ ⟨fun r hr => ?_, fun r hr => ?_⟩
      · refine ⟨hf0.1, hf0.2.1, hf0.2.2.1, fun i h1 h2 => ?_, hh1.of rfl rfl⟩
        rw [zJ_sJ, if_neg (by rcases hcc1.2.2.2.2.2.1 with e | e <;> rw [e] <;> assumption)]
        exact hf0.2.2.2.1 i h1 h2
      · rw [zR_sJ, zJ_sJ, if_pos rfl, cnI]
        show vp_updL (zJ σ1 (zR σ1 h0 6)) a 1 r = if r = a then 1 else 0
        unfold vp_updL
        split
        · rfl
        · rw [f2]; exact f5 r hr
      · rw [zR_sJ, zJ_sJ, if_neg (Ne.symm hcc1.2.2.2.2.1)]
    · have hh' := hf.2.2.2.2
      have z1 := hh'.1
      refine r_X6_countWays_37 hC hR m_J7_fill_d0a16 (by decide) m_X6_stateAt (by decide) m_X6_countStep (by decide) _ _ _ ?_
      simp only [T_X6_countWays_37, x_psh, x_ild, x_lld, x_ald, x_ist, x_ast, x_lst, x_inc, x_iadd, x_isub, x_imul, x_iand, x_ior, x_ixor, x_ishl, x_ishr, x_iushr, x_idiv, x_irem, x_ladd, x_land, x_lor, x_lshl, x_lshr, x_ineg, x_i2l, x_l2i, x_i2b, x_lcmp, x_dup, x_dup2, x_if_eq, x_if_ne, x_if_lt, x_if_ge, x_if_gt, x_if_le, x_ic_eq, x_ic_ne, x_ic_lt, x_ic_ge, x_ic_gt, x_ic_le, x_getI, x_getR, x_putI, x_putZ, x_putR, x_iald, x_bald, x_lald, x_iast, x_bast, x_last, x_alen, x_acp, x_mmax, x_mmin, x_callV, x_callS, x_iret, x_zret, x_lret, x_aret, x_vret, x_tsw, x_stop, zst1, zst2, zkill, zkl, zsplit, zmask, zent, zentL, List.getElem?_cons_zero, List.getElem?_cons_succ, List.set_cons_zero, List.set_cons_succ, List.set_nil, List.length_cons, List.length_nil, List.replicate, List.nil_append, List.cons_append, List.map_cons, List.map_nil, List.sum_cons, List.sum_nil, Value.category, Option.toList, List.contains_cons, List.contains_nil, true_or, or_true, true_and, Nat.zero_le, Nat.reduceAdd, Nat.reduceLeDiff, Nat.reduceLT, Nat.reduceBEq, Bool.true_or, Bool.or_true, Bool.false_or, Bool.or_false, ↓reduceIte, Bool.false_eq_true, Nat.add_zero, Nat.zero_add, Nat.reduceEqDiff, Nat.reduceSub, z1, w_X6_countStep]
      refine ⟨fun q => absurd q (nI_ge hi (by omega)), fun _ => ⟨T, k, cnI T k a i, n', hh', hv.f hf, hT.f hf hap, hap, hct, fun s hs hd => cnI_0 hv.1 hv.2.1 had i s hd, fun σ' n2 hf' hct' => ?_⟩⟩
      rw [nI_i3]
      exact ih σ' n2 (hf.trans hf') hct'
    · intro τ n' hf hct
      have hh' := hf.2.2.2.2
      have z1 := hh'.1
      have hcc' := hh'.ct
      have sumk := zloop (P := fun j => WW C 61 [some (.ref h0), none, none, some (.int (nI to)), none, none, some (.long (sumL (fun j => cnI T k a n (32 * to + j)) j)), none, some (.int (nI j))] [] τ) 32 (fun j hj ih => ?_) ?_ 0 (by omega)
      · refine r_X6_countWays_37 hC hR m_J7_fill_d0a16 (by decide) m_X6_stateAt (by decide) m_X6_countStep (by decide) _ _ _ ?_
        simp only [T_X6_countWays_37, x_psh, x_ild, x_lld, x_ald, x_ist, x_ast, x_lst, x_inc, x_iadd, x_isub, x_imul, x_iand, x_ior, x_ixor, x_ishl, x_ishr, x_iushr, x_idiv, x_irem, x_ladd, x_land, x_lor, x_lshl, x_lshr, x_ineg, x_i2l, x_l2i, x_i2b, x_lcmp, x_dup, x_dup2, x_if_eq, x_if_ne, x_if_lt, x_if_ge, x_if_gt, x_if_le, x_ic_eq, x_ic_ne, x_ic_lt, x_ic_ge, x_ic_gt, x_ic_le, x_getI, x_getR, x_putI, x_putZ, x_putR, x_iald, x_bald, x_lald, x_iast, x_bast, x_last, x_alen, x_acp, x_mmax, x_mmin, x_callV, x_callS, x_iret, x_zret, x_lret, x_aret, x_vret, x_tsw, x_stop, zst1, zst2, zkill, zkl, zsplit, zmask, zent, zentL, List.getElem?_cons_zero, List.getElem?_cons_succ, List.set_cons_zero, List.set_cons_succ, List.set_nil, List.length_cons, List.length_nil, List.replicate, List.nil_append, List.cons_append, List.map_cons, List.map_nil, List.sum_cons, List.sum_nil, Value.category, Option.toList, List.contains_cons, List.contains_nil, true_or, or_true, true_and, Nat.zero_le, Nat.reduceAdd, Nat.reduceLeDiff, Nat.reduceLT, Nat.reduceBEq, Bool.true_or, Bool.or_true, Bool.false_or, Bool.or_false, ↓reduceIte, Bool.false_eq_true, Nat.add_zero, Nat.zero_add, Nat.reduceEqDiff, Nat.reduceSub]
        exact ⟨fun _ => sumk, fun q => absurd (nI_le (Nat.le_refl _) (by omega)) q⟩
      · refine r_X6_countWays_61 hC hR m_J7_fill_d0a16 (by decide) m_X6_stateAt (by decide) m_X6_countStep (by decide) _ _ _ ?_
        simp only [T_X6_countWays_61, x_psh, x_ild, x_lld, x_ald, x_ist, x_ast, x_lst, x_inc, x_iadd, x_isub, x_imul, x_iand, x_ior, x_ixor, x_ishl, x_ishr, x_iushr, x_idiv, x_irem, x_ladd, x_land, x_lor, x_lshl, x_lshr, x_ineg, x_i2l, x_l2i, x_i2b, x_lcmp, x_dup, x_dup2, x_if_eq, x_if_ne, x_if_lt, x_if_ge, x_if_gt, x_if_le, x_ic_eq, x_ic_ne, x_ic_lt, x_ic_ge, x_ic_gt, x_ic_le, x_getI, x_getR, x_putI, x_putZ, x_putR, x_iald, x_bald, x_lald, x_iast, x_bast, x_last, x_alen, x_acp, x_mmax, x_mmin, x_callV, x_callS, x_iret, x_zret, x_lret, x_aret, x_vret, x_tsw, x_stop, zst1, zst2, zkill, zkl, zsplit, zmask, zent, zentL, List.getElem?_cons_zero, List.getElem?_cons_succ, List.set_cons_zero, List.set_cons_succ, List.set_nil, List.length_cons, List.length_nil, List.replicate, List.nil_append, List.cons_append, List.map_cons, List.map_nil, List.sum_cons, List.sum_nil, Value.category, Option.toList, List.contains_cons, List.contains_nil, true_or, or_true, true_and, Nat.zero_le, Nat.reduceAdd, Nat.reduceLeDiff, Nat.reduceLT, Nat.reduceBEq, Bool.true_or, Bool.or_true, Bool.false_or, Bool.or_false, ↓reduceIte, Bool.false_eq_true, Nat.add_zero, Nat.zero_add, Nat.reduceEqDiff, Nat.reduceSub, z1]
        refine ⟨fun q => absurd q (by rw [z_l32]; exact nI_ge hj (by omega)), fun _ => ⟨hcc'.2.2.1, 384, hcc'.1, ?_⟩⟩
        have e1 : nI to * 32 + nI j = nI (32 * to + j) := by rw [z_l32, pk_mul, nI_add, Nat.mul_comm]
        rw [e1, nI_clamp (by omega), hct.1 _ (by omega), nI_i3]
        exact ⟨vp_in_nI (by omega) (by omega), ih⟩
      · refine r_X6_countWays_61 hC hR m_J7_fill_d0a16 (by decide) m_X6_stateAt (by decide) m_X6_countStep (by decide) _ _ _ ?_
        simp only [T_X6_countWays_61, x_psh, x_ild, x_lld, x_ald, x_ist, x_ast, x_lst, x_inc, x_iadd, x_isub, x_imul, x_iand, x_ior, x_ixor, x_ishl, x_ishr, x_iushr, x_idiv, x_irem, x_ladd, x_land, x_lor, x_lshl, x_lshr, x_ineg, x_i2l, x_l2i, x_i2b, x_lcmp, x_dup, x_dup2, x_if_eq, x_if_ne, x_if_lt, x_if_ge, x_if_gt, x_if_le, x_ic_eq, x_ic_ne, x_ic_lt, x_ic_ge, x_ic_gt, x_ic_le, x_getI, x_getR, x_putI, x_putZ, x_putR, x_iald, x_bald, x_lald, x_iast, x_bast, x_last, x_alen, x_acp, x_mmax, x_mmin, x_callV, x_callS, x_iret, x_zret, x_lret, x_aret, x_vret, x_tsw, x_stop, zst1, zst2, zkill, zkl, zsplit, zmask, zent, zentL, List.getElem?_cons_zero, List.getElem?_cons_succ, List.set_cons_zero, List.set_cons_succ, List.set_nil, List.length_cons, List.length_nil, List.replicate, List.nil_append, List.cons_append, List.map_cons, List.map_nil, List.sum_cons, List.sum_nil, Value.category, Option.toList, List.contains_cons, List.contains_nil, true_or, or_true, true_and, Nat.zero_le, Nat.reduceAdd, Nat.reduceLeDiff, Nat.reduceLT, Nat.reduceBEq, Bool.true_or, Bool.or_true, Bool.false_or, Bool.or_false, ↓reduceIte, Bool.false_eq_true, Nat.add_zero, Nat.zero_add, Nat.reduceEqDiff, Nat.reduceSub]
        exact ⟨fun _ => hQ' τ hf, fun q => absurd (by decide) q⟩
