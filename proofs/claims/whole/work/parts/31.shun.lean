/-! SHUNNING -/
def ShS (σ : ZS) (h : Nat) : Prop := zd σ h = some (0, 3) ∧ zd σ (h + 1) = some (1, 8) ∧ zd σ (h + 2) = some (1, 12) ∧ zd σ (h + 3) = some (1, 384) ∧ zd σ (h + 4) = some (1, 384) ∧ zd σ (h + 5) = some (3, 384) ∧ zd σ (h + 6) = some (3, 384) ∧ zR σ h 1 = h + 1 ∧ zR σ h 2 = h + 2 ∧ zR σ h 3 = h + 3 ∧ zR σ h 4 = h + 4 ∧ ((zR σ h 6 = h + 5 ∧ zR σ h 7 = h + 6) ∨ (zR σ h 6 = h + 6 ∧ zR σ h 7 = h + 5))
theorem ShS.of {σ σ' : ZS} {w : Nat} (h : ShS σ w) (h1 : zd σ' = zd σ) (h2 : zR σ' = zR σ) : ShS σ' w := by unfold ShS at *; rw [h1, h2]; exact h
def sgS (T : TD) (k i : Nat) : Nat := tG T (6 * k + i)
def tkB (T : TD) (k a : Nat) : Nat → Bool := fun i => decide (sgS T k i = 8 ∨ sgS T k i = a)
def tkS (T : TD) (k a : Nat) : Nat := stS (tkB T k a) (tL T k)
theorem tkS_lt (T : TD) (k a : Nat) : tkS T k a < 2 ^ tL T k := stS_lt _
def ShV (σ : ZS) (h : Nat) (T : TD) (k : Nat) : Prop := 1 ≤ tL T k ∧ tL T k ≤ 6 ∧ zI σ h 0 = nI (2 ^ (tL T k - 1)) ∧ ∀ a, a < 8 → zI σ (h + 1) a = nI (tkS T k a)
def apH (h t : Nat) : Prop := h + 7 ≤ t ∨ t + 5 ≤ h
theorem ShV.fr {σ σ' : ZS} {h lo hi k : Nat} {T : TD} (hv : ShV σ h T k) (hf : Fr σ σ' lo hi) (hd : h + 2 ≤ lo ∨ hi ≤ h) : ShV σ' h T k := by
  have e := hf.2.2.1
  unfold ShV
  rw [e h (by omega), e (h + 1) (by omega)]
  exact hv
def w_X6_takeSong : WPt := fun args σ Q => match args with
  | [.ref h, .ref t, .int s] => ∃ T k, ShS σ h ∧ TownR σ t T ∧ s = nI k ∧ k < tS T ∧ 1 ≤ tL T k ∧ apH h t ∧ ∀ σ', Fr σ σ' h (h + 2) → ShV σ' h T k → Q none σ'
  | _ => False
set_option maxHeartbeats 2000000 in
theorem m_X6_takeSong : Meets yX6_takeSong cX6_takeSong 7 none 3 w_X6_takeSong := by
  refine Meets.mk (by decide) fun args σ Φ h => ?_
  unfold w_X6_takeSong at h
  split at h
  rotate_left
  · exact h.elim
  rename_i h0 t s
  obtain ⟨h0, rfl⟩ : ∃ q : Nat, q = h0 := ⟨h0, rfl⟩
  obtain ⟨t, rfl⟩ : ∃ q : Nat, q = t := ⟨t, rfl⟩
  obtain ⟨T, k, hh, hT, rfl, hk, hL1, hap, hQ⟩ := h
  unfold apH at hap
  refine ⟨Nat.le_of_ble_eq_true rfl, fun C hC hR => ?_⟩
  have hL := (hT.2.2.2.2.2.2.2.1 k hk).2
  have ⟨s1, s2, s3, s4, s5, s6, s7, s8, s9, s10, s11, s12⟩ := hh
  have e0 : nI (tL T k) - 1 = nI (tL T k - 1) := pk_sub (b := 1) (by omega)
  refine r_X6_takeSong_0 hC hR m_X8_lengthOf (by decide) m_X8_signOf (by decide) _ _ _ ?_
  simp only [T_X6_takeSong_0, x_psh, x_ild, x_lld, x_ald, x_ist, x_ast, x_lst, x_inc, x_iadd, x_isub, x_imul, x_iand, x_ior, x_ixor, x_ishl, x_ishr, x_iushr, x_idiv, x_irem, x_ladd, x_land, x_lor, x_lshl, x_lshr, x_ineg, x_i2l, x_l2i, x_i2b, x_lcmp, x_dup, x_dup2, x_if_eq, x_if_ne, x_if_lt, x_if_ge, x_if_gt, x_if_le, x_ic_eq, x_ic_ne, x_ic_lt, x_ic_ge, x_ic_gt, x_ic_le, x_getI, x_getR, x_putI, x_putZ, x_putR, x_iald, x_bald, x_lald, x_iast, x_bast, x_last, x_alen, x_acp, x_mmax, x_mmin, x_callV, x_callS, x_iret, x_zret, x_lret, x_aret, x_vret, x_tsw, x_stop, zst1, zst2, zkill, zkl, zsplit, zmask, zent, zentL, List.getElem?_cons_zero, List.getElem?_cons_succ, List.set_cons_zero, List.set_cons_succ, List.set_nil, List.length_cons, List.length_nil, List.replicate, List.nil_append, List.cons_append, List.map_cons, List.map_nil, List.sum_cons, List.sum_nil, Value.category, Option.toList, List.contains_cons, List.contains_nil, true_or, or_true, true_and, Nat.zero_le, Nat.reduceAdd, Nat.reduceLeDiff, Nat.reduceLT, Nat.reduceBEq, Bool.true_or, Bool.or_true, Bool.false_or, Bool.or_false, ↓reduceIte, Bool.false_eq_true, Nat.add_zero, Nat.zero_add, Nat.reduceEqDiff, Nat.reduceSub, w_X8_lengthOf]
  refine ⟨hT.1.1, T, k, hT, rfl, hk, fun q => absurd q (nI_nle hL1 (by omega)), fun _ => ⟨s1, ?_⟩⟩
  rw [e0, z_l31, z_l1, z_p2 _ (by omega)]
  have key := zloop (P := fun a => ∀ τ, Fr σ τ h0 (h0 + 2) → zI τ h0 0 = nI (2 ^ (tL T k - 1)) → (∀ j, j < a → zI τ (h0 + 1) j = nI (tkS T k j)) → WW C 26 [some (.ref h0), some (.ref t), some (.int (nI k)), some (.int (nI (tL T k))), some (.int (nI a)), none, none] [] τ) 8 (fun a ha ih τ hf hw hlo => ?_) ?_ 0 (by omega)
  · exact key _ ((Fr.refl σ _ _).sI (by omega) (by omega)) (by rw [zI_sI, if_pos rfl, pk_us]) (fun j hj => absurd hj (Nat.not_lt_zero j))
  · -- the inner loop
    have inner := zloop (P := fun i => ∀ τ', Fr σ τ' h0 (h0 + 2) → zI τ' h0 0 = nI (2 ^ (tL T k - 1)) → (∀ j, j < a → zI τ' (h0 + 1) j = nI (tkS T k j)) → zI τ' (h0 + 1) a = nI (stS (tkB T k a) i) → WW C 44 [some (.ref h0), some (.ref t), some (.int (nI k)), some (.int (nI (tL T k))), some (.int (nI a)), some (.int (nI i)), none] [] τ') (tL T k) (fun i hi ih2 τ' hf' hw' hlo' hcur => ?_) ?_ 0 (by omega)
    · have hh' := hh.of hf.1 hf.2.1
      have z1 := hh'.1
      have z8 := hh'.2.2.2.2.2.2.2.1
      refine r_X6_takeSong_26 hC hR m_X8_lengthOf (by decide) m_X8_signOf (by decide) _ _ _ ?_
      simp only [T_X6_takeSong_26, x_psh, x_ild, x_lld, x_ald, x_ist, x_ast, x_lst, x_inc, x_iadd, x_isub, x_imul, x_iand, x_ior, x_ixor, x_ishl, x_ishr, x_iushr, x_idiv, x_irem, x_ladd, x_land, x_lor, x_lshl, x_lshr, x_ineg, x_i2l, x_l2i, x_i2b, x_lcmp, x_dup, x_dup2, x_if_eq, x_if_ne, x_if_lt, x_if_ge, x_if_gt, x_if_le, x_ic_eq, x_ic_ne, x_ic_lt, x_ic_ge, x_ic_gt, x_ic_le, x_getI, x_getR, x_putI, x_putZ, x_putR, x_iald, x_bald, x_lald, x_iast, x_bast, x_last, x_alen, x_acp, x_mmax, x_mmin, x_callV, x_callS, x_iret, x_zret, x_lret, x_aret, x_vret, x_tsw, x_stop, zst1, zst2, zkill, zkl, zsplit, zmask, zent, zentL, List.getElem?_cons_zero, List.getElem?_cons_succ, List.set_cons_zero, List.set_cons_succ, List.set_nil, List.length_cons, List.length_nil, List.replicate, List.nil_append, List.cons_append, List.map_cons, List.map_nil, List.sum_cons, List.sum_nil, Value.category, Option.toList, List.contains_cons, List.contains_nil, true_or, or_true, true_and, Nat.zero_le, Nat.reduceAdd, Nat.reduceLeDiff, Nat.reduceLT, Nat.reduceBEq, Bool.true_or, Bool.or_true, Bool.false_or, Bool.or_false, ↓reduceIte, Bool.false_eq_true, Nat.add_zero, Nat.zero_add, Nat.reduceEqDiff, Nat.reduceSub, z1, z8]
      refine ⟨fun q => absurd q (by rw [z_l7]; exact nI_nlt (by omega) (by omega)), fun _ => ⟨by omega, 8, hh'.2.1, vp_in_nI ha (by omega), ?_⟩⟩
      rw [nI_clamp (by omega)]
      refine inner _ (hf.sI (by omega) (by omega)) ?_ (fun j hj => ?_) ?_
      · rw [zI_sI, if_neg (by omega)]; exact hw
      · rw [zI_sI, if_pos rfl, pk_un (by omega)]; exact hlo j hj
      · rw [zI_sI, if_pos rfl, pk_us]; rfl
    · have hh' := hh.of hf'.1 hf'.2.1
      have hT' : TownR τ' t T := hT.fr hf' (by omega)
      have z1 := hh'.1
      have z8 := hh'.2.2.2.2.2.2.2.1
      have hg := (hT.2.2.2.2.2.2.2.2 k i hk hi).2
      have fin : ∀ v : Nat, v = stS (tkB T k a) (i + 1) → WW C 44 [some (.ref h0), some (.ref t), some (.int (nI k)), some (.int (nI (tL T k))), some (.int (nI a)), some (.int (nI (i + 1))), none] [] (sI τ' (h0 + 1) a (nI v)) := by
        intro v hv
        refine ih2 _ (hf'.sI (by omega) (by omega)) ?_ (fun j hj => ?_) ?_
        · rw [zI_sI, if_neg (by omega)]; exact hw'
        · rw [zI_sI, if_pos rfl, pk_un (by omega)]; exact hlo' j hj
        · rw [zI_sI, if_pos rfl, pk_us, hv]
      have put : sgS T k i = 8 ∨ sgS T k i = a → ∃ n, zd τ' (h0 + 1) = some (1, n) ∧ vp_in (nI a) n ∧ ∃ n, zd τ' (h0 + 1) = some (1, n) ∧ vp_in (nI a) n ∧ WW C 44 [some (.ref h0), some (.ref t), some (.int (nI k)), some (.int (nI (tL T k))), some (.int (nI a)), some (.int (nI i + 1)), none] [] (sI τ' (h0 + 1) (nI a).toNatClampNeg (zI τ' (h0 + 1) (nI a).toNatClampNeg ||| 1 <<< (nI i &&& 31))) := by
        intro hb
        refine ⟨8, hh'.2.1, vp_in_nI ha (by omega), 8, hh'.2.1, vp_in_nI ha (by omega), ?_⟩
        rw [nI_i3, nI_clamp (by omega), hcur, z_l31, z_l1, z_p2 i (by omega), z_or]
        exact fin _ (by rw [stS, if_pos (by unfold tkB; simpa using hb)])
      refine r_X6_takeSong_44 hC hR m_X8_lengthOf (by decide) m_X8_signOf (by decide) _ _ _ ?_
      simp only [T_X6_takeSong_44, x_psh, x_ild, x_lld, x_ald, x_ist, x_ast, x_lst, x_inc, x_iadd, x_isub, x_imul, x_iand, x_ior, x_ixor, x_ishl, x_ishr, x_iushr, x_idiv, x_irem, x_ladd, x_land, x_lor, x_lshl, x_lshr, x_ineg, x_i2l, x_l2i, x_i2b, x_lcmp, x_dup, x_dup2, x_if_eq, x_if_ne, x_if_lt, x_if_ge, x_if_gt, x_if_le, x_ic_eq, x_ic_ne, x_ic_lt, x_ic_ge, x_ic_gt, x_ic_le, x_getI, x_getR, x_putI, x_putZ, x_putR, x_iald, x_bald, x_lald, x_iast, x_bast, x_last, x_alen, x_acp, x_mmax, x_mmin, x_callV, x_callS, x_iret, x_zret, x_lret, x_aret, x_vret, x_tsw, x_stop, zst1, zst2, zkill, zkl, zsplit, zmask, zent, zentL, List.getElem?_cons_zero, List.getElem?_cons_succ, List.set_cons_zero, List.set_cons_succ, List.set_nil, List.length_cons, List.length_nil, List.replicate, List.nil_append, List.cons_append, List.map_cons, List.map_nil, List.sum_cons, List.sum_nil, Value.category, Option.toList, List.contains_cons, List.contains_nil, true_or, or_true, true_and, Nat.zero_le, Nat.reduceAdd, Nat.reduceLeDiff, Nat.reduceLT, Nat.reduceBEq, Bool.true_or, Bool.or_true, Bool.false_or, Bool.or_false, ↓reduceIte, Bool.false_eq_true, Nat.add_zero, Nat.zero_add, Nat.reduceEqDiff, Nat.reduceSub, w_X8_signOf, z1, z8]
      refine ⟨fun q => absurd q (nI_ge hi (by omega)), fun _ => ⟨hT'.1.1, T, k, hT', rfl, hk, fun j hj e => ?_, fun q => absurd (not_lt_pos (by omega) hi) q⟩⟩
      have e2 : i = j := (nI_eq (by omega) (by omega)).mp e
      subst e2
      rw [z_l8, nI_eq (by omega) (by omega), nI_eq (by omega) (by omega)]
      refine ⟨fun q => ⟨by omega, put (Or.inl q)⟩, fun q => ⟨fun q2 => ?_, fun q2 => ⟨by omega, put (Or.inr q2)⟩⟩⟩
      rw [nI_i3]
      refine ih2 τ' hf' hw' hlo' ?_
      rw [hcur, stS, if_neg, Nat.or_zero]
      unfold tkB
      simp only [decide_eq_true_eq]
      exact fun h => h.elim q q2
    · intro τ' hf' hw' hlo' hcur
      refine r_X6_takeSong_44 hC hR m_X8_lengthOf (by decide) m_X8_signOf (by decide) _ _ _ ?_
      simp only [T_X6_takeSong_44, x_psh, x_ild, x_lld, x_ald, x_ist, x_ast, x_lst, x_inc, x_iadd, x_isub, x_imul, x_iand, x_ior, x_ixor, x_ishl, x_ishr, x_iushr, x_idiv, x_irem, x_ladd, x_land, x_lor, x_lshl, x_lshr, x_ineg, x_i2l, x_l2i, x_i2b, x_lcmp, x_dup, x_dup2, x_if_eq, x_if_ne, x_if_lt, x_if_ge, x_if_gt, x_if_le, x_ic_eq, x_ic_ne, x_ic_lt, x_ic_ge, x_ic_gt, x_ic_le, x_getI, x_getR, x_putI, x_putZ, x_putR, x_iald, x_bald, x_lald, x_iast, x_bast, x_last, x_alen, x_acp, x_mmax, x_mmin, x_callV, x_callS, x_iret, x_zret, x_lret, x_aret, x_vret, x_tsw, x_stop, zst1, zst2, zkill, zkl, zsplit, zmask, zent, zentL, List.getElem?_cons_zero, List.getElem?_cons_succ, List.set_cons_zero, List.set_cons_succ, List.set_nil, List.length_cons, List.length_nil, List.replicate, List.nil_append, List.cons_append, List.map_cons, List.map_nil, List.sum_cons, List.sum_nil, Value.category, Option.toList, List.contains_cons, List.contains_nil, true_or, or_true, true_and, Nat.zero_le, Nat.reduceAdd, Nat.reduceLeDiff, Nat.reduceLT, Nat.reduceBEq, Bool.true_or, Bool.or_true, Bool.false_or, Bool.or_false, ↓reduceIte, Bool.false_eq_true, Nat.add_zero, Nat.zero_add, Nat.reduceEqDiff, Nat.reduceSub]
      refine ⟨fun _ => ?_, fun q => absurd (nI_le (Nat.le_refl _) (by omega)) q⟩
      rw [nI_i3]
      refine ih τ' hf' hw' (fun j hj => ?_)
      by_cases e : j = a
      · subst e; exact hcur
      · exact hlo' j (by omega)
  · intro τ hf hw hlo
    refine r_X6_takeSong_26 hC hR m_X8_lengthOf (by decide) m_X8_signOf (by decide) _ _ _ ?_
    simp only [T_X6_takeSong_26, x_psh, x_ild, x_lld, x_ald, x_ist, x_ast, x_lst, x_inc, x_iadd, x_isub, x_imul, x_iand, x_ior, x_ixor, x_ishl, x_ishr, x_iushr, x_idiv, x_irem, x_ladd, x_land, x_lor, x_lshl, x_lshr, x_ineg, x_i2l, x_l2i, x_i2b, x_lcmp, x_dup, x_dup2, x_if_eq, x_if_ne, x_if_lt, x_if_ge, x_if_gt, x_if_le, x_ic_eq, x_ic_ne, x_ic_lt, x_ic_ge, x_ic_gt, x_ic_le, x_getI, x_getR, x_putI, x_putZ, x_putR, x_iald, x_bald, x_lald, x_iast, x_bast, x_last, x_alen, x_acp, x_mmax, x_mmin, x_callV, x_callS, x_iret, x_zret, x_lret, x_aret, x_vret, x_tsw, x_stop, zst1, zst2, zkill, zkl, zsplit, zmask, zent, zentL, List.getElem?_cons_zero, List.getElem?_cons_succ, List.set_cons_zero, List.set_cons_succ, List.set_nil, List.length_cons, List.length_nil, List.replicate, List.nil_append, List.cons_append, List.map_cons, List.map_nil, List.sum_cons, List.sum_nil, Value.category, Option.toList, List.contains_cons, List.contains_nil, true_or, or_true, true_and, Nat.zero_le, Nat.reduceAdd, Nat.reduceLeDiff, Nat.reduceLT, Nat.reduceBEq, Bool.true_or, Bool.or_true, Bool.false_or, Bool.or_false, ↓reduceIte, Bool.false_eq_true, Nat.add_zero, Nat.zero_add, Nat.reduceEqDiff, Nat.reduceSub]
    exact ⟨fun _ => hQ τ hf ⟨hL1, hL, hw, hlo⟩, fun q => absurd (by decide) q⟩
/-- what has just sounded, one door further -/
def goS (T : TD) (k s d : Nat) : Nat := (2 * s + 1) &&& tkS T k (tN T d)
def stO (T : TD) (k s d : Nat) : Option Nat := if (goS T k s d).testBit (tL T k - 1) then none else some (32 * d + goS T k s d)
theorem goS_lt (T : TD) (k s d : Nat) : goS T k s d < 2 ^ tL T k := and_lt31 (tkS_lt T k _)
theorem goS_safe {T : TD} {k s d : Nat} (h1 : 1 ≤ tL T k) (h6 : tL T k ≤ 6) (hb : (goS T k s d).testBit (tL T k - 1) = false) : goS T k s d < 32 := by
  have h := goS_lt T k s d
  have h2 : goS T k s d < 2 ^ (tL T k - 1) := by
    apply Nat.lt_pow_two_of_testBit
    intro i hi
    by_cases e : i = tL T k - 1
    · rw [e]; exact hb
    · exact Nat.testBit_lt_two_pow (Nat.lt_of_lt_of_le h (Nat.pow_le_pow_right (by decide) (by omega)))
  exact Nat.lt_of_lt_of_le h2 (Nat.pow_le_pow_right (n := 2) (j := 5) (by decide) (by omega))
theorem and_p2 (a j : Nat) : a &&& 2 ^ j = 0 ↔ a.testBit j = false := by
  constructor
  · intro h
    have := congrArg (fun x => x.testBit j) h
    simpa [Nat.testBit_and] using this
  · intro h
    apply Nat.eq_of_testBit_eq
    intro i
    rw [Nat.testBit_and, Nat.testBit_two_pow, Nat.zero_testBit]
    by_cases e : j = i
    · subst e; simp [h]
    · simp [e]
def w_X6_stateAt : WPt := fun args σ Q => match args with
  | [.ref h, .ref t, .int x, .int y] => ∃ (T : TD) (k d s : Nat), ShS σ h ∧ ShV σ h T k ∧ TownR σ t T ∧ x = nI d ∧ d < tD T ∧ y = nI s ∧ s < 32 ∧ Q (some (.int (i2 (stO T k s d)))) σ
  | _ => False
theorem m_X6_stateAt : Meets yX6_stateAt cX6_stateAt 6 (some .int) 1 w_X6_stateAt := by
  refine Meets.mk (by decide) fun args σ Φ h => ?_
  unfold w_X6_stateAt at h
  split at h
  rotate_left
  · exact h.elim
  rename_i h0 t x y
  obtain ⟨h0, rfl⟩ : ∃ q : Nat, q = h0 := ⟨h0, rfl⟩
  obtain ⟨t, rfl⟩ : ∃ q : Nat, q = t := ⟨t, rfl⟩
  obtain ⟨T, k, d, s, hh, hv, hT, rfl, hd, rfl, hs, hQ⟩ := h
  refine ⟨Nat.le_of_ble_eq_true rfl, fun C hC hR => ?_⟩
  have ⟨s1, s2, s3, s4, s5, s6, s7, s8, s9, s10, s11, s12⟩ := hh
  obtain ⟨hL1, hL6, hw, htk⟩ := hv
  have hD := hT.2.2.2.1
  have hN := hT.2.2.2.2.2.1 d hd
  have t1 := hT.1.1
  have t6 := hT.1.2.2.2.2.2.1
  refine r_X6_stateAt_0 hC hR _ _ _ ?_
  simp only [T_X6_stateAt_0, x_psh, x_ild, x_lld, x_ald, x_ist, x_ast, x_lst, x_inc, x_iadd, x_isub, x_imul, x_iand, x_ior, x_ixor, x_ishl, x_ishr, x_iushr, x_idiv, x_irem, x_ladd, x_land, x_lor, x_lshl, x_lshr, x_ineg, x_i2l, x_l2i, x_i2b, x_lcmp, x_dup, x_dup2, x_if_eq, x_if_ne, x_if_lt, x_if_ge, x_if_gt, x_if_le, x_ic_eq, x_ic_ne, x_ic_lt, x_ic_ge, x_ic_gt, x_ic_le, x_getI, x_getR, x_putI, x_putZ, x_putR, x_iald, x_bald, x_lald, x_iast, x_bast, x_last, x_alen, x_acp, x_mmax, x_mmin, x_callV, x_callS, x_iret, x_zret, x_lret, x_aret, x_vret, x_tsw, x_stop, zst1, zst2, zkill, zkl, zsplit, zmask, zent, zentL, List.getElem?_cons_zero, List.getElem?_cons_succ, List.set_cons_zero, List.set_cons_succ, List.set_nil, List.length_cons, List.length_nil, List.replicate, List.nil_append, List.cons_append, List.map_cons, List.map_nil, List.sum_cons, List.sum_nil, Value.category, Option.toList, List.contains_cons, List.contains_nil, true_or, or_true, true_and, Nat.zero_le, Nat.reduceAdd, Nat.reduceLeDiff, Nat.reduceLT, Nat.reduceBEq, Bool.true_or, Bool.or_true, Bool.false_or, Bool.or_false, ↓reduceIte, Bool.false_eq_true, Nat.add_zero, Nat.zero_add, Nat.reduceEqDiff, Nat.reduceSub, s1, s8, t1, t6, hw]
  refine ⟨by omega, by omega, 12, hT.1.2.1, vp_in_nI (by omega) (by omega), ?_⟩
  rw [nI_clamp (by omega), hN.1]
  refine ⟨8, s2, vp_in_nI (by omega) (by omega), ?_⟩
  have hp6 : 2 ^ tL T k ≤ 64 := Nat.pow_le_pow_right (n := 2) (j := 6) (by decide) hL6
  have hg := goS_lt T k s d
  have eg : (nI s <<< (1 &&& 31) ||| 1) &&& nI (tkS T k (tN T d)) = nI (goS T k s d) := by
    have h1 : nI s <<< (nI 1 &&& nI 31) = nI (s <<< 1) := z_shl (by omega) (by omega)
    rw [z_l31, z_l1, h1, z_or, z_and]
    have : s <<< 1 ||| 1 = 2 * s + 1 := by
      rw [Nat.shiftLeft_eq, Nat.pow_one, Nat.mul_comm]
      apply Nat.eq_of_testBit_eq
      intro i
      rw [Nat.testBit_or]
      cases i with
      | zero => simp
      | succ i =>
        rw [Nat.testBit_succ, Nat.testBit_succ, Nat.testBit_succ]
        simp
        rw [show (2 * s + 1) / 2 = s by omega]
    rw [this]
    rfl
  rw [nI_clamp (by omega), htk _ (by omega), eg, z_and, z_l0, nI_eq (by have := and_lt31' (a := goS T k s d) (b := 2 ^ (tL T k - 1)) hg; omega) (by omega), and_p2]
  have fin : (goS T k s d).testBit (tL T k - 1) = false → Φ (some (.int (nI d * 32 + nI (goS T k s d)))) σ := by
    intro hb
    rw [stO, if_neg (by rw [hb]; simp)] at hQ
    rw [z_l32, pk_mul, nI_add, Nat.mul_comm]
    exact hQ
  refine ⟨fun q => ⟨fun _ => ?_, fun q2 => absurd trivial q2⟩, fun q => ⟨fun q2 => ?_, fun _ => ⟨fun q2 => absurd q2 (by decide), fun _ => fin q⟩⟩⟩
  · rw [stO, if_pos (by simpa using q)] at hQ
    exact hQ
  · exact absurd q2 (by rw [z_l32]; exact nI_ge (goS_safe hL1 hL6 q) (by omega))
theorem nI_eq0 {a : Nat} (h : a < 2 ^ 32) : nI a = 0 ↔ a = 0 := by
  constructor
  · intro e
    have := congrArg (fun x => x.toBitVec.toNat) e
    simp only [pk_tn h] at this
    simpa using this
  · intro e; rw [e]; rfl
