/-! WALK, EAR, TUNE -/
def WalkS (σ : ZS) (w : Nat) : Prop := zd σ w = some (0, 7) ∧ zd σ (w + 1) = some (1, 24) ∧ zR σ w 0 = w + 1
def WalkV (σ : ZS) (w n : Nat) (f : Nat → Nat) : Prop := zI σ w 1 = nI n ∧ n ≤ 24 ∧ ∀ k, k < n → zI σ (w + 1) k = nI (f k) ∧ f k < 12
def EarS (σ : ZS) (e : Nat) : Prop := zd σ e = some (0, 0) ∧ zd σ (e + 1) = some (1, 12) ∧ zR σ e 0 = e + 1
def EarV (σ : ZS) (e n : Nat) (g : Nat → Nat) : Prop := zI σ e 1 = nI n ∧ n ≤ 12 ∧ ∀ k, k < n → zI σ (e + 1) k = nI (g k) ∧ g k ≤ 8
def TuneS (σ : ZS) (u : Nat) : Prop := zd σ u = some (0, 6) ∧ zd σ (u + 1) = some (1, 12) ∧ zd σ (u + 2) = some (1, 12) ∧ zd σ (u + 3) = some (3, 144) ∧ zR σ u 1 = u + 1 ∧ zR σ u 2 = u + 2 ∧ zR σ u 3 = u + 3
def TuneV (σ : ZS) (u n : Nat) (F : Nat → Nat) (G : Nat → Nat) : Prop := zI σ u 0 = nI n ∧ n ≤ 12 ∧ ∀ k, k < n → zI σ (u + 1) k = nI (F k) ∧ F k < 4096 ∧ zI σ (u + 2) k = nI (G k) ∧ G k < 4096
theorem WalkS.of {σ σ' : ZS} {w : Nat} (h : WalkS σ w) (h1 : zd σ' = zd σ) (h2 : zR σ' = zR σ) : WalkS σ' w := by unfold WalkS at *; rw [h1, h2]; exact h
theorem EarS.of {σ σ' : ZS} {w : Nat} (h : EarS σ w) (h1 : zd σ' = zd σ) (h2 : zR σ' = zR σ) : EarS σ' w := by unfold EarS at *; rw [h1, h2]; exact h
theorem TuneS.of {σ σ' : ZS} {w : Nat} (h : TuneS σ w) (h1 : zd σ' = zd σ) (h2 : zR σ' = zR σ) : TuneS σ' w := by unfold TuneS at *; rw [h1, h2]; exact h
theorem WalkV.fr {σ σ' : ZS} {w n lo hi : Nat} {f : Nat → Nat} (h : WalkV σ w n f) (hf : Fr σ σ' lo hi) (hd : w + 2 ≤ lo ∨ hi ≤ w) : WalkV σ' w n f := by
  have e := hf.2.2.1
  unfold WalkV
  rw [e w (by omega), e (w + 1) (by omega)]
  exact h
theorem EarV.fr {σ σ' : ZS} {w n lo hi : Nat} {f : Nat → Nat} (h : EarV σ w n f) (hf : Fr σ σ' lo hi) (hd : w + 2 ≤ lo ∨ hi ≤ w) : EarV σ' w n f := by
  have e := hf.2.2.1
  unfold EarV
  rw [e w (by omega), e (w + 1) (by omega)]
  exact h
theorem TuneV.fr {σ σ' : ZS} {u n lo hi : Nat} {F G : Nat → Nat} (h : TuneV σ u n F G) (hf : Fr σ σ' lo hi) (hd : u + 3 ≤ lo ∨ hi ≤ u) : TuneV σ' u n F G := by
  have e := hf.2.2.1
  unfold TuneV
  rw [e u (by omega), e (u + 1) (by omega), e (u + 2) (by omega)]
  exact h
def w_X10_doorAt : WPt := fun args σ Q => match args with
  | [.ref w, .int p] => ∃ n f, WalkS σ w ∧ WalkV σ w n f ∧ (∀ k, k < n → p = nI k → Q (some (.int (nI (f k)))) σ) ∧ (¬ (0 ≤ p ∧ p < nI n) → Q (some (.int (-9))) σ)
  | _ => False
theorem m_X10_doorAt : Meets yX10_doorAt cX10_doorAt 2 (some .int) 1 w_X10_doorAt := by
  refine Meets.mk (by decide) fun args σ Φ h => ?_
  unfold w_X10_doorAt at h
  split at h
  rotate_left
  · exact h.elim
  rename_i w p
  obtain ⟨w, rfl⟩ : ∃ q : Nat, q = w := ⟨w, rfl⟩
  obtain ⟨n, f, ⟨s1, s2, s3⟩, ⟨v1, v2, v3⟩, hQ1, hQ2⟩ := h
  refine ⟨Nat.le_of_ble_eq_true rfl, fun C hC hR => ?_⟩
  refine r_X10_doorAt_0 hC hR _ _ _ ?_
  simp only [T_X10_doorAt_0, x_psh, x_ild, x_lld, x_ald, x_ist, x_ast, x_lst, x_inc, x_iadd, x_isub, x_imul, x_iand, x_ior, x_ixor, x_ishl, x_ishr, x_iushr, x_idiv, x_irem, x_ladd, x_land, x_lor, x_lshl, x_lshr, x_ineg, x_i2l, x_l2i, x_i2b, x_lcmp, x_dup, x_dup2, x_if_eq, x_if_ne, x_if_lt, x_if_ge, x_if_gt, x_if_le, x_ic_eq, x_ic_ne, x_ic_lt, x_ic_ge, x_ic_gt, x_ic_le, x_getI, x_getR, x_putI, x_putZ, x_putR, x_iald, x_bald, x_lald, x_iast, x_bast, x_last, x_alen, x_acp, x_mmax, x_mmin, x_callV, x_callS, x_iret, x_zret, x_lret, x_aret, x_vret, x_tsw, x_stop, zst1, zst2, zkill, zkl, zsplit, zmask, zent, zentL, List.getElem?_cons_zero, List.getElem?_cons_succ, List.set_cons_zero, List.set_cons_succ, List.set_nil, List.length_cons, List.length_nil, List.replicate, List.nil_append, List.cons_append, List.map_cons, List.map_nil, List.sum_cons, List.sum_nil, Value.category, Option.toList, List.contains_cons, List.contains_nil, true_or, or_true, true_and, Nat.zero_le, Nat.reduceAdd, Nat.reduceLeDiff, Nat.reduceLT, Nat.reduceBEq, Bool.true_or, Bool.or_true, Bool.false_or, Bool.or_false, ↓reduceIte, Bool.false_eq_true, Nat.add_zero, Nat.zero_add, Nat.reduceEqDiff, Nat.reduceSub, s1, v1, s3]
  refine ⟨fun q => hQ2 fun q2 => absurd q (Int32.not_lt.mpr q2.1), fun q => ⟨fun q1 => hQ2 fun q2 => absurd q2.2 (Int32.not_lt.mpr q1), fun q1 => ?_⟩⟩
  obtain ⟨k, hk, rfl⟩ := z_ge0 p q
  have hk2 : k < n := by
    rcases Nat.lt_or_ge k n with h | h
    · exact h
    · exact absurd (nI_le h (by omega)) q1
  refine ⟨by omega, 24, s2, vp_in_nI (by omega) (by omega), ?_⟩
  rw [nI_clamp (by omega), (v3 k hk2).1]
  exact hQ1 k hk2 rfl
def w_X10_add : WPt := fun args σ Q => match args with
  | [.ref w, .int p] => ∃ n f k, WalkS σ w ∧ WalkV σ w n f ∧ n < 24 ∧ p = nI k ∧ k < 12 ∧ ∀ σ', Fr σ σ' w (w + 2) → WalkV σ' w (n + 1) (va_up f n k) → Q none σ'
  | _ => False
theorem m_X10_add : Meets yX10_add cX10_add 2 none 1 w_X10_add := by
  refine Meets.mk (by decide) fun args σ Φ h => ?_
  unfold w_X10_add at h
  split at h
  rotate_left
  · exact h.elim
  rename_i w p
  obtain ⟨w, rfl⟩ : ∃ q : Nat, q = w := ⟨w, rfl⟩
  obtain ⟨n, f, k, ⟨s1, s2, s3⟩, ⟨v1, v2, v3⟩, hn, rfl, hk, hQ⟩ := h
  refine ⟨Nat.le_of_ble_eq_true rfl, fun C hC hR => ?_⟩
  refine r_X10_add_0 hC hR _ _ _ ?_
  simp only [T_X10_add_0, x_psh, x_ild, x_lld, x_ald, x_ist, x_ast, x_lst, x_inc, x_iadd, x_isub, x_imul, x_iand, x_ior, x_ixor, x_ishl, x_ishr, x_iushr, x_idiv, x_irem, x_ladd, x_land, x_lor, x_lshl, x_lshr, x_ineg, x_i2l, x_l2i, x_i2b, x_lcmp, x_dup, x_dup2, x_if_eq, x_if_ne, x_if_lt, x_if_ge, x_if_gt, x_if_le, x_ic_eq, x_ic_ne, x_ic_lt, x_ic_ge, x_ic_gt, x_ic_le, x_getI, x_getR, x_putI, x_putZ, x_putR, x_iald, x_bald, x_lald, x_iast, x_bast, x_last, x_alen, x_acp, x_mmax, x_mmin, x_callV, x_callS, x_iret, x_zret, x_lret, x_aret, x_vret, x_tsw, x_stop, zst1, zst2, zkill, zkl, zsplit, zmask, zent, zentL, List.getElem?_cons_zero, List.getElem?_cons_succ, List.set_cons_zero, List.set_cons_succ, List.set_nil, List.length_cons, List.length_nil, List.replicate, List.nil_append, List.cons_append, List.map_cons, List.map_nil, List.sum_cons, List.sum_nil, Value.category, Option.toList, List.contains_cons, List.contains_nil, true_or, or_true, true_and, Nat.zero_le, Nat.reduceAdd, Nat.reduceLeDiff, Nat.reduceLT, Nat.reduceBEq, Bool.true_or, Bool.or_true, Bool.false_or, Bool.or_false, ↓reduceIte, Bool.false_eq_true, Nat.add_zero, Nat.zero_add, Nat.reduceEqDiff, Nat.reduceSub, s1, s3, zd_sI, zR_sI]
  have d1 : ¬ w = w + 1 := by omega
  simp only [zI_sI, if_neg d1, v1, nI_clamp (show n < 2 ^ 31 by omega)]
  refine ⟨fun q => absurd q (by rw [z_l24]; exact nI_ge hn (by omega)), fun _ => ⟨by omega, 24, s2, vp_in_nI hn (by omega), hQ _ (((Fr.refl σ _ _).sI (by omega) (by omega)).sI (by omega) (by omega)) ⟨?_, by omega, fun j hj => ?_⟩⟩⟩
  · simp [zI_sI, upd]; exact nI_1 _
  · by_cases e : j = n
    · subst e; simp [zI_sI, upd, va_up, hk]
    · have := v3 j (by omega)
      simp [zI_sI, upd, va_up, e, this.1, this.2]
def w_X10_copyFrom : WPt := fun args σ Q => match args with
  | [.ref w, .ref v] => ∃ n f, WalkS σ w ∧ WalkS σ v ∧ WalkV σ v n f ∧ apart5 w v ∧ ∀ σ', Fr σ σ' w (w + 2) → WalkV σ' w n f → Q none σ'
  | _ => False
theorem m_X10_copyFrom : Meets yX10_copyFrom cX10_copyFrom 2 none 1 w_X10_copyFrom := by
  refine Meets.mk (by decide) fun args σ Φ h => ?_
  unfold w_X10_copyFrom at h
  split at h
  rotate_left
  · exact h.elim
  rename_i w v
  obtain ⟨w, rfl⟩ : ∃ q : Nat, q = w := ⟨w, rfl⟩
  obtain ⟨v, rfl⟩ : ∃ q : Nat, q = v := ⟨v, rfl⟩
  obtain ⟨n, f, ⟨s1, s2, s3⟩, ⟨q1, q2, q3⟩, ⟨v1, v2, v3⟩, hap, hQ⟩ := h
  unfold apart5 at hap
  refine ⟨Nat.le_of_ble_eq_true rfl, fun C hC hR => ?_⟩
  refine r_X10_copyFrom_0 hC hR (by decide) _ _ _ ?_
  simp only [T_X10_copyFrom_0, x_psh, x_ild, x_lld, x_ald, x_ist, x_ast, x_lst, x_inc, x_iadd, x_isub, x_imul, x_iand, x_ior, x_ixor, x_ishl, x_ishr, x_iushr, x_idiv, x_irem, x_ladd, x_land, x_lor, x_lshl, x_lshr, x_ineg, x_i2l, x_l2i, x_i2b, x_lcmp, x_dup, x_dup2, x_if_eq, x_if_ne, x_if_lt, x_if_ge, x_if_gt, x_if_le, x_ic_eq, x_ic_ne, x_ic_lt, x_ic_ge, x_ic_gt, x_ic_le, x_getI, x_getR, x_putI, x_putZ, x_putR, x_iald, x_bald, x_lald, x_iast, x_bast, x_last, x_alen, x_acp, x_mmax, x_mmin, x_callV, x_callS, x_iret, x_zret, x_lret, x_aret, x_vret, x_tsw, x_stop, zst1, zst2, zkill, zkl, zsplit, zmask, zent, zentL, List.getElem?_cons_zero, List.getElem?_cons_succ, List.set_cons_zero, List.set_cons_succ, List.set_nil, List.length_cons, List.length_nil, List.replicate, List.nil_append, List.cons_append, List.map_cons, List.map_nil, List.sum_cons, List.sum_nil, Value.category, Option.toList, List.contains_cons, List.contains_nil, true_or, or_true, true_and, Nat.zero_le, Nat.reduceAdd, Nat.reduceLeDiff, Nat.reduceLT, Nat.reduceBEq, Bool.true_or, Bool.or_true, Bool.false_or, Bool.or_false, ↓reduceIte, Bool.false_eq_true, Nat.add_zero, Nat.zero_add, Nat.reduceEqDiff, Nat.reduceSub, s1, s3, q1, q3, s2, q2, zd_sI, zR_sI]
  refine ⟨by omega, by omega, 24, 24, rfl, rfl, by decide, by decide, by decide, by decide, by decide, hQ _ (((Fr.refl σ _ _).sI (by omega) (by omega)).sIr (by omega) (by omega)) ⟨?_, v2, fun j hj => ?_⟩⟩
  · have : ¬ w = w + 1 := by omega
    simp [zI_sI, zI_sIr, upd, v1]
  · have h1 : ¬ v + 1 = w := by omega
    have n0 : (0 : Int32).toNatClampNeg = 0 := rfl
    have n24 : (24 : Int32).toNatClampNeg = 24 := rfl
    have := v3 j hj
    simp [zI_sI, zI_sIr, h1, va_cpy, n0, n24, show j < 24 by omega, this.1, this.2]
def w_X0_add : WPt := fun args σ Q => match args with
  | [.ref w, .int p] => ∃ n f k, EarS σ w ∧ EarV σ w n f ∧ n < 12 ∧ p = nI k ∧ k ≤ 8 ∧ ∀ σ', Fr σ σ' w (w + 2) → EarV σ' w (n + 1) (va_up f n k) → Q none σ'
  | _ => False
theorem m_X0_add : Meets yX0_add cX0_add 2 none 1 w_X0_add := by
  refine Meets.mk (by decide) fun args σ Φ h => ?_
  unfold w_X0_add at h
  split at h
  rotate_left
  · exact h.elim
  rename_i w p
  obtain ⟨w, rfl⟩ : ∃ q : Nat, q = w := ⟨w, rfl⟩
  obtain ⟨n, f, k, ⟨s1, s2, s3⟩, ⟨v1, v2, v3⟩, hn, rfl, hk, hQ⟩ := h
  refine ⟨Nat.le_of_ble_eq_true rfl, fun C hC hR => ?_⟩
  refine r_X0_add_0 hC hR _ _ _ ?_
  simp only [T_X0_add_0, x_psh, x_ild, x_lld, x_ald, x_ist, x_ast, x_lst, x_inc, x_iadd, x_isub, x_imul, x_iand, x_ior, x_ixor, x_ishl, x_ishr, x_iushr, x_idiv, x_irem, x_ladd, x_land, x_lor, x_lshl, x_lshr, x_ineg, x_i2l, x_l2i, x_i2b, x_lcmp, x_dup, x_dup2, x_if_eq, x_if_ne, x_if_lt, x_if_ge, x_if_gt, x_if_le, x_ic_eq, x_ic_ne, x_ic_lt, x_ic_ge, x_ic_gt, x_ic_le, x_getI, x_getR, x_putI, x_putZ, x_putR, x_iald, x_bald, x_lald, x_iast, x_bast, x_last, x_alen, x_acp, x_mmax, x_mmin, x_callV, x_callS, x_iret, x_zret, x_lret, x_aret, x_vret, x_tsw, x_stop, zst1, zst2, zkill, zkl, zsplit, zmask, zent, zentL, List.getElem?_cons_zero, List.getElem?_cons_succ, List.set_cons_zero, List.set_cons_succ, List.set_nil, List.length_cons, List.length_nil, List.replicate, List.nil_append, List.cons_append, List.map_cons, List.map_nil, List.sum_cons, List.sum_nil, Value.category, Option.toList, List.contains_cons, List.contains_nil, true_or, or_true, true_and, Nat.zero_le, Nat.reduceAdd, Nat.reduceLeDiff, Nat.reduceLT, Nat.reduceBEq, Bool.true_or, Bool.or_true, Bool.false_or, Bool.or_false, ↓reduceIte, Bool.false_eq_true, Nat.add_zero, Nat.zero_add, Nat.reduceEqDiff, Nat.reduceSub, s1, s3, zd_sI, zR_sI]
  have d1 : ¬ w = w + 1 := by omega
  simp only [zI_sI, if_neg d1, v1, nI_clamp (show n < 2 ^ 31 by omega)]
  refine ⟨fun q => absurd q (by rw [z_l12]; exact nI_ge hn (by omega)), fun _ => ⟨by omega, 12, s2, vp_in_nI hn (by omega), hQ _ (((Fr.refl σ _ _).sI (by omega) (by omega)).sI (by omega) (by omega)) ⟨?_, by omega, fun j hj => ?_⟩⟩⟩
  · simp [zI_sI, upd]; exact nI_1 _
  · by_cases e : j = n
    · subst e; simp [zI_sI, upd, va_up, hk]
    · have := v3 j (by omega)
      simp [zI_sI, upd, va_up, e, this.1, this.2]
def w_X0_copyFrom : WPt := fun args σ Q => match args with
  | [.ref w, .ref v] => ∃ n f, EarS σ w ∧ EarS σ v ∧ EarV σ v n f ∧ apart5 w v ∧ ∀ σ', Fr σ σ' w (w + 2) → EarV σ' w n f → Q none σ'
  | _ => False
theorem m_X0_copyFrom : Meets yX0_copyFrom cX0_copyFrom 2 none 1 w_X0_copyFrom := by
  refine Meets.mk (by decide) fun args σ Φ h => ?_
  unfold w_X0_copyFrom at h
  split at h
  rotate_left
  · exact h.elim
  rename_i w v
  obtain ⟨w, rfl⟩ : ∃ q : Nat, q = w := ⟨w, rfl⟩
  obtain ⟨v, rfl⟩ : ∃ q : Nat, q = v := ⟨v, rfl⟩
  obtain ⟨n, f, ⟨s1, s2, s3⟩, ⟨q1, q2, q3⟩, ⟨v1, v2, v3⟩, hap, hQ⟩ := h
  unfold apart5 at hap
  refine ⟨Nat.le_of_ble_eq_true rfl, fun C hC hR => ?_⟩
  refine r_X0_copyFrom_0 hC hR (by decide) _ _ _ ?_
  simp only [T_X0_copyFrom_0, x_psh, x_ild, x_lld, x_ald, x_ist, x_ast, x_lst, x_inc, x_iadd, x_isub, x_imul, x_iand, x_ior, x_ixor, x_ishl, x_ishr, x_iushr, x_idiv, x_irem, x_ladd, x_land, x_lor, x_lshl, x_lshr, x_ineg, x_i2l, x_l2i, x_i2b, x_lcmp, x_dup, x_dup2, x_if_eq, x_if_ne, x_if_lt, x_if_ge, x_if_gt, x_if_le, x_ic_eq, x_ic_ne, x_ic_lt, x_ic_ge, x_ic_gt, x_ic_le, x_getI, x_getR, x_putI, x_putZ, x_putR, x_iald, x_bald, x_lald, x_iast, x_bast, x_last, x_alen, x_acp, x_mmax, x_mmin, x_callV, x_callS, x_iret, x_zret, x_lret, x_aret, x_vret, x_tsw, x_stop, zst1, zst2, zkill, zkl, zsplit, zmask, zent, zentL, List.getElem?_cons_zero, List.getElem?_cons_succ, List.set_cons_zero, List.set_cons_succ, List.set_nil, List.length_cons, List.length_nil, List.replicate, List.nil_append, List.cons_append, List.map_cons, List.map_nil, List.sum_cons, List.sum_nil, Value.category, Option.toList, List.contains_cons, List.contains_nil, true_or, or_true, true_and, Nat.zero_le, Nat.reduceAdd, Nat.reduceLeDiff, Nat.reduceLT, Nat.reduceBEq, Bool.true_or, Bool.or_true, Bool.false_or, Bool.or_false, ↓reduceIte, Bool.false_eq_true, Nat.add_zero, Nat.zero_add, Nat.reduceEqDiff, Nat.reduceSub, s1, s3, q1, q3, s2, q2, zd_sI, zR_sI]
  refine ⟨by omega, by omega, 12, 12, rfl, rfl, by decide, by decide, by decide, by decide, by decide, hQ _ (((Fr.refl σ _ _).sI (by omega) (by omega)).sIr (by omega) (by omega)) ⟨?_, v2, fun j hj => ?_⟩⟩
  · simp [zI_sI, zI_sIr, upd, v1]
  · have h1 : ¬ v + 1 = w := by omega
    have n0 : (0 : Int32).toNatClampNeg = 0 := rfl
    have n12 : (12 : Int32).toNatClampNeg = 12 := rfl
    have := v3 j hj
    simp [zI_sI, zI_sIr, h1, va_cpy, n0, n12, show j < 12 by omega, this.1, this.2]
/-! the tune -/
theorem sndS_lt (T : TD) (a : Nat) : sndS T a < 2 ^ tD T := stS_lt _
def hshS (T : TD) (a : Nat) : Nat := if a = 8 then 0 else 2 ^ tD T - 1
def apTU (u t : Nat) : Prop := u + 4 ≤ t ∨ t + 5 ≤ u
def w_X9_take : WPt := fun args σ Q => match args with
  | [.ref u, .ref t, .int p, .int g] => ∃ T k a, TuneS σ u ∧ TownR σ t T ∧ p = nI k ∧ k < 12 ∧ g = nI a ∧ a ≤ 8 ∧ apTU u t ∧ Q none (sI (sI σ (u + 1) k (nI (sndS T a))) (u + 2) k (nI (hshS T a)))
  | _ => False
theorem m_X9_take : Meets yX9_take cX9_take 4 none 4 w_X9_take := by
  refine Meets.mk (by decide) fun args σ Φ h => ?_
  unfold w_X9_take at h
  split at h
  rotate_left
  · exact h.elim
  rename_i u t p g
  obtain ⟨u, rfl⟩ : ∃ q : Nat, q = u := ⟨u, rfl⟩
  obtain ⟨t, rfl⟩ : ∃ q : Nat, q = t := ⟨t, rfl⟩
  obtain ⟨T, k, a, ⟨s1, s2, s3, s4, s5, s6, s7⟩, hT, rfl, hk, rfl, ha, hap, hQ⟩ := h
  unfold apTU at hap
  refine ⟨Nat.le_of_ble_eq_true rfl, fun C hC hR => ?_⟩
  refine r_X9_take_0 hC hR m_X8_doorsThatSound (by decide) m_X8_allDoors (by decide) _ _ _ ?_
  simp only [T_X9_take_0, x_psh, x_ild, x_lld, x_ald, x_ist, x_ast, x_lst, x_inc, x_iadd, x_isub, x_imul, x_iand, x_ior, x_ixor, x_ishl, x_ishr, x_iushr, x_idiv, x_irem, x_ladd, x_land, x_lor, x_lshl, x_lshr, x_ineg, x_i2l, x_l2i, x_i2b, x_lcmp, x_dup, x_dup2, x_if_eq, x_if_ne, x_if_lt, x_if_ge, x_if_gt, x_if_le, x_ic_eq, x_ic_ne, x_ic_lt, x_ic_ge, x_ic_gt, x_ic_le, x_getI, x_getR, x_putI, x_putZ, x_putR, x_iald, x_bald, x_lald, x_iast, x_bast, x_last, x_alen, x_acp, x_mmax, x_mmin, x_callV, x_callS, x_iret, x_zret, x_lret, x_aret, x_vret, x_tsw, x_stop, zst1, zst2, zkill, zkl, zsplit, zmask, zent, zentL, List.getElem?_cons_zero, List.getElem?_cons_succ, List.set_cons_zero, List.set_cons_succ, List.set_nil, List.length_cons, List.length_nil, List.replicate, List.nil_append, List.cons_append, List.map_cons, List.map_nil, List.sum_cons, List.sum_nil, Value.category, Option.toList, List.contains_cons, List.contains_nil, true_or, or_true, true_and, Nat.zero_le, Nat.reduceAdd, Nat.reduceLeDiff, Nat.reduceLT, Nat.reduceBEq, Bool.true_or, Bool.or_true, Bool.false_or, Bool.or_false, ↓reduceIte, Bool.false_eq_true, Nat.add_zero, Nat.zero_add, Nat.reduceEqDiff, Nat.reduceSub, s1, s5, w_X8_doorsThatSound, w_X8_allDoors, zR_sI, zd_sI, s6]
  have hT1 := hT.1.1
  refine ⟨by omega, hT1, T, a, hT, rfl, ha, 12, s2, vp_in_nI hk (by omega), by omega, ?_⟩
  rw [nI_clamp (by omega), z_l8, nI_eq (by omega) (by omega)]
  refine ⟨fun q => ⟨hT1, tD T, hT1, ?_, hT.2.2.2.1, 12, s3, vp_in_nI hk (by omega), ?_⟩, fun q => ⟨12, s3, vp_in_nI hk (by omega), ?_⟩⟩
  · rw [zI_sI, if_neg (by omega)]; exact hT.2.1
  · rw [show hshS T a = 2 ^ tD T - 1 from if_neg q] at hQ; exact hQ
  · rw [show hshS T a = 0 from if_pos q] at hQ; exact hQ
def w_X9_fitsAt : WPt := fun args σ Q => match args with
  | [.ref u, .int p] => ∃ n F G, TuneS σ u ∧ TuneV σ u n F G ∧ (∀ k, k < n → p = nI k → Q (some (.int (nI (F k)))) σ) ∧ (¬ (0 ≤ p ∧ p < nI n) → Q (some (.int (nI 0))) σ)
  | _ => False
theorem m_X9_fitsAt : Meets yX9_fitsAt cX9_fitsAt 2 (some .int) 1 w_X9_fitsAt := by
  refine Meets.mk (by decide) fun args σ Φ h => ?_
  unfold w_X9_fitsAt at h
  split at h
  rotate_left
  · exact h.elim
  rename_i u p
  obtain ⟨u, rfl⟩ : ∃ q : Nat, q = u := ⟨u, rfl⟩
  obtain ⟨n, F, G, ⟨s1, s2, s3, s4, s5, s6, s7⟩, ⟨v1, v2, v3⟩, hQ1, hQ2⟩ := h
  refine ⟨Nat.le_of_ble_eq_true rfl, fun C hC hR => ?_⟩
  refine r_X9_fitsAt_0 hC hR _ _ _ ?_
  simp only [T_X9_fitsAt_0, x_psh, x_ild, x_lld, x_ald, x_ist, x_ast, x_lst, x_inc, x_iadd, x_isub, x_imul, x_iand, x_ior, x_ixor, x_ishl, x_ishr, x_iushr, x_idiv, x_irem, x_ladd, x_land, x_lor, x_lshl, x_lshr, x_ineg, x_i2l, x_l2i, x_i2b, x_lcmp, x_dup, x_dup2, x_if_eq, x_if_ne, x_if_lt, x_if_ge, x_if_gt, x_if_le, x_ic_eq, x_ic_ne, x_ic_lt, x_ic_ge, x_ic_gt, x_ic_le, x_getI, x_getR, x_putI, x_putZ, x_putR, x_iald, x_bald, x_lald, x_iast, x_bast, x_last, x_alen, x_acp, x_mmax, x_mmin, x_callV, x_callS, x_iret, x_zret, x_lret, x_aret, x_vret, x_tsw, x_stop, zst1, zst2, zkill, zkl, zsplit, zmask, zent, zentL, List.getElem?_cons_zero, List.getElem?_cons_succ, List.set_cons_zero, List.set_cons_succ, List.set_nil, List.length_cons, List.length_nil, List.replicate, List.nil_append, List.cons_append, List.map_cons, List.map_nil, List.sum_cons, List.sum_nil, Value.category, Option.toList, List.contains_cons, List.contains_nil, true_or, or_true, true_and, Nat.zero_le, Nat.reduceAdd, Nat.reduceLeDiff, Nat.reduceLT, Nat.reduceBEq, Bool.true_or, Bool.or_true, Bool.false_or, Bool.or_false, ↓reduceIte, Bool.false_eq_true, Nat.add_zero, Nat.zero_add, Nat.reduceEqDiff, Nat.reduceSub, s1, v1, s5]
  refine ⟨fun q => hQ2 fun q2 => absurd q (Int32.not_lt.mpr q2.1), fun q => ⟨fun q1 => hQ2 fun q2 => absurd q2.2 (Int32.not_lt.mpr q1), fun q1 => ?_⟩⟩
  obtain ⟨k, hk, rfl⟩ := z_ge0 p q
  have hk2 : k < n := by
    rcases Nat.lt_or_ge k n with h | h
    · exact h
    · exact absurd (nI_le h (by omega)) q1
  refine ⟨fun q2 => absurd q2 (by rw [z_l12]; exact nI_ge (by omega) (by omega)), fun _ => ⟨by omega, 12, s2, vp_in_nI (by omega) (by omega), ?_⟩⟩
  rw [nI_clamp (by omega), (v3 k hk2).1]
  exact hQ1 k hk2 rfl

theorem nI_i3 (k : Nat) : nI k + 1 = nI (k + 1) := nI_1 k
theorem not_lt_pos {p : Nat} {n : Nat} (hn : n < 2 ^ 31) (hp : p < n) : 0 ≤ nI p ∧ nI p < nI n := ⟨nI_pos' (by omega), nI_lt hp hn⟩
def w_X9_takeSong : WPt := fun args σ Q => match args with
  | [.ref u, .ref t, .int s] => ∃ T k, TuneS σ u ∧ TownR σ t T ∧ s = nI k ∧ k < tS T ∧ apTU u t ∧ ∀ σ', Fr σ σ' u (u + 3) → TuneV σ' u (tL T k) (fun i => sndS T (tG T (6 * k + i))) (fun i => hshS T (tG T (6 * k + i))) → Q none σ'
  | _ => False
theorem m_X9_takeSong : Meets yX9_takeSong cX9_takeSong 4 none 5 w_X9_takeSong := by
  refine Meets.mk (by decide) fun args σ Φ h => ?_
  unfold w_X9_takeSong at h
  split at h
  rotate_left
  · exact h.elim
  rename_i u t s
  obtain ⟨u, rfl⟩ : ∃ q : Nat, q = u := ⟨u, rfl⟩
  obtain ⟨t, rfl⟩ : ∃ q : Nat, q = t := ⟨t, rfl⟩
  obtain ⟨T, k, hu, hT, rfl, hk, hap, hQ⟩ := h
  have hap2 := hap
  unfold apTU at hap
  refine ⟨Nat.le_of_ble_eq_true rfl, fun C hC hR => ?_⟩
  have hL := (hT.2.2.2.2.2.2.2.1 k hk).2
  have hp := hT.d31
  refine r_X9_takeSong_0 hC hR m_X8_lengthOf (by decide) m_X8_signOf (by decide) m_X9_take (by decide) _ _ _ ?_
  simp only [T_X9_takeSong_0, x_psh, x_ild, x_lld, x_ald, x_ist, x_ast, x_lst, x_inc, x_iadd, x_isub, x_imul, x_iand, x_ior, x_ixor, x_ishl, x_ishr, x_iushr, x_idiv, x_irem, x_ladd, x_land, x_lor, x_lshl, x_lshr, x_ineg, x_i2l, x_l2i, x_i2b, x_lcmp, x_dup, x_dup2, x_if_eq, x_if_ne, x_if_lt, x_if_ge, x_if_gt, x_if_le, x_ic_eq, x_ic_ne, x_ic_lt, x_ic_ge, x_ic_gt, x_ic_le, x_getI, x_getR, x_putI, x_putZ, x_putR, x_iald, x_bald, x_lald, x_iast, x_bast, x_last, x_alen, x_acp, x_mmax, x_mmin, x_callV, x_callS, x_iret, x_zret, x_lret, x_aret, x_vret, x_tsw, x_stop, zst1, zst2, zkill, zkl, zsplit, zmask, zent, zentL, List.getElem?_cons_zero, List.getElem?_cons_succ, List.set_cons_zero, List.set_cons_succ, List.set_nil, List.length_cons, List.length_nil, List.replicate, List.nil_append, List.cons_append, List.map_cons, List.map_nil, List.sum_cons, List.sum_nil, Value.category, Option.toList, List.contains_cons, List.contains_nil, true_or, or_true, true_and, Nat.zero_le, Nat.reduceAdd, Nat.reduceLeDiff, Nat.reduceLT, Nat.reduceBEq, Bool.true_or, Bool.or_true, Bool.false_or, Bool.or_false, ↓reduceIte, Bool.false_eq_true, Nat.add_zero, Nat.zero_add, Nat.reduceEqDiff, Nat.reduceSub, w_X8_lengthOf]
  refine ⟨hT.1.1, T, k, hT, rfl, hk, hu.1, ?_⟩
  have key := zloop (P := fun i => ∀ τ, Fr σ τ u (u + 3) → zI τ u 0 = nI (tL T k) → (∀ j, j < i → zI τ (u + 1) j = nI (sndS T (tG T (6 * k + j))) ∧ zI τ (u + 2) j = nI (hshS T (tG T (6 * k + j)))) → WW C 11 [some (.ref u), some (.ref t), some (.int (nI k)), some (.int (nI i))] [] τ) (tL T k) (fun i hi ih τ hf h0 hlo => ?_) ?_ 0 (by omega)
  · exact key _ ((Fr.refl σ _ _).sI (by omega) (by omega)) (by rw [zI_sI, if_pos rfl, pk_us]) (fun j hj => absurd hj (Nat.not_lt_zero j))
  · have hT' : TownR τ t T := hT.fr hf (by omega)
    have hu' : TuneS τ u := hu.of hf.1 hf.2.1
    have hg := (hT.2.2.2.2.2.2.2.2 k i hk hi).2
    refine r_X9_takeSong_11 hC hR m_X8_lengthOf (by decide) m_X8_signOf (by decide) m_X9_take (by decide) _ _ _ ?_
    simp only [T_X9_takeSong_11, x_psh, x_ild, x_lld, x_ald, x_ist, x_ast, x_lst, x_inc, x_iadd, x_isub, x_imul, x_iand, x_ior, x_ixor, x_ishl, x_ishr, x_iushr, x_idiv, x_irem, x_ladd, x_land, x_lor, x_lshl, x_lshr, x_ineg, x_i2l, x_l2i, x_i2b, x_lcmp, x_dup, x_dup2, x_if_eq, x_if_ne, x_if_lt, x_if_ge, x_if_gt, x_if_le, x_ic_eq, x_ic_ne, x_ic_lt, x_ic_ge, x_ic_gt, x_ic_le, x_getI, x_getR, x_putI, x_putZ, x_putR, x_iald, x_bald, x_lald, x_iast, x_bast, x_last, x_alen, x_acp, x_mmax, x_mmin, x_callV, x_callS, x_iret, x_zret, x_lret, x_aret, x_vret, x_tsw, x_stop, zst1, zst2, zkill, zkl, zsplit, zmask, zent, zentL, List.getElem?_cons_zero, List.getElem?_cons_succ, List.set_cons_zero, List.set_cons_succ, List.set_nil, List.length_cons, List.length_nil, List.replicate, List.nil_append, List.cons_append, List.map_cons, List.map_nil, List.sum_cons, List.sum_nil, Value.category, Option.toList, List.contains_cons, List.contains_nil, true_or, or_true, true_and, Nat.zero_le, Nat.reduceAdd, Nat.reduceLeDiff, Nat.reduceLT, Nat.reduceBEq, Bool.true_or, Bool.or_true, Bool.false_or, Bool.or_false, ↓reduceIte, Bool.false_eq_true, Nat.add_zero, Nat.zero_add, Nat.reduceEqDiff, Nat.reduceSub, w_X8_signOf, w_X9_take, h0]
    refine ⟨hu'.1, fun q => absurd q (nI_ge hi (by omega)), fun _ => ⟨fun q => absurd q (by rw [z_l12]; exact nI_ge (by omega) (by omega)), fun _ => ⟨hT'.1.1, T, k, hT', rfl, hk, fun j hj e => ?_, fun q => absurd (not_lt_pos (by omega) hi) q⟩⟩⟩
    have e2 : i = j := (nI_eq (by omega) (by omega)).mp e
    subst e2
    refine ⟨hu'.1, T, i, tG T (6 * k + i), hu', hT', rfl, by omega, rfl, hg, hap2, ?_⟩
    rw [nI_i3]
    refine ih _ ((hf.sI (by omega) (by omega)).sI (by omega) (by omega)) ?_ (fun j hj => ?_)
    · rw [zI_sI, if_neg (by omega), zI_sI, if_neg (by omega)]; exact h0
    · by_cases e : j = i
      · subst e
        simp [zI_sI, upd]
      · have := hlo j (by omega)
        simp [zI_sI, upd, e, this.1, this.2]
  · intro τ hf h0 hlo
    have hu' : TuneS τ u := hu.of hf.1 hf.2.1
    refine r_X9_takeSong_11 hC hR m_X8_lengthOf (by decide) m_X8_signOf (by decide) m_X9_take (by decide) _ _ _ ?_
    simp only [T_X9_takeSong_11, x_psh, x_ild, x_lld, x_ald, x_ist, x_ast, x_lst, x_inc, x_iadd, x_isub, x_imul, x_iand, x_ior, x_ixor, x_ishl, x_ishr, x_iushr, x_idiv, x_irem, x_ladd, x_land, x_lor, x_lshl, x_lshr, x_ineg, x_i2l, x_l2i, x_i2b, x_lcmp, x_dup, x_dup2, x_if_eq, x_if_ne, x_if_lt, x_if_ge, x_if_gt, x_if_le, x_ic_eq, x_ic_ne, x_ic_lt, x_ic_ge, x_ic_gt, x_ic_le, x_getI, x_getR, x_putI, x_putZ, x_putR, x_iald, x_bald, x_lald, x_iast, x_bast, x_last, x_alen, x_acp, x_mmax, x_mmin, x_callV, x_callS, x_iret, x_zret, x_lret, x_aret, x_vret, x_tsw, x_stop, zst1, zst2, zkill, zkl, zsplit, zmask, zent, zentL, List.getElem?_cons_zero, List.getElem?_cons_succ, List.set_cons_zero, List.set_cons_succ, List.set_nil, List.length_cons, List.length_nil, List.replicate, List.nil_append, List.cons_append, List.map_cons, List.map_nil, List.sum_cons, List.sum_nil, Value.category, Option.toList, List.contains_cons, List.contains_nil, true_or, or_true, true_and, Nat.zero_le, Nat.reduceAdd, Nat.reduceLeDiff, Nat.reduceLT, Nat.reduceBEq, Bool.true_or, Bool.or_true, Bool.false_or, Bool.or_false, ↓reduceIte, Bool.false_eq_true, Nat.add_zero, Nat.zero_add, Nat.reduceEqDiff, Nat.reduceSub, h0]
    refine ⟨hu'.1, fun _ => hQ τ hf ⟨h0, by omega, fun j hj => ⟨(hlo j hj).1, ?_, (hlo j hj).2, ?_⟩⟩, fun q => absurd (nI_le (Nat.le_refl _) (by omega)) q⟩
    · exact Nat.lt_of_lt_of_le (sndS_lt T _) hp
    · show hshS T _ < 4096
      unfold hshS
      split <;> omega
def w_X9_takeHeard : WPt := fun args σ Q => match args with
  | [.ref u, .ref t, .ref e] => ∃ T n g, TuneS σ u ∧ TownR σ t T ∧ EarS σ e ∧ EarV σ e n g ∧ apTU u t ∧ apTU u e ∧ ∀ σ', Fr σ σ' u (u + 3) → TuneV σ' u n (fun i => sndS T (g i)) (fun i => hshS T (g i)) → Q none σ'
  | _ => False
theorem m_X9_takeHeard : Meets yX9_takeHeard cX9_takeHeard 4 none 5 w_X9_takeHeard := by
  refine Meets.mk (by decide) fun args σ Φ h => ?_
  unfold w_X9_takeHeard at h
  split at h
  rotate_left
  · exact h.elim
  rename_i u t e
  obtain ⟨u, rfl⟩ : ∃ q : Nat, q = u := ⟨u, rfl⟩
  obtain ⟨t, rfl⟩ : ∃ q : Nat, q = t := ⟨t, rfl⟩
  obtain ⟨e, rfl⟩ : ∃ q : Nat, q = e := ⟨e, rfl⟩
  obtain ⟨T, n, g, hu, hT, he, hv, hap, hap3, hQ⟩ := h
  have hap2 := hap
  unfold apTU at hap hap3
  refine ⟨Nat.le_of_ble_eq_true rfl, fun C hC hR => ?_⟩
  have hn := hv.2.1
  have hp := hT.d31
  refine r_X9_takeHeard_0 hC hR m_X9_take (by decide) _ _ _ ?_
  simp only [T_X9_takeHeard_0, x_psh, x_ild, x_lld, x_ald, x_ist, x_ast, x_lst, x_inc, x_iadd, x_isub, x_imul, x_iand, x_ior, x_ixor, x_ishl, x_ishr, x_iushr, x_idiv, x_irem, x_ladd, x_land, x_lor, x_lshl, x_lshr, x_ineg, x_i2l, x_l2i, x_i2b, x_lcmp, x_dup, x_dup2, x_if_eq, x_if_ne, x_if_lt, x_if_ge, x_if_gt, x_if_le, x_ic_eq, x_ic_ne, x_ic_lt, x_ic_ge, x_ic_gt, x_ic_le, x_getI, x_getR, x_putI, x_putZ, x_putR, x_iald, x_bald, x_lald, x_iast, x_bast, x_last, x_alen, x_acp, x_mmax, x_mmin, x_callV, x_callS, x_iret, x_zret, x_lret, x_aret, x_vret, x_tsw, x_stop, zst1, zst2, zkill, zkl, zsplit, zmask, zent, zentL, List.getElem?_cons_zero, List.getElem?_cons_succ, List.set_cons_zero, List.set_cons_succ, List.set_nil, List.length_cons, List.length_nil, List.replicate, List.nil_append, List.cons_append, List.map_cons, List.map_nil, List.sum_cons, List.sum_nil, Value.category, Option.toList, List.contains_cons, List.contains_nil, true_or, or_true, true_and, Nat.zero_le, Nat.reduceAdd, Nat.reduceLeDiff, Nat.reduceLT, Nat.reduceBEq, Bool.true_or, Bool.or_true, Bool.false_or, Bool.or_false, ↓reduceIte, Bool.false_eq_true, Nat.add_zero, Nat.zero_add, Nat.reduceEqDiff, Nat.reduceSub]
  refine ⟨he.1, hu.1, ?_⟩
  rw [hv.1]
  have key := zloop (P := fun i => ∀ τ, Fr σ τ u (u + 3) → zI τ u 0 = nI n → (∀ j, j < i → zI τ (u + 1) j = nI (sndS T (g j)) ∧ zI τ (u + 2) j = nI (hshS T (g j))) → WW C 10 [some (.ref u), some (.ref t), some (.ref e), some (.int (nI i))] [] τ) n (fun i hi ih τ hf h0 hlo => ?_) ?_ 0 (by omega)
  · exact key _ ((Fr.refl σ _ _).sI (by omega) (by omega)) (by rw [zI_sI, if_pos rfl, pk_us]) (fun j hj => absurd hj (Nat.not_lt_zero j))
  · have hT' : TownR τ t T := hT.fr hf (by omega)
    have hu' : TuneS τ u := hu.of hf.1 hf.2.1
    have he' : EarS τ e := he.of hf.1 hf.2.1
    have hv' : EarV τ e n g := hv.fr hf (by omega)
    have hg := hv.2.2 i hi
    have hr := he'.2.2
    refine r_X9_takeHeard_10 hC hR m_X9_take (by decide) _ _ _ ?_
    simp only [T_X9_takeHeard_10, x_psh, x_ild, x_lld, x_ald, x_ist, x_ast, x_lst, x_inc, x_iadd, x_isub, x_imul, x_iand, x_ior, x_ixor, x_ishl, x_ishr, x_iushr, x_idiv, x_irem, x_ladd, x_land, x_lor, x_lshl, x_lshr, x_ineg, x_i2l, x_l2i, x_i2b, x_lcmp, x_dup, x_dup2, x_if_eq, x_if_ne, x_if_lt, x_if_ge, x_if_gt, x_if_le, x_ic_eq, x_ic_ne, x_ic_lt, x_ic_ge, x_ic_gt, x_ic_le, x_getI, x_getR, x_putI, x_putZ, x_putR, x_iald, x_bald, x_lald, x_iast, x_bast, x_last, x_alen, x_acp, x_mmax, x_mmin, x_callV, x_callS, x_iret, x_zret, x_lret, x_aret, x_vret, x_tsw, x_stop, zst1, zst2, zkill, zkl, zsplit, zmask, zent, zentL, List.getElem?_cons_zero, List.getElem?_cons_succ, List.set_cons_zero, List.set_cons_succ, List.set_nil, List.length_cons, List.length_nil, List.replicate, List.nil_append, List.cons_append, List.map_cons, List.map_nil, List.sum_cons, List.sum_nil, Value.category, Option.toList, List.contains_cons, List.contains_nil, true_or, or_true, true_and, Nat.zero_le, Nat.reduceAdd, Nat.reduceLeDiff, Nat.reduceLT, Nat.reduceBEq, Bool.true_or, Bool.or_true, Bool.false_or, Bool.or_false, ↓reduceIte, Bool.false_eq_true, Nat.add_zero, Nat.zero_add, Nat.reduceEqDiff, Nat.reduceSub, w_X9_take, h0, hr]
    refine ⟨hu'.1, fun q => absurd q (nI_ge hi (by omega)), fun _ => ⟨fun q => absurd q (by rw [z_l12]; exact nI_ge (by omega) (by omega)), fun _ => ⟨he'.1, by omega, 12, he'.2.1, vp_in_nI (by omega) (by omega), hu'.1, T, i, g i, hu', hT', rfl, by omega, by rw [nI_clamp (by omega)]; exact (hv'.2.2 i hi).1, hg.2, hap2, ?_⟩⟩⟩
    rw [nI_i3]
    refine ih _ ((hf.sI (by omega) (by omega)).sI (by omega) (by omega)) ?_ (fun j hj => ?_)
    · rw [zI_sI, if_neg (by omega), zI_sI, if_neg (by omega)]; exact h0
    · by_cases e : j = i
      · subst e
        simp [zI_sI, upd]
      · have := hlo j (by omega)
        simp [zI_sI, upd, e, this.1, this.2]
  · intro τ hf h0 hlo
    have hu' : TuneS τ u := hu.of hf.1 hf.2.1
    refine r_X9_takeHeard_10 hC hR m_X9_take (by decide) _ _ _ ?_
    simp only [T_X9_takeHeard_10, x_psh, x_ild, x_lld, x_ald, x_ist, x_ast, x_lst, x_inc, x_iadd, x_isub, x_imul, x_iand, x_ior, x_ixor, x_ishl, x_ishr, x_iushr, x_idiv, x_irem, x_ladd, x_land, x_lor, x_lshl, x_lshr, x_ineg, x_i2l, x_l2i, x_i2b, x_lcmp, x_dup, x_dup2, x_if_eq, x_if_ne, x_if_lt, x_if_ge, x_if_gt, x_if_le, x_ic_eq, x_ic_ne, x_ic_lt, x_ic_ge, x_ic_gt, x_ic_le, x_getI, x_getR, x_putI, x_putZ, x_putR, x_iald, x_bald, x_lald, x_iast, x_bast, x_last, x_alen, x_acp, x_mmax, x_mmin, x_callV, x_callS, x_iret, x_zret, x_lret, x_aret, x_vret, x_tsw, x_stop, zst1, zst2, zkill, zkl, zsplit, zmask, zent, zentL, List.getElem?_cons_zero, List.getElem?_cons_succ, List.set_cons_zero, List.set_cons_succ, List.set_nil, List.length_cons, List.length_nil, List.replicate, List.nil_append, List.cons_append, List.map_cons, List.map_nil, List.sum_cons, List.sum_nil, Value.category, Option.toList, List.contains_cons, List.contains_nil, true_or, or_true, true_and, Nat.zero_le, Nat.reduceAdd, Nat.reduceLeDiff, Nat.reduceLT, Nat.reduceBEq, Bool.true_or, Bool.or_true, Bool.false_or, Bool.or_false, ↓reduceIte, Bool.false_eq_true, Nat.add_zero, Nat.zero_add, Nat.reduceEqDiff, Nat.reduceSub, h0]
    refine ⟨hu'.1, fun _ => hQ τ hf ⟨h0, hn, fun j hj => ⟨(hlo j hj).1, ?_, (hlo j hj).2, ?_⟩⟩, fun q => absurd (nI_le (Nat.le_refl _) (by omega)) q⟩
    · exact Nat.lt_of_lt_of_le (sndS_lt T _) hp
    · show hshS T _ < 4096
      unfold hshS
      split <;> omega
def w_X9_takeAnthem : WPt := fun args σ Q => match args with
  | [.ref u, .ref t, .int s] => ∃ T k, TuneS σ u ∧ TownR σ t T ∧ s = nI k ∧ k < tS T ∧ 1 ≤ tL T k ∧ apTU u t ∧ ∀ σ', Fr σ σ' u (u + 3) → TuneV σ' u (tD T) (fun i => sndS T (tG T (6 * k + i % tL T k))) (fun i => hshS T (tG T (6 * k + i % tL T k))) → Q none σ'
  | _ => False
theorem m_X9_takeAnthem : Meets yX9_takeAnthem cX9_takeAnthem 5 none 5 w_X9_takeAnthem := by
  refine Meets.mk (by decide) fun args σ Φ h => ?_
  unfold w_X9_takeAnthem at h
  split at h
  rotate_left
  · exact h.elim
  rename_i u t s
  obtain ⟨u, rfl⟩ : ∃ q : Nat, q = u := ⟨u, rfl⟩
  obtain ⟨t, rfl⟩ : ∃ q : Nat, q = t := ⟨t, rfl⟩
  obtain ⟨T, k, hu, hT, rfl, hk, hL1, hap, hQ⟩ := h
  have hap2 := hap
  unfold apTU at hap
  refine ⟨Nat.le_of_ble_eq_true rfl, fun C hC hR => ?_⟩
  have hL := (hT.2.2.2.2.2.2.2.1 k hk).2
  have hp := hT.d31
  have hD := hT.2.2.2.1
  refine r_X9_takeAnthem_0 hC hR m_X8_lengthOf (by decide) m_X8_signOf (by decide) m_X9_take (by decide) _ _ _ ?_
  simp only [T_X9_takeAnthem_0, x_psh, x_ild, x_lld, x_ald, x_ist, x_ast, x_lst, x_inc, x_iadd, x_isub, x_imul, x_iand, x_ior, x_ixor, x_ishl, x_ishr, x_iushr, x_idiv, x_irem, x_ladd, x_land, x_lor, x_lshl, x_lshr, x_ineg, x_i2l, x_l2i, x_i2b, x_lcmp, x_dup, x_dup2, x_if_eq, x_if_ne, x_if_lt, x_if_ge, x_if_gt, x_if_le, x_ic_eq, x_ic_ne, x_ic_lt, x_ic_ge, x_ic_gt, x_ic_le, x_getI, x_getR, x_putI, x_putZ, x_putR, x_iald, x_bald, x_lald, x_iast, x_bast, x_last, x_alen, x_acp, x_mmax, x_mmin, x_callV, x_callS, x_iret, x_zret, x_lret, x_aret, x_vret, x_tsw, x_stop, zst1, zst2, zkill, zkl, zsplit, zmask, zent, zentL, List.getElem?_cons_zero, List.getElem?_cons_succ, List.set_cons_zero, List.set_cons_succ, List.set_nil, List.length_cons, List.length_nil, List.replicate, List.nil_append, List.cons_append, List.map_cons, List.map_nil, List.sum_cons, List.sum_nil, Value.category, Option.toList, List.contains_cons, List.contains_nil, true_or, or_true, true_and, Nat.zero_le, Nat.reduceAdd, Nat.reduceLeDiff, Nat.reduceLT, Nat.reduceBEq, Bool.true_or, Bool.or_true, Bool.false_or, Bool.or_false, ↓reduceIte, Bool.false_eq_true, Nat.add_zero, Nat.zero_add, Nat.reduceEqDiff, Nat.reduceSub, w_X8_lengthOf]
  refine ⟨hT.1.1, T, k, hT, rfl, hk, hT.1.1, hu.1, ?_⟩
  rw [hT.2.1]
  have key := zloop (P := fun i => ∀ τ, Fr σ τ u (u + 3) → zI τ u 0 = nI (tD T) → (∀ j, j < i → zI τ (u + 1) j = nI (sndS T (tG T (6 * k + j % tL T k))) ∧ zI τ (u + 2) j = nI (hshS T (tG T (6 * k + j % tL T k)))) → WW C 17 [some (.ref u), some (.ref t), some (.int (nI k)), some (.int (nI (tL T k))), some (.int (nI i))] [] τ) (tD T) (fun i hi ih τ hf h0 hlo => ?_) ?_ 0 (by omega)
  · exact key _ ((Fr.refl σ _ _).sI (by omega) (by omega)) (by rw [zI_sI, if_pos rfl, pk_us]) (fun j hj => absurd hj (Nat.not_lt_zero j))
  · have hT' : TownR τ t T := hT.fr hf (by omega)
    have hu' : TuneS τ u := hu.of hf.1 hf.2.1
    have hm : i % tL T k < tL T k := Nat.mod_lt _ hL1
    have hg := (hT.2.2.2.2.2.2.2.2 k (i % tL T k) hk hm).2
    refine r_X9_takeAnthem_17 hC hR m_X8_lengthOf (by decide) m_X8_signOf (by decide) m_X9_take (by decide) _ _ _ ?_
    simp only [T_X9_takeAnthem_17, x_psh, x_ild, x_lld, x_ald, x_ist, x_ast, x_lst, x_inc, x_iadd, x_isub, x_imul, x_iand, x_ior, x_ixor, x_ishl, x_ishr, x_iushr, x_idiv, x_irem, x_ladd, x_land, x_lor, x_lshl, x_lshr, x_ineg, x_i2l, x_l2i, x_i2b, x_lcmp, x_dup, x_dup2, x_if_eq, x_if_ne, x_if_lt, x_if_ge, x_if_gt, x_if_le, x_ic_eq, x_ic_ne, x_ic_lt, x_ic_ge, x_ic_gt, x_ic_le, x_getI, x_getR, x_putI, x_putZ, x_putR, x_iald, x_bald, x_lald, x_iast, x_bast, x_last, x_alen, x_acp, x_mmax, x_mmin, x_callV, x_callS, x_iret, x_zret, x_lret, x_aret, x_vret, x_tsw, x_stop, zst1, zst2, zkill, zkl, zsplit, zmask, zent, zentL, List.getElem?_cons_zero, List.getElem?_cons_succ, List.set_cons_zero, List.set_cons_succ, List.set_nil, List.length_cons, List.length_nil, List.replicate, List.nil_append, List.cons_append, List.map_cons, List.map_nil, List.sum_cons, List.sum_nil, Value.category, Option.toList, List.contains_cons, List.contains_nil, true_or, or_true, true_and, Nat.zero_le, Nat.reduceAdd, Nat.reduceLeDiff, Nat.reduceLT, Nat.reduceBEq, Bool.true_or, Bool.or_true, Bool.false_or, Bool.or_false, ↓reduceIte, Bool.false_eq_true, Nat.add_zero, Nat.zero_add, Nat.reduceEqDiff, Nat.reduceSub, w_X8_signOf, w_X9_take, h0]
    refine ⟨hu'.1, fun q => absurd q (nI_ge hi (by omega)), fun _ => ⟨fun q => absurd q (by rw [z_l12]; exact nI_ge (by omega) (by omega)), fun _ => ⟨fun q => absurd q (nI_nle hL1 (by omega)), fun _ => ⟨fun q => absurd q (nI_ne0 hL1 (by omega)), hT'.1.1, T, k, hT', rfl, hk, fun j hj e => ?_, fun q => ?_⟩⟩⟩⟩
    · rw [pk_rem (by omega) hL1 (by omega)] at e
      have e2 : i % tL T k = j := (nI_eq (by omega) (by omega)).mp e
      subst e2
      refine ⟨hu'.1, T, i, tG T (6 * k + i % tL T k), hu', hT', rfl, by omega, rfl, hg, hap2, ?_⟩
      rw [nI_i3]
      refine ih _ ((hf.sI (by omega) (by omega)).sI (by omega) (by omega)) ?_ (fun j hj => ?_)
      · rw [zI_sI, if_neg (by omega), zI_sI, if_neg (by omega)]; exact h0
      · by_cases e : j = i
        · subst e
          simp [zI_sI, upd]
        · have := hlo j (by omega)
          simp [zI_sI, upd, e, this.1, this.2]
    · rw [pk_rem (by omega) hL1 (by omega)] at q
      exact absurd (not_lt_pos (by omega) hm) q
  · intro τ hf h0 hlo
    have hu' : TuneS τ u := hu.of hf.1 hf.2.1
    refine r_X9_takeAnthem_17 hC hR m_X8_lengthOf (by decide) m_X8_signOf (by decide) m_X9_take (by decide) _ _ _ ?_
    simp only [T_X9_takeAnthem_17, x_psh, x_ild, x_lld, x_ald, x_ist, x_ast, x_lst, x_inc, x_iadd, x_isub, x_imul, x_iand, x_ior, x_ixor, x_ishl, x_ishr, x_iushr, x_idiv, x_irem, x_ladd, x_land, x_lor, x_lshl, x_lshr, x_ineg, x_i2l, x_l2i, x_i2b, x_lcmp, x_dup, x_dup2, x_if_eq, x_if_ne, x_if_lt, x_if_ge, x_if_gt, x_if_le, x_ic_eq, x_ic_ne, x_ic_lt, x_ic_ge, x_ic_gt, x_ic_le, x_getI, x_getR, x_putI, x_putZ, x_putR, x_iald, x_bald, x_lald, x_iast, x_bast, x_last, x_alen, x_acp, x_mmax, x_mmin, x_callV, x_callS, x_iret, x_zret, x_lret, x_aret, x_vret, x_tsw, x_stop, zst1, zst2, zkill, zkl, zsplit, zmask, zent, zentL, List.getElem?_cons_zero, List.getElem?_cons_succ, List.set_cons_zero, List.set_cons_succ, List.set_nil, List.length_cons, List.length_nil, List.replicate, List.nil_append, List.cons_append, List.map_cons, List.map_nil, List.sum_cons, List.sum_nil, Value.category, Option.toList, List.contains_cons, List.contains_nil, true_or, or_true, true_and, Nat.zero_le, Nat.reduceAdd, Nat.reduceLeDiff, Nat.reduceLT, Nat.reduceBEq, Bool.true_or, Bool.or_true, Bool.false_or, Bool.or_false, ↓reduceIte, Bool.false_eq_true, Nat.add_zero, Nat.zero_add, Nat.reduceEqDiff, Nat.reduceSub, h0]
    refine ⟨hu'.1, fun _ => hQ τ hf ⟨h0, by omega, fun j hj => ⟨(hlo j hj).1, ?_, (hlo j hj).2, ?_⟩⟩, fun q => absurd (nI_le (Nat.le_refl _) (by omega)) q⟩
    · exact Nat.lt_of_lt_of_le (sndS_lt T _) hp
    · show hshS T _ < 4096
      unfold hshS
      split <;> omega
