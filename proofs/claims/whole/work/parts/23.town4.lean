theorem z_clr' {m b : Nat} (hm : m < 2 ^ 31) (hb : b < 31) : nI m &&& (nI (2 ^ b) ^^^ -nI 1) = nI (clrB m b) := z_clr hm hb
def w_X8_addSong : WPt := fun args σ Q => match args with
  | [.ref t] => ∃ T, TownR σ t T ∧ tS T < 4 ∧ ∀ σ', Fr σ σ' t (t + 5) → TownR σ' t (tD T, tS T + 1, tN T, tE T, va_up (tL T) (tS T) 0, tG T) → Q none σ'
  | _ => False
theorem m_X8_addSong : Meets yX8_addSong cX8_addSong 1 none 1 w_X8_addSong := by
  refine Meets.mk (by decide) fun args σ Φ h => ?_
  unfold w_X8_addSong at h
  split at h
  rotate_left
  · exact h.elim
  rename_i t
  obtain ⟨t, rfl⟩ : ∃ q : Nat, q = t := ⟨t, rfl⟩
  obtain ⟨T, hT, hS, hQ⟩ := h
  refine ⟨Nat.le_of_ble_eq_true rfl, fun C hC hR => ?_⟩
  have ⟨⟨s1, s2, s3, s4, s5, s6, s7, s8, s9⟩, v1, v2, v3, v4, v5, v6, v7, v8⟩ := hT
  refine r_X8_addSong_0 hC hR _ _ _ ?_
  simp only [T_X8_addSong_0, x_psh, x_ild, x_lld, x_ald, x_ist, x_ast, x_lst, x_inc, x_iadd, x_isub, x_imul, x_iand, x_ior, x_ixor, x_ishl, x_ishr, x_iushr, x_idiv, x_irem, x_ladd, x_land, x_lor, x_lshl, x_lshr, x_ineg, x_i2l, x_l2i, x_i2b, x_lcmp, x_dup, x_dup2, x_if_eq, x_if_ne, x_if_lt, x_if_ge, x_if_gt, x_if_le, x_ic_eq, x_ic_ne, x_ic_lt, x_ic_ge, x_ic_gt, x_ic_le, x_getI, x_getR, x_putI, x_putZ, x_putR, x_iald, x_bald, x_lald, x_iast, x_bast, x_last, x_alen, x_acp, x_mmax, x_mmin, x_callV, x_callS, x_iret, x_zret, x_lret, x_aret, x_vret, x_tsw, x_stop, zst1, zst2, zkill, zkl, zsplit, zmask, zent, zentL, List.getElem?_cons_zero, List.getElem?_cons_succ, List.set_cons_zero, List.set_cons_succ, List.set_nil, List.length_cons, List.length_nil, List.replicate, List.nil_append, List.cons_append, List.map_cons, List.map_nil, List.sum_cons, List.sum_nil, Value.category, Option.toList, List.contains_cons, List.contains_nil, true_or, or_true, true_and, Nat.zero_le, Nat.reduceAdd, Nat.reduceLeDiff, Nat.reduceLT, Nat.reduceBEq, Bool.true_or, Bool.or_true, Bool.false_or, Bool.or_false, ↓reduceIte, Bool.false_eq_true, Nat.add_zero, Nat.zero_add, Nat.reduceEqDiff, Nat.reduceSub, zd_sI, zR_sI, s1, s8]
  have d3 : ¬ t = t + 3 := by omega
  simp only [zI_sI, if_neg d3, v2, s4, nI_clamp (show tS T < 2 ^ 31 by omega)]
  refine ⟨fun q => absurd q (by rw [z_l4]; exact nI_ge hS (by omega)), fun _ => ⟨by omega, 4, rfl, vp_in_nI hS (by omega), hQ _ (((Fr.refl σ _ _).sI (by omega) (by omega)).sI (by omega) (by omega)) ⟨hT.1.of rfl rfl, ?_⟩⟩⟩
  refine ⟨?_, ?_, v3, ?_, fun k hk => ?_, fun k hk => ?_, fun k hk => ?_, fun k i hk hi => ?_⟩
  · simp [zI_sI, upd, tD]; exact v1
  · simp [zI_sI, upd, tS]; exact nI_1 _
  · show tS T + 1 ≤ 4; omega
  · have := v5 k hk
    refine ⟨?_, this.2⟩
    simp [zI_sI, this.1]; rfl
  · have := v6 k hk
    refine ⟨?_, this.2⟩
    simp [zI_sI, this.1]; rfl
  · replace hk : k < tS T + 1 := hk
    by_cases e : k = tS T
    · subst e
      refine ⟨by simp [zI_sI, upd, tL, va_up]; rfl, by simp [tL, va_up]⟩
    · have := v7 k (by omega)
      refine ⟨?_, ?_⟩
      · show zI _ (t + 3) k = nI (va_up (tL T) (tS T) 0 k)
        simp [zI_sI, upd, va_up, e, this.1]
      · show va_up (tL T) (tS T) 0 k ≤ 6
        simp [va_up, e, this.2]
  · replace hk : k < tS T + 1 := hk
    replace hi : i < va_up (tL T) (tS T) 0 k := hi
    by_cases e : k = tS T
    · simp [va_up, e] at hi
    · simp [va_up, e] at hi
      have := v8 k i (by omega) hi
      refine ⟨?_, this.2⟩
      simp [zI_sI, this.1]; rfl
def w_X8_addSign : WPt := fun args σ Q => match args with
  | [.ref t, .int x] => ∃ T n a, TownR σ t T ∧ tS T = n + 1 ∧ tL T n < 6 ∧ x = nI a ∧ a ≤ 8 ∧ ∀ σ', Fr σ σ' t (t + 5) → TownR σ' t (tD T, tS T, tN T, tE T, va_up (tL T) n (tL T n + 1), va_up (tG T) (6 * n + tL T n) a) → Q none σ'
  | _ => False
set_option maxHeartbeats 2000000 in
theorem m_X8_addSign : Meets yX8_addSign cX8_addSign 3 none 2 w_X8_addSign := by
  refine Meets.mk (by decide) fun args σ Φ h => ?_
  unfold w_X8_addSign at h
  split at h
  rotate_left
  · exact h.elim
  rename_i t x
  obtain ⟨t, rfl⟩ : ∃ q : Nat, q = t := ⟨t, rfl⟩
  obtain ⟨T, n, a, hT, hS, hL, rfl, ha, hQ⟩ := h
  refine ⟨Nat.le_of_ble_eq_true rfl, fun C hC hR => ?_⟩
  have ⟨⟨s1, s2, s3, s4, s5, s6, s7, s8, s9⟩, v1, v2, v3, v4, v5, v6, v7, v8⟩ := hT
  have e0 : nI (tS T) - 1 = nI n := by rw [hS]; exact nI_pred n
  have hn : n < tS T := by omega
  refine r_X8_addSign_0 hC hR m_X8_isSong (by decide) _ _ _ ?_
  simp only [T_X8_addSign_0, x_psh, x_ild, x_lld, x_ald, x_ist, x_ast, x_lst, x_inc, x_iadd, x_isub, x_imul, x_iand, x_ior, x_ixor, x_ishl, x_ishr, x_iushr, x_idiv, x_irem, x_ladd, x_land, x_lor, x_lshl, x_lshr, x_ineg, x_i2l, x_l2i, x_i2b, x_lcmp, x_dup, x_dup2, x_if_eq, x_if_ne, x_if_lt, x_if_ge, x_if_gt, x_if_le, x_ic_eq, x_ic_ne, x_ic_lt, x_ic_ge, x_ic_gt, x_ic_le, x_getI, x_getR, x_putI, x_putZ, x_putR, x_iald, x_bald, x_lald, x_iast, x_bast, x_last, x_alen, x_acp, x_mmax, x_mmin, x_callV, x_callS, x_iret, x_zret, x_lret, x_aret, x_vret, x_tsw, x_stop, zst1, zst2, zkill, zkl, zsplit, zmask, zent, zentL, List.getElem?_cons_zero, List.getElem?_cons_succ, List.set_cons_zero, List.set_cons_succ, List.set_nil, List.length_cons, List.length_nil, List.replicate, List.nil_append, List.cons_append, List.map_cons, List.map_nil, List.sum_cons, List.sum_nil, Value.category, Option.toList, List.contains_cons, List.contains_nil, true_or, or_true, true_and, Nat.zero_le, Nat.reduceAdd, Nat.reduceLeDiff, Nat.reduceLT, Nat.reduceBEq, Bool.true_or, Bool.or_true, Bool.false_or, Bool.or_false, ↓reduceIte, Bool.false_eq_true, Nat.add_zero, Nat.zero_add, Nat.reduceEqDiff, Nat.reduceSub, w_X8_isSong, b2i_0, zd_sI, zR_sI, s1, s8, s9, e0, v2]
  refine ⟨fun q => absurd ⟨nI_pos' (by omega), nI_lt hn (by omega)⟩ q, fun _ => ⟨by omega, 4, s4, vp_in_nI (by omega) (by omega), ?_⟩⟩
  have d43 : ¬ t + 3 = t + 4 := by omega
  have e1 : nI n * 6 + nI (tL T n) = nI (6 * n + tL T n) := by rw [z_l6, pk_mul, nI_add, Nat.mul_comm]
  simp only [nI_clamp (show n < 2 ^ 31 by omega), (v7 n hn).1, e1, zI_sI, if_neg d43, nI_clamp (show 6 * n + tL T n < 2 ^ 31 by omega)]
  refine ⟨fun q => absurd q (by rw [z_l6]; exact nI_ge hL (by omega)), fun _ => ⟨by omega, by omega, 4, s4, vp_in_nI (by omega) (by omega), 24, s5, vp_in_nI (by omega) (by omega), by omega, 4, s4, vp_in_nI (by omega) (by omega), 4, s4, vp_in_nI (by omega) (by omega), hQ _ (((Fr.refl σ _ _).sI (by omega) (by omega)).sI (by omega) (by omega)) ⟨hT.1.of rfl rfl, ?_⟩⟩⟩
  refine ⟨?_, ?_, v3, v4, fun k hk => ?_, fun k hk => ?_, fun k hk => ?_, fun k i hk hi => ?_⟩
  · simp [zI_sI, upd, tD]; exact v1
  · simp [zI_sI, upd, tS]; exact v2
  · have := v5 k hk
    refine ⟨?_, this.2⟩
    simp [zI_sI, this.1]; rfl
  · have := v6 k hk
    refine ⟨?_, this.2⟩
    simp [zI_sI, this.1]; rfl
  · replace hk : k < tS T := hk
    by_cases e : k = n
    · subst e
      refine ⟨?_, ?_⟩
      · show zI _ (t + 3) k = nI (va_up (tL T) k (tL T k + 1) k)
        simp [zI_sI, upd, va_up]; exact nI_1 _
      · show va_up (tL T) k (tL T k + 1) k ≤ 6
        simp [va_up]; omega
    · have := v7 k hk
      refine ⟨?_, ?_⟩
      · show zI _ (t + 3) k = nI (va_up (tL T) n (tL T n + 1) k)
        simp [zI_sI, upd, va_up, e, this.1]
      · show va_up (tL T) n (tL T n + 1) k ≤ 6
        simp [va_up, e, this.2]
  · replace hk : k < tS T := hk
    replace hi : i < va_up (tL T) n (tL T n + 1) k := hi
    show zI _ (t + 4) (6 * k + i) = nI (va_up (tG T) (6 * n + tL T n) a (6 * k + i)) ∧ va_up (tG T) (6 * n + tL T n) a (6 * k + i) ≤ 8
    by_cases e : 6 * k + i = 6 * n + tL T n
    · rw [e]
      simp [zI_sI, upd, va_up]; exact ha
    · have hki : k < tS T ∧ i < tL T k := by
        refine ⟨hk, ?_⟩
        unfold va_up at hi
        split at hi
        next h => subst h; omega
        next h => exact hi
      have := v8 k i hki.1 hki.2
      simp [zI_sI, upd, va_up, e, this.1, this.2]
def jnE (T : TD) (a b : Nat) (c : Bool) : Nat → Nat := fun k => if k = a then (if c then tE T a ||| 2 ^ b else clrB (tE T a) b) else if k = b then (if c then tE T b ||| 2 ^ a else clrB (tE T b) a) else tE T k
def w_X8_join : WPt := fun args σ Q => match args with
  | [.ref t, .int d, .int o, .int i] => ∃ T a b, TownR σ t T ∧ d = nI a ∧ o = nI b ∧ a < tD T ∧ b < tD T ∧ a ≠ b ∧ ∀ σ', Fr σ σ' t (t + 5) → TownR σ' t (tD T, tS T, tN T, jnE T a b (!decide (i = 0)), tL T, tG T) → Q none σ'
  | _ => False
set_option maxHeartbeats 2000000 in
theorem m_X8_join : Meets yX8_join cX8_join 4 none 2 w_X8_join := by
  refine Meets.mk (by decide) fun args σ Φ h => ?_
  unfold w_X8_join at h
  split at h
  rotate_left
  · exact h.elim
  rename_i t d o i
  obtain ⟨t, rfl⟩ : ∃ q : Nat, q = t := ⟨t, rfl⟩
  obtain ⟨T, a, b, hT, rfl, rfl, ha, hb, hab, hQ⟩ := h
  refine ⟨Nat.le_of_ble_eq_true rfl, fun C hC hR => ?_⟩
  have ⟨⟨s1, s2, s3, s4, s5, s6, s7, s8, s9⟩, v1, v2, v3, v4, v5, v6, v7, v8⟩ := hT
  have hp := hT.d31
  have hEa := (v6 a ha).2
  have hEb := (v6 b hb).2
  have hba : ¬ b = a := fun e => hab e.symm
  refine r_X8_join_0 hC hR m_X8_isDoor (by decide) _ _ _ ?_
  simp only [T_X8_join_0, x_psh, x_ild, x_lld, x_ald, x_ist, x_ast, x_lst, x_inc, x_iadd, x_isub, x_imul, x_iand, x_ior, x_ixor, x_ishl, x_ishr, x_iushr, x_idiv, x_irem, x_ladd, x_land, x_lor, x_lshl, x_lshr, x_ineg, x_i2l, x_l2i, x_i2b, x_lcmp, x_dup, x_dup2, x_if_eq, x_if_ne, x_if_lt, x_if_ge, x_if_gt, x_if_le, x_ic_eq, x_ic_ne, x_ic_lt, x_ic_ge, x_ic_gt, x_ic_le, x_getI, x_getR, x_putI, x_putZ, x_putR, x_iald, x_bald, x_lald, x_iast, x_bast, x_last, x_alen, x_acp, x_mmax, x_mmin, x_callV, x_callS, x_iret, x_zret, x_lret, x_aret, x_vret, x_tsw, x_stop, zst1, zst2, zkill, zkl, zsplit, zmask, zent, zentL, List.getElem?_cons_zero, List.getElem?_cons_succ, List.set_cons_zero, List.set_cons_succ, List.set_nil, List.length_cons, List.length_nil, List.replicate, List.nil_append, List.cons_append, List.map_cons, List.map_nil, List.sum_cons, List.sum_nil, Value.category, Option.toList, List.contains_cons, List.contains_nil, true_or, or_true, true_and, Nat.zero_le, Nat.reduceAdd, Nat.reduceLeDiff, Nat.reduceLT, Nat.reduceBEq, Bool.true_or, Bool.or_true, Bool.false_or, Bool.or_false, ↓reduceIte, Bool.false_eq_true, Nat.add_zero, Nat.zero_add, Nat.reduceEqDiff, Nat.reduceSub, w_X8_isDoor, b2i_0, zd_sI, zR_sI, s1, s7, v1]
  have fin : ∀ (va vb : Nat), va < 2 ^ tD T → vb < 2 ^ tD T → (∀ k, jnE T a b (!decide (i = 0)) k = if k = a then va else if k = b then vb else tE T k) → Φ none (sI (sI σ (t + 2) a (nI va)) (t + 2) b (nI vb)) := by
    intro va vb h1 h2 h3
    refine hQ _ (((Fr.refl σ _ _).sI (by omega) (by omega)).sI (by omega) (by omega)) ⟨hT.1.of rfl rfl, ?_⟩
    refine ⟨?_, ?_, v3, v4, fun k hk => ?_, fun k hk => ?_, fun k hk => ?_, fun k i hk hi => ?_⟩
    · simp [zI_sI, tD]; exact v1
    · simp [zI_sI, tS]; exact v2
    · have := v5 k hk
      refine ⟨?_, this.2⟩
      simp [zI_sI, this.1]; rfl
    · show zI _ (t + 2) k = nI (jnE T a b (!decide (i = 0)) k) ∧ jnE T a b (!decide (i = 0)) k < 2 ^ tD T
      have := v6 k hk
      rw [h3 k]
      by_cases e : k = a
      · subst e; simp [zI_sI, upd, hab]; exact h1
      · by_cases e2 : k = b
        · subst e2; simp [zI_sI, upd, e]; exact h2
        · simp [zI_sI, upd, e, e2, this.1, this.2]
    · have := v7 k hk
      refine ⟨?_, this.2⟩
      simp [zI_sI, this.1]; rfl
    · have := v8 k i hk hi
      refine ⟨?_, this.2⟩
      simp [zI_sI, this.1]; rfl
  have ina : vp_in (nI a) 12 := vp_in_nI (by omega) (by omega)
  have inb : vp_in (nI b) 12 := vp_in_nI (by omega) (by omega)
  refine ⟨fun q => absurd ⟨nI_pos' (by omega), nI_lt ha (by omega)⟩ q, fun _ => ⟨fun q => absurd ⟨nI_pos' (by omega), nI_lt hb (by omega)⟩ q, fun _ => ⟨fun _ => ⟨fun hi => ?_, fun hi => ?_⟩, fun q => absurd ((nI_eq (by omega) (by omega)).mp q) hab⟩⟩⟩
  · simp only [nI_clamp (show a < 2 ^ 31 by omega), nI_clamp (show b < 2 ^ 31 by omega), zI_sI, if_true, pk_un hba, (v6 a ha).1, (v6 b hb).1, z_l31, z_l1, z_p2 a (show a < 32 by omega), z_p2 b (show b < 32 by omega), z_clr' (show tE T a < 2 ^ 31 by omega) (show b < 31 by omega), z_clr' (show tE T b < 2 ^ 31 by omega) (show a < 31 by omega)]
    exact ⟨by omega, 12, s3, ina, 12, s3, ina, by omega, 12, s3, inb, 12, s3, inb, fin _ _ (clrB_lt hEa) (clrB_lt hEb) (fun k => by simp [jnE, hi])⟩
  · simp only [nI_clamp (show a < 2 ^ 31 by omega), nI_clamp (show b < 2 ^ 31 by omega), zI_sI, if_true, pk_un hba, (v6 a ha).1, (v6 b hb).1, z_l31, z_l1, z_p2 a (show a < 32 by omega), z_p2 b (show b < 32 by omega), z_or]
    have pa : 2 ^ a < 2 ^ tD T := Nat.pow_lt_pow_right (by decide) ha
    have pb : 2 ^ b < 2 ^ tD T := Nat.pow_lt_pow_right (by decide) hb
    exact ⟨by omega, 12, s3, ina, 12, s3, ina, by omega, 12, s3, inb, 12, s3, inb, fin _ _ (Nat.or_lt_two_pow hEa pb) (Nat.or_lt_two_pow hEb pa) (fun k => by simp [jnE, hi])⟩
def sumN (f : Nat → Nat) : Nat → Nat
  | 0 => 0
  | k + 1 => sumN f k + f k
theorem sumN_le {f : Nat → Nat} {c : Nat} : ∀ n, (∀ k, k < n → f k ≤ c) → sumN f n ≤ n * c
  | 0, _ => Nat.zero_le _
  | n + 1, h => by
    have h1 := sumN_le n fun k hk => h k (by omega)
    have h2 := h n (by omega)
    rw [sumN, Nat.succ_mul]
    omega
theorem ones_le (s : Nat) : ones s ≤ 12 := cntB_le _ _
def w_X8_countStreets : WPt := fun args σ Q => match args with
  | [.ref t] => ∃ T, TownR σ t T ∧ Q (some (.int (nI (sumN (fun k => ones (tE T k)) (tD T) / 2)))) σ
  | _ => False
theorem m_X8_countStreets : Meets yX8_countStreets cX8_countStreets 3 (some .int) 2 w_X8_countStreets := by
  refine Meets.mk (by decide) fun args σ Φ h => ?_
  unfold w_X8_countStreets at h
  split at h
  rotate_left
  · exact h.elim
  rename_i t
  obtain ⟨t, rfl⟩ : ∃ q : Nat, q = t := ⟨t, rfl⟩
  obtain ⟨T, hT, hQ⟩ := h
  refine ⟨Nat.le_of_ble_eq_true rfl, fun C hC hR => ?_⟩
  refine r_X8_countStreets_0 hC hR m_J6_bitCount_0f7a4 (by decide) _ _ _ ?_
  simp only [T_X8_countStreets_0, x_psh, x_ild, x_lld, x_ald, x_ist, x_ast, x_lst, x_inc, x_iadd, x_isub, x_imul, x_iand, x_ior, x_ixor, x_ishl, x_ishr, x_iushr, x_idiv, x_irem, x_ladd, x_land, x_lor, x_lshl, x_lshr, x_ineg, x_i2l, x_l2i, x_i2b, x_lcmp, x_dup, x_dup2, x_if_eq, x_if_ne, x_if_lt, x_if_ge, x_if_gt, x_if_le, x_ic_eq, x_ic_ne, x_ic_lt, x_ic_ge, x_ic_gt, x_ic_le, x_getI, x_getR, x_putI, x_putZ, x_putR, x_iald, x_bald, x_lald, x_iast, x_bast, x_last, x_alen, x_acp, x_mmax, x_mmin, x_callV, x_callS, x_iret, x_zret, x_lret, x_aret, x_vret, x_tsw, x_stop, zst1, zst2, zkill, zkl, zsplit, zmask, zent, zentL, List.getElem?_cons_zero, List.getElem?_cons_succ, List.set_cons_zero, List.set_cons_succ, List.set_nil, List.length_cons, List.length_nil, List.replicate, List.nil_append, List.cons_append, List.map_cons, List.map_nil, List.sum_cons, List.sum_nil, Value.category, Option.toList, List.contains_cons, List.contains_nil, true_or, or_true, true_and, Nat.zero_le, Nat.reduceAdd, Nat.reduceLeDiff, Nat.reduceLT, Nat.reduceBEq, Bool.true_or, Bool.or_true, Bool.false_or, Bool.or_false, ↓reduceIte, Bool.false_eq_true, Nat.add_zero, Nat.zero_add, Nat.reduceEqDiff, Nat.reduceSub]
  have h12 := hT.2.2.2.1
  have hb : ∀ n, n ≤ 12 → sumN (fun k => ones (tE T k)) n ≤ 144 := fun n hn => by
    have := sumN_le (f := fun k => ones (tE T k)) (c := 12) n fun k _ => ones_le _
    omega
  refine zloop (P := fun k => WW C 4 [some (.ref t), some (.int (nI (sumN (fun k => ones (tE T k)) k))), some (.int (nI k))] [] σ) (tD T) (fun k hk ih => ?_) ?_ 0 (by omega)
  · have ⟨⟨s1, s2, s3, s4, s5, s6, s7, s8, s9⟩, v1, v2, v3, v4, v5, v6, v7, v8⟩ := hT
    have hp := hT.d31
    have hE := (v6 k hk).2
    refine r_X8_countStreets_4 hC hR m_J6_bitCount_0f7a4 (by decide) _ _ _ ?_
    simp only [T_X8_countStreets_4, x_psh, x_ild, x_lld, x_ald, x_ist, x_ast, x_lst, x_inc, x_iadd, x_isub, x_imul, x_iand, x_ior, x_ixor, x_ishl, x_ishr, x_iushr, x_idiv, x_irem, x_ladd, x_land, x_lor, x_lshl, x_lshr, x_ineg, x_i2l, x_l2i, x_i2b, x_lcmp, x_dup, x_dup2, x_if_eq, x_if_ne, x_if_lt, x_if_ge, x_if_gt, x_if_le, x_ic_eq, x_ic_ne, x_ic_lt, x_ic_ge, x_ic_gt, x_ic_le, x_getI, x_getR, x_putI, x_putZ, x_putR, x_iald, x_bald, x_lald, x_iast, x_bast, x_last, x_alen, x_acp, x_mmax, x_mmin, x_callV, x_callS, x_iret, x_zret, x_lret, x_aret, x_vret, x_tsw, x_stop, zst1, zst2, zkill, zkl, zsplit, zmask, zent, zentL, List.getElem?_cons_zero, List.getElem?_cons_succ, List.set_cons_zero, List.set_cons_succ, List.set_nil, List.length_cons, List.length_nil, List.replicate, List.nil_append, List.cons_append, List.map_cons, List.map_nil, List.sum_cons, List.sum_nil, Value.category, Option.toList, List.contains_cons, List.contains_nil, true_or, or_true, true_and, Nat.zero_le, Nat.reduceAdd, Nat.reduceLeDiff, Nat.reduceLT, Nat.reduceBEq, Bool.true_or, Bool.or_true, Bool.false_or, Bool.or_false, ↓reduceIte, Bool.false_eq_true, Nat.add_zero, Nat.zero_add, Nat.reduceEqDiff, Nat.reduceSub, w_J6_bitCount_0f7a4]
    rw [v1]
    refine ⟨s1, fun q => absurd q (nI_ge hk (by omega)), fun _ => ⟨s1, by rw [s7]; omega, 12, by rw [s7]; exact s3, vp_in_nI (by omega) (by omega), tE T k, by rw [s7, nI_clamp (by omega), (v6 k hk).1], by omega, ?_⟩⟩
    rw [nI_add, show nI k + 1 = nI (k + 1) from nI_1 k]
    exact ih
  · have ⟨⟨s1, s2, s3, s4, s5, s6, s7, s8, s9⟩, v1, v2, v3, v4, v5, v6, v7, v8⟩ := hT
    refine r_X8_countStreets_4 hC hR m_J6_bitCount_0f7a4 (by decide) _ _ _ ?_
    simp only [T_X8_countStreets_4, x_psh, x_ild, x_lld, x_ald, x_ist, x_ast, x_lst, x_inc, x_iadd, x_isub, x_imul, x_iand, x_ior, x_ixor, x_ishl, x_ishr, x_iushr, x_idiv, x_irem, x_ladd, x_land, x_lor, x_lshl, x_lshr, x_ineg, x_i2l, x_l2i, x_i2b, x_lcmp, x_dup, x_dup2, x_if_eq, x_if_ne, x_if_lt, x_if_ge, x_if_gt, x_if_le, x_ic_eq, x_ic_ne, x_ic_lt, x_ic_ge, x_ic_gt, x_ic_le, x_getI, x_getR, x_putI, x_putZ, x_putR, x_iald, x_bald, x_lald, x_iast, x_bast, x_last, x_alen, x_acp, x_mmax, x_mmin, x_callV, x_callS, x_iret, x_zret, x_lret, x_aret, x_vret, x_tsw, x_stop, zst1, zst2, zkill, zkl, zsplit, zmask, zent, zentL, List.getElem?_cons_zero, List.getElem?_cons_succ, List.set_cons_zero, List.set_cons_succ, List.set_nil, List.length_cons, List.length_nil, List.replicate, List.nil_append, List.cons_append, List.map_cons, List.map_nil, List.sum_cons, List.sum_nil, Value.category, Option.toList, List.contains_cons, List.contains_nil, true_or, or_true, true_and, Nat.zero_le, Nat.reduceAdd, Nat.reduceLeDiff, Nat.reduceLT, Nat.reduceBEq, Bool.true_or, Bool.or_true, Bool.false_or, Bool.or_false, ↓reduceIte, Bool.false_eq_true, Nat.add_zero, Nat.zero_add, Nat.reduceEqDiff, Nat.reduceSub, w_J6_bitCount_0f7a4]
    rw [v1]
    refine ⟨s1, fun q => ?_, fun q => absurd (nI_le (Nat.le_refl _) (by omega)) q⟩
    have := hb (tD T) h12
    rw [z_l31, z_l1, z_shr (by omega) (by omega), Nat.shiftRight_eq_div_pow]
    exact hQ

def trnN (T : TD) : Nat → Nat := fun k => if k = 0 then tN T (tD T - 1) else tN T (k - 1)
def w_X8_turnNotes : WPt := fun args σ Q => match args with
  | [.ref t] => ∃ T, TownR σ t T ∧ 1 ≤ tD T ∧ ∀ σ', Fr σ σ' t (t + 5) → TownR σ' t (tD T, tS T, trnN T, tE T, tL T, tG T) → Q (some (.int (nI (tN T (tD T - 1))))) σ'
  | _ => False
set_option maxHeartbeats 2000000 in
theorem m_X8_turnNotes : Meets yX8_turnNotes cX8_turnNotes 4 (some .int) 1 w_X8_turnNotes := by
  refine Meets.mk (by decide) fun args σ Φ h => ?_
  unfold w_X8_turnNotes at h
  split at h
  rotate_left
  · exact h.elim
  rename_i t
  obtain ⟨t, rfl⟩ : ∃ q : Nat, q = t := ⟨t, rfl⟩
  obtain ⟨T, hT, h1, hQ⟩ := h
  refine ⟨Nat.le_of_ble_eq_true rfl, fun C hC hR => ?_⟩
  have ⟨⟨s1, s2, s3, s4, s5, s6, s7, s8, s9⟩, v1, v2, v3, v4, v5, v6, v7, v8⟩ := hT
  obtain ⟨n, hn⟩ : ∃ n, tD T = n + 1 := ⟨tD T - 1, by omega⟩
  refine r_X8_turnNotes_0 hC hR _ _ _ ?_
  simp only [T_X8_turnNotes_0, x_psh, x_ild, x_lld, x_ald, x_ist, x_ast, x_lst, x_inc, x_iadd, x_isub, x_imul, x_iand, x_ior, x_ixor, x_ishl, x_ishr, x_iushr, x_idiv, x_irem, x_ladd, x_land, x_lor, x_lshl, x_lshr, x_ineg, x_i2l, x_l2i, x_i2b, x_lcmp, x_dup, x_dup2, x_if_eq, x_if_ne, x_if_lt, x_if_ge, x_if_gt, x_if_le, x_ic_eq, x_ic_ne, x_ic_lt, x_ic_ge, x_ic_gt, x_ic_le, x_getI, x_getR, x_putI, x_putZ, x_putR, x_iald, x_bald, x_lald, x_iast, x_bast, x_last, x_alen, x_acp, x_mmax, x_mmin, x_callV, x_callS, x_iret, x_zret, x_lret, x_aret, x_vret, x_tsw, x_stop, zst1, zst2, zkill, zkl, zsplit, zmask, zent, zentL, List.getElem?_cons_zero, List.getElem?_cons_succ, List.set_cons_zero, List.set_cons_succ, List.set_nil, List.length_cons, List.length_nil, List.replicate, List.nil_append, List.cons_append, List.map_cons, List.map_nil, List.sum_cons, List.sum_nil, Value.category, Option.toList, List.contains_cons, List.contains_nil, true_or, or_true, true_and, Nat.zero_le, Nat.reduceAdd, Nat.reduceLeDiff, Nat.reduceLT, Nat.reduceBEq, Bool.true_or, Bool.or_true, Bool.false_or, Bool.or_false, ↓reduceIte, Bool.false_eq_true, Nat.add_zero, Nat.zero_add, Nat.reduceEqDiff, Nat.reduceSub, s6, v1]
  have e0 : nI (tD T) - 1 = nI n := by rw [hn]; exact nI_pred n
  rw [e0, nI_clamp (by omega), (v5 n (by omega)).1]
  -- the carried note at door k, what stands behind it
  have key := zloop (P := fun k => ∀ (τ : ZS) (c : Nat), c = (if k = 0 then tN T n else tN T (k - 1)) → Fr σ τ (t + 1) (t + 2) → (∀ j, j < k → zI τ (t + 1) j = nI (trnN T j)) → (∀ j, k ≤ j → j < tD T → zI τ (t + 1) j = nI (tN T j)) → WW C 26 [some (.ref t), some (.int (nI c)), some (.int (nI k)), none] [] τ) (tD T) (fun k hk ih τ c hc hf hlo hhi => ?_) ?_ 0 (by omega)
  · have w0 := key σ (tN T n) (by simp) (Fr.refl _ _ _) (fun j hj => absurd hj (Nat.not_lt_zero j)) (fun j _ hj => (v5 j hj).1)
    exact ⟨s1, fun q => absurd q (nI_nle (by omega) (by omega)), fun _ => ⟨s1, by omega, s1, 12, s2, vp_in_nI (by omega) (by omega), w0⟩⟩
  · have z1 : zd τ t = some (0, 5) := by rw [hf.1]; exact s1
    have z2 : zd τ (t + 1) = some (1, 12) := by rw [hf.1]; exact s2
    have z6 : zR τ t 2 = t + 1 := by rw [hf.2.1]; exact s6
    have zt : zI τ t 0 = nI (tD T) := by rw [hf.2.2.1 t (by omega)]; exact v1
    refine r_X8_turnNotes_26 hC hR _ _ _ ?_
    simp only [T_X8_turnNotes_26, x_psh, x_ild, x_lld, x_ald, x_ist, x_ast, x_lst, x_inc, x_iadd, x_isub, x_imul, x_iand, x_ior, x_ixor, x_ishl, x_ishr, x_iushr, x_idiv, x_irem, x_ladd, x_land, x_lor, x_lshl, x_lshr, x_ineg, x_i2l, x_l2i, x_i2b, x_lcmp, x_dup, x_dup2, x_if_eq, x_if_ne, x_if_lt, x_if_ge, x_if_gt, x_if_le, x_ic_eq, x_ic_ne, x_ic_lt, x_ic_ge, x_ic_gt, x_ic_le, x_getI, x_getR, x_putI, x_putZ, x_putR, x_iald, x_bald, x_lald, x_iast, x_bast, x_last, x_alen, x_acp, x_mmax, x_mmin, x_callV, x_callS, x_iret, x_zret, x_lret, x_aret, x_vret, x_tsw, x_stop, zst1, zst2, zkill, zkl, zsplit, zmask, zent, zentL, List.getElem?_cons_zero, List.getElem?_cons_succ, List.set_cons_zero, List.set_cons_succ, List.set_nil, List.length_cons, List.length_nil, List.replicate, List.nil_append, List.cons_append, List.map_cons, List.map_nil, List.sum_cons, List.sum_nil, Value.category, Option.toList, List.contains_cons, List.contains_nil, true_or, or_true, true_and, Nat.zero_le, Nat.reduceAdd, Nat.reduceLeDiff, Nat.reduceLT, Nat.reduceBEq, Bool.true_or, Bool.or_true, Bool.false_or, Bool.or_false, ↓reduceIte, Bool.false_eq_true, Nat.add_zero, Nat.zero_add, Nat.reduceEqDiff, Nat.reduceSub, z1, z6, zt, zR_sI, zd_sI]
    refine ⟨fun q => absurd q (nI_ge hk (by omega)), fun _ => ⟨by omega, 12, z2, vp_in_nI (by omega) (by omega), by omega, 12, z2, vp_in_nI (by omega) (by omega), ?_⟩⟩
    rw [nI_clamp (by omega), hhi k (Nat.le_refl _) hk, show nI k + 1 = nI (k + 1) from nI_1 k]
    refine ih _ (tN T k) (by simp) (hf.sI (by omega) (by omega)) (fun j hj => ?_) (fun j hj hj2 => ?_)
    · rw [zI_sI, if_pos rfl]
      by_cases e : j = k
      · subst e
        rw [pk_us, hc, trnN, hn]
        simp
      · rw [pk_un e]
        exact hlo j (by omega)
    · rw [zI_sI, if_pos rfl, pk_un (by omega)]
      exact hhi j (by omega) hj2
  · intro τ c hc hf hlo hhi
    have z1 : zd τ t = some (0, 5) := by rw [hf.1]; exact s1
    have z2 : zd τ (t + 1) = some (1, 12) := by rw [hf.1]; exact s2
    have z6 : zR τ t 2 = t + 1 := by rw [hf.2.1]; exact s6
    have zt : zI τ t 0 = nI (tD T) := by rw [hf.2.2.1 t (by omega)]; exact v1
    refine r_X8_turnNotes_26 hC hR _ _ _ ?_
    simp only [T_X8_turnNotes_26, x_psh, x_ild, x_lld, x_ald, x_ist, x_ast, x_lst, x_inc, x_iadd, x_isub, x_imul, x_iand, x_ior, x_ixor, x_ishl, x_ishr, x_iushr, x_idiv, x_irem, x_ladd, x_land, x_lor, x_lshl, x_lshr, x_ineg, x_i2l, x_l2i, x_i2b, x_lcmp, x_dup, x_dup2, x_if_eq, x_if_ne, x_if_lt, x_if_ge, x_if_gt, x_if_le, x_ic_eq, x_ic_ne, x_ic_lt, x_ic_ge, x_ic_gt, x_ic_le, x_getI, x_getR, x_putI, x_putZ, x_putR, x_iald, x_bald, x_lald, x_iast, x_bast, x_last, x_alen, x_acp, x_mmax, x_mmin, x_callV, x_callS, x_iret, x_zret, x_lret, x_aret, x_vret, x_tsw, x_stop, zst1, zst2, zkill, zkl, zsplit, zmask, zent, zentL, List.getElem?_cons_zero, List.getElem?_cons_succ, List.set_cons_zero, List.set_cons_succ, List.set_nil, List.length_cons, List.length_nil, List.replicate, List.nil_append, List.cons_append, List.map_cons, List.map_nil, List.sum_cons, List.sum_nil, Value.category, Option.toList, List.contains_cons, List.contains_nil, true_or, or_true, true_and, Nat.zero_le, Nat.reduceAdd, Nat.reduceLeDiff, Nat.reduceLT, Nat.reduceBEq, Bool.true_or, Bool.or_true, Bool.false_or, Bool.or_false, ↓reduceIte, Bool.false_eq_true, Nat.add_zero, Nat.zero_add, Nat.reduceEqDiff, Nat.reduceSub, z1, z6, zt]
    refine ⟨fun q => ⟨by omega, 12, z2, (vp_in_nI (by omega) (by omega) : vp_in (nI 0) 12), ?_⟩, fun q => absurd (nI_le (Nat.le_refl _) (by omega)) q⟩
    rw [show (0 : Int32).toNatClampNeg = 0 from rfl, hlo 0 (by omega)]
    refine hQ τ (hf.mono (by omega) (by omega)) ⟨hT.1.of hf.1 hf.2.1, ?_⟩
    have e := hf.2.2.1
    refine ⟨by rw [e t (by omega)]; exact v1, by rw [e t (by omega)]; exact v2, v3, v4, fun k hk => ⟨hlo k hk, ?_⟩, by rw [e (t + 2) (by omega)]; exact v6, by rw [e (t + 3) (by omega)]; exact v7, by rw [e (t + 4) (by omega)]; exact v8⟩
    replace hk : k < tD T := hk
    show trnN T k ≤ 7
    unfold trnN
    split
    · exact (v5 _ (by omega)).2
    · exact (v5 _ (by omega)).2
