/-! the queue -/
abbrev BQ : Type := Nat × (Nat → Nat) × (Nat → Option Nat) × (Nat → Nat)
def bN (B : BQ) : Nat := B.1
def bQ (B : BQ) : Nat → Nat := B.2.1
def bB (B : BQ) : Nat → Option Nat := B.2.2.1
def bS (B : BQ) : Nat → Nat := B.2.2.2
def enqB (B : BQ) (so fo : Option Nat) : BQ := match so with
  | none => B
  | some s => if 384 ≤ bN B ∨ (bS B (s / 32)).testBit (s % 32) = true then B else (bN B + 1, va_up (bQ B) (bN B) s, va_up (bB B) (bN B) fo, va_up (bS B) (s / 32) (bS B (s / 32) ||| 2 ^ (s % 32)))
def BR (σ : ZS) (h : Nat) (B : BQ) : Prop := zI σ h 5 = nI (bN B) ∧ bN B ≤ 384 ∧ (∀ i, i < bN B → zI σ (h + 3) i = nI (bQ B i) ∧ bQ B i < 384) ∧ (∀ i, i < bN B → zI σ (h + 4) i = i2 (bB B i) ∧ ∀ j, bB B i = some j → j < 384) ∧ (∀ d, d < 12 → zI σ (h + 2) d = nI (bS B d) ∧ bS B d < 2 ^ 32)
theorem i2_m9 {o : Option Nat} (h : ∀ s, o = some s → s < 384) : i2 o = -9 ↔ o = none := by
  cases o with
  | none => exact ⟨fun _ => rfl, fun _ => rfl⟩
  | some s => exact ⟨fun q => absurd q (z_m9 (by have := h s rfl; omega)), fun q => by cases q⟩
theorem z_l384 : (384 : Int32) = nI 384 := rfl
theorem z_rem32 {a : Nat} (ha : a < 2 ^ 31) : nI a - nI a / nI 32 * nI 32 = nI (a % 32) := pk_rem ha (by decide) (by decide)
theorem z_div32 {a : Nat} (ha : a < 2 ^ 31) : nI a / nI 32 = nI (a / 32) := pk_div ha (by decide) (by decide)
def w_X6_enqueue : WPt := fun args σ Q => match args with
  | [.ref h, .int x, .int y] => ∃ (T : TD) (k : Nat) (B : BQ) (so fo : Option Nat), ShS σ h ∧ ShV σ h T k ∧ BR σ h B ∧ x = i2 so ∧ y = i2 fo ∧ (∀ s, so = some s → s < 384) ∧ (∀ j, fo = some j → j < 384) ∧ ∀ σ', Fr σ σ' h (h + 5) → ShV σ' h T k → BR σ' h (enqB B so fo) → Q none σ'
  | _ => False
set_option maxHeartbeats 2000000 in
theorem m_X6_enqueue : Meets yX6_enqueue cX6_enqueue 5 none 1 w_X6_enqueue := by
  refine Meets.mk (by decide) fun args σ Φ h => ?_
  unfold w_X6_enqueue at h
  split at h
  rotate_left
  · exact h.elim
  rename_i h0 x y
  obtain ⟨h0, rfl⟩ : ∃ q : Nat, q = h0 := ⟨h0, rfl⟩
  obtain ⟨T, k, B, so, fo, hh, hv, hB, rfl, rfl, hso, hfo, hQ⟩ := h
  refine ⟨Nat.le_of_ble_eq_true rfl, fun C hC hR => ?_⟩
  have ⟨s1, s2, s3, s4, s5, s6, s7, s8, s9, s10, s11, s12⟩ := hh
  have ⟨b1, b2, b3, b4, b5⟩ := hB
  have skip : enqB B so fo = B → Φ none σ := fun e => hQ σ (Fr.refl _ _ _) hv (by rw [e]; exact hB)
  refine r_X6_enqueue_0 hC hR _ _ _ ?_
  simp only [T_X6_enqueue_0, x_psh, x_ild, x_lld, x_ald, x_ist, x_ast, x_lst, x_inc, x_iadd, x_isub, x_imul, x_iand, x_ior, x_ixor, x_ishl, x_ishr, x_iushr, x_idiv, x_irem, x_ladd, x_land, x_lor, x_lshl, x_lshr, x_ineg, x_i2l, x_l2i, x_i2b, x_lcmp, x_dup, x_dup2, x_if_eq, x_if_ne, x_if_lt, x_if_ge, x_if_gt, x_if_le, x_ic_eq, x_ic_ne, x_ic_lt, x_ic_ge, x_ic_gt, x_ic_le, x_getI, x_getR, x_putI, x_putZ, x_putR, x_iald, x_bald, x_lald, x_iast, x_bast, x_last, x_alen, x_acp, x_mmax, x_mmin, x_callV, x_callS, x_iret, x_zret, x_lret, x_aret, x_vret, x_tsw, x_stop, zst1, zst2, zkill, zkl, zsplit, zmask, zent, zentL, List.getElem?_cons_zero, List.getElem?_cons_succ, List.set_cons_zero, List.set_cons_succ, List.set_nil, List.length_cons, List.length_nil, List.replicate, List.nil_append, List.cons_append, List.map_cons, List.map_nil, List.sum_cons, List.sum_nil, Value.category, Option.toList, List.contains_cons, List.contains_nil, true_or, or_true, true_and, Nat.zero_le, Nat.reduceAdd, Nat.reduceLeDiff, Nat.reduceLT, Nat.reduceBEq, Bool.true_or, Bool.or_true, Bool.false_or, Bool.or_false, ↓reduceIte, Bool.false_eq_true, Nat.add_zero, Nat.zero_add, Nat.reduceEqDiff, Nat.reduceSub, s1, s9, s10, s11, b1, zd_sI, zR_sI]
  rw [i2_m9 hso]
  cases so with
  | none => exact ⟨fun _ => skip rfl, fun q => absurd rfl q⟩
  | some s =>
    have hs := hso s rfl
    refine ⟨fun q => (by cases q), fun _ => ?_⟩
    show (nI (bN B) < 384 → _) ∧ _
    rw [z_l384, nI_ltI (by omega) (by omega)]
    refine ⟨fun q => ?_, fun q => skip (by show enqB B (some s) fo = B; rw [enqB, if_pos (Or.inl (by omega))])⟩
    have hd12 : s / 32 < 12 := by omega
    have e1 : i2 (some s) / 32 = nI (s / 32) := z_div32 (by omega)
    have e2 : i2 (some s) - nI (s / 32) * 32 = nI (s % 32) := by rw [← e1]; exact z_rem32 (by omega)
    have c0 : ¬ h0 = h0 + 2 := by omega
    have c1 : ¬ h0 = h0 + 3 := by omega
    have c2 : ¬ h0 = h0 + 4 := by omega
    have c3 : ¬ h0 + 4 = h0 + 3 := by omega
    have c4 : ¬ h0 + 3 = h0 + 2 := by omega
    have c5 : ¬ h0 + 4 = h0 + 2 := by omega
    have hand : bS B (s / 32) &&& 2 ^ (s % 32) < 2 ^ 32 := and_lt31' (b5 _ hd12).2
    simp only [e2, e1, nI_clamp (show s / 32 < 2 ^ 31 by omega), zI_sI, if_true, if_neg c0, if_neg c1, if_neg c2, if_neg c3, if_neg c4, if_neg c5, b1, nI_clamp (show bN B < 2 ^ 31 by omega), (b5 _ hd12).1, z_l31, z_l1, z_p2 _ (show s % 32 < 32 by omega), z_and (bS B (s / 32)) (2 ^ (s % 32)), z_or, nI_eq0 hand, and_p2]
    refine ⟨by decide, by decide, by omega, 12, s3, vp_in_nI hd12 (by omega), fun q2 => skip ?_, fun q2 => ⟨by omega, 12, s3, vp_in_nI hd12 (by omega), 12, s3, vp_in_nI hd12 (by omega), by omega, 384, s4, vp_in_nI q (by omega), by omega, 384, s5, vp_in_nI q (by omega), hQ _ ?_ ?_ ?_⟩⟩
    · show enqB B (some s) fo = B
      rw [enqB, if_pos (Or.inr (by simpa using q2))]
    · exact (((((Fr.refl σ _ _).sI (by omega) (by omega)).sI (by omega) (by omega)).sI (by omega) (by omega)).sI (by omega) (by omega))
    · refine ⟨hv.1, hv.2.1, ?_, fun a ha => ?_⟩
      · simp [zI_sI, upd]; exact hv.2.2.1
      · simp [zI_sI]; exact hv.2.2.2 a ha
    · show BR _ h0 (enqB B (some s) fo)
      rw [enqB, if_neg (by rintro (h | h); omega; rw [q2] at h; cases h)]
      refine ⟨?_, by show bN B + 1 ≤ 384; omega, fun i hi => ?_, fun i hi => ?_, fun d hd => ?_⟩
      · simp [zI_sI, upd, bN]; exact nI_1 _
      · replace hi : i < bN B + 1 := hi
        show zI _ (h0 + 3) i = nI (va_up (bQ B) (bN B) s i) ∧ va_up (bQ B) (bN B) s i < 384
        by_cases e : i = bN B
        · subst e; simp [zI_sI, upd, va_up, i2]; exact hs
        · have := b3 i (by omega)
          simp [zI_sI, upd, va_up, e, this.1, this.2]
      · replace hi : i < bN B + 1 := hi
        show zI _ (h0 + 4) i = i2 (va_up (bB B) (bN B) fo i) ∧ ∀ j, va_up (bB B) (bN B) fo i = some j → j < 384
        by_cases e : i = bN B
        · subst e; simp [zI_sI, upd, va_up]; exact hfo
        · have := b4 i (by omega)
          simp [zI_sI, upd, va_up, e, this.1]
          exact this.2
      · show zI _ (h0 + 2) d = nI (va_up (bS B) (s / 32) (bS B (s / 32) ||| 2 ^ (s % 32)) d) ∧ va_up (bS B) (s / 32) (bS B (s / 32) ||| 2 ^ (s % 32)) d < 2 ^ 32
        have := b5 d hd
        by_cases e : d = s / 32
        · subst e; simp [zI_sI, upd, va_up]
          exact Nat.or_lt_two_pow (n := 32) this.2 (Nat.pow_lt_pow_right (by decide) (show s % 32 < 32 by omega))
        · simp [zI_sI, upd, va_up, e, this.1, this.2]
theorem stO_lt {T : TD} {k s d e : Nat} (h1 : 1 ≤ tL T k) (h6 : tL T k ≤ 6) (hd : d < 12) (h : stO T k s d = some e) : e < 384 := by
  unfold stO at h
  split at h
  · cases h
  next hb =>
    have := goS_safe h1 h6 (by simpa using hb : (goS T k s d).testBit (tL T k - 1) = false)
    have := Option.some.inj h
    omega
/-- from the i-th of the queue on to the doors around it -/
def enA (T : TD) (k : Nat) (B0 : BQ) (i : Nat) : Nat → BQ
  | 0 => B0
  | d + 1 => if (tE T (bQ B0 i / 32)).testBit d then enqB (enA T k B0 i d) (stO T k (bQ B0 i % 32) d) (some i) else enA T k B0 i d
theorem enqB_keep {B : BQ} {so fo : Option Nat} : bN B ≤ bN (enqB B so fo) ∧ ∀ i, i < bN B → bQ (enqB B so fo) i = bQ B i ∧ bB (enqB B so fo) i = bB B i := by
  cases so with
  | none => exact ⟨Nat.le_refl _, fun i _ => ⟨rfl, rfl⟩⟩
  | some s =>
    rw [enqB]
    split
    · exact ⟨Nat.le_refl _, fun i _ => ⟨rfl, rfl⟩⟩
    · refine ⟨Nat.le_succ _, fun i hi => ⟨?_, ?_⟩⟩
      · show va_up (bQ B) (bN B) s i = bQ B i
        unfold va_up; rw [if_neg (by omega)]
      · show va_up (bB B) (bN B) fo i = bB B i
        unfold va_up; rw [if_neg (by omega)]
theorem enA_keep {T : TD} {k : Nat} {B : BQ} {i : Nat} : ∀ d, bN B ≤ bN (enA T k B i d) ∧ ∀ j, j < bN B → bQ (enA T k B i d) j = bQ B j ∧ bB (enA T k B i d) j = bB B j
  | 0 => ⟨Nat.le_refl _, fun j _ => ⟨rfl, rfl⟩⟩
  | d + 1 => by
    have ih := enA_keep (T := T) (k := k) (B := B) (i := i) d
    rw [enA]
    split
    · have h2 := enqB_keep (B := enA T k B i d) (so := stO T k (bQ B i % 32) d) (fo := some i)
      exact ⟨Nat.le_trans ih.1 h2.1, fun j hj => ⟨(h2.2 j (Nat.lt_of_lt_of_le hj ih.1)).1.trans (ih.2 j hj).1, (h2.2 j (Nat.lt_of_lt_of_le hj ih.1)).2.trans (ih.2 j hj).2⟩⟩
    · exact ih
def w_X6_enqueueAround : WPt := fun args σ Q => match args with
  | [.ref h, .ref t, .int x] => ∃ (T : TD) (k : Nat) (B : BQ) (i : Nat), ShS σ h ∧ ShV σ h T k ∧ TownR σ t T ∧ apH h t ∧ BR σ h B ∧ x = nI i ∧ i < bN B ∧ bQ B i / 32 < tD T ∧ ∀ σ', Fr σ σ' h (h + 5) → ShV σ' h T k → BR σ' h (enA T k B i (tD T)) → Q none σ'
  | _ => False
set_option maxHeartbeats 2000000 in
theorem m_X6_enqueueAround : Meets yX6_enqueueAround cX6_enqueueAround 5 none 3 w_X6_enqueueAround := by
  refine Meets.mk (by decide) fun args σ Φ h => ?_
  unfold w_X6_enqueueAround at h
  split at h
  rotate_left
  · exact h.elim
  rename_i h0 t x
  obtain ⟨h0, rfl⟩ : ∃ q : Nat, q = h0 := ⟨h0, rfl⟩
  obtain ⟨t, rfl⟩ : ∃ q : Nat, q = t := ⟨t, rfl⟩
  obtain ⟨T, k, B, i, hh, hv, hT, hap, hB, rfl, hi, hqd, hQ⟩ := h
  unfold apH at hap
  refine ⟨Nat.le_of_ble_eq_true rfl, fun C hC hR => ?_⟩
  have hD := hT.2.2.2.1
  have hp := hT.d31
  have ⟨s1, s2, s3, s4, s5, s6, s7, s8, s9, s10, s11, s12⟩ := hh
  have hi3 := hB.2.1
  have hq := hB.2.2.1 i hi
  have hE := (hT.2.2.2.2.2.2.1 _ hqd).2
  refine r_X6_enqueueAround_0 hC hR m_X8_joinedTo (by decide) m_X11_has (by decide) m_X6_stateAt (by decide) m_X6_enqueue (by decide) _ _ _ ?_
  simp only [T_X6_enqueueAround_0, x_psh, x_ild, x_lld, x_ald, x_ist, x_ast, x_lst, x_inc, x_iadd, x_isub, x_imul, x_iand, x_ior, x_ixor, x_ishl, x_ishr, x_iushr, x_idiv, x_irem, x_ladd, x_land, x_lor, x_lshl, x_lshr, x_ineg, x_i2l, x_l2i, x_i2b, x_lcmp, x_dup, x_dup2, x_if_eq, x_if_ne, x_if_lt, x_if_ge, x_if_gt, x_if_le, x_ic_eq, x_ic_ne, x_ic_lt, x_ic_ge, x_ic_gt, x_ic_le, x_getI, x_getR, x_putI, x_putZ, x_putR, x_iald, x_bald, x_lald, x_iast, x_bast, x_last, x_alen, x_acp, x_mmax, x_mmin, x_callV, x_callS, x_iret, x_zret, x_lret, x_aret, x_vret, x_tsw, x_stop, zst1, zst2, zkill, zkl, zsplit, zmask, zent, zentL, List.getElem?_cons_zero, List.getElem?_cons_succ, List.set_cons_zero, List.set_cons_succ, List.set_nil, List.length_cons, List.length_nil, List.replicate, List.nil_append, List.cons_append, List.map_cons, List.map_nil, List.sum_cons, List.sum_nil, Value.category, Option.toList, List.contains_cons, List.contains_nil, true_or, or_true, true_and, Nat.zero_le, Nat.reduceAdd, Nat.reduceLeDiff, Nat.reduceLT, Nat.reduceBEq, Bool.true_or, Bool.or_true, Bool.false_or, Bool.or_false, ↓reduceIte, Bool.false_eq_true, Nat.add_zero, Nat.zero_add, Nat.reduceEqDiff, Nat.reduceSub, s1, s10, w_X8_joinedTo]
  refine ⟨by omega, 384, s4, vp_in_nI (by omega) (by omega), by decide, hT.1.1, T, hT, fun d hd e => ?_, fun q => ?_⟩
  rotate_left
  · rw [nI_clamp (by omega), hq.1, z_l32, z_div32 (by omega)] at q
    exact absurd (not_lt_pos (by omega) hqd) q
  rw [nI_clamp (by omega), hq.1, z_l32, z_div32 (by omega)] at e
  have e2 : bQ B i / 32 = d := (nI_eq (by omega) (by omega)).mp e
  subst e2
  have key := zloop (P := fun d => ∀ τ, Fr σ τ h0 (h0 + 5) → ShV τ h0 T k → BR τ h0 (enA T k B i d) → WW C 17 [some (.ref h0), some (.ref t), some (.int (nI i)), some (.int (nI (tE T (bQ B i / 32)))), some (.int (nI d))] [] τ) (tD T) (fun d hd ih τ hf hv' hB' => ?_) ?_ 0 (by omega)
  · exact key σ (Fr.refl _ _ _) hv hB
  · have hh' := hh.of hf.1 hf.2.1
    have hT' : TownR τ t T := hT.fr hf (by omega)
    have z1 := hh'.1
    have z10 := hh'.2.2.2.2.2.2.2.2.2.1
    have t1 := hT'.1.1
    have v1 := hT'.2.1
    have hk := enA_keep (T := T) (k := k) (B := B) (i := i) d
    have hq2 := hB'.2.2.1 i (Nat.lt_of_lt_of_le hi hk.1)
    have hb3 := hB'.2.1
    rw [(hk.2 i hi).1] at hq2
    refine r_X6_enqueueAround_17 hC hR m_X8_joinedTo (by decide) m_X11_has (by decide) m_X6_stateAt (by decide) m_X6_enqueue (by decide) _ _ _ ?_
    simp only [T_X6_enqueueAround_17, x_psh, x_ild, x_lld, x_ald, x_ist, x_ast, x_lst, x_inc, x_iadd, x_isub, x_imul, x_iand, x_ior, x_ixor, x_ishl, x_ishr, x_iushr, x_idiv, x_irem, x_ladd, x_land, x_lor, x_lshl, x_lshr, x_ineg, x_i2l, x_l2i, x_i2b, x_lcmp, x_dup, x_dup2, x_if_eq, x_if_ne, x_if_lt, x_if_ge, x_if_gt, x_if_le, x_ic_eq, x_ic_ne, x_ic_lt, x_ic_ge, x_ic_gt, x_ic_le, x_getI, x_getR, x_putI, x_putZ, x_putR, x_iald, x_bald, x_lald, x_iast, x_bast, x_last, x_alen, x_acp, x_mmax, x_mmin, x_callV, x_callS, x_iret, x_zret, x_lret, x_aret, x_vret, x_tsw, x_stop, zst1, zst2, zkill, zkl, zsplit, zmask, zent, zentL, List.getElem?_cons_zero, List.getElem?_cons_succ, List.set_cons_zero, List.set_cons_succ, List.set_nil, List.length_cons, List.length_nil, List.replicate, List.nil_append, List.cons_append, List.map_cons, List.map_nil, List.sum_cons, List.sum_nil, Value.category, Option.toList, List.contains_cons, List.contains_nil, true_or, or_true, true_and, Nat.zero_le, Nat.reduceAdd, Nat.reduceLeDiff, Nat.reduceLT, Nat.reduceBEq, Bool.true_or, Bool.or_true, Bool.false_or, Bool.or_false, ↓reduceIte, Bool.false_eq_true, Nat.add_zero, Nat.zero_add, Nat.reduceEqDiff, Nat.reduceSub, z1, z10, t1, v1, w_X11_has, w_X6_stateAt, w_X6_enqueue]
    refine ⟨fun q => absurd q (nI_ge hd (by omega)), fun _ => ⟨_, d, rfl, rfl, by omega, by omega, ?_⟩⟩
    rw [b2i_0, nI_i3]
    refine ⟨fun hb => ?_, fun hb => ⟨by omega, 384, hh'.2.2.2.1, vp_in_nI (by omega) (by omega), by decide, T, k, d, bQ B i % 32, hh', hv', hT', rfl, hd, ?_, by omega, T, k, enA T k B i d, stO T k (bQ B i % 32) d, some i, hh', hv', hB', rfl, rfl, fun s hs => stO_lt hv.1 hv.2.1 (by omega) hs, fun j hj => (by cases hj; omega), fun σ' hf' hv2 hB2 => ?_⟩⟩
    · refine ih τ hf hv' ?_
      rw [enA, if_neg hb]
      exact hB'
    · rw [nI_clamp (by omega), hq2.1, z_l32, z_rem32 (by omega)]
    · refine ih σ' (hf.trans hf') hv2 ?_
      rw [enA, if_pos (Decidable.not_not.mp hb)]
      exact hB2
  · intro τ hf hv' hB'
    have hT' : TownR τ t T := hT.fr hf (by omega)
    have t1 := hT'.1.1
    have v1 := hT'.2.1
    refine r_X6_enqueueAround_17 hC hR m_X8_joinedTo (by decide) m_X11_has (by decide) m_X6_stateAt (by decide) m_X6_enqueue (by decide) _ _ _ ?_
    simp only [T_X6_enqueueAround_17, x_psh, x_ild, x_lld, x_ald, x_ist, x_ast, x_lst, x_inc, x_iadd, x_isub, x_imul, x_iand, x_ior, x_ixor, x_ishl, x_ishr, x_iushr, x_idiv, x_irem, x_ladd, x_land, x_lor, x_lshl, x_lshr, x_ineg, x_i2l, x_l2i, x_i2b, x_lcmp, x_dup, x_dup2, x_if_eq, x_if_ne, x_if_lt, x_if_ge, x_if_gt, x_if_le, x_ic_eq, x_ic_ne, x_ic_lt, x_ic_ge, x_ic_gt, x_ic_le, x_getI, x_getR, x_putI, x_putZ, x_putR, x_iald, x_bald, x_lald, x_iast, x_bast, x_last, x_alen, x_acp, x_mmax, x_mmin, x_callV, x_callS, x_iret, x_zret, x_lret, x_aret, x_vret, x_tsw, x_stop, zst1, zst2, zkill, zkl, zsplit, zmask, zent, zentL, List.getElem?_cons_zero, List.getElem?_cons_succ, List.set_cons_zero, List.set_cons_succ, List.set_nil, List.length_cons, List.length_nil, List.replicate, List.nil_append, List.cons_append, List.map_cons, List.map_nil, List.sum_cons, List.sum_nil, Value.category, Option.toList, List.contains_cons, List.contains_nil, true_or, or_true, true_and, Nat.zero_le, Nat.reduceAdd, Nat.reduceLeDiff, Nat.reduceLT, Nat.reduceBEq, Bool.true_or, Bool.or_true, Bool.false_or, Bool.or_false, ↓reduceIte, Bool.false_eq_true, Nat.add_zero, Nat.zero_add, Nat.reduceEqDiff, Nat.reduceSub, t1, v1]
    exact ⟨fun _ => hQ τ hf hv' hB', fun q => absurd (nI_le (Nat.le_refl _) (by omega)) q⟩

/-- the search from the i-th on: where the end is -/
def fwS (T : TD) (k to : Nat) : Nat → Nat → BQ → Option Nat × BQ
  | 0, _, B => (none, B)
  | f + 1, i, B => if bN B ≤ i then (none, B) else if bQ B i / 32 = to then (some i, B) else fwS T k to f (i + 1) (enA T k B i (tD T))
def bq0 : BQ := (0, fun _ => 0, fun _ => none, fun _ => 0)
def fwR (T : TD) (k fr to : Nat) : Option Nat × BQ := fwS T k to 384 0 (enqB bq0 (stO T k 0 fr) none)
def w_X6_findWay : WPt := fun args σ Q => match args with
  | [.ref h, .ref t, .int x, .int y] => ∃ (T : TD) (k fr to : Nat), ShS σ h ∧ ShV σ h T k ∧ TownR σ t T ∧ apH h t ∧ x = nI fr ∧ y = nI to ∧ fr < tD T ∧ to < tD T ∧ ∀ σ', Fr σ σ' h (h + 5) → ShV σ' h T k → BR σ' h (fwR T k fr to).2 → Q (some (.int (i2 (fwR T k fr to).1))) σ'
  | _ => False
def bqD (B : BQ) (D : Nat) : Prop := ∀ i, i < bN B → bQ B i / 32 < D
theorem enqB_D {B : BQ} {D : Nat} {so fo : Option Nat} (h : bqD B D) (hs : ∀ s, so = some s → s / 32 < D) : bqD (enqB B so fo) D := by
  cases so with
  | none => exact h
  | some s =>
    rw [enqB]
    split
    · exact h
    · intro i hi
      replace hi : i < bN B + 1 := hi
      show va_up (bQ B) (bN B) s i / 32 < D
      unfold va_up
      split
      · exact hs s rfl
      · exact h i (by omega)
theorem stO_div {T : TD} {k s d e : Nat} (h1 : 1 ≤ tL T k) (h6 : tL T k ≤ 6) (h : stO T k s d = some e) : e / 32 = d ∧ e % 32 = goS T k s d := by
  unfold stO at h
  split at h
  · cases h
  next hb =>
    have := goS_safe h1 h6 (by simpa using hb : (goS T k s d).testBit (tL T k - 1) = false)
    have := Option.some.inj h
    omega
theorem enA_D {T : TD} {k : Nat} {B : BQ} {i D : Nat} (h1 : 1 ≤ tL T k) (h6 : tL T k ≤ 6) (h : bqD B D) : ∀ d, d ≤ D → bqD (enA T k B i d) D
  | 0, _ => h
  | d + 1, hd => by
    have ih := enA_D (T := T) (k := k) (i := i) h1 h6 h d (by omega)
    rw [enA]
    split
    · exact enqB_D ih fun s hs => by rw [(stO_div h1 h6 hs).1]; omega
    · exact ih
set_option maxHeartbeats 2000000 in
theorem m_X6_findWay : Meets yX6_findWay cX6_findWay 6 (some .int) 4 w_X6_findWay := by
  refine Meets.mk (by decide) fun args σ Φ h => ?_
  unfold w_X6_findWay at h
  split at h
  rotate_left
  · exact h.elim
  rename_i h0 t x y
  obtain ⟨h0, rfl⟩ : ∃ q : Nat, q = h0 := ⟨h0, rfl⟩
  obtain ⟨t, rfl⟩ : ∃ q : Nat, q = t := ⟨t, rfl⟩
  obtain ⟨T, k, fr, to, hh, hv, hT, hap, rfl, rfl, hfr, hto, hQ⟩ := h
  have hap2 := hap
  unfold apH at hap
  refine ⟨Nat.le_of_ble_eq_true rfl, fun C hC hR => ?_⟩
  have hD := hT.2.2.2.1
  have ⟨s1, s2, s3, s4, s5, s6, s7, s8, s9, s10, s11, s12⟩ := hh
  refine r_X6_findWay_0 hC hR m_J7_fill_53178 (by decide) m_X6_stateAt (by decide) m_X6_enqueue (by decide) m_X6_enqueueAround (by decide) _ _ _ ?_
  simp only [T_X6_findWay_0, x_psh, x_ild, x_lld, x_ald, x_ist, x_ast, x_lst, x_inc, x_iadd, x_isub, x_imul, x_iand, x_ior, x_ixor, x_ishl, x_ishr, x_iushr, x_idiv, x_irem, x_ladd, x_land, x_lor, x_lshl, x_lshr, x_ineg, x_i2l, x_l2i, x_i2b, x_lcmp, x_dup, x_dup2, x_if_eq, x_if_ne, x_if_lt, x_if_ge, x_if_gt, x_if_le, x_ic_eq, x_ic_ne, x_ic_lt, x_ic_ge, x_ic_gt, x_ic_le, x_getI, x_getR, x_putI, x_putZ, x_putR, x_iald, x_bald, x_lald, x_iast, x_bast, x_last, x_alen, x_acp, x_mmax, x_mmin, x_callV, x_callS, x_iret, x_zret, x_lret, x_aret, x_vret, x_tsw, x_stop, zst1, zst2, zkill, zkl, zsplit, zmask, zent, zentL, List.getElem?_cons_zero, List.getElem?_cons_succ, List.set_cons_zero, List.set_cons_succ, List.set_nil, List.length_cons, List.length_nil, List.replicate, List.nil_append, List.cons_append, List.map_cons, List.map_nil, List.sum_cons, List.sum_nil, Value.category, Option.toList, List.contains_cons, List.contains_nil, true_or, or_true, true_and, Nat.zero_le, Nat.reduceAdd, Nat.reduceLeDiff, Nat.reduceLT, Nat.reduceBEq, Bool.true_or, Bool.or_true, Bool.false_or, Bool.or_false, ↓reduceIte, Bool.false_eq_true, Nat.add_zero, Nat.zero_add, Nat.reduceEqDiff, Nat.reduceSub, s1, s9, w_J7_fill_53178, w_X6_stateAt, w_X6_enqueue]
  refine ⟨by omega, 12, s3, by omega, fun σ1 f1 f2 f3 f4 f5 => ⟨by rw [f1]; exact s1, ?_⟩⟩
  have key : ∀ (f i : Nat) (B : BQ) (τ : ZS), i + f = 384 → Fr σ τ h0 (h0 + 5) → ShV τ h0 T k → BR τ h0 B → bqD B (tD T) → fwS T k to f i B = fwR T k fr to → WW C 29 [some (.ref h0), some (.ref t), none, some (.int (nI to)), some (.int (nI i)), none] [] τ := by
    intro f
    induction f with
    | zero =>
      intro i B τ hi hf hv' hB hbd he
      have hh' := hh.of hf.1 hf.2.1
      have z1 := hh'.1
      have b1 := hB.1
      have b2 := hB.2.1
      have hq := hQ τ hf hv'
      rw [← he] at hq
      refine r_X6_findWay_29 hC hR m_J7_fill_53178 (by decide) m_X6_stateAt (by decide) m_X6_enqueue (by decide) m_X6_enqueueAround (by decide) _ _ _ ?_
      simp only [T_X6_findWay_29, x_psh, x_ild, x_lld, x_ald, x_ist, x_ast, x_lst, x_inc, x_iadd, x_isub, x_imul, x_iand, x_ior, x_ixor, x_ishl, x_ishr, x_iushr, x_idiv, x_irem, x_ladd, x_land, x_lor, x_lshl, x_lshr, x_ineg, x_i2l, x_l2i, x_i2b, x_lcmp, x_dup, x_dup2, x_if_eq, x_if_ne, x_if_lt, x_if_ge, x_if_gt, x_if_le, x_ic_eq, x_ic_ne, x_ic_lt, x_ic_ge, x_ic_gt, x_ic_le, x_getI, x_getR, x_putI, x_putZ, x_putR, x_iald, x_bald, x_lald, x_iast, x_bast, x_last, x_alen, x_acp, x_mmax, x_mmin, x_callV, x_callS, x_iret, x_zret, x_lret, x_aret, x_vret, x_tsw, x_stop, zst1, zst2, zkill, zkl, zsplit, zmask, zent, zentL, List.getElem?_cons_zero, List.getElem?_cons_succ, List.set_cons_zero, List.set_cons_succ, List.set_nil, List.length_cons, List.length_nil, List.replicate, List.nil_append, List.cons_append, List.map_cons, List.map_nil, List.sum_cons, List.sum_nil, Value.category, Option.toList, List.contains_cons, List.contains_nil, true_or, or_true, true_and, Nat.zero_le, Nat.reduceAdd, Nat.reduceLeDiff, Nat.reduceLT, Nat.reduceBEq, Bool.true_or, Bool.or_true, Bool.false_or, Bool.or_false, ↓reduceIte, Bool.false_eq_true, Nat.add_zero, Nat.zero_add, Nat.reduceEqDiff, Nat.reduceSub, z1, b1]
      exact ⟨fun _ => hq hB, fun q => absurd (nI_le (by omega) (by omega)) q⟩
    | succ f ih =>
      intro i B τ hi hf hv' hB hbd he
      have hh' := hh.of hf.1 hf.2.1
      have hT' : TownR τ t T := hT.fr hf (by omega)
      have z1 := hh'.1
      have z10 := hh'.2.2.2.2.2.2.2.2.2.1
      have b1 := hB.1
      have b2 := hB.2.1
      rw [fwS] at he
      refine r_X6_findWay_29 hC hR m_J7_fill_53178 (by decide) m_X6_stateAt (by decide) m_X6_enqueue (by decide) m_X6_enqueueAround (by decide) _ _ _ ?_
      simp only [T_X6_findWay_29, x_psh, x_ild, x_lld, x_ald, x_ist, x_ast, x_lst, x_inc, x_iadd, x_isub, x_imul, x_iand, x_ior, x_ixor, x_ishl, x_ishr, x_iushr, x_idiv, x_irem, x_ladd, x_land, x_lor, x_lshl, x_lshr, x_ineg, x_i2l, x_l2i, x_i2b, x_lcmp, x_dup, x_dup2, x_if_eq, x_if_ne, x_if_lt, x_if_ge, x_if_gt, x_if_le, x_ic_eq, x_ic_ne, x_ic_lt, x_ic_ge, x_ic_gt, x_ic_le, x_getI, x_getR, x_putI, x_putZ, x_putR, x_iald, x_bald, x_lald, x_iast, x_bast, x_last, x_alen, x_acp, x_mmax, x_mmin, x_callV, x_callS, x_iret, x_zret, x_lret, x_aret, x_vret, x_tsw, x_stop, zst1, zst2, zkill, zkl, zsplit, zmask, zent, zentL, List.getElem?_cons_zero, List.getElem?_cons_succ, List.set_cons_zero, List.set_cons_succ, List.set_nil, List.length_cons, List.length_nil, List.replicate, List.nil_append, List.cons_append, List.map_cons, List.map_nil, List.sum_cons, List.sum_nil, Value.category, Option.toList, List.contains_cons, List.contains_nil, true_or, or_true, true_and, Nat.zero_le, Nat.reduceAdd, Nat.reduceLeDiff, Nat.reduceLT, Nat.reduceBEq, Bool.true_or, Bool.or_true, Bool.false_or, Bool.or_false, ↓reduceIte, Bool.false_eq_true, Nat.add_zero, Nat.zero_add, Nat.reduceEqDiff, Nat.reduceSub, z1, z10, b1, w_X6_enqueueAround]
      refine ⟨fun q => ?_, fun q => ⟨fun q2 => absurd q2 (by rw [z_l384]; exact nI_ge (by omega) (by omega)), fun _ => ?_⟩⟩
      · rw [if_pos ((nI_leI (by omega) (by omega)).mp q)] at he
        have hq := hQ τ hf hv'
        rw [← he] at hq
        exact hq hB
      · have hiN : i < bN B := by
          rcases Nat.lt_or_ge i (bN B) with h | h
          · exact h
          · exact absurd (nI_le h (by omega)) q
        have hqi := hB.2.2.1 i hiN
        rw [if_neg (by omega)] at he
        refine ⟨by omega, 384, hh'.2.2.2.1, vp_in_nI (by omega) (by omega), by decide, ?_⟩
        rw [nI_clamp (by omega), hqi.1, z_l32, z_div32 (by omega), nI_eq (by omega) (by omega)]
        refine ⟨fun q3 => ⟨T, k, B, i, hh', hv', hT', hap2, hB, rfl, hiN, hbd i hiN, fun σ' hf' hv2 hB2 => ?_⟩, fun q3 => ?_⟩
        · rw [if_neg q3] at he
          rw [nI_i3]
          exact ih (i + 1) _ σ' (by omega) (hf.trans hf') hv2 hB2 (enA_D hv.1 hv.2.1 hbd _ (Nat.le_refl _)) he
        · rw [if_pos q3] at he
          have hq := hQ τ hf hv'
          rw [← he] at hq
          exact hq hB
  have hf0 : Fr σ (sI σ1 h0 5 0) h0 (h0 + 5) := ⟨by rw [zd_sI]; exact f1, by rw [zR_sI]; exact f2, fun a ha => by rw [zI_sI, if_neg (by omega)]; exact f4 a (by omega), fun a _ => by rw [zJ_sI, f3]⟩
  have hv0 : ShV (sI σ1 h0 5 0) h0 T k := by
    refine ⟨hv.1, hv.2.1, ?_, fun a ha => ?_⟩
    · rw [zI_sI, if_pos rfl, pk_un (by decide), f4 h0 (by omega)]; exact hv.2.2.1
    · rw [zI_sI, if_neg (by omega), f4 (h0 + 1) (by omega)]; exact hv.2.2.2 a ha
  have hB0 : BR (sI σ1 h0 5 0) h0 bq0 := by
    refine ⟨?_, by decide, fun i hi => absurd hi (Nat.not_lt_zero i), fun i hi => absurd hi (Nat.not_lt_zero i), fun d hd => ⟨?_, ?_⟩⟩
    · rw [zI_sI, if_pos rfl, pk_us]; rfl
    · rw [zI_sI, if_neg (by omega), f5 d hd]; rfl
    · show 0 < 2 ^ 32; decide
  have hh0 := hh.of hf0.1 hf0.2.1
  have hT0 : TownR (sI σ1 h0 5 0) t T := hT.fr hf0 (by omega)
  refine ⟨hh0.1, T, k, fr, 0, hh0, hv0, hT0, rfl, hfr, rfl, by omega, hh0.1, T, k, bq0, stO T k 0 fr, none, hh0, hv0, hB0, rfl, rfl, fun s hs => stO_lt hv.1 hv.2.1 (by omega) hs, fun j hj => (by cases hj), fun σ' hf' hv' hB' => ?_⟩
  refine key 384 0 _ σ' rfl (hf0.trans hf') hv' hB' (enqB_D (fun i hi => absurd hi (Nat.not_lt_zero i)) fun s hs => by rw [(stO_div hv.1 hv.2.1 hs).1]; exact hfr) rfl
/-- how far the i-th is from the start -/
def stpS (B : BQ) : Nat → Nat → Nat
  | 0, _ => 0
  | f + 1, i => match bB B i with
    | none => 0
    | some j => stpS B f j + 1
