def bqC (B : BQ) : Prop := ∀ i, i < bN B → ∀ j, bB B i = some j → j < i
theorem enqB_C {B : BQ} {so fo : Option Nat} (h : bqC B) (hf : ∀ j, fo = some j → j < bN B) : bqC (enqB B so fo) := by
  cases so with
  | none => exact h
  | some s =>
    rw [enqB]
    split
    · exact h
    · intro i hi j
      replace hi : i < bN B + 1 := hi
      show va_up (bB B) (bN B) fo i = some j → j < i
      unfold va_up
      split
      next e => subst e; exact hf j
      next e => exact h i (by omega) j
theorem enA_C {T : TD} {k : Nat} {B : BQ} {i : Nat} (h : bqC B) (hi : i < bN B) : ∀ d, bqC (enA T k B i d)
  | 0 => h
  | d + 1 => by
    have ih := enA_C (T := T) (k := k) h hi d
    rw [enA]
    split
    · exact enqB_C ih fun j hj => by cases hj; exact Nat.lt_of_lt_of_le hi (enA_keep d).1
    · exact ih
theorem fwS_C {T : TD} {k to : Nat} : ∀ (f i : Nat) (B : BQ), bqC B → bqC (fwS T k to f i B).2 ∧ (∀ e, (fwS T k to f i B).1 = some e → e < bN (fwS T k to f i B).2)
  | 0, i, B, h => ⟨h, fun e he => by cases he⟩
  | f + 1, i, B, h => by
    rw [fwS]
    split
    · exact ⟨h, fun e he => by cases he⟩
    next h1 =>
      split
      · exact ⟨h, fun e he => by cases he; show i < bN B; omega⟩
      · exact fwS_C f (i + 1) _ (enA_C h (by omega) _)
theorem fwR_C (T : TD) (k fr to : Nat) : bqC (fwR T k fr to).2 ∧ (∀ e, (fwR T k fr to).1 = some e → e < bN (fwR T k fr to).2) :=
  fwS_C _ _ _ (enqB_C (fun i hi => absurd hi (Nat.not_lt_zero i)) (fun j hj => by cases hj))
theorem stpS_le (B : BQ) (h : bqC B) : ∀ f i, i < bN B → stpS B f i ≤ i
  | 0, i, _ => Nat.zero_le _
  | f + 1, i, hi => by
    rw [stpS]
    split
    · exact Nat.zero_le _
    next j hj =>
      have h1 := h i hi j hj
      have := stpS_le B h f j (by omega)
      omega
theorem stpS_fuel (B : BQ) (h : bqC B) : ∀ f g i, i < bN B → i < f → i < g → stpS B f i = stpS B g i
  | 0, _, i, _, hf, _ => absurd hf (Nat.not_lt_zero i)
  | f + 1, 0, i, _, _, hg => absurd hg (Nat.not_lt_zero i)
  | f + 1, g + 1, i, hi, hf, hg => by
    rw [stpS, stpS]
    split
    · rfl
    next j hj =>
      have h1 := h i hi j hj
      rw [stpS_fuel B h f g j (by omega) (by omega) (by omega)]
def stpR (B : BQ) (i : Nat) : Nat := stpS B 384 i
theorem stpR_eq (B : BQ) (h : bqC B) {i : Nat} (hi : i < bN B) (hN : bN B ≤ 384) : stpR B i = match bB B i with | none => 0 | some j => stpR B j + 1 := by
  unfold stpR
  cases hb : bB B i with
  | none =>
    show stpS B (383 + 1) i = 0
    rw [stpS, hb]
  | some j =>
    have h1 := h i hi j hb
    show stpS B (383 + 1) i = stpS B 384 j + 1
    rw [stpS, hb]
    show stpS B 383 j + 1 = _
    rw [stpS_fuel B h 383 384 j (by omega) (by omega) (by omega)]
def w_X6_stepsOfWay : WPt := fun args σ Q => match args with
  | [.ref h, .int x] => ∃ (B : BQ) (eo : Option Nat), ShS σ h ∧ BR σ h B ∧ bqC B ∧ x = i2 eo ∧ (∀ e, eo = some e → e < bN B) ∧ Q (some (.int (i2 (eo.map (stpR B))))) σ
  | _ => False
theorem m_X6_stepsOfWay : Meets yX6_stepsOfWay cX6_stepsOfWay 4 (some .int) 1 w_X6_stepsOfWay := by
  refine Meets.mk (by decide) fun args σ Φ h => ?_
  unfold w_X6_stepsOfWay at h
  split at h
  rotate_left
  · exact h.elim
  rename_i h0 x
  obtain ⟨h0, rfl⟩ : ∃ q : Nat, q = h0 := ⟨h0, rfl⟩
  obtain ⟨B, eo, hh, hB, hC0, rfl, he, hQ⟩ := h
  refine ⟨Nat.le_of_ble_eq_true rfl, fun C hC hR => ?_⟩
  have ⟨s1, s2, s3, s4, s5, s6, s7, s8, s9, s10, s11, s12⟩ := hh
  have ⟨b1, b2, b3, b4, b5⟩ := hB
  refine r_X6_stepsOfWay_0 hC hR _ _ _ ?_
  simp only [T_X6_stepsOfWay_0, x_psh, x_ild, x_lld, x_ald, x_ist, x_ast, x_lst, x_inc, x_iadd, x_isub, x_imul, x_iand, x_ior, x_ixor, x_ishl, x_ishr, x_iushr, x_idiv, x_irem, x_ladd, x_land, x_lor, x_lshl, x_lshr, x_ineg, x_i2l, x_l2i, x_i2b, x_lcmp, x_dup, x_dup2, x_if_eq, x_if_ne, x_if_lt, x_if_ge, x_if_gt, x_if_le, x_ic_eq, x_ic_ne, x_ic_lt, x_ic_ge, x_ic_gt, x_ic_le, x_getI, x_getR, x_putI, x_putZ, x_putR, x_iald, x_bald, x_lald, x_iast, x_bast, x_last, x_alen, x_acp, x_mmax, x_mmin, x_callV, x_callS, x_iret, x_zret, x_lret, x_aret, x_vret, x_tsw, x_stop, zst1, zst2, zkill, zkl, zsplit, zmask, zent, zentL, List.getElem?_cons_zero, List.getElem?_cons_succ, List.set_cons_zero, List.set_cons_succ, List.set_nil, List.length_cons, List.length_nil, List.replicate, List.nil_append, List.cons_append, List.map_cons, List.map_nil, List.sum_cons, List.sum_nil, Value.category, Option.toList, List.contains_cons, List.contains_nil, true_or, or_true, true_and, Nat.zero_le, Nat.reduceAdd, Nat.reduceLeDiff, Nat.reduceLT, Nat.reduceBEq, Bool.true_or, Bool.or_true, Bool.false_or, Bool.or_false, ↓reduceIte, Bool.false_eq_true, Nat.add_zero, Nat.zero_add, Nat.reduceEqDiff, Nat.reduceSub, s1, s11]
  rw [i2_m9 (fun e h => by have := he e h; omega)]
  cases eo with
  | none => exact ⟨fun q => absurd rfl q, fun _ => hQ⟩
  | some e =>
    have hE := he e rfl
    have hle := stpS_le B hC0 384 e hE
    refine ⟨fun _ => ⟨by omega, 384, s5, vp_in_nI (by omega) (by omega), ?_⟩, fun q => by cases q⟩
    show WW C 18 [some (.ref h0), none, some (.int 0), some (.int (zI σ (h0 + 4) (nI e).toNatClampNeg))] [] σ
    rw [nI_clamp (by omega), (b4 e hE).1]
    have key : ∀ (j : Nat) (n : Nat) (o : Option Nat), (∀ i, o = some i → i < j) → j ≤ bN B → n + (match o with | none => 0 | some i => stpR B i + 1) = stpR B e → WW C 18 [some (.ref h0), none, some (.int (nI n)), some (.int (i2 o))] [] σ := by
      intro j
      induction j with
      | zero =>
        intro n o ho hj hn
        cases o with
        | some i => exact absurd (ho i rfl) (Nat.not_lt_zero i)
        | none =>
          refine r_X6_stepsOfWay_18 hC hR _ _ _ ?_
          simp only [T_X6_stepsOfWay_18, x_psh, x_ild, x_lld, x_ald, x_ist, x_ast, x_lst, x_inc, x_iadd, x_isub, x_imul, x_iand, x_ior, x_ixor, x_ishl, x_ishr, x_iushr, x_idiv, x_irem, x_ladd, x_land, x_lor, x_lshl, x_lshr, x_ineg, x_i2l, x_l2i, x_i2b, x_lcmp, x_dup, x_dup2, x_if_eq, x_if_ne, x_if_lt, x_if_ge, x_if_gt, x_if_le, x_ic_eq, x_ic_ne, x_ic_lt, x_ic_ge, x_ic_gt, x_ic_le, x_getI, x_getR, x_putI, x_putZ, x_putR, x_iald, x_bald, x_lald, x_iast, x_bast, x_last, x_alen, x_acp, x_mmax, x_mmin, x_callV, x_callS, x_iret, x_zret, x_lret, x_aret, x_vret, x_tsw, x_stop, zst1, zst2, zkill, zkl, zsplit, zmask, zent, zentL, List.getElem?_cons_zero, List.getElem?_cons_succ, List.set_cons_zero, List.set_cons_succ, List.set_nil, List.length_cons, List.length_nil, List.replicate, List.nil_append, List.cons_append, List.map_cons, List.map_nil, List.sum_cons, List.sum_nil, Value.category, Option.toList, List.contains_cons, List.contains_nil, true_or, or_true, true_and, Nat.zero_le, Nat.reduceAdd, Nat.reduceLeDiff, Nat.reduceLT, Nat.reduceBEq, Bool.true_or, Bool.or_true, Bool.false_or, Bool.or_false, ↓reduceIte, Bool.false_eq_true, Nat.add_zero, Nat.zero_add, Nat.reduceEqDiff, Nat.reduceSub, s1, s11, i2]
          refine ⟨fun _ => ?_, fun q => absurd (by decide) q⟩
          rw [show n = stpR B e from hn]
          exact hQ
      | succ j ih =>
        intro n o ho hj hn
        cases o with
        | none =>
          refine r_X6_stepsOfWay_18 hC hR _ _ _ ?_
          simp only [T_X6_stepsOfWay_18, x_psh, x_ild, x_lld, x_ald, x_ist, x_ast, x_lst, x_inc, x_iadd, x_isub, x_imul, x_iand, x_ior, x_ixor, x_ishl, x_ishr, x_iushr, x_idiv, x_irem, x_ladd, x_land, x_lor, x_lshl, x_lshr, x_ineg, x_i2l, x_l2i, x_i2b, x_lcmp, x_dup, x_dup2, x_if_eq, x_if_ne, x_if_lt, x_if_ge, x_if_gt, x_if_le, x_ic_eq, x_ic_ne, x_ic_lt, x_ic_ge, x_ic_gt, x_ic_le, x_getI, x_getR, x_putI, x_putZ, x_putR, x_iald, x_bald, x_lald, x_iast, x_bast, x_last, x_alen, x_acp, x_mmax, x_mmin, x_callV, x_callS, x_iret, x_zret, x_lret, x_aret, x_vret, x_tsw, x_stop, zst1, zst2, zkill, zkl, zsplit, zmask, zent, zentL, List.getElem?_cons_zero, List.getElem?_cons_succ, List.set_cons_zero, List.set_cons_succ, List.set_nil, List.length_cons, List.length_nil, List.replicate, List.nil_append, List.cons_append, List.map_cons, List.map_nil, List.sum_cons, List.sum_nil, Value.category, Option.toList, List.contains_cons, List.contains_nil, true_or, or_true, true_and, Nat.zero_le, Nat.reduceAdd, Nat.reduceLeDiff, Nat.reduceLT, Nat.reduceBEq, Bool.true_or, Bool.or_true, Bool.false_or, Bool.or_false, ↓reduceIte, Bool.false_eq_true, Nat.add_zero, Nat.zero_add, Nat.reduceEqDiff, Nat.reduceSub, s1, s11, i2]
          refine ⟨fun _ => ?_, fun q => absurd (by decide) q⟩
          rw [show n = stpR B e from hn]
          exact hQ
        | some i =>
          have hi := ho i rfl
          have hn2 : n + (stpR B i + 1) = stpR B e := hn
          have hle2 : stpR B e ≤ e := hle
          refine r_X6_stepsOfWay_18 hC hR _ _ _ ?_
          simp only [T_X6_stepsOfWay_18, x_psh, x_ild, x_lld, x_ald, x_ist, x_ast, x_lst, x_inc, x_iadd, x_isub, x_imul, x_iand, x_ior, x_ixor, x_ishl, x_ishr, x_iushr, x_idiv, x_irem, x_ladd, x_land, x_lor, x_lshl, x_lshr, x_ineg, x_i2l, x_l2i, x_i2b, x_lcmp, x_dup, x_dup2, x_if_eq, x_if_ne, x_if_lt, x_if_ge, x_if_gt, x_if_le, x_ic_eq, x_ic_ne, x_ic_lt, x_ic_ge, x_ic_gt, x_ic_le, x_getI, x_getR, x_putI, x_putZ, x_putR, x_iald, x_bald, x_lald, x_iast, x_bast, x_last, x_alen, x_acp, x_mmax, x_mmin, x_callV, x_callS, x_iret, x_zret, x_lret, x_aret, x_vret, x_tsw, x_stop, zst1, zst2, zkill, zkl, zsplit, zmask, zent, zentL, List.getElem?_cons_zero, List.getElem?_cons_succ, List.set_cons_zero, List.set_cons_succ, List.set_nil, List.length_cons, List.length_nil, List.replicate, List.nil_append, List.cons_append, List.map_cons, List.map_nil, List.sum_cons, List.sum_nil, Value.category, Option.toList, List.contains_cons, List.contains_nil, true_or, or_true, true_and, Nat.zero_le, Nat.reduceAdd, Nat.reduceLeDiff, Nat.reduceLT, Nat.reduceBEq, Bool.true_or, Bool.or_true, Bool.false_or, Bool.or_false, ↓reduceIte, Bool.false_eq_true, Nat.add_zero, Nat.zero_add, Nat.reduceEqDiff, Nat.reduceSub, s1, s11, i2]
          refine ⟨fun q => absurd q (nI_pos (by omega)), fun _ => ⟨fun q => absurd q (by rw [z_l384]; exact nI_ge (by omega) (by omega)), fun _ => ⟨by omega, 384, s5, vp_in_nI (by omega) (by omega), ?_⟩⟩⟩
          rw [nI_clamp (by omega), (b4 i (by omega)).1, nI_i3]
          refine ih (n + 1) (bB B i) (fun i' h' => ?_) (by omega) ?_
          · have := hC0 i (by omega) i' h'
            omega
          · rw [stpR_eq B hC0 (by omega) b2] at hn2
            omega
    refine key (bN B) 0 (bB B e) (fun i hi => ?_) (Nat.le_refl _) ?_
    · have := hC0 e hE i hi
      omega
    · rw [Nat.zero_add, stpR_eq B hC0 hE b2]
/-- the n-th one ahead -/
def ancS (B : BQ) (e : Nat) : Nat → Option Nat
  | 0 => some e
  | n + 1 => match ancS B e n with
    | none => none
    | some i => bB B i
theorem ancS_ok (B : BQ) (h : bqC B) (hN : bN B ≤ 384) {e : Nat} (he : e < bN B) : ∀ n, n ≤ stpR B e → ∃ i, ancS B e n = some i ∧ i < bN B ∧ stpR B i + n = stpR B e
  | 0, _ => ⟨e, rfl, he, by omega⟩
  | n + 1, hn => by
    obtain ⟨i, h1, h2, h3⟩ := ancS_ok B h hN he n (by omega)
    rw [ancS, h1]
    have h4 := stpR_eq B h h2 hN
    cases hb : bB B i with
    | none => rw [hb] at h4; have h4 : stpR B i = 0 := h4; omega
    | some j =>
      rw [hb] at h4
      have h4 : stpR B i = stpR B j + 1 := h4
      exact ⟨j, hb, Nat.lt_trans (h i h2 j hb) h2, by omega⟩
def dowS (B : BQ) (eo : Option Nat) (p : Nat) : Option Nat := match eo with
  | none => none
  | some e => if p ≤ stpR B e then (ancS B e (stpR B e - p)).map (fun i => bQ B i / 32) else none
def w_X6_doorOfWay : WPt := fun args σ Q => match args with
  | [.ref h, .int x, .int y] => ∃ (B : BQ) (eo : Option Nat), ShS σ h ∧ BR σ h B ∧ bqC B ∧ x = i2 eo ∧ (∀ e, eo = some e → e < bN B) ∧ (∀ p : Nat, y = nI p → p < 2 ^ 31 → Q (some (.int (i2 (dowS B eo p)))) σ) ∧ (y < 0 → Q (some (.int (-9))) σ)
  | _ => False
set_option maxHeartbeats 2000000 in
theorem m_X6_doorOfWay : Meets yX6_doorOfWay cX6_doorOfWay 6 (some .int) 2 w_X6_doorOfWay := by
  refine Meets.mk (by decide) fun args σ Φ h => ?_
  unfold w_X6_doorOfWay at h
  split at h
  rotate_left
  · exact h.elim
  rename_i h0 x y
  obtain ⟨h0, rfl⟩ : ∃ q : Nat, q = h0 := ⟨h0, rfl⟩
  obtain ⟨B, eo, hh, hB, hC0, rfl, he, hQ1, hQ2⟩ := h
  refine ⟨Nat.le_of_ble_eq_true rfl, fun C hC hR => ?_⟩
  have ⟨s1, s2, s3, s4, s5, s6, s7, s8, s9, s10, s11, s12⟩ := hh
  have ⟨b1, b2, b3, b4, b5⟩ := hB
  refine r_X6_doorOfWay_0 hC hR m_X6_stepsOfWay (by decide) _ _ _ ?_
  simp only [T_X6_doorOfWay_0, x_psh, x_ild, x_lld, x_ald, x_ist, x_ast, x_lst, x_inc, x_iadd, x_isub, x_imul, x_iand, x_ior, x_ixor, x_ishl, x_ishr, x_iushr, x_idiv, x_irem, x_ladd, x_land, x_lor, x_lshl, x_lshr, x_ineg, x_i2l, x_l2i, x_i2b, x_lcmp, x_dup, x_dup2, x_if_eq, x_if_ne, x_if_lt, x_if_ge, x_if_gt, x_if_le, x_ic_eq, x_ic_ne, x_ic_lt, x_ic_ge, x_ic_gt, x_ic_le, x_getI, x_getR, x_putI, x_putZ, x_putR, x_iald, x_bald, x_lald, x_iast, x_bast, x_last, x_alen, x_acp, x_mmax, x_mmin, x_callV, x_callS, x_iret, x_zret, x_lret, x_aret, x_vret, x_tsw, x_stop, zst1, zst2, zkill, zkl, zsplit, zmask, zent, zentL, List.getElem?_cons_zero, List.getElem?_cons_succ, List.set_cons_zero, List.set_cons_succ, List.set_nil, List.length_cons, List.length_nil, List.replicate, List.nil_append, List.cons_append, List.map_cons, List.map_nil, List.sum_cons, List.sum_nil, Value.category, Option.toList, List.contains_cons, List.contains_nil, true_or, or_true, true_and, Nat.zero_le, Nat.reduceAdd, Nat.reduceLeDiff, Nat.reduceLT, Nat.reduceBEq, Bool.true_or, Bool.or_true, Bool.false_or, Bool.or_false, ↓reduceIte, Bool.false_eq_true, Nat.add_zero, Nat.zero_add, Nat.reduceEqDiff, Nat.reduceSub, w_X6_stepsOfWay, s1]
  refine ⟨B, eo, hh, hB, hC0, rfl, he, ?_⟩
  have hm : ∀ s, eo.map (stpR B) = some s → s < 384 := by
    intro s hs
    cases eo with
    | none => cases hs
    | some e =>
      have h1 := he e rfl
      have h2 := stpS_le B hC0 384 e h1
      have : stpR B e = s := Option.some.inj hs
      unfold stpR at this
      omega
  rw [i2_m9 hm]
  cases eo with
  | none =>
    refine ⟨fun _ => ?_, fun q => absurd rfl q⟩
    by_cases hy : y < 0
    · exact hQ2 hy
    · obtain ⟨p, hp, rfl⟩ := nI_of hy
      exact hQ1 p rfl hp
  | some e =>
    have hE := he e rfl
    have hst := hm _ rfl
    refine ⟨fun q => (by cases q), fun _ => ⟨hQ2, fun hy => ?_⟩⟩
    obtain ⟨p, hp, rfl⟩ := nI_of hy
    show (nI p ≤ nI (stpR B e) → _) ∧ _
    rw [nI_leI hp (by omega)]
    have hq := hQ1 p rfl hp
    refine ⟨fun hle => ?_, fun hle => ?_⟩
    rotate_left
    · rw [dowS, if_neg (fun h => hle (nI_le h (by omega)))] at hq
      exact hq
    rw [dowS, if_pos hle] at hq
    have key : ∀ (m n i : Nat), n + m = stpR B e - p → ancS B e n = some i → i < bN B → stpR B i + n = stpR B e → WW C 30 [some (.ref h0), none, some (.int (nI p)), none, some (.int (nI i)), some (.int (nI (stpR B e - n)))] [] σ := by
      intro m
      induction m with
      | zero =>
        intro n i hn ha hi hs
        rw [show n = stpR B e - p by omega] at ha
        rw [ha] at hq
        refine r_X6_doorOfWay_30 hC hR m_X6_stepsOfWay (by decide) _ _ _ ?_
        simp only [T_X6_doorOfWay_30, x_psh, x_ild, x_lld, x_ald, x_ist, x_ast, x_lst, x_inc, x_iadd, x_isub, x_imul, x_iand, x_ior, x_ixor, x_ishl, x_ishr, x_iushr, x_idiv, x_irem, x_ladd, x_land, x_lor, x_lshl, x_lshr, x_ineg, x_i2l, x_l2i, x_i2b, x_lcmp, x_dup, x_dup2, x_if_eq, x_if_ne, x_if_lt, x_if_ge, x_if_gt, x_if_le, x_ic_eq, x_ic_ne, x_ic_lt, x_ic_ge, x_ic_gt, x_ic_le, x_getI, x_getR, x_putI, x_putZ, x_putR, x_iald, x_bald, x_lald, x_iast, x_bast, x_last, x_alen, x_acp, x_mmax, x_mmin, x_callV, x_callS, x_iret, x_zret, x_lret, x_aret, x_vret, x_tsw, x_stop, zst1, zst2, zkill, zkl, zsplit, zmask, zent, zentL, List.getElem?_cons_zero, List.getElem?_cons_succ, List.set_cons_zero, List.set_cons_succ, List.set_nil, List.length_cons, List.length_nil, List.replicate, List.nil_append, List.cons_append, List.map_cons, List.map_nil, List.sum_cons, List.sum_nil, Value.category, Option.toList, List.contains_cons, List.contains_nil, true_or, or_true, true_and, Nat.zero_le, Nat.reduceAdd, Nat.reduceLeDiff, Nat.reduceLT, Nat.reduceBEq, Bool.true_or, Bool.or_true, Bool.false_or, Bool.or_false, ↓reduceIte, Bool.false_eq_true, Nat.add_zero, Nat.zero_add, Nat.reduceEqDiff, Nat.reduceSub, s1, s10]
        refine ⟨fun _ => ⟨fun q => absurd q (nI_pos (by omega)), fun _ => ⟨by omega, 384, s4, vp_in_nI (by omega) (by omega), by decide, ?_⟩⟩, fun q => absurd (nI_le (by omega) (by omega)) q⟩
        have hb := (b3 i hi).2
        rw [nI_clamp (by omega), (b3 i hi).1, z_l32, z_div32 (by omega)]
        exact hq
      | succ m ih =>
        intro n i hn ha hi hs
        obtain ⟨i', h1, h2, h3⟩ := ancS_ok B hC0 b2 hE (n + 1) (by omega)
        have hb : bB B i = some i' := by rw [ancS, ha] at h1; exact h1
        refine r_X6_doorOfWay_30 hC hR m_X6_stepsOfWay (by decide) _ _ _ ?_
        simp only [T_X6_doorOfWay_30, x_psh, x_ild, x_lld, x_ald, x_ist, x_ast, x_lst, x_inc, x_iadd, x_isub, x_imul, x_iand, x_ior, x_ixor, x_ishl, x_ishr, x_iushr, x_idiv, x_irem, x_ladd, x_land, x_lor, x_lshl, x_lshr, x_ineg, x_i2l, x_l2i, x_i2b, x_lcmp, x_dup, x_dup2, x_if_eq, x_if_ne, x_if_lt, x_if_ge, x_if_gt, x_if_le, x_ic_eq, x_ic_ne, x_ic_lt, x_ic_ge, x_ic_gt, x_ic_le, x_getI, x_getR, x_putI, x_putZ, x_putR, x_iald, x_bald, x_lald, x_iast, x_bast, x_last, x_alen, x_acp, x_mmax, x_mmin, x_callV, x_callS, x_iret, x_zret, x_lret, x_aret, x_vret, x_tsw, x_stop, zst1, zst2, zkill, zkl, zsplit, zmask, zent, zentL, List.getElem?_cons_zero, List.getElem?_cons_succ, List.set_cons_zero, List.set_cons_succ, List.set_nil, List.length_cons, List.length_nil, List.replicate, List.nil_append, List.cons_append, List.map_cons, List.map_nil, List.sum_cons, List.sum_nil, Value.category, Option.toList, List.contains_cons, List.contains_nil, true_or, or_true, true_and, Nat.zero_le, Nat.reduceAdd, Nat.reduceLeDiff, Nat.reduceLT, Nat.reduceBEq, Bool.true_or, Bool.or_true, Bool.false_or, Bool.or_false, ↓reduceIte, Bool.false_eq_true, Nat.add_zero, Nat.zero_add, Nat.reduceEqDiff, Nat.reduceSub, s1, s11]
        refine ⟨fun q => absurd q (nI_ge (by omega) (by omega)), fun _ => ⟨fun q => absurd q (nI_pos (by omega)), fun _ => ⟨by omega, 384, s5, vp_in_nI (by omega) (by omega), ?_⟩⟩⟩
        rw [nI_clamp (by omega), (b4 i hi).1, hb]
        have e1 : nI (stpR B e - n) + -1 = nI (stpR B e - (n + 1)) := by
          rw [show stpR B e - n = (stpR B e - (n + 1)) + 1 by omega]
          exact pk_m1 _
        rw [e1]
        exact ih (n + 1) i' (by omega) h1 h2 h3
    exact key (stpR B e - p) 0 e (by omega) rfl hE (by omega)
