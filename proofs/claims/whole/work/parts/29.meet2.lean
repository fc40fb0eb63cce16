def mtc (o : Option Nat) (L : Nat) : Bool := match o with
  | none => true
  | some l => decide (L < l)
/-- the least length so far, k shifts tried -/
def mtS (T : TD) (F G : Nat → Nat) (n m : Nat) : Nat → Option Nat
  | 0 => none
  | k + 1 => if mtc (mtS T F G n m k) (msL n m ((k : Int) - m - 12)) && msB T F G n m ((k : Int) - m - 12) then some (msL n m ((k : Int) - m - 12)) else mtS T F G n m k
def w_X2_fewestDoors : WPt := fun args σ Q => match args with
  | [.ref t, .ref u, .ref v] => ∃ (T : TD) (n m : Nat) (F G F' G' : Nat → Nat), TownR σ t T ∧ TuneS σ u ∧ TuneV σ u n F F' ∧ TuneS σ v ∧ TuneV σ v m G G' ∧ 1 ≤ n ∧ 1 ≤ m ∧ Q (some (.int (i2 (mtS T F G n m (n + m + 25))))) σ
  | _ => False
theorem mtS_le {T : TD} {F G : Nat → Nat} {n m : Nat} (hn : n ≤ 12) (hm : m ≤ 12) : ∀ k l, k ≤ n + m + 25 → mtS T F G n m k = some l → l ≤ 300
  | 0, l, _, h => by cases h
  | k + 1, l, hk, h => by
    rw [mtS] at h
    split at h
    · have e := Option.some.inj h
      rw [← e]
      unfold msL mTo mFr
      split <;> split <;> omega
    · exact mtS_le hn hm k l (by omega) h
set_option maxHeartbeats 2000000 in
theorem m_X2_fewestDoors : Meets yX2_fewestDoors cX2_fewestDoors 9 (some .int) 4 w_X2_fewestDoors := by
  refine Meets.mk (by decide) fun args σ Φ h => ?_
  unfold w_X2_fewestDoors at h
  split at h
  rotate_left
  · exact h.elim
  rename_i t u v
  obtain ⟨t, rfl⟩ : ∃ q : Nat, q = t := ⟨t, rfl⟩
  obtain ⟨u, rfl⟩ : ∃ q : Nat, q = u := ⟨u, rfl⟩
  obtain ⟨v, rfl⟩ : ∃ q : Nat, q = v := ⟨v, rfl⟩
  obtain ⟨T, n, m, F, G, F', G', hT, hu, hv, hu2, hv2, hn1, hm1, hQ⟩ := h
  refine ⟨Nat.le_of_ble_eq_true rfl, fun C hC hR => ?_⟩
  have hn := hv.2.1
  have hm := hv2.2.1
  have a1 := hu.1
  have a2 := hu2.1
  have b1 : zI σ u 0 = iI n := by rw [hv.1, iI_n]
  have b2 : zI σ v 0 = iI m := by rw [hv2.1, iI_n]
  have z0 : (0 : Int32) = iI 0 := rfl
  have z12 : (12 : Int32) = iI 12 := rfl
  refine r_X2_fewestDoors_0 hC hR (by decide) m_X2_canSoundBoth (by decide) _ _ _ ?_
  simp only [T_X2_fewestDoors_0, x_psh, x_ild, x_lld, x_ald, x_ist, x_ast, x_lst, x_inc, x_iadd, x_isub, x_imul, x_iand, x_ior, x_ixor, x_ishl, x_ishr, x_iushr, x_idiv, x_irem, x_ladd, x_land, x_lor, x_lshl, x_lshr, x_ineg, x_i2l, x_l2i, x_i2b, x_lcmp, x_dup, x_dup2, x_if_eq, x_if_ne, x_if_lt, x_if_ge, x_if_gt, x_if_le, x_ic_eq, x_ic_ne, x_ic_lt, x_ic_ge, x_ic_gt, x_ic_le, x_getI, x_getR, x_putI, x_putZ, x_putR, x_iald, x_bald, x_lald, x_iast, x_bast, x_last, x_alen, x_acp, x_mmax, x_mmin, x_callV, x_callS, x_iret, x_zret, x_lret, x_aret, x_vret, x_tsw, x_stop, zst1, zst2, zkill, zkl, zsplit, zmask, zent, zentL, List.getElem?_cons_zero, List.getElem?_cons_succ, List.set_cons_zero, List.set_cons_succ, List.set_nil, List.length_cons, List.length_nil, List.replicate, List.nil_append, List.cons_append, List.map_cons, List.map_nil, List.sum_cons, List.sum_nil, Value.category, Option.toList, List.contains_cons, List.contains_nil, true_or, or_true, true_and, Nat.zero_le, Nat.reduceAdd, Nat.reduceLeDiff, Nat.reduceLT, Nat.reduceBEq, Bool.true_or, Bool.or_true, Bool.false_or, Bool.or_false, ↓reduceIte, Bool.false_eq_true, Nat.add_zero, Nat.zero_add, Nat.reduceEqDiff, Nat.reduceSub, a1, a2, b1, b2, z12, iI_add, iI_neg, iI_sub]
  have key := zloop (P := fun k => WW C 22 [some (.ref t), some (.ref u), some (.ref v), some (.int (i2 (mtS T F G n m k))), some (.int (iI (n + 12))), some (.int (iI ((k : Int) - m - 12))), none, none, none] [] σ) (n + m + 25) (fun k hk ih => ?_) ?_ 0 (by omega)
  · have e : (-(m : Int) - 12) = ((0 : Nat) : Int) - m - 12 := by omega
    rw [e]
    exact key
  · generalize hs : (k : Int) - m - 12 = s at *
    have hs2 : ((k + 1 : Nat) : Int) - m - 12 = s + 1 := by omega
    rw [hs2] at ih
    have hfr : (if iI s < iI 0 then iI s else iI 0) = iI (mFr s) := by
      have e : iI s < iI 0 ↔ s < 0 := iI_lt (by omega) (by omega)
      unfold mFr
      by_cases h : s < 0
      · rw [if_pos (e.mpr h), if_pos h]
      · rw [if_neg (mt e.mp h), if_neg h]
    have hto : (if iI n < iI (s + m) then iI (s + m) else iI n) = iI (mTo n m s) := by
      have e : iI n < iI (s + m) ↔ (n : Int) < s + m := iI_lt (by omega) (by omega)
      unfold mTo
      by_cases h : (n : Int) < s + m
      · rw [if_pos (e.mpr h), if_pos h]
      · rw [if_neg (mt e.mp h), if_neg h]
    have r1 : -100 ≤ mFr s ∧ mFr s ≤ 0 := by unfold mFr; split <;> omega
    have r2 : 1 ≤ mTo n m s ∧ mTo n m s ≤ 200 := by unfold mTo; split <;> omega
    have hlen : (msL n m s : Int) = mTo n m s - mFr s := by unfold msL; omega
    have hcmp : iI s ≤ iI (n + 12) := (iI_le (by omega) (by omega)).mpr (by omega)
    -- the tail, with what has been found of 'is fewer'
    have tail : ∀ c : Bool, c = mtc (mtS T F G n m k) (msL n m s) → WW C 73 [some (.ref t), some (.ref u), some (.ref v), some (.int (i2 (mtS T F G n m k))), some (.int (iI (n + 12))), some (.int (iI s)), some (.int (iI (mFr s))), some (.int (iI (mTo n m s))), none] [.int (b2i (c = true))] σ := by
      intro c hc
      refine r_X2_fewestDoors_73 hC hR (by decide) m_X2_canSoundBoth (by decide) _ _ _ ?_
      simp only [T_X2_fewestDoors_73, x_psh, x_ild, x_lld, x_ald, x_ist, x_ast, x_lst, x_inc, x_iadd, x_isub, x_imul, x_iand, x_ior, x_ixor, x_ishl, x_ishr, x_iushr, x_idiv, x_irem, x_ladd, x_land, x_lor, x_lshl, x_lshr, x_ineg, x_i2l, x_l2i, x_i2b, x_lcmp, x_dup, x_dup2, x_if_eq, x_if_ne, x_if_lt, x_if_ge, x_if_gt, x_if_le, x_ic_eq, x_ic_ne, x_ic_lt, x_ic_ge, x_ic_gt, x_ic_le, x_getI, x_getR, x_putI, x_putZ, x_putR, x_iald, x_bald, x_lald, x_iast, x_bast, x_last, x_alen, x_acp, x_mmax, x_mmin, x_callV, x_callS, x_iret, x_zret, x_lret, x_aret, x_vret, x_tsw, x_stop, zst1, zst2, zkill, zkl, zsplit, zmask, zent, zentL, List.getElem?_cons_zero, List.getElem?_cons_succ, List.set_cons_zero, List.set_cons_succ, List.set_nil, List.length_cons, List.length_nil, List.replicate, List.nil_append, List.cons_append, List.map_cons, List.map_nil, List.sum_cons, List.sum_nil, Value.category, Option.toList, List.contains_cons, List.contains_nil, true_or, or_true, true_and, Nat.zero_le, Nat.reduceAdd, Nat.reduceLeDiff, Nat.reduceLT, Nat.reduceBEq, Bool.true_or, Bool.or_true, Bool.false_or, Bool.or_false, ↓reduceIte, Bool.false_eq_true, Nat.add_zero, Nat.zero_add, Nat.reduceEqDiff, Nat.reduceSub, w_X2_canSoundBoth, b2i_0]
      have e1 : iI s + 1 = iI (s + 1) := by rw [show (1 : Int32) = iI 1 from rfl, iI_add]
      rw [e1]
      have emt : mtS T F G n m (k + 1) = if c && msB T F G n m s then some (msL n m s) else mtS T F G n m k := by
        rw [mtS, hs, hc]
      refine ⟨fun q => ?_, fun q => ⟨T, n, m, F, G, F', G', s, hT, hu, hv, hu2, hv2, hn1, hm1, rfl, by omega, ?_⟩⟩
      · rw [emt, show c = false by simpa using q, Bool.false_and, if_neg (by simp)] at ih
        exact ih
      · have hct : c = true := Decidable.not_not.mp q
        refine ⟨fun q2 => ?_, fun q2 => ?_⟩
        · rw [emt, show msB T F G n m s = false by simpa using q2, Bool.and_false, if_neg (by simp)] at ih
          exact ih
        · rw [emt, hct, Decidable.not_not.mp q2, Bool.and_true, if_pos rfl] at ih
          rw [iI_sub, ← hlen, ← iI_n]
          exact ih
    refine r_X2_fewestDoors_22 hC hR (by decide) m_X2_canSoundBoth (by decide) _ _ _ ?_
    simp only [T_X2_fewestDoors_22, x_psh, x_ild, x_lld, x_ald, x_ist, x_ast, x_lst, x_inc, x_iadd, x_isub, x_imul, x_iand, x_ior, x_ixor, x_ishl, x_ishr, x_iushr, x_idiv, x_irem, x_ladd, x_land, x_lor, x_lshl, x_lshr, x_ineg, x_i2l, x_l2i, x_i2b, x_lcmp, x_dup, x_dup2, x_if_eq, x_if_ne, x_if_lt, x_if_ge, x_if_gt, x_if_le, x_ic_eq, x_ic_ne, x_ic_lt, x_ic_ge, x_ic_gt, x_ic_le, x_getI, x_getR, x_putI, x_putZ, x_putR, x_iald, x_bald, x_lald, x_iast, x_bast, x_last, x_alen, x_acp, x_mmax, x_mmin, x_callV, x_callS, x_iret, x_zret, x_lret, x_aret, x_vret, x_tsw, x_stop, zst1, zst2, zkill, zkl, zsplit, zmask, zent, zentL, List.getElem?_cons_zero, List.getElem?_cons_succ, List.set_cons_zero, List.set_cons_succ, List.set_nil, List.length_cons, List.length_nil, List.replicate, List.nil_append, List.cons_append, List.map_cons, List.map_nil, List.sum_cons, List.sum_nil, Value.category, Option.toList, List.contains_cons, List.contains_nil, true_or, or_true, true_and, Nat.zero_le, Nat.reduceAdd, Nat.reduceLeDiff, Nat.reduceLT, Nat.reduceBEq, Bool.true_or, Bool.or_true, Bool.false_or, Bool.or_false, ↓reduceIte, Bool.false_eq_true, Nat.add_zero, Nat.zero_add, Nat.reduceEqDiff, Nat.reduceSub, a1, a2, b1, b2, z0, hfr, iI_add, hto, iI_sub]
    refine ⟨fun q => absurd q (Int32.not_lt.mpr hcmp), fun _ => ?_⟩
    cases hmt : mtS T F G n m k with
    | none =>
      have t1 := tail true (by rw [hmt]; rfl)
      rw [hmt] at t1
      exact ⟨fun _ => t1, fun q => absurd rfl q⟩
    | some l =>
      have hl := mtS_le hn hm k l (by omega) hmt
      refine ⟨fun q => absurd q (z_m9 (by omega)), fun _ => ?_⟩
      have cmp : i2 (some l) ≤ iI (mTo n m s - mFr s) ↔ l ≤ msL n m s := by
        show nI l ≤ _ ↔ _
        rw [iI_n, iI_le (by omega) (by omega)]
        omega
      rw [cmp]
      have t1 := fun c hc => tail c (by rw [hmt]; exact hc)
      rw [hmt] at t1
      refine ⟨fun q => ?_, fun q => ?_⟩
      · exact t1 false (by simp [mtc]; omega)
      · exact t1 true (by simp [mtc]; omega)
  · refine r_X2_fewestDoors_22 hC hR (by decide) m_X2_canSoundBoth (by decide) _ _ _ ?_
    simp only [T_X2_fewestDoors_22, x_psh, x_ild, x_lld, x_ald, x_ist, x_ast, x_lst, x_inc, x_iadd, x_isub, x_imul, x_iand, x_ior, x_ixor, x_ishl, x_ishr, x_iushr, x_idiv, x_irem, x_ladd, x_land, x_lor, x_lshl, x_lshr, x_ineg, x_i2l, x_l2i, x_i2b, x_lcmp, x_dup, x_dup2, x_if_eq, x_if_ne, x_if_lt, x_if_ge, x_if_gt, x_if_le, x_ic_eq, x_ic_ne, x_ic_lt, x_ic_ge, x_ic_gt, x_ic_le, x_getI, x_getR, x_putI, x_putZ, x_putR, x_iald, x_bald, x_lald, x_iast, x_bast, x_last, x_alen, x_acp, x_mmax, x_mmin, x_callV, x_callS, x_iret, x_zret, x_lret, x_aret, x_vret, x_tsw, x_stop, zst1, zst2, zkill, zkl, zsplit, zmask, zent, zentL, List.getElem?_cons_zero, List.getElem?_cons_succ, List.set_cons_zero, List.set_cons_succ, List.set_nil, List.length_cons, List.length_nil, List.replicate, List.nil_append, List.cons_append, List.map_cons, List.map_nil, List.sum_cons, List.sum_nil, Value.category, Option.toList, List.contains_cons, List.contains_nil, true_or, or_true, true_and, Nat.zero_le, Nat.reduceAdd, Nat.reduceLeDiff, Nat.reduceLT, Nat.reduceBEq, Bool.true_or, Bool.or_true, Bool.false_or, Bool.or_false, ↓reduceIte, Bool.false_eq_true, Nat.add_zero, Nat.zero_add, Nat.reduceEqDiff, Nat.reduceSub]
    exact ⟨fun _ => hQ, fun q => absurd ((iI_lt (by omega) (by omega)).mpr (by omega)) q⟩
/-! still doors -/
/-- the next greater number with as many bits -/
def nxtS (d e : Nat) : Nat := if d = 0 then e else (d + (2 ^ lsb d)) ||| (((d + 2 ^ lsb d) ^^^ d) >>> (2 + lsb d))
theorem low_ok : ∀ d, d < 4096 → d ≠ 0 → nI d &&& -nI d = nI (2 ^ lsb d) ∧ (d + 2 ^ lsb d) ^^^ d < 65536 ∧ lsb (2 ^ lsb d) = lsb d := z_4096 (P := fun d => d ≠ 0 → nI d &&& -nI d = nI (2 ^ lsb d) ∧ (d + 2 ^ lsb d) ^^^ d < 65536 ∧ lsb (2 ^ lsb d) = lsb d) (by decide +kernel)
def w_X1_nextOfLikeSize : WPt := fun args σ Q => match args with
  | [.int x, .int y] => ∃ d e : Nat, x = nI d ∧ y = nI e ∧ d < 4096 ∧ Q (some (.int (nI (nxtS d e)))) σ
  | _ => False
theorem m_X1_nextOfLikeSize : Meets yX1_nextOfLikeSize cX1_nextOfLikeSize 5 (some .int) 2 w_X1_nextOfLikeSize := by
  refine Meets.mk (by decide) fun args σ Φ h => ?_
  unfold w_X1_nextOfLikeSize at h
  split at h
  rotate_left
  · exact h.elim
  rename_i x y
  obtain ⟨d, e, rfl, rfl, hd, hQ⟩ := h
  refine ⟨Nat.le_of_ble_eq_true rfl, fun C hC hR => ?_⟩
  refine r_X1_nextOfLikeSize_0 hC hR m_J6_numberOfTrailingZeros_0f7a4 (by decide) _ _ _ ?_
  simp only [T_X1_nextOfLikeSize_0, x_psh, x_ild, x_lld, x_ald, x_ist, x_ast, x_lst, x_inc, x_iadd, x_isub, x_imul, x_iand, x_ior, x_ixor, x_ishl, x_ishr, x_iushr, x_idiv, x_irem, x_ladd, x_land, x_lor, x_lshl, x_lshr, x_ineg, x_i2l, x_l2i, x_i2b, x_lcmp, x_dup, x_dup2, x_if_eq, x_if_ne, x_if_lt, x_if_ge, x_if_gt, x_if_le, x_ic_eq, x_ic_ne, x_ic_lt, x_ic_ge, x_ic_gt, x_ic_le, x_getI, x_getR, x_putI, x_putZ, x_putR, x_iald, x_bald, x_lald, x_iast, x_bast, x_last, x_alen, x_acp, x_mmax, x_mmin, x_callV, x_callS, x_iret, x_zret, x_lret, x_aret, x_vret, x_tsw, x_stop, zst1, zst2, zkill, zkl, zsplit, zmask, zent, zentL, List.getElem?_cons_zero, List.getElem?_cons_succ, List.set_cons_zero, List.set_cons_succ, List.set_nil, List.length_cons, List.length_nil, List.replicate, List.nil_append, List.cons_append, List.map_cons, List.map_nil, List.sum_cons, List.sum_nil, Value.category, Option.toList, List.contains_cons, List.contains_nil, true_or, or_true, true_and, Nat.zero_le, Nat.reduceAdd, Nat.reduceLeDiff, Nat.reduceLT, Nat.reduceBEq, Bool.true_or, Bool.or_true, Bool.false_or, Bool.or_false, ↓reduceIte, Bool.false_eq_true, Nat.add_zero, Nat.zero_add, Nat.reduceEqDiff, Nat.reduceSub, w_J6_numberOfTrailingZeros_0f7a4]
  by_cases h0 : d = 0
  · subst h0
    refine ⟨fun q => absurd rfl q, fun _ => ?_⟩
    rw [show nxtS 0 e = e from if_pos rfl] at hQ
    exact hQ
  · refine ⟨fun _ => ?_, fun q => absurd ((nI_eq (by omega) (by decide)).mp q) h0⟩
    obtain ⟨k1, k2, k3⟩ := low_ok d hd h0
    have hl := lsb_lt d hd h0
    have hp0 : 2 ^ lsb d < 2 ^ 12 := Nat.pow_lt_pow_right (by decide) hl
    have hp : 2 ^ lsb d < 4096 := hp0
    refine ⟨2 ^ lsb d, by rw [k1], hp, Nat.pos_iff_ne_zero.mp (Nat.two_pow_pos _), ?_⟩
    rw [k1, k3, nI_add, z_xor, z_l2, nI_add, z_l31, z_shr (by omega) (by omega), z_or]
    rw [show nxtS d e = _ from if_neg h0] at hQ
    exact hQ

/-- i sets tried from d on, and none of them hushes -/
def nxtI (e d : Nat) : Nat → Nat
  | 0 => d
  | i + 1 => nxtS (nxtI e d i) e
/-- the first of the sets from d on (f of them at most) that is below e and hushes; none else -/
def hsF (p : Nat → Bool) (e : Nat) : Nat → Nat → Option Nat
  | d, 0 => none
  | d, f + 1 => if e ≤ d then none else if p d then some d else hsF p e (nxtS d e) f
def w_X1_leastOfSize : WPt := fun args σ Q => match args with
  | [.ref t, .ref u, .int x, .int y] => ∃ (T : TD) (n : Nat) (F G : Nat → Nat) (fr sz : Nat), TownR σ t T ∧ TuneS σ u ∧ TuneV σ u n F G ∧ x = nI fr ∧ y = nI sz ∧ sz ≤ 12 ∧ Q (some (.int (i2 (hsF (fun d => !sngB T F G fr d n) (2 ^ tD T) (2 ^ sz - 1) (2 ^ tD T))))) σ
  | _ => False
set_option maxHeartbeats 2000000 in
theorem m_X1_leastOfSize : Meets yX1_leastOfSize cX1_leastOfSize 7 (some .int) 4 w_X1_leastOfSize := by
  refine Meets.mk (by decide) fun args σ Φ h => ?_
  unfold w_X1_leastOfSize at h
  split at h
  rotate_left
  · exact h.elim
  rename_i t u x y
  obtain ⟨t, rfl⟩ : ∃ q : Nat, q = t := ⟨t, rfl⟩
  obtain ⟨u, rfl⟩ : ∃ q : Nat, q = u := ⟨u, rfl⟩
  obtain ⟨T, n, F, G, fr, sz, hT, hu, hv, rfl, rfl, hsz, hQ⟩ := h
  refine ⟨Nat.le_of_ble_eq_true rfl, fun C hC hR => ?_⟩
  have hp := hT.d31
  have hD := hT.2.2.2.1
  have t1 := hT.1.1
  have v1 := hT.2.1
  have hpz : 2 ^ sz ≤ 4096 := z_pow31 hsz
  refine r_X1_leastOfSize_0 hC hR m_X9_canBeSung (by decide) m_X1_nextOfLikeSize (by decide) _ _ _ ?_
  simp only [T_X1_leastOfSize_0, x_psh, x_ild, x_lld, x_ald, x_ist, x_ast, x_lst, x_inc, x_iadd, x_isub, x_imul, x_iand, x_ior, x_ixor, x_ishl, x_ishr, x_iushr, x_idiv, x_irem, x_ladd, x_land, x_lor, x_lshl, x_lshr, x_ineg, x_i2l, x_l2i, x_i2b, x_lcmp, x_dup, x_dup2, x_if_eq, x_if_ne, x_if_lt, x_if_ge, x_if_gt, x_if_le, x_ic_eq, x_ic_ne, x_ic_lt, x_ic_ge, x_ic_gt, x_ic_le, x_getI, x_getR, x_putI, x_putZ, x_putR, x_iald, x_bald, x_lald, x_iast, x_bast, x_last, x_alen, x_acp, x_mmax, x_mmin, x_callV, x_callS, x_iret, x_zret, x_lret, x_aret, x_vret, x_tsw, x_stop, zst1, zst2, zkill, zkl, zsplit, zmask, zent, zentL, List.getElem?_cons_zero, List.getElem?_cons_succ, List.set_cons_zero, List.set_cons_succ, List.set_nil, List.length_cons, List.length_nil, List.replicate, List.nil_append, List.cons_append, List.map_cons, List.map_nil, List.sum_cons, List.sum_nil, Value.category, Option.toList, List.contains_cons, List.contains_nil, true_or, or_true, true_and, Nat.zero_le, Nat.reduceAdd, Nat.reduceLeDiff, Nat.reduceLT, Nat.reduceBEq, Bool.true_or, Bool.or_true, Bool.false_or, Bool.or_false, ↓reduceIte, Bool.false_eq_true, Nat.add_zero, Nat.zero_add, Nat.reduceEqDiff, Nat.reduceSub, t1, v1]
  rw [z_l31, z_l1, z_p2 sz (by omega), z_p2 _ (by omega), z_p2m sz (by omega)]
  have key : ∀ (f i d : Nat), i + f = 2 ^ tD T → d < 2 ^ 31 → Φ (some (.int (i2 (hsF (fun d => !sngB T F G fr d n) (2 ^ tD T) d f)))) σ → WW C 18 [some (.ref t), some (.ref u), some (.int (nI fr)), none, some (.int (nI d)), some (.int (nI (2 ^ tD T))), some (.int (nI i))] [] σ := by
    intro f
    induction f with
    | zero =>
      intro i d hi hd hq
      refine r_X1_leastOfSize_18 hC hR m_X9_canBeSung (by decide) m_X1_nextOfLikeSize (by decide) _ _ _ ?_
      simp only [T_X1_leastOfSize_18, x_psh, x_ild, x_lld, x_ald, x_ist, x_ast, x_lst, x_inc, x_iadd, x_isub, x_imul, x_iand, x_ior, x_ixor, x_ishl, x_ishr, x_iushr, x_idiv, x_irem, x_ladd, x_land, x_lor, x_lshl, x_lshr, x_ineg, x_i2l, x_l2i, x_i2b, x_lcmp, x_dup, x_dup2, x_if_eq, x_if_ne, x_if_lt, x_if_ge, x_if_gt, x_if_le, x_ic_eq, x_ic_ne, x_ic_lt, x_ic_ge, x_ic_gt, x_ic_le, x_getI, x_getR, x_putI, x_putZ, x_putR, x_iald, x_bald, x_lald, x_iast, x_bast, x_last, x_alen, x_acp, x_mmax, x_mmin, x_callV, x_callS, x_iret, x_zret, x_lret, x_aret, x_vret, x_tsw, x_stop, zst1, zst2, zkill, zkl, zsplit, zmask, zent, zentL, List.getElem?_cons_zero, List.getElem?_cons_succ, List.set_cons_zero, List.set_cons_succ, List.set_nil, List.length_cons, List.length_nil, List.replicate, List.nil_append, List.cons_append, List.map_cons, List.map_nil, List.sum_cons, List.sum_nil, Value.category, Option.toList, List.contains_cons, List.contains_nil, true_or, or_true, true_and, Nat.zero_le, Nat.reduceAdd, Nat.reduceLeDiff, Nat.reduceLT, Nat.reduceBEq, Bool.true_or, Bool.or_true, Bool.false_or, Bool.or_false, ↓reduceIte, Bool.false_eq_true, Nat.add_zero, Nat.zero_add, Nat.reduceEqDiff, Nat.reduceSub]
      exact ⟨fun _ => hq, fun q => absurd (nI_le (by omega) (by omega)) q⟩
    | succ f ih =>
      intro i d hi hd hq
      rw [hsF] at hq
      refine r_X1_leastOfSize_18 hC hR m_X9_canBeSung (by decide) m_X1_nextOfLikeSize (by decide) _ _ _ ?_
      simp only [T_X1_leastOfSize_18, x_psh, x_ild, x_lld, x_ald, x_ist, x_ast, x_lst, x_inc, x_iadd, x_isub, x_imul, x_iand, x_ior, x_ixor, x_ishl, x_ishr, x_iushr, x_idiv, x_irem, x_ladd, x_land, x_lor, x_lshl, x_lshr, x_ineg, x_i2l, x_l2i, x_i2b, x_lcmp, x_dup, x_dup2, x_if_eq, x_if_ne, x_if_lt, x_if_ge, x_if_gt, x_if_le, x_ic_eq, x_ic_ne, x_ic_lt, x_ic_ge, x_ic_gt, x_ic_le, x_getI, x_getR, x_putI, x_putZ, x_putR, x_iald, x_bald, x_lald, x_iast, x_bast, x_last, x_alen, x_acp, x_mmax, x_mmin, x_callV, x_callS, x_iret, x_zret, x_lret, x_aret, x_vret, x_tsw, x_stop, zst1, zst2, zkill, zkl, zsplit, zmask, zent, zentL, List.getElem?_cons_zero, List.getElem?_cons_succ, List.set_cons_zero, List.set_cons_succ, List.set_nil, List.length_cons, List.length_nil, List.replicate, List.nil_append, List.cons_append, List.map_cons, List.map_nil, List.sum_cons, List.sum_nil, Value.category, Option.toList, List.contains_cons, List.contains_nil, true_or, or_true, true_and, Nat.zero_le, Nat.reduceAdd, Nat.reduceLeDiff, Nat.reduceLT, Nat.reduceBEq, Bool.true_or, Bool.or_true, Bool.false_or, Bool.or_false, ↓reduceIte, Bool.false_eq_true, Nat.add_zero, Nat.zero_add, Nat.reduceEqDiff, Nat.reduceSub, w_X9_canBeSung, w_X1_nextOfLikeSize]
      refine ⟨fun q => absurd q (nI_ge (by omega) (by omega)), fun _ => ⟨fun q => ?_, fun q => ⟨hu.1, n, F, G, T, fr, d, hu, hv, hT, rfl, rfl, ?_⟩⟩⟩
      · rw [if_pos ((nI_leI (by omega) (by omega)).mp q)] at hq
        exact hq
      · have hde : d < 2 ^ tD T := by
          rcases Nat.lt_or_ge d (2 ^ tD T) with h | h
          · exact h
          · exact absurd (nI_le h (by omega)) q
        rw [if_neg (by omega)] at hq
        rw [b2i_0]
        refine ⟨fun hb => ⟨d, 2 ^ tD T, rfl, rfl, by omega, ?_⟩, fun hb => ?_⟩
        · rw [if_neg (by simpa using hb)] at hq
          rw [show nI i + 1 = nI (i + 1) from nI_1 i]
          refine ih (i + 1) _ (by omega) ?_ hq
          unfold nxtS
          split
          · omega
          next h0 =>
            have hl := lsb_lt d (by omega) h0
            have hp0 : 2 ^ lsb d < 2 ^ 12 := Nat.pow_lt_pow_right (by decide) hl
            refine Nat.lt_of_lt_of_le (Nat.or_lt_two_pow (n := 17) (by omega) ?_) (by decide)
            refine Nat.lt_of_le_of_lt ?_ (show (d + 2 ^ lsb d) ^^^ d < 2 ^ 17 from Nat.lt_of_lt_of_le (low_ok d (by omega) h0).2.1 (by decide))
            rw [Nat.shiftRight_eq_div_pow]
            exact Nat.div_le_self _ _
        · rw [if_pos (by simpa using hb)] at hq
          exact hq
  exact key (2 ^ tD T) 0 (2 ^ sz - 1) (by omega) (by omega) hQ
/-- sizes from a on, c of them -/
def hsZ (p : Nat → Bool) (e : Nat) : Nat → Nat → Option Nat
  | a, 0 => none
  | a, c + 1 => match hsF p e (2 ^ a - 1) e with
    | some d => some d
    | none => hsZ p e (a + 1) c
def hsR (T : TD) (F G : Nat → Nat) (fr n : Nat) : Option Nat := if sngB T F G fr (2 ^ tD T - 1) n then none else hsZ (fun d => !sngB T F G fr d n) (2 ^ tD T) 0 (tD T + 1)
def w_X1_fewestDoors : WPt := fun args σ Q => match args with
  | [.ref t, .ref u, .int x] => ∃ (T : TD) (n : Nat) (F G : Nat → Nat) (fr : Nat), TownR σ t T ∧ TuneS σ u ∧ TuneV σ u n F G ∧ x = nI fr ∧ Q (some (.int (i2 (hsR T F G fr n)))) σ
  | _ => False
theorem hsF_lt {p : Nat → Bool} {e : Nat} : ∀ (f d r : Nat), hsF p e d f = some r → r < e
  | 0, d, r, h => by cases h
  | f + 1, d, r, h => by
    rw [hsF] at h
    split at h
    · cases h
    · split at h
      · have := Option.some.inj h; omega
      · exact hsF_lt f _ r h
set_option maxHeartbeats 2000000 in
theorem m_X1_fewestDoors : Meets yX1_fewestDoors cX1_fewestDoors 5 (some .int) 5 w_X1_fewestDoors := by
  refine Meets.mk (by decide) fun args σ Φ h => ?_
  unfold w_X1_fewestDoors at h
  split at h
  rotate_left
  · exact h.elim
  rename_i t u x
  obtain ⟨t, rfl⟩ : ∃ q : Nat, q = t := ⟨t, rfl⟩
  obtain ⟨u, rfl⟩ : ∃ q : Nat, q = u := ⟨u, rfl⟩
  obtain ⟨T, n, F, G, fr, hT, hu, hv, rfl, hQ⟩ := h
  refine ⟨Nat.le_of_ble_eq_true rfl, fun C hC hR => ?_⟩
  have hp := hT.d31
  have hD := hT.2.2.2.1
  have t1 := hT.1.1
  have v1 := hT.2.1
  refine r_X1_fewestDoors_0 hC hR m_X8_allDoors (by decide) m_X9_canBeSung (by decide) m_X1_leastOfSize (by decide) _ _ _ ?_
  simp only [T_X1_fewestDoors_0, x_psh, x_ild, x_lld, x_ald, x_ist, x_ast, x_lst, x_inc, x_iadd, x_isub, x_imul, x_iand, x_ior, x_ixor, x_ishl, x_ishr, x_iushr, x_idiv, x_irem, x_ladd, x_land, x_lor, x_lshl, x_lshr, x_ineg, x_i2l, x_l2i, x_i2b, x_lcmp, x_dup, x_dup2, x_if_eq, x_if_ne, x_if_lt, x_if_ge, x_if_gt, x_if_le, x_ic_eq, x_ic_ne, x_ic_lt, x_ic_ge, x_ic_gt, x_ic_le, x_getI, x_getR, x_putI, x_putZ, x_putR, x_iald, x_bald, x_lald, x_iast, x_bast, x_last, x_alen, x_acp, x_mmax, x_mmin, x_callV, x_callS, x_iret, x_zret, x_lret, x_aret, x_vret, x_tsw, x_stop, zst1, zst2, zkill, zkl, zsplit, zmask, zent, zentL, List.getElem?_cons_zero, List.getElem?_cons_succ, List.set_cons_zero, List.set_cons_succ, List.set_nil, List.length_cons, List.length_nil, List.replicate, List.nil_append, List.cons_append, List.map_cons, List.map_nil, List.sum_cons, List.sum_nil, Value.category, Option.toList, List.contains_cons, List.contains_nil, true_or, or_true, true_and, Nat.zero_le, Nat.reduceAdd, Nat.reduceLeDiff, Nat.reduceLT, Nat.reduceBEq, Bool.true_or, Bool.or_true, Bool.false_or, Bool.or_false, ↓reduceIte, Bool.false_eq_true, Nat.add_zero, Nat.zero_add, Nat.reduceEqDiff, Nat.reduceSub, w_X8_allDoors, w_X9_canBeSung]
  refine ⟨t1, tD T, t1, v1, hD, hu.1, n, F, G, T, fr, _, hu, hv, hT, rfl, rfl, ?_⟩
  rw [b2i_0]
  have key : ∀ (c a : Nat), a + c = tD T + 1 → Φ (some (.int (i2 (hsZ (fun d => !sngB T F G fr d n) (2 ^ tD T) a c)))) σ → WW C 18 [some (.ref t), some (.ref u), some (.int (nI fr)), some (.int (nI a)), none] [] σ := by
    intro c
    induction c with
    | zero =>
      intro a ha hq
      refine r_X1_fewestDoors_18 hC hR m_X8_allDoors (by decide) m_X9_canBeSung (by decide) m_X1_leastOfSize (by decide) _ _ _ ?_
      simp only [T_X1_fewestDoors_18, x_psh, x_ild, x_lld, x_ald, x_ist, x_ast, x_lst, x_inc, x_iadd, x_isub, x_imul, x_iand, x_ior, x_ixor, x_ishl, x_ishr, x_iushr, x_idiv, x_irem, x_ladd, x_land, x_lor, x_lshl, x_lshr, x_ineg, x_i2l, x_l2i, x_i2b, x_lcmp, x_dup, x_dup2, x_if_eq, x_if_ne, x_if_lt, x_if_ge, x_if_gt, x_if_le, x_ic_eq, x_ic_ne, x_ic_lt, x_ic_ge, x_ic_gt, x_ic_le, x_getI, x_getR, x_putI, x_putZ, x_putR, x_iald, x_bald, x_lald, x_iast, x_bast, x_last, x_alen, x_acp, x_mmax, x_mmin, x_callV, x_callS, x_iret, x_zret, x_lret, x_aret, x_vret, x_tsw, x_stop, zst1, zst2, zkill, zkl, zsplit, zmask, zent, zentL, List.getElem?_cons_zero, List.getElem?_cons_succ, List.set_cons_zero, List.set_cons_succ, List.set_nil, List.length_cons, List.length_nil, List.replicate, List.nil_append, List.cons_append, List.map_cons, List.map_nil, List.sum_cons, List.sum_nil, Value.category, Option.toList, List.contains_cons, List.contains_nil, true_or, or_true, true_and, Nat.zero_le, Nat.reduceAdd, Nat.reduceLeDiff, Nat.reduceLT, Nat.reduceBEq, Bool.true_or, Bool.or_true, Bool.false_or, Bool.or_false, ↓reduceIte, Bool.false_eq_true, Nat.add_zero, Nat.zero_add, Nat.reduceEqDiff, Nat.reduceSub, t1, v1]
      exact ⟨fun _ => hq, fun q => absurd (nI_lt (by omega) (by omega)) q⟩
    | succ c ih =>
      intro a ha hq
      rw [hsZ] at hq
      refine r_X1_fewestDoors_18 hC hR m_X8_allDoors (by decide) m_X9_canBeSung (by decide) m_X1_leastOfSize (by decide) _ _ _ ?_
      simp only [T_X1_fewestDoors_18, x_psh, x_ild, x_lld, x_ald, x_ist, x_ast, x_lst, x_inc, x_iadd, x_isub, x_imul, x_iand, x_ior, x_ixor, x_ishl, x_ishr, x_iushr, x_idiv, x_irem, x_ladd, x_land, x_lor, x_lshl, x_lshr, x_ineg, x_i2l, x_l2i, x_i2b, x_lcmp, x_dup, x_dup2, x_if_eq, x_if_ne, x_if_lt, x_if_ge, x_if_gt, x_if_le, x_ic_eq, x_ic_ne, x_ic_lt, x_ic_ge, x_ic_gt, x_ic_le, x_getI, x_getR, x_putI, x_putZ, x_putR, x_iald, x_bald, x_lald, x_iast, x_bast, x_last, x_alen, x_acp, x_mmax, x_mmin, x_callV, x_callS, x_iret, x_zret, x_lret, x_aret, x_vret, x_tsw, x_stop, zst1, zst2, zkill, zkl, zsplit, zmask, zent, zentL, List.getElem?_cons_zero, List.getElem?_cons_succ, List.set_cons_zero, List.set_cons_succ, List.set_nil, List.length_cons, List.length_nil, List.replicate, List.nil_append, List.cons_append, List.map_cons, List.map_nil, List.sum_cons, List.sum_nil, Value.category, Option.toList, List.contains_cons, List.contains_nil, true_or, or_true, true_and, Nat.zero_le, Nat.reduceAdd, Nat.reduceLeDiff, Nat.reduceLT, Nat.reduceBEq, Bool.true_or, Bool.or_true, Bool.false_or, Bool.or_false, ↓reduceIte, Bool.false_eq_true, Nat.add_zero, Nat.zero_add, Nat.reduceEqDiff, Nat.reduceSub, t1, v1, w_X1_leastOfSize]
      refine ⟨fun q => absurd q (nI_nlt (by omega) (by omega)), fun _ => ⟨T, n, F, G, fr, a, hT, hu, hv, rfl, rfl, by omega, ?_⟩⟩
      cases hf : hsF (fun d => !sngB T F G fr d n) (2 ^ tD T) (2 ^ a - 1) (2 ^ tD T) with
      | none =>
        rw [hf] at hq
        refine ⟨fun _ => ?_, fun q => absurd rfl q⟩
        rw [show nI a + 1 = nI (a + 1) from nI_1 a]
        exact ih (a + 1) (by omega) hq
      | some d =>
        have hd := hsF_lt _ _ _ hf
        rw [hf] at hq
        exact ⟨fun q => absurd q (z_m9 (by omega)), fun _ => hq⟩
  refine ⟨fun hb => ?_, fun hb => ?_⟩
  · rw [hsR, if_neg (by simpa using hb)] at hQ
    exact key (tD T + 1) 0 (by omega) hQ
  · rw [hsR, if_pos (by simpa using hb)] at hQ
    exact hQ
