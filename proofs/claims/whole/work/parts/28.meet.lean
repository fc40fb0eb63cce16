/-! integers of either sign -/
def iI (z : Int) : Int32 := Int32.ofInt z
theorem iI_n (n : Nat) : nI n = iI (n : Int) := by
  apply Int32.toBitVec_inj.1
  show BitVec.ofNat 32 n = BitVec.ofInt 32 (n : Int)
  simp
theorem iI_toInt {z : Int} (h1 : -2147483648 ≤ z) (h2 : z < 2147483648) : (iI z).toInt = z := Int32.toInt_ofInt_of_le h1 h2
theorem iI_add (a b : Int) : iI a + iI b = iI (a + b) := (Int32.ofInt_add a b).symm
theorem iI_sub (a b : Int) : iI a - iI b = iI (a - b) := (Int32.ofInt_sub a b).symm
theorem iI_neg (a : Int) : -iI a = iI (-a) := (Int32.ofInt_neg a).symm
theorem iI_lt {a b : Int} (ha : -2147483648 ≤ a ∧ a < 2147483648) (hb : -2147483648 ≤ b ∧ b < 2147483648) : iI a < iI b ↔ a < b := by
  rw [Int32.lt_iff_toInt_lt, iI_toInt ha.1 ha.2, iI_toInt hb.1 hb.2]
theorem iI_le {a b : Int} (ha : -2147483648 ≤ a ∧ a < 2147483648) (hb : -2147483648 ≤ b ∧ b < 2147483648) : iI a ≤ iI b ↔ a ≤ b := by
  rw [Int32.le_iff_toInt_le, iI_toInt ha.1 ha.2, iI_toInt hb.1 hb.2]
theorem iI_eq {a b : Int} (ha : -2147483648 ≤ a ∧ a < 2147483648) (hb : -2147483648 ≤ b ∧ b < 2147483648) : iI a = iI b ↔ a = b := by
  rw [← Int32.toInt_inj, iI_toInt ha.1 ha.2, iI_toInt hb.1 hb.2]
/-! two songs in one way -/
def foS (T : TD) (F : Nat → Nat) (n : Nat) (p : Int) : Nat := if 0 ≤ p ∧ p < n then F p.toNat else 2 ^ tD T - 1
def mFr (s : Int) : Int := if s < 0 then s else 0
def mTo (n m : Nat) (s : Int) : Int := if (n : Int) < s + m then s + m else n
def msS (T : TD) (F G : Nat → Nat) (n m : Nat) (s : Int) : Nat → Nat
  | 0 => (2 ^ tD T - 1) &&& (foS T F n (mFr s) &&& foS T G m (mFr s - s))
  | j + 1 => arS T (msS T F G n m s j) &&& (foS T F n (mFr s + (j + 1 : Nat)) &&& foS T G m (mFr s + (j + 1 : Nat) - s))
def msL (n m : Nat) (s : Int) : Nat := (mTo n m s - mFr s).toNat
def msB (T : TD) (F G : Nat → Nat) (n m : Nat) (s : Int) : Bool := decide (msS T F G n m s (msL n m s - 1) ≠ 0)
theorem arS_0 (T : TD) : arS T 0 = 0 := by
  unfold arS
  have : ∀ k, orS (tE T) 0 k = 0 := fun k => by
    induction k with
    | zero => rfl
    | succ k ih => rw [orS, ih]; simp
  exact this _
theorem msS_0 {T : TD} {F G : Nat → Nat} {n m : Nat} {s : Int} {j : Nat} (h : msS T F G n m s j = 0) : ∀ k, msS T F G n m s (j + k) = 0
  | 0 => h
  | k + 1 => by rw [← Nat.add_assoc, msS, msS_0 h k, arS_0, Nat.zero_and]
def w_X2_canSoundBoth : WPt := fun args σ Q => match args with
  | [.ref t, .ref u, .ref v, .int x] => ∃ (T : TD) (n m : Nat) (F G F' G' : Nat → Nat) (s : Int), TownR σ t T ∧ TuneS σ u ∧ TuneV σ u n F F' ∧ TuneS σ v ∧ TuneV σ v m G G' ∧ 1 ≤ n ∧ 1 ≤ m ∧ x = iI s ∧ (-100 ≤ s ∧ s ≤ 100) ∧ Q (some (.int (b2i (msB T F G n m s = true)))) σ
  | _ => False
set_option maxHeartbeats 2000000 in
theorem m_X2_canSoundBoth : Meets yX2_canSoundBoth cX2_canSoundBoth 8 (some .boolean) 3 w_X2_canSoundBoth := by
  refine Meets.mk (by decide) fun args σ Φ h => ?_
  unfold w_X2_canSoundBoth at h
  split at h
  rotate_left
  · exact h.elim
  rename_i t u v x
  obtain ⟨t, rfl⟩ : ∃ q : Nat, q = t := ⟨t, rfl⟩
  obtain ⟨u, rfl⟩ : ∃ q : Nat, q = u := ⟨u, rfl⟩
  obtain ⟨v, rfl⟩ : ∃ q : Nat, q = v := ⟨v, rfl⟩
  obtain ⟨T, n, m, F, G, F', G', s, hT, hu, hv, hu2, hv2, hn1, hm1, rfl, hs, hQ⟩ := h
  refine ⟨Nat.le_of_ble_eq_true rfl, fun C hC hR => ?_⟩
  have hn := hv.2.1
  have hm := hv2.2.1
  have hp := hT.d31
  have hD := hT.2.2.2.1
  have a1 := hu.1
  have a2 := hu2.1
  have b1 : zI σ u 0 = iI n := by rw [hv.1, iI_n]
  have b2 : zI σ v 0 = iI m := by rw [hv2.1, iI_n]
  have z0 : (0 : Int32) = iI 0 := rfl
  have hfr : (if iI s < iI 0 then iI s else iI 0) = iI (mFr s) := by
    have e : iI s < iI 0 ↔ s < 0 := iI_lt (by omega) (by omega)
    unfold mFr
    by_cases h : s < 0
    · rw [if_pos (e.mpr h), if_pos h]
    · rw [if_neg (mt e.mp h), if_neg h]
  have hto : (if iI n < iI (s + m) then iI (s + m) else iI n) = iI (mTo n m s) := by
    have e : iI n < iI (s + m) ↔ (n : Int) < s + m := iI_lt (by omega) (by omega)
    unfold mTo
    by_cases h : (n : Int) < s + m
    · rw [if_pos (e.mpr h), if_pos h]
    · rw [if_neg (mt e.mp h), if_neg h]
  have r1 : -100 ≤ mFr s ∧ mFr s ≤ 0 := by unfold mFr; split <;> omega
  have r2 : 1 ≤ mTo n m s ∧ mTo n m s ≤ 200 := by unfold mTo; split <;> omega
  have hlen : (msL n m s : Int) = mTo n m s - mFr s := by unfold msL; omega
  have hlen1 : 1 ≤ msL n m s := by omega
  have hlen2 : msL n m s ≤ 300 := by omega
  have hfoF : ∀ p : Int, foS T F n p < 4096 := fun p => by
    unfold foS
    split
    · exact (hv.2.2 _ (by omega)).2.1
    · omega
  have hfoG : ∀ p : Int, foS T G m p < 4096 := fun p => by
    unfold foS
    split
    · exact (hv2.2.2 _ (by omega)).2.1
    · omega
  have hms : ∀ j, msS T F G n m s j < 4096 := fun j => by
    cases j with
    | zero => exact and_lt31 (and_lt31 (hfoG _))
    | succ j => exact and_lt31 (and_lt31 (hfoG _))
  -- one place: from the set that comes there to the set behind it
  have step : ∀ (p : Int) (j c : Nat), (-200 ≤ p ∧ p ≤ 400) → c &&& (foS T F n p &&& foS T G m (p - s)) = msS T F G n m s j →
      WW C 32 [some (.ref t), some (.ref u), some (.ref v), some (.int (iI s)), some (.int (iI (mFr s))), some (.int (iI (mTo n m s))), some (.int (nI (msS T F G n m s j))), some (.int (iI (p + 1)))] [] σ →
      WW C 59 [some (.ref t), some (.ref u), some (.ref v), some (.int (iI s)), some (.int (iI (mFr s))), some (.int (iI (mTo n m s))), some (.int (nI c)), some (.int (iI p))] [] σ := by
    intro p j c hpr hc hW
    refine r_X2_canSoundBoth_59 hC hR (by decide) m_X8_allDoors (by decide) m_X8_around (by decide) m_X9_fitsOrAny (by decide) _ _ _ ?_
    simp only [T_X2_canSoundBoth_59, x_psh, x_ild, x_lld, x_ald, x_ist, x_ast, x_lst, x_inc, x_iadd, x_isub, x_imul, x_iand, x_ior, x_ixor, x_ishl, x_ishr, x_iushr, x_idiv, x_irem, x_ladd, x_land, x_lor, x_lshl, x_lshr, x_ineg, x_i2l, x_l2i, x_i2b, x_lcmp, x_dup, x_dup2, x_if_eq, x_if_ne, x_if_lt, x_if_ge, x_if_gt, x_if_le, x_ic_eq, x_ic_ne, x_ic_lt, x_ic_ge, x_ic_gt, x_ic_le, x_getI, x_getR, x_putI, x_putZ, x_putR, x_iald, x_bald, x_lald, x_iast, x_bast, x_last, x_alen, x_acp, x_mmax, x_mmin, x_callV, x_callS, x_iret, x_zret, x_lret, x_aret, x_vret, x_tsw, x_stop, zst1, zst2, zkill, zkl, zsplit, zmask, zent, zentL, List.getElem?_cons_zero, List.getElem?_cons_succ, List.set_cons_zero, List.set_cons_succ, List.set_nil, List.length_cons, List.length_nil, List.replicate, List.nil_append, List.cons_append, List.map_cons, List.map_nil, List.sum_cons, List.sum_nil, Value.category, Option.toList, List.contains_cons, List.contains_nil, true_or, or_true, true_and, Nat.zero_le, Nat.reduceAdd, Nat.reduceLeDiff, Nat.reduceLT, Nat.reduceBEq, Bool.true_or, Bool.or_true, Bool.false_or, Bool.or_false, ↓reduceIte, Bool.false_eq_true, Nat.add_zero, Nat.zero_add, Nat.reduceEqDiff, Nat.reduceSub, w_X9_fitsOrAny, a1, a2]
    have fin2 : ∀ X : Nat, X = foS T F n p → ∀ Y : Nat, Y = foS T G m (p - s) → WW C 32 [some (.ref t), some (.ref u), some (.ref v), some (.int (iI s)), some (.int (iI (mFr s))), some (.int (iI (mTo n m s))), some (.int (nI c &&& (nI X &&& nI Y))), some (.int (iI p + 1))] [] σ := by
      intro X hX Y hY
      rw [hX, hY, z_and, z_and, hc, show (1 : Int32) = iI 1 from rfl, iI_add]
      exact hW
    have second : ∀ X : Nat, X = foS T F n p → ∃ n_1 F_1 G_1 T_1, TuneS σ v ∧ TuneV σ v n_1 F_1 G_1 ∧ TownR σ t T_1 ∧ (∀ k, k < n_1 → iI p - iI s = nI k → WW C 32 [some (.ref t), some (.ref u), some (.ref v), some (.int (iI s)), some (.int (iI (mFr s))), some (.int (iI (mTo n m s))), some (.int (nI c &&& (nI X &&& nI (F_1 k)))), some (.int (iI p + 1))] [] σ) ∧ (¬ (0 ≤ iI p - iI s ∧ iI p - iI s < nI n_1) → WW C 32 [some (.ref t), some (.ref u), some (.ref v), some (.int (iI s)), some (.int (iI (mFr s))), some (.int (iI (mTo n m s))), some (.int (nI c &&& (nI X &&& nI (2 ^ tD T_1 - 1)))), some (.int (iI p + 1))] [] σ) := by
      intro X hX
      refine ⟨m, G, G', T, hu2, hv2, hT, fun k hk e => fin2 X hX _ ?_, fun q => fin2 X hX _ ?_⟩
      · rw [iI_sub, iI_n, iI_eq (by omega) (by omega)] at e
        unfold foS
        rw [if_pos (by omega), show (p - s).toNat = k by omega]
      · unfold foS
        rw [if_neg]
        intro q2
        refine q ?_
        rw [iI_sub, iI_n, z0, iI_le (by omega) (by omega), iI_lt (by omega) (by omega)]
        exact q2
    refine ⟨n, F, F', T, hu, hv, hT, fun k hk e => second _ ?_, fun q => second _ ?_⟩
    · rw [iI_n, iI_eq (by omega) (by omega)] at e
      unfold foS
      rw [if_pos (by omega), show p.toNat = k by omega]
    · unfold foS
      rw [if_neg]
      intro q2
      refine q ?_
      rw [iI_n, z0, iI_le (by omega) (by omega), iI_lt (by omega) (by omega)]
      exact q2
  have endd : ∀ (j : Nat) (x : Int32), (msS T F G n m s j = 0 ∨ j = msL n m s - 1) → j ≤ msL n m s - 1 → (nI (msS T F G n m s j) = 0 → Φ (some (.int 0)) σ) ∧ (¬ nI (msS T F G n m s j) = 0 → Φ (some (.int 1)) σ) := by
    intro j x hj hjl
    have hm1 := hms j
    have e : msB T F G n m s = decide (msS T F G n m s j ≠ 0) := by
      unfold msB
      rcases hj with hj | hj
      · have := msS_0 hj (msL n m s - 1 - j)
        rw [show j + (msL n m s - 1 - j) = msL n m s - 1 by omega] at this
        rw [this, hj]
      · rw [hj]
    rw [z_l0, nI_eq (by omega) (by omega)]
    refine ⟨fun q => ?_, fun q => ?_⟩
    · rw [b2i_f (by rw [e]; simp [q])] at hQ; exact hQ
    · rw [b2i_t (by rw [e]; simp [q])] at hQ; exact hQ
  -- the loop behind the first place
  have key := zloop (P := fun j => WW C 32 [some (.ref t), some (.ref u), some (.ref v), some (.int (iI s)), some (.int (iI (mFr s))), some (.int (iI (mTo n m s))), some (.int (nI (msS T F G n m s j))), some (.int (iI (mFr s + j + 1)))] [] σ) (msL n m s - 1) (fun j hj ih => ?_) ?_ 0 (by omega)
  · have key0 : WW C 32 [some (.ref t), some (.ref u), some (.ref v), some (.int (iI s)), some (.int (iI (mFr s))), some (.int (iI (mTo n m s))), some (.int (nI (2 ^ tD T - 1))), some (.int (iI (mFr s)))] [] σ := by
      have st := step (mFr s) 0 (2 ^ tD T - 1) (by omega) rfl (by simpa using key)
      refine r_X2_canSoundBoth_32 hC hR (by decide) m_X8_allDoors (by decide) m_X8_around (by decide) m_X9_fitsOrAny (by decide) _ _ _ ?_
      simp only [T_X2_canSoundBoth_32, x_psh, x_ild, x_lld, x_ald, x_ist, x_ast, x_lst, x_inc, x_iadd, x_isub, x_imul, x_iand, x_ior, x_ixor, x_ishl, x_ishr, x_iushr, x_idiv, x_irem, x_ladd, x_land, x_lor, x_lshl, x_lshr, x_ineg, x_i2l, x_l2i, x_i2b, x_lcmp, x_dup, x_dup2, x_if_eq, x_if_ne, x_if_lt, x_if_ge, x_if_gt, x_if_le, x_ic_eq, x_ic_ne, x_ic_lt, x_ic_ge, x_ic_gt, x_ic_le, x_getI, x_getR, x_putI, x_putZ, x_putR, x_iald, x_bald, x_lald, x_iast, x_bast, x_last, x_alen, x_acp, x_mmax, x_mmin, x_callV, x_callS, x_iret, x_zret, x_lret, x_aret, x_vret, x_tsw, x_stop, zst1, zst2, zkill, zkl, zsplit, zmask, zent, zentL, List.getElem?_cons_zero, List.getElem?_cons_succ, List.set_cons_zero, List.set_cons_succ, List.set_nil, List.length_cons, List.length_nil, List.replicate, List.nil_append, List.cons_append, List.map_cons, List.map_nil, List.sum_cons, List.sum_nil, Value.category, Option.toList, List.contains_cons, List.contains_nil, true_or, or_true, true_and, Nat.zero_le, Nat.reduceAdd, Nat.reduceLeDiff, Nat.reduceLT, Nat.reduceBEq, Bool.true_or, Bool.or_true, Bool.false_or, Bool.or_false, ↓reduceIte, Bool.false_eq_true, Nat.add_zero, Nat.zero_add, Nat.reduceEqDiff, Nat.reduceSub]
      rw [iI_le (by omega) (by omega), Int32.le_iff_toInt_le]
      by_cases h0 : 2 ^ tD T - 1 = 0
      · have hz : msS T F G n m s 0 = 0 := by rw [msS, h0, Nat.zero_and]
        have := endd 0 0 (Or.inl hz) (by omega)
        rw [hz] at this
        rw [h0]
        exact ⟨fun q => this, fun q => ⟨fun _ => this, fun q => absurd rfl q⟩⟩
      · refine ⟨fun q => absurd q (by omega), fun q => ⟨fun q => absurd ((nI_eq (by omega) (by decide)).mp q) h0, fun _ => ⟨fun _ => st, fun q => absurd (Int.le_refl _) q⟩⟩⟩
    refine r_X2_canSoundBoth_0 hC hR (by decide) m_X8_allDoors (by decide) m_X8_around (by decide) m_X9_fitsOrAny (by decide) _ _ _ ?_
    simp only [T_X2_canSoundBoth_0, x_psh, x_ild, x_lld, x_ald, x_ist, x_ast, x_lst, x_inc, x_iadd, x_isub, x_imul, x_iand, x_ior, x_ixor, x_ishl, x_ishr, x_iushr, x_idiv, x_irem, x_ladd, x_land, x_lor, x_lshl, x_lshr, x_ineg, x_i2l, x_l2i, x_i2b, x_lcmp, x_dup, x_dup2, x_if_eq, x_if_ne, x_if_lt, x_if_ge, x_if_gt, x_if_le, x_ic_eq, x_ic_ne, x_ic_lt, x_ic_ge, x_ic_gt, x_ic_le, x_getI, x_getR, x_putI, x_putZ, x_putR, x_iald, x_bald, x_lald, x_iast, x_bast, x_last, x_alen, x_acp, x_mmax, x_mmin, x_callV, x_callS, x_iret, x_zret, x_lret, x_aret, x_vret, x_tsw, x_stop, zst1, zst2, zkill, zkl, zsplit, zmask, zent, zentL, List.getElem?_cons_zero, List.getElem?_cons_succ, List.set_cons_zero, List.set_cons_succ, List.set_nil, List.length_cons, List.length_nil, List.replicate, List.nil_append, List.cons_append, List.map_cons, List.map_nil, List.sum_cons, List.sum_nil, Value.category, Option.toList, List.contains_cons, List.contains_nil, true_or, or_true, true_and, Nat.zero_le, Nat.reduceAdd, Nat.reduceLeDiff, Nat.reduceLT, Nat.reduceBEq, Bool.true_or, Bool.or_true, Bool.false_or, Bool.or_false, ↓reduceIte, Bool.false_eq_true, Nat.add_zero, Nat.zero_add, Nat.reduceEqDiff, Nat.reduceSub, w_X8_allDoors, a1, a2, b1, b2, z0, hfr, iI_add, hto]
    exact ⟨hT.1.1, tD T, hT.1.1, hT.2.1, hT.2.2.2.1, key0⟩
  · have hm0 := hms j
    refine r_X2_canSoundBoth_32 hC hR (by decide) m_X8_allDoors (by decide) m_X8_around (by decide) m_X9_fitsOrAny (by decide) _ _ _ ?_
    simp only [T_X2_canSoundBoth_32, x_psh, x_ild, x_lld, x_ald, x_ist, x_ast, x_lst, x_inc, x_iadd, x_isub, x_imul, x_iand, x_ior, x_ixor, x_ishl, x_ishr, x_iushr, x_idiv, x_irem, x_ladd, x_land, x_lor, x_lshl, x_lshr, x_ineg, x_i2l, x_l2i, x_i2b, x_lcmp, x_dup, x_dup2, x_if_eq, x_if_ne, x_if_lt, x_if_ge, x_if_gt, x_if_le, x_ic_eq, x_ic_ne, x_ic_lt, x_ic_ge, x_ic_gt, x_ic_le, x_getI, x_getR, x_putI, x_putZ, x_putR, x_iald, x_bald, x_lald, x_iast, x_bast, x_last, x_alen, x_acp, x_mmax, x_mmin, x_callV, x_callS, x_iret, x_zret, x_lret, x_aret, x_vret, x_tsw, x_stop, zst1, zst2, zkill, zkl, zsplit, zmask, zent, zentL, List.getElem?_cons_zero, List.getElem?_cons_succ, List.set_cons_zero, List.set_cons_succ, List.set_nil, List.length_cons, List.length_nil, List.replicate, List.nil_append, List.cons_append, List.map_cons, List.map_nil, List.sum_cons, List.sum_nil, Value.category, Option.toList, List.contains_cons, List.contains_nil, true_or, or_true, true_and, Nat.zero_le, Nat.reduceAdd, Nat.reduceLeDiff, Nat.reduceLT, Nat.reduceBEq, Bool.true_or, Bool.or_true, Bool.false_or, Bool.or_false, ↓reduceIte, Bool.false_eq_true, Nat.add_zero, Nat.zero_add, Nat.reduceEqDiff, Nat.reduceSub, w_X8_around]
    rw [iI_le (by omega) (by omega), Int32.le_iff_toInt_le, iI_toInt (by omega) (by omega), iI_toInt (by omega) (by omega)]
    refine ⟨fun q => absurd q (by omega), fun _ => ⟨fun q => ?_, fun q => ⟨fun q2 => absurd q2 (by omega), fun _ => ⟨hT.1.1, T, _, hT, rfl, by omega, ?_⟩⟩⟩⟩
    · have hz : msS T F G n m s j = 0 := (nI_eq (by omega) (by decide)).mp q
      exact endd j 0 (Or.inl hz) (by omega)
    · refine step (mFr s + j + 1) (j + 1) _ (by omega) ?_ ?_
      · rw [msS]
        have : (mFr s + (↑(j + 1) : Int)) = mFr s + j + 1 := by omega
        rw [this]
        rfl
      · have e : mFr s + (↑(j + 1) : Int) + 1 = mFr s + j + 1 + 1 := by omega
        rw [e] at ih
        exact ih
  · refine r_X2_canSoundBoth_32 hC hR (by decide) m_X8_allDoors (by decide) m_X8_around (by decide) m_X9_fitsOrAny (by decide) _ _ _ ?_
    simp only [T_X2_canSoundBoth_32, x_psh, x_ild, x_lld, x_ald, x_ist, x_ast, x_lst, x_inc, x_iadd, x_isub, x_imul, x_iand, x_ior, x_ixor, x_ishl, x_ishr, x_iushr, x_idiv, x_irem, x_ladd, x_land, x_lor, x_lshl, x_lshr, x_ineg, x_i2l, x_l2i, x_i2b, x_lcmp, x_dup, x_dup2, x_if_eq, x_if_ne, x_if_lt, x_if_ge, x_if_gt, x_if_le, x_ic_eq, x_ic_ne, x_ic_lt, x_ic_ge, x_ic_gt, x_ic_le, x_getI, x_getR, x_putI, x_putZ, x_putR, x_iald, x_bald, x_lald, x_iast, x_bast, x_last, x_alen, x_acp, x_mmax, x_mmin, x_callV, x_callS, x_iret, x_zret, x_lret, x_aret, x_vret, x_tsw, x_stop, zst1, zst2, zkill, zkl, zsplit, zmask, zent, zentL, List.getElem?_cons_zero, List.getElem?_cons_succ, List.set_cons_zero, List.set_cons_succ, List.set_nil, List.length_cons, List.length_nil, List.replicate, List.nil_append, List.cons_append, List.map_cons, List.map_nil, List.sum_cons, List.sum_nil, Value.category, Option.toList, List.contains_cons, List.contains_nil, true_or, or_true, true_and, Nat.zero_le, Nat.reduceAdd, Nat.reduceLeDiff, Nat.reduceLT, Nat.reduceBEq, Bool.true_or, Bool.or_true, Bool.false_or, Bool.or_false, ↓reduceIte, Bool.false_eq_true, Nat.add_zero, Nat.zero_add, Nat.reduceEqDiff, Nat.reduceSub, w_X8_around]
    rw [iI_le (by omega) (by omega)]
    exact ⟨fun _ => endd _ 0 (Or.inr rfl) (by omega), fun q => absurd (by omega) q⟩
