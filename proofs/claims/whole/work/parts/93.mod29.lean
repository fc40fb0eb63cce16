/-! the model's best rounds -/
def wvI (g : Nat) : Int32 := if g = 1 then -9 else nI (g - 2)
theorem wvI_le : ∀ a, a < 20 → ∀ b, b < 20 → 1 ≤ a → 1 ≤ b → (wvI a ≤ wvI b ↔ a ≤ b) := by decide +kernel
theorem wvI_9 : ∀ a, a < 20 → 1 ≤ a → (wvI a = -9 ↔ a = 1) := by decide +kernel
theorem wvI_add : ∀ a, a < 20 → 2 ≤ a → ∀ w, w < 2 → wvI a + nI w = wvI (a + w) := by decide +kernel
theorem wvI_eq : ∀ a, a < 20 → ∀ b, b < 20 → 1 ≤ a → 1 ≤ b → (wvI a = wvI b ↔ a = b) := by decide +kernel
theorem ones_dif {D s : Nat} (hD : D ≤ 12) (hs : s < 2 ^ D) : ones s + ones (dif (2 ^ D - 1) s) = D := by
  have h : ∀ n, cntB s.testBit n + cntB (dif (2 ^ D - 1) s).testBit n = min n D := by
    intro n
    induction n with
    | zero => rw [Nat.zero_min]; rfl
    | succ n ih =>
      rw [cntB, cntB, dif_bit, Nat.testBit_two_pow_sub_one]
      by_cases hn : n < D
      · cases s.testBit n <;> simp [hn] <;> omega
      · have hb : s.testBit n = false := Nat.testBit_lt_two_pow (Nat.lt_of_lt_of_le hs (Nat.pow_le_pow_right (by decide) (by omega)))
        rw [hb]
        simp [hn]
        omega
  have := h 12
  unfold ones
  omega
theorem dif_or {D s o : Nat} : dif (2 ^ D - 1) (s ||| 2 ^ o) = clrB (dif (2 ^ D - 1) s) o := by
  apply Nat.eq_of_testBit_eq
  intro i
  rw [dif_bit, clrB_bit, dif_bit, Nat.testBit_or, Nat.testBit_two_pow]
  cases (2 ^ D - 1).testBit i <;> cases s.testBit i <;> simp
theorem or_gt {s o : Nat} (h : s.testBit o = false) : s < s ||| 2 ^ o := by
  have h1 : s ≤ s ||| 2 ^ o := Nat.left_le_or
  have h2 : s ≠ s ||| 2 ^ o := by
    intro e
    have := congrArg (fun x => x.testBit o) e
    simp [Nat.testBit_or, Nat.testBit_two_pow, h] at this
  omega
theorem gtS_le (T : TD) (F : Nat → Nat) (e : Nat) {r : Nat} (hr : r < 4096) : gtS T F e r ≤ 15 ∧ 1 ≤ gtS T F e r := by
  have h := gnS_le T F e (r := clrB r e) (by have := clrB_le r e; omega)
  unfold gtS wtS
  split
  · omega
  · split <;> omega
def w_X12_worthOf : WPt := fun args σ Q => match args with
  | [.ref x, .int a, .int b, .int c] => x = 56 ∧ ∃ T k p d, MdT σ T ∧ a = nI k ∧ k < tS T ∧ b = nI p ∧ p < 2 ^ 31 ∧ c = nI d ∧ d < tD T ∧ Q (some (.int (nI (if (aF T k p).testBit d then 1 else 0)))) σ
  | _ => False
theorem m_X12_worthOf : Meets yX12_worthOf cX12_worthOf 4 (some .int) 2 w_X12_worthOf := by
  refine Meets.mk (by decide) fun args σ Φ h => ?_
  unfold w_X12_worthOf at h
  split at h
  rotate_left
  · exact h.elim
  rename_i x a b c
  obtain ⟨x, rfl⟩ : ∃ q : Nat, q = x := ⟨x, rfl⟩
  obtain ⟨hx, T, k, p, d, hM, rfl, hk, rfl, hp, rfl, hd, hQ⟩ := h
  subst hx
  refine ⟨Nat.le_of_ble_eq_true rfl, fun C hC hR => ?_⟩
  have hT := hM.2.2
  have hL := hT.2.2.2.2.2.1 k hk
  have hS := hT.2.2.1
  have g := hM.1
  unfold ModS at g
  have hsz : zI σ 64 k = nI (tL T k) := hM.2.1.2.2.2.2.1 k hk
  refine r_X12_worthOf_0 hC hR m_X12_fits (by decide) _ _ _ ?_
  simp only [T_X12_worthOf_0, x_psh, x_ild, x_lld, x_ald, x_ist, x_ast, x_lst, x_inc, x_iadd, x_isub, x_imul, x_iand, x_ior, x_ixor, x_ishl, x_ishr, x_iushr, x_idiv, x_irem, x_ladd, x_land, x_lor, x_lshl, x_lshr, x_ineg, x_i2l, x_l2i, x_i2b, x_lcmp, x_dup, x_dup2, x_if_eq, x_if_ne, x_if_lt, x_if_ge, x_if_gt, x_if_le, x_ic_eq, x_ic_ne, x_ic_lt, x_ic_ge, x_ic_gt, x_ic_le, x_getI, x_getR, x_putI, x_putZ, x_putR, x_iald, x_bald, x_lald, x_iast, x_bast, x_last, x_alen, x_acp, x_mmax, x_mmin, x_callV, x_callS, x_iret, x_zret, x_lret, x_aret, x_vret, x_tsw, x_stop, zst1, zst2, zkill, zkl, zsplit, zmask, zent, zentL, List.getElem?_cons_zero, List.getElem?_cons_succ, List.set_cons_zero, List.set_cons_succ, List.set_nil, List.length_cons, List.length_nil, List.replicate, List.nil_append, List.cons_append, List.map_cons, List.map_nil, List.sum_cons, List.sum_nil, Value.category, Option.toList, List.contains_cons, List.contains_nil, true_or, or_true, true_and, Nat.zero_le, Nat.reduceAdd, Nat.reduceLeDiff, Nat.reduceLT, Nat.reduceBEq, Bool.true_or, Bool.or_true, Bool.false_or, Bool.or_false, ↓reduceIte, Bool.false_eq_true, Nat.add_zero, Nat.zero_add, Nat.reduceEqDiff, Nat.reduceSub, g, w_X12_fits, b2i_0, ne_eq, Nat.reduceEqDiff, not_false_eq_true, not_true_eq_false, true_and, and_true, true_implies, false_implies, implies_true, and_self]
  rw [nI_clamp (by omega), hsz]
  have hm : p % tL T k < tL T k := Nat.mod_lt _ hL.1
  refine ⟨4, rfl, vp_in_nI (by omega) (by omega), fun q => absurd q (nI_ne0 hL.1 (by omega)), T, k, p % tL T k, d, 0, hM, rfl, hk, pk_rem hp hL.1 (by omega), hm, rfl, hd, rfl, by omega, ?_⟩
  have e : fxS T k 0 (p % tL T k) = aF T k p := by rw [fxS_0]; rfl
  rw [e]
  refine ⟨fun q => ?_, fun q => ?_⟩
  · rw [if_neg q] at hQ
    exact hQ
  · rw [if_pos (Decidable.not_not.mp q)] at hQ
    exact hQ
def w_X12_layWorth : WPt := fun args σ Q => match args with
  | [.ref x, .int a] => x = 56 ∧ ∃ T k, MdT σ T ∧ a = nI k ∧ k < tS T ∧ ∀ σ', IF σ σ' 73 → (∀ s d, 0 < s → s < 2 ^ tD T → d < tD T → zI σ' 73 (12 * s + d) = wvI (gnS T (aF T k) d (dif (2 ^ tD T - 1) s))) → Q none σ'
  | _ => False
theorem z_ix12 {p d : Nat} : nI 12 * nI p + nI d = nI (12 * p + d) := by rw [pk_mul, nI_add]
set_option maxHeartbeats 4000000 in
theorem m_X12_layWorth : Meets yX12_layWorth cX12_layWorth 10 none 3 w_X12_layWorth := by
  refine Meets.mk (by decide) fun args σ Φ h => ?_
  unfold w_X12_layWorth at h
  split at h
  rotate_left
  · exact h.elim
  rename_i x a
  obtain ⟨x, rfl⟩ : ∃ q : Nat, q = x := ⟨x, rfl⟩
  obtain ⟨hx, T, k, hM, rfl, hk, hQ⟩ := h
  subst hx
  refine ⟨Nat.le_of_ble_eq_true rfl, fun C hC hR => ?_⟩
  have hT := hM.2.2
  have hD := hT.2.1
  have hD1 := hT.1
  have hS := hT.2.2.1
  have hL := hT.2.2.2.2.2.1 k hk
  have hp := z_pow31 hD
  have hp2 := Nat.two_pow_pos (tD T)
  have hMτ : ∀ τ, IF σ τ 73 → MdT τ T := fun τ hf => hM.q (hf.m (by omega))
  have hgτ : ∀ τ, IF σ τ 73 → ModS τ ∧ zI τ 56 10 = nI (tD T) := fun τ hf => ⟨(hMτ τ hf).1, (hMτ τ hf).2.1.1⟩
  have hEτ : ∀ τ, IF σ τ 73 → ∀ j, j < 12 → zI τ 62 j = nI (tE T j) := fun τ hf j hj => (hMτ τ hf).2.1.2.2.2.1 j hj
  unfold ModS at hgτ
  have hput : ∀ τ, IF σ τ 73 → ∀ q v, IF σ (sI τ 73 q v) 73 := fun τ hf q v => hf.trans if_one
  generalize hF : aF T k = F at hQ
  have k11 : ∀ s, s < 2 ^ tD T → ∀ τ, IF σ τ 73 → (∀ s' d, s < s' → s' < 2 ^ tD T → d < tD T → zI τ 73 (12 * s' + d) = wvI (gnS T F d (dif (2 ^ tD T - 1) s'))) → WW C 11 [some (.ref 56), some (.int (nI k)), some (.int (nI (2 ^ tD T - 1))), some (.int (nI s)), none, none, none, none, none, none] [] τ := by
    intro s
    induction s with
    | zero =>
      intro _ τ hf hr
      refine r_X12_layWorth_11 hC hR m_X12_ones (by decide) m_X12_worthOf (by decide) _ _ _ ?_
      simp only [T_X12_layWorth_11, x_psh, x_ild, x_lld, x_ald, x_ist, x_ast, x_lst, x_inc, x_iadd, x_isub, x_imul, x_iand, x_ior, x_ixor, x_ishl, x_ishr, x_iushr, x_idiv, x_irem, x_ladd, x_land, x_lor, x_lshl, x_lshr, x_ineg, x_i2l, x_l2i, x_i2b, x_lcmp, x_dup, x_dup2, x_if_eq, x_if_ne, x_if_lt, x_if_ge, x_if_gt, x_if_le, x_ic_eq, x_ic_ne, x_ic_lt, x_ic_ge, x_ic_gt, x_ic_le, x_getI, x_getR, x_putI, x_putZ, x_putR, x_iald, x_bald, x_lald, x_iast, x_bast, x_last, x_alen, x_acp, x_mmax, x_mmin, x_callV, x_callS, x_iret, x_zret, x_lret, x_aret, x_vret, x_tsw, x_stop, zst1, zst2, zkill, zkl, zsplit, zmask, zent, zentL, List.getElem?_cons_zero, List.getElem?_cons_succ, List.set_cons_zero, List.set_cons_succ, List.set_nil, List.length_cons, List.length_nil, List.replicate, List.nil_append, List.cons_append, List.map_cons, List.map_nil, List.sum_cons, List.sum_nil, Value.category, Option.toList, List.contains_cons, List.contains_nil, true_or, or_true, true_and, Nat.zero_le, Nat.reduceAdd, Nat.reduceLeDiff, Nat.reduceLT, Nat.reduceBEq, Bool.true_or, Bool.or_true, Bool.false_or, Bool.or_false, ↓reduceIte, Bool.false_eq_true, Nat.add_zero, Nat.zero_add, Nat.reduceEqDiff, Nat.reduceSub, b2i_0, ne_eq, Nat.reduceEqDiff, not_false_eq_true, not_true_eq_false, true_and, and_true, true_implies, false_implies, implies_true, and_self]
      exact ⟨fun _ => hQ τ hf (fun s' d h1 h2 h3 => hr s' d h1 h2 h3), fun q => absurd (by decide) q⟩
    | succ s0 ihs =>
      intro hs τ0 hf0 hr0
      generalize hss : s0 + 1 = s at hs hr0
      have hr4 : dif (2 ^ tD T - 1) s < 4096 := Nat.lt_of_lt_of_le (dif_lt (n := tD T) (by omega)) hp
      have hon := ones_dif hD hs
      generalize hrr : dif (2 ^ tD T - 1) s = r at hr4 hon
      have hrb : ∀ i, r.testBit i = (decide (i < tD T) && !s.testBit i) := fun i => by rw [← hrr, dif_bit, Nat.testBit_two_pow_sub_one]
      have hr00 : r = 0 ↔ s = 2 ^ tD T - 1 := by
        constructor
        · intro e
          apply Nat.eq_of_testBit_eq
          intro i
          rw [Nat.testBit_two_pow_sub_one]
          have := hrb i
          rw [e, Nat.zero_testBit] at this
          by_cases hi : i < tD T
          · simp [hi] at this
            simp [hi, this]
          · rw [Nat.testBit_lt_two_pow (Nat.lt_of_lt_of_le hs (Nat.pow_le_pow_right (by decide) (by omega)))]
            simp [hi]
        · intro e
          apply Nat.eq_of_testBit_eq
          intro i
          rw [hrb, e, Nat.testBit_two_pow_sub_one, Nat.zero_testBit]
          by_cases hi : i < tD T <;> simp [hi]
      -- the doors
      have k24 := zloop (P := fun d => ∀ τ, IF σ τ 73 → (∀ s' d, s < s' → s' < 2 ^ tD T → d < tD T → zI τ 73 (12 * s' + d) = wvI (gnS T F d (dif (2 ^ tD T - 1) s'))) → (∀ d', d' < d → zI τ 73 (12 * s + d') = wvI (gnS T F d' r)) → WW C 24 [some (.ref 56), some (.int (nI k)), some (.int (nI (2 ^ tD T - 1))), some (.int (nI s)), some (.int (nI (ones s))), some (.int (nI d)), none, none, none, none] [] τ) (tD T) (fun d hd ih τ hf hr hlo => ?_) (fun τ hf hr hlo => ?_) 0 (by omega)
      · refine r_X12_layWorth_11 hC hR m_X12_ones (by decide) m_X12_worthOf (by decide) _ _ _ ?_
        simp only [T_X12_layWorth_11, x_psh, x_ild, x_lld, x_ald, x_ist, x_ast, x_lst, x_inc, x_iadd, x_isub, x_imul, x_iand, x_ior, x_ixor, x_ishl, x_ishr, x_iushr, x_idiv, x_irem, x_ladd, x_land, x_lor, x_lshl, x_lshr, x_ineg, x_i2l, x_l2i, x_i2b, x_lcmp, x_dup, x_dup2, x_if_eq, x_if_ne, x_if_lt, x_if_ge, x_if_gt, x_if_le, x_ic_eq, x_ic_ne, x_ic_lt, x_ic_ge, x_ic_gt, x_ic_le, x_getI, x_getR, x_putI, x_putZ, x_putR, x_iald, x_bald, x_lald, x_iast, x_bast, x_last, x_alen, x_acp, x_mmax, x_mmin, x_callV, x_callS, x_iret, x_zret, x_lret, x_aret, x_vret, x_tsw, x_stop, zst1, zst2, zkill, zkl, zsplit, zmask, zent, zentL, List.getElem?_cons_zero, List.getElem?_cons_succ, List.set_cons_zero, List.set_cons_succ, List.set_nil, List.length_cons, List.length_nil, List.replicate, List.nil_append, List.cons_append, List.map_cons, List.map_nil, List.sum_cons, List.sum_nil, Value.category, Option.toList, List.contains_cons, List.contains_nil, true_or, or_true, true_and, Nat.zero_le, Nat.reduceAdd, Nat.reduceLeDiff, Nat.reduceLT, Nat.reduceBEq, Bool.true_or, Bool.or_true, Bool.false_or, Bool.or_false, ↓reduceIte, Bool.false_eq_true, Nat.add_zero, Nat.zero_add, Nat.reduceEqDiff, Nat.reduceSub, w_X12_ones, b2i_0, ne_eq, Nat.reduceEqDiff, not_false_eq_true, not_true_eq_false, true_and, and_true, true_implies, false_implies, implies_true, and_self]
        exact ⟨fun q => absurd (show nI s ≤ nI 0 from q) (nI_ge (by omega) (by omega)), fun _ => ⟨s, rfl, by omega, k24 τ0 hf0 hr0 (fun d' hd' => absurd hd' (Nat.not_lt_zero d'))⟩⟩
      · have g := hgτ τ hf
        have hEd := hT.e d
        generalize hM0 : (fun o => if r = 0 then 2 else mxS (tE T d &&& r).testBit (fun e => gtS T F e r) o) = Mx
        have hMx : ∀ o, Mx o ≤ 15 ∧ 1 ≤ Mx o := by
          intro o
          rw [← hM0]
          dsimp only
          split
          · omega
          · exact ⟨mxS_le (by omega) o (fun e _ => (gtS_le T F e hr4).1), mxS_pos o⟩
        have hMe : Mx (tD T) = gnS T F d r := by
          rw [← hM0]
          show (if r = 0 then 2 else mxS (tE T d &&& r).testBit (fun e => gtS T F e r) (tD T)) = _
          split
          next e => rw [e, gnS_0]
          next e => rw [gnS_eq T F d hr4 e]
        have hMs : ∀ o, Mx (o + 1) = if (tE T d &&& r).testBit o then max (Mx o) (gtS T F o r) else Mx o := by
          intro o
          rw [← hM0]
          show (if r = 0 then 2 else mxS (tE T d &&& r).testBit (fun e => gtS T F e r) (o + 1)) = if (tE T d &&& r).testBit o then max (if r = 0 then 2 else mxS (tE T d &&& r).testBit (fun e => gtS T F e r) o) (gtS T F o r) else (if r = 0 then 2 else mxS (tE T d &&& r).testBit (fun e => gtS T F e r) o)
          by_cases e : r = 0
          · rw [if_pos e, if_pos e, e, Nat.and_zero, Nat.zero_testBit]; rfl
          · rw [if_neg e, if_neg e, mxS]
        have k49 := zloop (P := fun o => WW C 49 [some (.ref 56), some (.int (nI k)), some (.int (nI (2 ^ tD T - 1))), some (.int (nI s)), some (.int (nI (ones s))), some (.int (nI d)), some (.int (wvI (Mx o))), some (.int (nI o)), none, none] [] τ) (tD T) (fun o ho ih2 => ?_) ?_ 0 (by omega)
        · refine r_X12_layWorth_24 hC hR m_X12_ones (by decide) m_X12_worthOf (by decide) _ _ _ ?_
          simp only [T_X12_layWorth_24, x_psh, x_ild, x_lld, x_ald, x_ist, x_ast, x_lst, x_inc, x_iadd, x_isub, x_imul, x_iand, x_ior, x_ixor, x_ishl, x_ishr, x_iushr, x_idiv, x_irem, x_ladd, x_land, x_lor, x_lshl, x_lshr, x_ineg, x_i2l, x_l2i, x_i2b, x_lcmp, x_dup, x_dup2, x_if_eq, x_if_ne, x_if_lt, x_if_ge, x_if_gt, x_if_le, x_ic_eq, x_ic_ne, x_ic_lt, x_ic_ge, x_ic_gt, x_ic_le, x_getI, x_getR, x_putI, x_putZ, x_putR, x_iald, x_bald, x_lald, x_iast, x_bast, x_last, x_alen, x_acp, x_mmax, x_mmin, x_callV, x_callS, x_iret, x_zret, x_lret, x_aret, x_vret, x_tsw, x_stop, zst1, zst2, zkill, zkl, zsplit, zmask, zent, zentL, List.getElem?_cons_zero, List.getElem?_cons_succ, List.set_cons_zero, List.set_cons_succ, List.set_nil, List.length_cons, List.length_nil, List.replicate, List.nil_append, List.cons_append, List.map_cons, List.map_nil, List.sum_cons, List.sum_nil, Value.category, Option.toList, List.contains_cons, List.contains_nil, true_or, or_true, true_and, Nat.zero_le, Nat.reduceAdd, Nat.reduceLeDiff, Nat.reduceLT, Nat.reduceBEq, Bool.true_or, Bool.or_true, Bool.false_or, Bool.or_false, ↓reduceIte, Bool.false_eq_true, Nat.add_zero, Nat.zero_add, Nat.reduceEqDiff, Nat.reduceSub, g, b2i_0, ne_eq, Nat.reduceEqDiff, not_false_eq_true, not_true_eq_false, true_and, and_true, true_implies, false_implies, implies_true, and_self]
          rw [nI_eq (by omega) (by omega)]
          have hM00 : Mx 0 = if r = 0 then 2 else 1 := by rw [← hM0]; rfl
          refine ⟨fun q => absurd q (nI_ge (by omega) (by omega)), fun _ => ⟨fun q => ?_, fun q => ?_⟩⟩
          · rw [hM00, if_neg (fun e => q (hr00.mp e))] at k49
            exact k49
          · rw [hM00, if_pos (hr00.mpr q)] at k49
            exact k49
        · have ho12 : o < 12 := by omega
          have h2o : 2 ^ o < 2 ^ tD T := Nat.pow_lt_pow_right (by decide) ho
          have hso : s ||| 2 ^ o < 2 ^ tD T := Nat.or_lt_two_pow hs h2o
          have hgn := gnS_le T F o (r := clrB r o) (by have := clrB_le r o; omega)
          have hgt := gtS_le T F o hr4
          have hmx := hMx o
          -- the value through a door
          have k117 : ∀ gg, gg = (if (tE T d &&& r).testBit o then gnS T F o (clrB r o) else 1) → WW C 117 [some (.ref 56), some (.int (nI k)), some (.int (nI (2 ^ tD T - 1))), some (.int (nI s)), some (.int (nI (ones s))), some (.int (nI d)), some (.int (wvI (Mx o))), some (.int (nI o)), none, none] [.int (wvI gg)] τ := by
            intro gg hgg
            have hgb : gg ≤ 14 ∧ 1 ≤ gg := by
              rw [hgg]
              split <;> omega
            -- the greater one
            have tail : ∀ hh, hh = (if (tE T d &&& r).testBit o then gtS T F o r else 1) → (wvI hh ≤ wvI (Mx o) → WW C 49 [some (.ref 56), some (.int (nI k)), some (.int (nI (2 ^ tD T - 1))), some (.int (nI s)), some (.int (nI (ones s))), some (.int (nI d)), some (.int (wvI (Mx o))), some (.int (nI (o + 1))), none, none] [] τ) ∧ (¬ wvI hh ≤ wvI (Mx o) → WW C 49 [some (.ref 56), some (.int (nI k)), some (.int (nI (2 ^ tD T - 1))), some (.int (nI s)), some (.int (nI (ones s))), some (.int (nI d)), some (.int (wvI hh)), some (.int (nI (o + 1))), none, none] [] τ) := by
              intro hh hhh
              have hb : hh ≤ 15 ∧ 1 ≤ hh := by
                rw [hhh]
                split <;> omega
              rw [hMs o] at ih2
              rw [wvI_le hh (by omega) (Mx o) (by omega) hb.2 hmx.2]
              by_cases hbit : (tE T d &&& r).testBit o = true
              · rw [if_pos hbit] at ih2 hhh
                rw [← hhh] at ih2
                refine ⟨fun q => ?_, fun q => ?_⟩
                · rw [Nat.max_eq_left q] at ih2; exact ih2
                · rw [Nat.max_eq_right (by omega)] at ih2; exact ih2
              · rw [if_neg hbit] at ih2 hhh
                exact ⟨fun _ => ih2, fun q => absurd (by omega) q⟩
            refine r_X12_layWorth_117 hC hR m_X12_ones (by decide) m_X12_worthOf (by decide) _ _ _ ?_
            simp only [T_X12_layWorth_117, x_psh, x_ild, x_lld, x_ald, x_ist, x_ast, x_lst, x_inc, x_iadd, x_isub, x_imul, x_iand, x_ior, x_ixor, x_ishl, x_ishr, x_iushr, x_idiv, x_irem, x_ladd, x_land, x_lor, x_lshl, x_lshr, x_ineg, x_i2l, x_l2i, x_i2b, x_lcmp, x_dup, x_dup2, x_if_eq, x_if_ne, x_if_lt, x_if_ge, x_if_gt, x_if_le, x_ic_eq, x_ic_ne, x_ic_lt, x_ic_ge, x_ic_gt, x_ic_le, x_getI, x_getR, x_putI, x_putZ, x_putR, x_iald, x_bald, x_lald, x_iast, x_bast, x_last, x_alen, x_acp, x_mmax, x_mmin, x_callV, x_callS, x_iret, x_zret, x_lret, x_aret, x_vret, x_tsw, x_stop, zst1, zst2, zkill, zkl, zsplit, zmask, zent, zentL, List.getElem?_cons_zero, List.getElem?_cons_succ, List.set_cons_zero, List.set_cons_succ, List.set_nil, List.length_cons, List.length_nil, List.replicate, List.nil_append, List.cons_append, List.map_cons, List.map_nil, List.sum_cons, List.sum_nil, Value.category, Option.toList, List.contains_cons, List.contains_nil, true_or, or_true, true_and, Nat.zero_le, Nat.reduceAdd, Nat.reduceLeDiff, Nat.reduceLT, Nat.reduceBEq, Bool.true_or, Bool.or_true, Bool.false_or, Bool.or_false, ↓reduceIte, Bool.false_eq_true, Nat.add_zero, Nat.zero_add, Nat.reduceEqDiff, Nat.reduceSub, g, w_X12_worthOf, b2i_0, ne_eq, Nat.reduceEqDiff, not_false_eq_true, not_true_eq_false, true_and, and_true, true_implies, false_implies, implies_true, and_self]
            rw [wvI_9 gg (by omega) hgb.2]
            simp only [nI_i3]
            refine ⟨fun q => ⟨T, k, ones s, o, hMτ τ hf, rfl, hk, rfl, by have := ones_12 s; omega, rfl, ho, ?_⟩, fun q => ?_⟩
            · have hbit : (tE T d &&& r).testBit o = true := by
                refine Classical.byContradiction fun hc => ?_
                rw [if_neg hc] at hgg
                exact q hgg
              rw [if_pos hbit] at hgg
              have hw : (if (aF T k (ones s)).testBit o = true then 1 else 0) = wtS T F o r := by
                unfold wtS
                rw [hF, show tD T - ones r = ones s by omega]
              rw [hw, wvI_add gg (by omega) (by omega) _ (by unfold wtS; split <;> omega)]
              refine tail _ ?_
              rw [if_pos hbit, gtS, ← hgg, if_neg q]
            · have := tail 1 (by
                split
                next hbit =>
                  rw [if_pos hbit] at hgg
                  rw [gtS, ← hgg, if_pos q]
                · rfl)
              exact this
          have k88 : ∀ v : Int32, (v = 0 ∧ (tE T d &&& r).testBit o = false) ∨ (v = 1 ∧ (tE T d &&& r).testBit o = true) → WW C 88 [some (.ref 56), some (.int (nI k)), some (.int (nI (2 ^ tD T - 1))), some (.int (nI s)), some (.int (nI (ones s))), some (.int (nI d)), some (.int (wvI (Mx o))), some (.int (nI o)), none, none] [.int v] τ := by
            intro v hv
            refine r_X12_layWorth_88 hC hR m_X12_ones (by decide) m_X12_worthOf (by decide) _ _ _ ?_
            simp only [T_X12_layWorth_88, x_psh, x_ild, x_lld, x_ald, x_ist, x_ast, x_lst, x_inc, x_iadd, x_isub, x_imul, x_iand, x_ior, x_ixor, x_ishl, x_ishr, x_iushr, x_idiv, x_irem, x_ladd, x_land, x_lor, x_lshl, x_lshr, x_ineg, x_i2l, x_l2i, x_i2b, x_lcmp, x_dup, x_dup2, x_if_eq, x_if_ne, x_if_lt, x_if_ge, x_if_gt, x_if_le, x_ic_eq, x_ic_ne, x_ic_lt, x_ic_ge, x_ic_gt, x_ic_le, x_getI, x_getR, x_putI, x_putZ, x_putR, x_iald, x_bald, x_lald, x_iast, x_bast, x_last, x_alen, x_acp, x_mmax, x_mmin, x_callV, x_callS, x_iret, x_zret, x_lret, x_aret, x_vret, x_tsw, x_stop, zst1, zst2, zkill, zkl, zsplit, zmask, zent, zentL, List.getElem?_cons_zero, List.getElem?_cons_succ, List.set_cons_zero, List.set_cons_succ, List.set_nil, List.length_cons, List.length_nil, List.replicate, List.nil_append, List.cons_append, List.map_cons, List.map_nil, List.sum_cons, List.sum_nil, Value.category, Option.toList, List.contains_cons, List.contains_nil, true_or, or_true, true_and, Nat.zero_le, Nat.reduceAdd, Nat.reduceLeDiff, Nat.reduceLT, Nat.reduceBEq, Bool.true_or, Bool.or_true, Bool.false_or, Bool.or_false, ↓reduceIte, Bool.false_eq_true, Nat.add_zero, Nat.zero_add, Nat.reduceEqDiff, Nat.reduceSub, g, b2i_0, ne_eq, Nat.reduceEqDiff, not_false_eq_true, not_true_eq_false, true_and, and_true, true_implies, false_implies, implies_true, and_self]
            rcases hv with ⟨rfl, hv⟩ | ⟨rfl, hv⟩
            · refine ⟨fun _ => ?_, fun q => absurd rfl q⟩
              have := k117 1 (by rw [hv]; rfl)
              exact this
            · rw [z_l31, z_l1, z_p2 o (by omega), z_or, z_l12, z_ix12, nI_clamp (by omega)]
              refine ⟨fun q => absurd q (by decide), fun _ => ⟨49152, rfl, vp_in_nI (by omega) (by omega), ?_⟩⟩
              have hsb : s.testBit o = false := by
                rw [Nat.testBit_and, hrb, Bool.and_eq_true, Bool.and_eq_true] at hv
                simpa using hv.2.2
              rw [hr (s ||| 2 ^ o) o (or_gt hsb) hso ho, dif_or, hrr]
              exact k117 _ (by rw [if_pos hv])
          refine r_X12_layWorth_49 hC hR m_X12_ones (by decide) m_X12_worthOf (by decide) _ _ _ ?_
          simp only [T_X12_layWorth_49, x_psh, x_ild, x_lld, x_ald, x_ist, x_ast, x_lst, x_inc, x_iadd, x_isub, x_imul, x_iand, x_ior, x_ixor, x_ishl, x_ishr, x_iushr, x_idiv, x_irem, x_ladd, x_land, x_lor, x_lshl, x_lshr, x_ineg, x_i2l, x_l2i, x_i2b, x_lcmp, x_dup, x_dup2, x_if_eq, x_if_ne, x_if_lt, x_if_ge, x_if_gt, x_if_le, x_ic_eq, x_ic_ne, x_ic_lt, x_ic_ge, x_ic_gt, x_ic_le, x_getI, x_getR, x_putI, x_putZ, x_putR, x_iald, x_bald, x_lald, x_iast, x_bast, x_last, x_alen, x_acp, x_mmax, x_mmin, x_callV, x_callS, x_iret, x_zret, x_lret, x_aret, x_vret, x_tsw, x_stop, zst1, zst2, zkill, zkl, zsplit, zmask, zent, zentL, List.getElem?_cons_zero, List.getElem?_cons_succ, List.set_cons_zero, List.set_cons_succ, List.set_nil, List.length_cons, List.length_nil, List.replicate, List.nil_append, List.cons_append, List.map_cons, List.map_nil, List.sum_cons, List.sum_nil, Value.category, Option.toList, List.contains_cons, List.contains_nil, true_or, or_true, true_and, Nat.zero_le, Nat.reduceAdd, Nat.reduceLeDiff, Nat.reduceLT, Nat.reduceBEq, Bool.true_or, Bool.or_true, Bool.false_or, Bool.or_false, ↓reduceIte, Bool.false_eq_true, Nat.add_zero, Nat.zero_add, Nat.reduceEqDiff, Nat.reduceSub, g, b2i_0, ne_eq, Nat.reduceEqDiff, not_false_eq_true, not_true_eq_false, true_and, and_true, true_implies, false_implies, implies_true, and_self]
          rw [nI_clamp (by omega), hEτ τ hf d (by omega), z_b1 (by omega) (by omega), z_b1 (by omega) (by omega)]
          simp only [b2i_1, b2i_0]
          refine ⟨fun q => absurd q (nI_ge (by omega) (by omega)), fun _ => ⟨12, rfl, vp_in_nI (by omega) (by omega), fun q => k88 0 (Or.inl ⟨rfl, ?_⟩), fun q => ⟨fun q2 => k88 0 (Or.inl ⟨rfl, ?_⟩), fun q2 => k88 1 (Or.inr ⟨rfl, ?_⟩)⟩⟩⟩
          · rw [Nat.testBit_and]
            simp [q]
          · rw [Nat.testBit_and, hrb]
            simp at q2
            simp [q2]
          · rw [Nat.testBit_and, hrb]
            simp at q2
            simp [q, q2, ho]
        · refine r_X12_layWorth_49 hC hR m_X12_ones (by decide) m_X12_worthOf (by decide) _ _ _ ?_
          simp only [T_X12_layWorth_49, x_psh, x_ild, x_lld, x_ald, x_ist, x_ast, x_lst, x_inc, x_iadd, x_isub, x_imul, x_iand, x_ior, x_ixor, x_ishl, x_ishr, x_iushr, x_idiv, x_irem, x_ladd, x_land, x_lor, x_lshl, x_lshr, x_ineg, x_i2l, x_l2i, x_i2b, x_lcmp, x_dup, x_dup2, x_if_eq, x_if_ne, x_if_lt, x_if_ge, x_if_gt, x_if_le, x_ic_eq, x_ic_ne, x_ic_lt, x_ic_ge, x_ic_gt, x_ic_le, x_getI, x_getR, x_putI, x_putZ, x_putR, x_iald, x_bald, x_lald, x_iast, x_bast, x_last, x_alen, x_acp, x_mmax, x_mmin, x_callV, x_callS, x_iret, x_zret, x_lret, x_aret, x_vret, x_tsw, x_stop, zst1, zst2, zkill, zkl, zsplit, zmask, zent, zentL, List.getElem?_cons_zero, List.getElem?_cons_succ, List.set_cons_zero, List.set_cons_succ, List.set_nil, List.length_cons, List.length_nil, List.replicate, List.nil_append, List.cons_append, List.map_cons, List.map_nil, List.sum_cons, List.sum_nil, Value.category, Option.toList, List.contains_cons, List.contains_nil, true_or, or_true, true_and, Nat.zero_le, Nat.reduceAdd, Nat.reduceLeDiff, Nat.reduceLT, Nat.reduceBEq, Bool.true_or, Bool.or_true, Bool.false_or, Bool.or_false, ↓reduceIte, Bool.false_eq_true, Nat.add_zero, Nat.zero_add, Nat.reduceEqDiff, Nat.reduceSub, g, b2i_0, ne_eq, Nat.reduceEqDiff, not_false_eq_true, not_true_eq_false, true_and, and_true, true_implies, false_implies, implies_true, and_self]
          rw [z_l12, z_ix12, nI_clamp (by omega)]
          simp only [nI_i3]
          refine ⟨fun _ => ⟨49152, rfl, vp_in_nI (by omega) (by omega), ih _ (hput τ hf _ _) (fun s' d' h1 h2 h3 => ?_) (fun d' hd' => ?_)⟩, fun q => absurd (nI_le (Nat.le_refl _) (by omega)) q⟩
          · rw [zI_at, if_neg (by omega)]
            exact hr s' d' h1 h2 h3
          · rw [zI_at]
            by_cases e : d' = d
            · rw [if_pos (by omega), e, hMe]
            · rw [if_neg (by omega)]
              exact hlo d' (by omega)
      · have g := hgτ τ hf
        refine r_X12_layWorth_24 hC hR m_X12_ones (by decide) m_X12_worthOf (by decide) _ _ _ ?_
        simp only [T_X12_layWorth_24, x_psh, x_ild, x_lld, x_ald, x_ist, x_ast, x_lst, x_inc, x_iadd, x_isub, x_imul, x_iand, x_ior, x_ixor, x_ishl, x_ishr, x_iushr, x_idiv, x_irem, x_ladd, x_land, x_lor, x_lshl, x_lshr, x_ineg, x_i2l, x_l2i, x_i2b, x_lcmp, x_dup, x_dup2, x_if_eq, x_if_ne, x_if_lt, x_if_ge, x_if_gt, x_if_le, x_ic_eq, x_ic_ne, x_ic_lt, x_ic_ge, x_ic_gt, x_ic_le, x_getI, x_getR, x_putI, x_putZ, x_putR, x_iald, x_bald, x_lald, x_iast, x_bast, x_last, x_alen, x_acp, x_mmax, x_mmin, x_callV, x_callS, x_iret, x_zret, x_lret, x_aret, x_vret, x_tsw, x_stop, zst1, zst2, zkill, zkl, zsplit, zmask, zent, zentL, List.getElem?_cons_zero, List.getElem?_cons_succ, List.set_cons_zero, List.set_cons_succ, List.set_nil, List.length_cons, List.length_nil, List.replicate, List.nil_append, List.cons_append, List.map_cons, List.map_nil, List.sum_cons, List.sum_nil, Value.category, Option.toList, List.contains_cons, List.contains_nil, true_or, or_true, true_and, Nat.zero_le, Nat.reduceAdd, Nat.reduceLeDiff, Nat.reduceLT, Nat.reduceBEq, Bool.true_or, Bool.or_true, Bool.false_or, Bool.or_false, ↓reduceIte, Bool.false_eq_true, Nat.add_zero, Nat.zero_add, Nat.reduceEqDiff, Nat.reduceSub, g, b2i_0, ne_eq, Nat.reduceEqDiff, not_false_eq_true, not_true_eq_false, true_and, and_true, true_implies, false_implies, implies_true, and_self]
        refine ⟨fun _ => ?_, fun q => absurd (nI_le (Nat.le_refl _) (by omega)) q⟩
        have es : nI s + -1 = nI s0 := by rw [← hss]; exact pk_m1 _
        rw [es]
        refine ihs (by omega) τ hf (fun s' d h1 h2 h3 => ?_)
        by_cases e : s' = s
        · rw [e, hrr]; exact hlo d h3
        · exact hr s' d (by omega) h2 h3
  have g := hgτ σ (IF.refl _ _)
  refine r_X12_layWorth_0 hC hR m_X12_ones (by decide) m_X12_worthOf (by decide) _ _ _ ?_
  simp only [T_X12_layWorth_0, x_psh, x_ild, x_lld, x_ald, x_ist, x_ast, x_lst, x_inc, x_iadd, x_isub, x_imul, x_iand, x_ior, x_ixor, x_ishl, x_ishr, x_iushr, x_idiv, x_irem, x_ladd, x_land, x_lor, x_lshl, x_lshr, x_ineg, x_i2l, x_l2i, x_i2b, x_lcmp, x_dup, x_dup2, x_if_eq, x_if_ne, x_if_lt, x_if_ge, x_if_gt, x_if_le, x_ic_eq, x_ic_ne, x_ic_lt, x_ic_ge, x_ic_gt, x_ic_le, x_getI, x_getR, x_putI, x_putZ, x_putR, x_iald, x_bald, x_lald, x_iast, x_bast, x_last, x_alen, x_acp, x_mmax, x_mmin, x_callV, x_callS, x_iret, x_zret, x_lret, x_aret, x_vret, x_tsw, x_stop, zst1, zst2, zkill, zkl, zsplit, zmask, zent, zentL, List.getElem?_cons_zero, List.getElem?_cons_succ, List.set_cons_zero, List.set_cons_succ, List.set_nil, List.length_cons, List.length_nil, List.replicate, List.nil_append, List.cons_append, List.map_cons, List.map_nil, List.sum_cons, List.sum_nil, Value.category, Option.toList, List.contains_cons, List.contains_nil, true_or, or_true, true_and, Nat.zero_le, Nat.reduceAdd, Nat.reduceLeDiff, Nat.reduceLT, Nat.reduceBEq, Bool.true_or, Bool.or_true, Bool.false_or, Bool.or_false, ↓reduceIte, Bool.false_eq_true, Nat.add_zero, Nat.zero_add, Nat.reduceEqDiff, Nat.reduceSub, g, b2i_0, ne_eq, Nat.reduceEqDiff, not_false_eq_true, not_true_eq_false, true_and, and_true, true_implies, false_implies, implies_true, and_self]
  rw [z_l31, z_l1, z_p2 (tD T) (by omega), z_p2m (tD T) (by omega)]
  exact k11 (2 ^ tD T - 1) (by omega) σ (IF.refl _ _) (fun s' d h1 h2 => by omega)
