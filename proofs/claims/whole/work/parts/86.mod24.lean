theorem hsF_e {p : Nat → Bool} {e : Nat} : ∀ f, hsF p e e f = none
  | 0 => rfl
  | f + 1 => by rw [hsF, if_pos (Nat.le_refl _)]
theorem hsF_ok {p : Nat → Bool} {e : Nat} (he : e ≤ 4096) : ∀ f d, (∀ x, hsF p e d f = some x → d ≤ x ∧ x < e ∧ ones x = ones d ∧ p x = true ∧ ∀ y, d ≤ y → y < x → ones y = ones d → p y = false) ∧ (hsF p e d f = none → e ≤ d + f → ∀ y, d ≤ y → y < e → ones y = ones d → p y = false)
  | 0, d => ⟨fun x h => (by cases h), fun _ h y h1 h2 => by omega⟩
  | f + 1, d => by
    rw [hsF]
    by_cases h1 : e ≤ d
    · rw [if_pos h1]
      exact ⟨fun x h => (by cases h), fun _ _ y h2 h3 => by omega⟩
    · rw [if_neg h1]
      by_cases h2 : p d = true
      · rw [if_pos h2]
        refine ⟨fun x h => ?_, fun h => by cases h⟩
        cases h
        exact ⟨Nat.le_refl _, by omega, rfl, h2, fun y h3 h4 => by omega⟩
      · rw [if_neg h2]
        have hpd : p d = false := by simpa using h2
        by_cases h0 : d = 0
        · subst h0
          rw [show nxtS 0 e = e from if_pos rfl, hsF_e]
          refine ⟨fun x h => (by cases h), fun _ _ y _ hy ho => ?_⟩
          by_cases hy0 : y = 0
          · subst hy0; exact hpd
          · have := ones_pos (show y < 4096 by omega) hy0
            rw [show ones 0 = 0 by decide +kernel] at ho
            omega
        · obtain ⟨n1, n2, n3⟩ := nx_ok e (show d < 4096 by omega) h0
          have ih := hsF_ok (p := p) he f (nxtS d e)
          refine ⟨fun x h => ?_, fun h hf y hy1 hy2 ho => ?_⟩
          · obtain ⟨a1, a2, a3, a4, a5⟩ := ih.1 x h
            have n2 := n2 (by omega)
            refine ⟨by omega, a2, a3.trans n2, a4, fun y hy1 hy2 ho => ?_⟩
            by_cases e1 : y = d
            · subst e1; exact hpd
            · by_cases e2 : y < nxtS d e
              · exact absurd ho (n3 y (by omega) e2 (by omega))
              · exact a5 y (by omega) hy2 (ho.trans n2.symm)
          · by_cases e1 : y = d
            · subst e1; exact hpd
            · by_cases e2 : y < nxtS d e
              · exact absurd ho (n3 y (by omega) e2 (by omega))
              · exact ih.2 h (by omega) y (by omega) hy2 (ho.trans (n2 (by omega)).symm)
theorem hsZ_ok {p : Nat → Bool} {e : Nat} (he : e ≤ 4096) : ∀ c a, a + c ≤ 13 → (∀ x, hsZ p e a c = some x → x < e ∧ p x = true ∧ ∀ y, y < e → p y = true → a ≤ ones y → (ones x < ones y ∨ (ones x = ones y ∧ x ≤ y))) ∧ (hsZ p e a c = none → ∀ y, y < e → a ≤ ones y → ones y < a + c → p y = false)
  | 0, a, _ => ⟨fun x h => (by cases h), fun _ y _ h1 h2 => by omega⟩
  | c + 1, a, hac => by
    rw [hsZ]
    have hF := hsF_ok (p := p) he e (2 ^ a - 1)
    have ih := hsZ_ok (p := p) he c (a + 1) (by omega)
    have ho := ones_pow a (by omega)
    rw [ho] at hF
    cases h : hsF p e (2 ^ a - 1) e with
    | some d =>
      obtain ⟨a1, a2, a3, a4, a5⟩ := hF.1 d h
      refine ⟨fun x hx => ?_, fun hx => by cases hx⟩
      cases hx
      refine ⟨a2, a4, fun y hy hp hay => ?_⟩
      by_cases e1 : ones y = a
      · right
        refine ⟨a3.trans e1.symm, ?_⟩
        rcases Nat.lt_or_ge y d with q | q
        · have hl := ones_least y (by omega)
          rw [e1] at hl
          rw [a5 y hl q e1] at hp
          cases hp
        · exact q
      · left; omega
    | none =>
      have hn := hF.2 h (by omega)
      have hn' : ∀ y, y < e → ones y = a → p y = false := fun y hy ho => by
        have hl := ones_least y (by omega)
        rw [ho] at hl
        exact hn y hl hy ho
      refine ⟨fun x hx => ?_, fun hx y hy h1 h2 => ?_⟩
      · obtain ⟨a1, a2, a3⟩ := ih.1 x hx
        refine ⟨a1, a2, fun y hy hp hay => a3 y hy hp ?_⟩
        rcases Nat.lt_or_ge a (ones y) with q | q
        · exact q
        · rw [hn' y hy (by omega)] at hp; cases hp
      · by_cases e1 : ones y = a
        · exact hn' y hy e1
        · exact ih.2 hx y hy (by omega) (by omega)
/-- the least of the smallest -/
def LoP (p : Nat → Bool) (e : Nat) (o : Option Nat) : Prop := match o with
  | some x => x < e ∧ p x = true ∧ ∀ y, y < e → p y = true → (ones x < ones y ∨ (ones x = ones y ∧ x ≤ y))
  | none => ∀ y, y < e → p y = false
theorem LoP.eq {p : Nat → Bool} {e : Nat} {o o' : Option Nat} (h : LoP p e o) (h' : LoP p e o') : o = o' := by
  cases o with
  | none =>
    cases o' with
    | none => rfl
    | some x => have := h x h'.1; rw [h'.2.1] at this; cases this
  | some x =>
    cases o' with
    | none => have := h' x h.1; rw [h.2.1] at this; cases this
    | some y =>
      have h1 := h.2.2 y h'.1 h'.2.1
      have h2 := h'.2.2 x h.1 h.2.1
      have : x = y := by omega
      rw [this]
theorem hsZ_lo {p : Nat → Bool} {D : Nat} (hD : D ≤ 12) : LoP p (2 ^ D) (hsZ p (2 ^ D) 0 (D + 1)) := by
  have h := hsZ_ok (p := p) (z_pow31 hD) (D + 1) 0 (by omega)
  cases ho : hsZ p (2 ^ D) 0 (D + 1) with
  | some x =>
    obtain ⟨a1, a2, a3⟩ := h.1 x ho
    exact ⟨a1, a2, fun y hy hp => a3 y hy hp (Nat.zero_le _)⟩
  | none =>
    intro y hy
    have := ones_le_D hy
    exact h.2 ho y hy (Nat.zero_le _) (by omega)
/-- all sets tried one by one -/
def hmS (p : Nat → Bool) : Nat → Option Nat × Nat
  | 0 => (none, 99)
  | m + 1 => if ones m < (hmS p m).2 ∧ p m = true then (some m, ones m) else hmS p m
theorem ones_12 (s : Nat) : ones s ≤ 12 := cntB_le _ 12
theorem hmS_lo (p : Nat → Bool) : ∀ m, LoP p m (hmS p m).1 ∧ (∀ x, (hmS p m).1 = some x → (hmS p m).2 = ones x) ∧ ((hmS p m).1 = none → (hmS p m).2 = 99)
  | 0 => ⟨fun y hy => by omega, fun x h => (by cases h), fun _ => rfl⟩
  | m + 1 => by
    obtain ⟨ih1, ih2, ih3⟩ := hmS_lo p m
    rw [hmS]
    have h12 := ones_12 m
    generalize hmS p m = r at ih1 ih2 ih3
    obtain ⟨o, w⟩ := r
    simp only at ih1 ih2 ih3 ⊢
    by_cases hc : ones m < w ∧ p m = true
    · rw [if_pos hc]
      refine ⟨⟨by omega, hc.2, fun y hy hp => ?_⟩, fun x hx => (by cases hx; rfl), fun h => by cases h⟩
      by_cases e : y = m
      · subst e; exact Or.inr ⟨rfl, Nat.le_refl _⟩
      · cases o with
        | none => have := ih1 y (by omega); rw [hp] at this; cases this
        | some x =>
          have h1 := ih1.2.2 y (by omega) hp
          have h2 := ih2 x rfl
          left
          omega
    · rw [if_neg hc]
      refine ⟨?_, ih2, ih3⟩
      cases o with
      | none =>
        intro y hy
        by_cases e : y = m
        · subst e
          have := ih3 rfl
          cases hp : p y with
          | false => rfl
          | true => exact absurd ⟨by omega, hp⟩ hc
        · exact ih1 y (by omega)
      | some x =>
        obtain ⟨a1, a2, a3⟩ := ih1
        have := ih2 x rfl
        refine ⟨by omega, a2, fun y hy hp => ?_⟩
        by_cases e : y = m
        · subst e
          have : ¬ ones y < w := fun q => hc ⟨q, hp⟩
          omega
        · exact a3 y (by omega) hp
/-! a song sung with some doors still -/
theorem sng_fwd (T : TD) (k fr st : Nat) : ∀ p, sngS T (sF T k) (sH T k) fr st p &&& dif (sF T k p) (sH T k p &&& st) = fwd T (fxS T k st) fr p
  | 0 => rfl
  | p + 1 => by
    rw [sngS, fwd, sng_fwd T k fr st p]
    rfl
theorem sngB_fwd {T : TD} {k fr st n : Nat} (hn : 1 ≤ n) : sngB T (sF T k) (sH T k) fr st n = decide (fwd T (fxS T k st) fr (n - 1) ≠ 0) := by
  unfold sngB
  simp only [sng_fwd]
  have hany : anyB (fun p => decide (fwd T (fxS T k st) fr p = 0)) n = decide (fwd T (fxS T k st) fr (n - 1) = 0) := by
    by_cases h : fwd T (fxS T k st) fr (n - 1) = 0
    · rw [decide_eq_true h]
      exact (anyB_iff _ _).mpr ⟨n - 1, by omega, decide_eq_true h⟩
    · rw [decide_eq_false h]
      cases ha : anyB (fun p => decide (fwd T (fxS T k st) fr p = 0)) n with
      | false => rfl
      | true =>
        obtain ⟨p, hp, h2⟩ := (anyB_iff _ _).mp ha
        exact absurd (fwd_mono T _ fr p (n - 1) (by omega) (of_decide_eq_true h2)) h
  rw [hany]
  by_cases h : fwd T (fxS T k st) fr (n - 1) = 0
  · simp [h]
  · simp [h]
theorem rest_fwd {T : TD} (hT : TdOk T) {k st n fr : Nat} (hn : 1 ≤ n) : sumN (fun d => if fr.testBit d then rsB T (fxS T k st) (fun _ => true) n (n - 1) d else 0) (tD T) ≠ 0 ↔ fwd T (fxS T k st) fr (n - 1) ≠ 0 := by
  rw [ways_eq hT (fxS T k st) (fun _ => true) fr (2 ^ tD T - 1) n hn (fun d hd => by rw [Nat.testBit_two_pow_sub_one]; simp [hd])]
  unfold cwR
  rw [if_neg (by omega), sumN_nz]
  constructor
  · rintro ⟨d, hd, h⟩ h0
    have : cwW T (fxS T k st) fr (n - 1) d ≠ 0 := by
      intro h1; rw [h1] at h; simp at h
    rw [cw_nz hT _ _ _ d hd, h0, Nat.zero_testBit] at this
    cases this
  · intro h
    obtain ⟨d, hd⟩ := ex_bit h
    have hdD : d < tD T := by
      refine Classical.byContradiction fun hc => ?_
      have h2 : (fwd T (fxS T k st) fr (n - 1)).testBit d = false := by
        cases hn1 : n - 1 with
        | zero => rw [fwd, Nat.testBit_and, fxS_out (by omega)]; simp
        | succ j => rw [fwd, Nat.testBit_and, fxS_out (by omega)]; simp
      rw [h2] at hd; cases hd
    refine ⟨d, hdD, ?_⟩
    rw [Nat.testBit_two_pow_sub_one, decide_eq_true hdD, if_pos rfl]
    exact (cw_nz hT _ _ _ d hdD).mpr hd
/-- what can be sung with more doors still can be sung with fewer -/
theorem fwd_sub {T : TD} {k fr st : Nat} (hst : st < 2 ^ tD T) : ∀ p i, (fwd T (fxS T k (2 ^ tD T - 1)) fr p).testBit i = true → (fwd T (fxS T k st) fr p).testBit i = true := by
  have hf : ∀ p i, (fxS T k (2 ^ tD T - 1) p).testBit i = true → (fxS T k st p).testBit i = true := by
    intro p i h
    unfold fxS at h ⊢
    rw [dif_bit, Nat.testBit_and, Nat.testBit_two_pow_sub_one] at h
    rw [dif_bit, Nat.testBit_and]
    by_cases hi : i < tD T
    · rw [decide_eq_true hi, Bool.and_true] at h
      rw [Bool.and_eq_true] at h
      rw [h.1]
      have h2 : (sH T k p).testBit i = false := by simpa using h.2
      rw [h2]; rfl
    · rw [Nat.testBit_lt_two_pow (Nat.lt_of_lt_of_le hst (Nat.pow_le_pow_right (by decide) (by omega)))]
      rw [decide_eq_false hi] at h
      simpa using h
  intro p
  induction p with
  | zero =>
    intro i h
    rw [fwd, Nat.testBit_and, Bool.and_eq_true] at h ⊢
    exact ⟨h.1, hf 0 i h.2⟩
  | succ p ih =>
    intro i h
    rw [fwd, Nat.testBit_and, Bool.and_eq_true, arS_bit] at h ⊢
    obtain ⟨⟨j, h1, h2, h3⟩, h4⟩ := h
    exact ⟨⟨j, h1, ih j h2, h3⟩, hf _ i h4⟩
theorem hush_lo {T : TD} (hT : TdOk T) {k fr n : Nat} (hn : 1 ≤ n) : LoP (fun d => !sngB T (sF T k) (sH T k) fr d n) (2 ^ tD T) (hsR T (sF T k) (sH T k) fr n) := by
  unfold hsR
  by_cases h : sngB T (sF T k) (sH T k) fr (2 ^ tD T - 1) n = true
  · rw [if_pos h]
    intro y hy
    rw [sngB_fwd hn, decide_eq_true_eq] at h
    obtain ⟨i, hi⟩ := ex_bit h
    have := fwd_sub hy (n - 1) i hi
    show (!sngB T (sF T k) (sH T k) fr y n) = false
    rw [sngB_fwd hn, decide_eq_true]
    · rfl
    · intro h0
      rw [h0, Nat.zero_testBit] at this
      cases this
  · rw [if_neg h]
    exact hsZ_lo hT.2.1
def w_X12_hush : WPt := fun args σ Q => match args with
  | [.ref x, .int d, .int y] => x = 56 ∧ PubM σ (q_hush · d y) Q
  | _ => False
set_option maxHeartbeats 2000000 in
theorem m_X12_hush : Meets yX12_hush cX12_hush 7 (some .int) 4 w_X12_hush := by
  refine Meets.mk (by decide) fun args σ Φ h => ?_
  unfold w_X12_hush at h
  split at h
  rotate_left
  · exact h.elim
  rename_i x d y
  obtain ⟨x, rfl⟩ : ∃ q : Nat, q = x := ⟨x, rfl⟩
  obtain ⟨hx, A, hK, hA, hQ⟩ := h
  subst hx
  refine ⟨Nat.le_of_ble_eq_true rfl, fun C hC hR => ?_⟩
  have hf := mod_f hK
  have hN := hA.1
  have hD1 := hA.t.1
  have hD := hA.t.2.1
  have hS := hA.t.2.2.1
  have hW := hA.2.2.1.2.1
  have hE := hA.2.2.1.2.2.1
  have hp := z_pow31 hD
  have hV := hK.2
  refine r_X12_hush_0 hC hR m_X12_isSong (by decide) m_X12_isAny (by decide) m_X12_ones (by decide) m_X12_layRest (by decide) m_X12_restFrom (by decide) _ _ _ ?_
  simp only [T_X12_hush_0, x_psh, x_ild, x_lld, x_ald, x_ist, x_ast, x_lst, x_inc, x_iadd, x_isub, x_imul, x_iand, x_ior, x_ixor, x_ishl, x_ishr, x_iushr, x_idiv, x_irem, x_ladd, x_land, x_lor, x_lshl, x_lshr, x_ineg, x_i2l, x_l2i, x_i2b, x_lcmp, x_dup, x_dup2, x_if_eq, x_if_ne, x_if_lt, x_if_ge, x_if_gt, x_if_le, x_ic_eq, x_ic_ne, x_ic_lt, x_ic_ge, x_ic_gt, x_ic_le, x_getI, x_getR, x_putI, x_putZ, x_putR, x_iald, x_bald, x_lald, x_iast, x_bast, x_last, x_alen, x_acp, x_mmax, x_mmin, x_callV, x_callS, x_iret, x_zret, x_lret, x_aret, x_vret, x_tsw, x_stop, zst1, zst2, zkill, zkl, zsplit, zmask, zent, zentL, List.getElem?_cons_zero, List.getElem?_cons_succ, List.set_cons_zero, List.set_cons_succ, List.set_nil, List.length_cons, List.length_nil, List.replicate, List.nil_append, List.cons_append, List.map_cons, List.map_nil, List.sum_cons, List.sum_nil, Value.category, Option.toList, List.contains_cons, List.contains_nil, true_or, or_true, true_and, Nat.zero_le, Nat.reduceAdd, Nat.reduceLeDiff, Nat.reduceLT, Nat.reduceBEq, Bool.true_or, Bool.or_true, Bool.false_or, Bool.or_false, ↓reduceIte, Bool.false_eq_true, Nat.add_zero, Nat.zero_add, Nat.reduceEqDiff, Nat.reduceSub, hf, w_X12_isSong, w_X12_isAny, b2i_0, ne_eq, Nat.reduceEqDiff, not_false_eq_true, not_true_eq_false, true_and, and_true, true_implies, false_implies, implies_true, and_self]
  unfold q_hush at hQ
  refine ⟨tS (aT A), rfl, by omega, ?_⟩
  rcases ix_cs d (show tS (aT A) < 2 ^ 31 by omega) with ⟨k, hk, rfl, h1, h2⟩ | ⟨h1, h2⟩
  · simp only [h1] at hQ
    simp only [h2, b2i_0, ne_eq, Nat.reduceEqDiff, not_false_eq_true, not_true_eq_false, true_and, and_true, true_implies, false_implies, implies_true, and_self]
    refine ⟨tD (aT A), rfl, hD, ?_⟩
    cases h3 : dmS y (tD (aT A)) with
    | none =>
      simp only [h3] at hQ
      simp only [Option.isSome, b2i_0, ne_eq, Nat.reduceEqDiff, not_false_eq_true, not_true_eq_false, true_and, and_true, true_implies, false_implies, implies_true, and_self]
      exact ⟨fun q => absurd q (by simp), fun _ => hQ σ (ZF.refl _ _ _) hK⟩
    | some fr =>
      simp only [h3] at hQ
      simp only [Option.isSome, b2i_0, ne_eq, Nat.reduceEqDiff, not_false_eq_true, not_true_eq_false, true_and, and_true, true_implies, false_implies, implies_true, and_self]
      have hL := hA.l hk
      have hT := hA.t
      have hlo := hush_lo hT (k := k) (fr := fr) (n := tL (aT A) k) hL.1
      generalize hsR (aT A) (sF (aT A) k) (sH (aT A) k) fr (tL (aT A) k) = o at hQ hlo
      generalize hP : (fun d => !sngB (aT A) (sF (aT A) k) (sH (aT A) k) fr d (tL (aT A) k)) = P at hlo
      have hPm : ∀ m, P m = decide (fwd (aT A) (fxS (aT A) k m) fr (tL (aT A) k - 1) = 0) := by
        intro m
        rw [← hP]
        show (!sngB (aT A) (sF (aT A) k) (sH (aT A) k) fr m (tL (aT A) k)) = _
        rw [sngB_fwd hL.1]
        by_cases h : fwd (aT A) (fxS (aT A) k m) fr (tL (aT A) k - 1) = 0 <;> simp [h]
      have key := zloop (P := fun m => ∀ τ, JF σ τ 67 → WW C 28 [some (.ref 56), some (.int (nI k)), some (.int y), some (.int (i2 (hmS P m).1)), some (.int (nI (hmS P m).2)), some (.int (nI m)), none] [] τ) (2 ^ tD (aT A)) (fun m hm ih τ hj => ?_) (fun τ hj => ?_) 0 (Nat.zero_le _)
      · exact key σ (JF.refl _ _)
      · have hq : MoQ σ τ := hj.m (by decide) (by decide)
        have hK1 := hq.r hK
        have g := mod_f hK1
        have h12 := ones_12 m
        have hw : (hmS P m).2 ≤ 99 := by
          have hh := hmS_lo P m
          cases ho : (hmS P m).1 with
          | none => rw [hh.2.2 ho]; exact Nat.le_refl _
          | some x => rw [hh.2.1 x ho]; have := ones_12 x; omega
        have k79 : ones m < (hmS P m).2 → ∀ τ, JF σ τ 67 → ∀ v : Int32, (v = 0 ∧ P m = false) ∨ (v = 1 ∧ P m = true) → WW C 79 [some (.ref 56), some (.int (nI k)), some (.int y), some (.int (i2 (hmS P m).1)), some (.int (nI (hmS P m).2)), some (.int (nI m)), none] [.int v] τ := by
          intro hlt τ hj v hv
          have ih := ih τ hj
          rw [hmS] at ih
          refine r_X12_hush_79 hC hR m_X12_isSong (by decide) m_X12_isAny (by decide) m_X12_ones (by decide) m_X12_layRest (by decide) m_X12_restFrom (by decide) _ _ _ ?_
          simp only [T_X12_hush_79, x_psh, x_ild, x_lld, x_ald, x_ist, x_ast, x_lst, x_inc, x_iadd, x_isub, x_imul, x_iand, x_ior, x_ixor, x_ishl, x_ishr, x_iushr, x_idiv, x_irem, x_ladd, x_land, x_lor, x_lshl, x_lshr, x_ineg, x_i2l, x_l2i, x_i2b, x_lcmp, x_dup, x_dup2, x_if_eq, x_if_ne, x_if_lt, x_if_ge, x_if_gt, x_if_le, x_ic_eq, x_ic_ne, x_ic_lt, x_ic_ge, x_ic_gt, x_ic_le, x_getI, x_getR, x_putI, x_putZ, x_putR, x_iald, x_bald, x_lald, x_iast, x_bast, x_last, x_alen, x_acp, x_mmax, x_mmin, x_callV, x_callS, x_iret, x_zret, x_lret, x_aret, x_vret, x_tsw, x_stop, zst1, zst2, zkill, zkl, zsplit, zmask, zent, zentL, List.getElem?_cons_zero, List.getElem?_cons_succ, List.set_cons_zero, List.set_cons_succ, List.set_nil, List.length_cons, List.length_nil, List.replicate, List.nil_append, List.cons_append, List.map_cons, List.map_nil, List.sum_cons, List.sum_nil, Value.category, Option.toList, List.contains_cons, List.contains_nil, true_or, or_true, true_and, Nat.zero_le, Nat.reduceAdd, Nat.reduceLeDiff, Nat.reduceLT, Nat.reduceBEq, Bool.true_or, Bool.or_true, Bool.false_or, Bool.or_false, ↓reduceIte, Bool.false_eq_true, Nat.add_zero, Nat.zero_add, Nat.reduceEqDiff, Nat.reduceSub, w_X12_ones, b2i_0, ne_eq, Nat.reduceEqDiff, not_false_eq_true, not_true_eq_false, true_and, and_true, true_implies, false_implies, implies_true, and_self]
          rcases hv with ⟨rfl, hv⟩ | ⟨rfl, hv⟩
          · rw [if_neg (by rw [hv]; simp)] at ih
            rw [nI_i3]
            exact ⟨fun _ => ⟨fun _ => ih, fun q => absurd rfl q⟩, fun q => absurd rfl q⟩
          · rw [if_pos ⟨hlt, hv⟩] at ih
            refine ⟨fun q => absurd q (by decide), fun _ => ⟨fun q => absurd q (by decide), fun _ => ⟨m, rfl, by omega, ?_⟩⟩⟩
            rw [nI_i3]
            exact ih
        refine r_X12_hush_28 hC hR m_X12_isSong (by decide) m_X12_isAny (by decide) m_X12_ones (by decide) m_X12_layRest (by decide) m_X12_restFrom (by decide) _ _ _ ?_
        simp only [T_X12_hush_28, x_psh, x_ild, x_lld, x_ald, x_ist, x_ast, x_lst, x_inc, x_iadd, x_isub, x_imul, x_iand, x_ior, x_ixor, x_ishl, x_ishr, x_iushr, x_idiv, x_irem, x_ladd, x_land, x_lor, x_lshl, x_lshr, x_ineg, x_i2l, x_l2i, x_i2b, x_lcmp, x_dup, x_dup2, x_if_eq, x_if_ne, x_if_lt, x_if_ge, x_if_gt, x_if_le, x_ic_eq, x_ic_ne, x_ic_lt, x_ic_ge, x_ic_gt, x_ic_le, x_getI, x_getR, x_putI, x_putZ, x_putR, x_iald, x_bald, x_lald, x_iast, x_bast, x_last, x_alen, x_acp, x_mmax, x_mmin, x_callV, x_callS, x_iret, x_zret, x_lret, x_aret, x_vret, x_tsw, x_stop, zst1, zst2, zkill, zkl, zsplit, zmask, zent, zentL, List.getElem?_cons_zero, List.getElem?_cons_succ, List.set_cons_zero, List.set_cons_succ, List.set_nil, List.length_cons, List.length_nil, List.replicate, List.nil_append, List.cons_append, List.map_cons, List.map_nil, List.sum_cons, List.sum_nil, Value.category, Option.toList, List.contains_cons, List.contains_nil, true_or, or_true, true_and, Nat.zero_le, Nat.reduceAdd, Nat.reduceLeDiff, Nat.reduceLT, Nat.reduceBEq, Bool.true_or, Bool.or_true, Bool.false_or, Bool.or_false, ↓reduceIte, Bool.false_eq_true, Nat.add_zero, Nat.zero_add, Nat.reduceEqDiff, Nat.reduceSub, g, w_X12_ones, w_X12_layRest, b2i_0, ne_eq, Nat.reduceEqDiff, not_false_eq_true, not_true_eq_false, true_and, and_true, true_implies, false_implies, implies_true, and_self]
        rw [z_l31, z_l1, z_p2 _ (by omega)]
        refine ⟨fun q => absurd q (nI_ge hm (by omega)), fun _ => ⟨m, rfl, by omega, ?_⟩⟩
        rw [nI_leI (by omega) (by omega)]
        refine ⟨fun q => ?_, fun q => ?_⟩
        · have ih := ih τ hj
          rw [hmS, if_neg (by omega)] at ih
          rw [← z_l1, nI_i3]
          exact ih
        · refine ⟨4, rfl, vp_in_nI (by omega) (by omega), aT A, k, tL (aT A) k, m, MdT.of hK1 hA, rfl, hk, ?_, Nat.le_refl _, rfl, by omega, fun σ1 hj1 hr => ?_⟩
          · rw [nI_clamp (by omega)]
            exact hK1.2.1.2.2.2.2.1 k hk
          have hj2 : JF σ σ1 67 := hj.trans hj1
          have hq2 : MoQ σ σ1 := hj2.m (by decide) (by decide)
          have hK2 := hq2.r hK
          have g2 := mod_f hK2
          simp only [g2, w_X12_restFrom, x_psh, x_ild, x_lld, x_ald, x_ist, x_ast, x_lst, x_inc, x_iadd, x_isub, x_imul, x_iand, x_ior, x_ixor, x_ishl, x_ishr, x_iushr, x_idiv, x_irem, x_ladd, x_land, x_lor, x_lshl, x_lshr, x_ineg, x_i2l, x_l2i, x_i2b, x_lcmp, x_dup, x_dup2, x_if_eq, x_if_ne, x_if_lt, x_if_ge, x_if_gt, x_if_le, x_ic_eq, x_ic_ne, x_ic_lt, x_ic_ge, x_ic_gt, x_ic_le, x_getI, x_getR, x_putI, x_putZ, x_putR, x_iald, x_bald, x_lald, x_iast, x_bast, x_last, x_alen, x_acp, x_mmax, x_mmin, x_callV, x_callS, x_iret, x_zret, x_lret, x_aret, x_vret, x_tsw, x_stop, zst1, zst2, zkill, zkl, zsplit, zmask, zent, zentL, List.getElem?_cons_zero, List.getElem?_cons_succ, List.set_cons_zero, List.set_cons_succ, List.set_nil, List.length_cons, List.length_nil, List.replicate, List.nil_append, List.cons_append, List.map_cons, List.map_nil, List.sum_cons, List.sum_nil, Value.category, Option.toList, List.contains_cons, List.contains_nil, true_or, or_true, true_and, Nat.zero_le, Nat.reduceAdd, Nat.reduceLeDiff, Nat.reduceLT, Nat.reduceBEq, Bool.true_or, Bool.or_true, Bool.false_or, Bool.or_false, ↓reduceIte, Bool.false_eq_true, Nat.add_zero, Nat.zero_add, Nat.reduceEqDiff, Nat.reduceSub, b2i_0, ne_eq, Nat.reduceEqDiff, not_false_eq_true, not_true_eq_false, true_and, and_true, true_implies, false_implies, implies_true, and_self]
          refine ⟨aT A, rsB (aT A) (fxS (aT A) k m) (tpB (-9)) (tL (aT A) k) (tL (aT A) k - 1), MdT.of hK2 hA, fun d hd => ?_, ?_⟩
          · have := hr 0 d (by omega) (by omega)
            rw [show 12 * 0 + d = d by omega, show tL (aT A) k - 1 - 0 = tL (aT A) k - 1 by omega] at this
            exact this
          have hlt := rest_le hT (fxS (aT A) k m) (tpB y) (tpB (-9)) (tL (aT A) k) hL.2
          rw [lcmp_nz (by omega)]
          have e1 : sumN (fun d => if tpB y d then rsB (aT A) (fxS (aT A) k m) (tpB (-9)) (tL (aT A) k) (tL (aT A) k - 1) d else 0) (tD (aT A)) = sumN (fun d => if fr.testBit d then rsB (aT A) (fxS (aT A) k m) (fun _ => true) (tL (aT A) k) (tL (aT A) k - 1) d else 0) (tD (aT A)) := sumN_congr _ (fun d hd => by rw [tpB_dm hD h3 d hd, tpB_9])
          rw [e1]
          have hrf := rest_fwd hT (k := k) (st := m) (n := tL (aT A) k) (fr := fr) hL.1
          have hmm : ones m < (hmS P m).2 := by omega
          refine ⟨fun q2 => k79 hmm σ1 hj2 0 (Or.inl ⟨rfl, ?_⟩), fun q2 => k79 hmm σ1 hj2 1 (Or.inr ⟨rfl, ?_⟩)⟩
          · rw [hPm]
            exact decide_eq_false (hrf.mp q2)
          · rw [hPm]
            exact decide_eq_true (Classical.byContradiction fun hc => hrf.mpr hc q2)
      · have hq : MoQ σ τ := hj.m (by decide) (by decide)
        have hK1 := hq.r hK
        have g := mod_f hK1
        refine r_X12_hush_28 hC hR m_X12_isSong (by decide) m_X12_isAny (by decide) m_X12_ones (by decide) m_X12_layRest (by decide) m_X12_restFrom (by decide) _ _ _ ?_
        simp only [T_X12_hush_28, x_psh, x_ild, x_lld, x_ald, x_ist, x_ast, x_lst, x_inc, x_iadd, x_isub, x_imul, x_iand, x_ior, x_ixor, x_ishl, x_ishr, x_iushr, x_idiv, x_irem, x_ladd, x_land, x_lor, x_lshl, x_lshr, x_ineg, x_i2l, x_l2i, x_i2b, x_lcmp, x_dup, x_dup2, x_if_eq, x_if_ne, x_if_lt, x_if_ge, x_if_gt, x_if_le, x_ic_eq, x_ic_ne, x_ic_lt, x_ic_ge, x_ic_gt, x_ic_le, x_getI, x_getR, x_putI, x_putZ, x_putR, x_iald, x_bald, x_lald, x_iast, x_bast, x_last, x_alen, x_acp, x_mmax, x_mmin, x_callV, x_callS, x_iret, x_zret, x_lret, x_aret, x_vret, x_tsw, x_stop, zst1, zst2, zkill, zkl, zsplit, zmask, zent, zentL, List.getElem?_cons_zero, List.getElem?_cons_succ, List.set_cons_zero, List.set_cons_succ, List.set_nil, List.length_cons, List.length_nil, List.replicate, List.nil_append, List.cons_append, List.map_cons, List.map_nil, List.sum_cons, List.sum_nil, Value.category, Option.toList, List.contains_cons, List.contains_nil, true_or, or_true, true_and, Nat.zero_le, Nat.reduceAdd, Nat.reduceLeDiff, Nat.reduceLT, Nat.reduceBEq, Bool.true_or, Bool.or_true, Bool.false_or, Bool.or_false, ↓reduceIte, Bool.false_eq_true, Nat.add_zero, Nat.zero_add, Nat.reduceEqDiff, Nat.reduceSub, g, w_X12_ones, w_X12_layRest, b2i_0, ne_eq, Nat.reduceEqDiff, not_false_eq_true, not_true_eq_false, true_and, and_true, true_implies, false_implies, implies_true, and_self]
        rw [z_l31, z_l1, z_p2 _ (by omega)]
        refine ⟨fun _ => ?_, fun q => absurd (nI_le (Nat.le_refl _) (by omega)) q⟩
        rw [(hmS_lo P (2 ^ tD (aT A))).1.eq hlo]
        exact hQ τ hq.z hK1
  · simp only [h1] at hQ
    simp only [h2, b2i_0, ne_eq, Nat.reduceEqDiff, not_false_eq_true, not_true_eq_false, true_and, and_true, true_implies, false_implies, implies_true, and_self]
    exact hQ σ (ZF.refl _ _ _) hK
