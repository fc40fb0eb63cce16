/-! what is read is a town -/
def TdW (T : TD) : Prop := tD T ≤ 12 ∧ tS T ≤ 4 ∧ (∀ k, k < tD T → tN T k ≤ 7 ∧ tE T k < 2 ^ tD T ∧ (tE T k).testBit k = false) ∧ (∀ a b, a < tD T → b < tD T → (tE T a).testBit b = (tE T b).testBit a) ∧ (∀ k, k < tS T → (k + 1 < tS T → 1 ≤ tL T k) ∧ tL T k ≤ 6 ∧ ∀ i, i < tL T k → tG T (6 * k + i) ≤ 8) ∧ (∀ k, tD T ≤ k → tE T k = 0)
def TdQ (T : TD) : Prop := TdW T ∧ ∀ k, k < tS T → 1 ≤ tL T k
theorem TdQ.ok {T : TD} (h : TdQ T) (h1 : 1 ≤ tD T) : TdOk T := ⟨h1, h.1.1, h.1.2.1, h.1.2.2.1, h.1.2.2.2.1, fun k hk => ⟨h.2 k hk, (h.1.2.2.2.2.1 k hk).2.1, (h.1.2.2.2.2.1 k hk).2.2⟩, h.1.2.2.2.2.2⟩
theorem td0_ok : TdQ td0 := ⟨⟨by decide, by decide, fun k hk => absurd hk (by simp [td0, tD]), fun a b ha => absurd ha (by simp [td0, tD]), fun k hk => absurd hk (by simp [td0, tS]), fun _ _ => rfl⟩, fun k hk => absurd hk (by simp [td0, tS])⟩
theorem addD_ok {T : TD} {a : Nat} (h : TdQ T) (hD : tD T < 12) (ha : a ≤ 7) : TdQ (addD T a) := by
  obtain ⟨⟨h1, h2, h3, h4, h5, h6⟩, h7⟩ := h
  have hE : ∀ k, tE (addD T a) k = if k = tD T then 0 else tE T k := fun k => rfl
  have hN : ∀ k, tN (addD T a) k = if k = tD T then a else tN T k := fun k => rfl
  refine ⟨⟨?_, h2, fun k hk => ?_, fun x y hx hy => ?_, h5, fun k hk => ?_⟩, h7⟩
  · show tD T + 1 ≤ 12; omega
  · have hk : k < tD T + 1 := hk
    rw [hE, hN]
    by_cases e : k = tD T
    · rw [if_pos e, if_pos e]
      exact ⟨ha, Nat.two_pow_pos _, Nat.zero_testBit _⟩
    · rw [if_neg e, if_neg e]
      have := h3 k (by omega)
      refine ⟨this.1, ?_, this.2.2⟩
      show tE T k < 2 ^ (tD T + 1)
      rw [Nat.pow_succ]; omega
  · have hx : x < tD T + 1 := hx
    have hy : y < tD T + 1 := hy
    rw [hE, hE]
    by_cases ex : x = tD T
    · rw [if_pos ex, Nat.zero_testBit]
      by_cases ey : y = tD T
      · rw [if_pos ey, Nat.zero_testBit]
      · rw [if_neg ey, ex]
        exact (Nat.testBit_lt_two_pow (h3 y (by omega)).2.1).symm
    · rw [if_neg ex]
      by_cases ey : y = tD T
      · rw [if_pos ey, Nat.zero_testBit, ey]
        exact Nat.testBit_lt_two_pow (h3 x (by omega)).2.1
      · rw [if_neg ey]
        exact h4 x y (by omega) (by omega)
  · have hk : tD T + 1 ≤ k := hk
    rw [hE, if_neg (by omega)]
    exact h6 k (by omega)
theorem jnE_bit {T : TD} {a b : Nat} {c : Bool} (hab : a ≠ b) (x y : Nat) : (jnE T a b c x).testBit y = if (x = a ∧ y = b) ∨ (x = b ∧ y = a) then c else (tE T x).testBit y := by
  unfold jnE
  by_cases e1 : x = a
  · rw [if_pos e1]
    subst e1
    by_cases e2 : y = b
    · subst e2
      rw [if_pos (Or.inl ⟨rfl, rfl⟩)]
      cases c
      · rw [if_neg (by simp), clrB_bit]; simp
      · rw [if_pos rfl, Nat.testBit_or, Nat.testBit_two_pow]; simp
    · rw [if_neg (show ¬ ((x = x ∧ y = b) ∨ (x = b ∧ y = x)) by omega)]
      cases c
      · rw [if_neg (by simp), clrB_bit]
        have : ¬ b = y := fun e => e2 e.symm
        simp [this]
      · rw [if_pos rfl, Nat.testBit_or, Nat.testBit_two_pow]
        have : ¬ b = y := fun e => e2 e.symm
        simp [this]
  · rw [if_neg e1]
    by_cases e2 : x = b
    · subst e2
      rw [if_pos rfl]
      by_cases e3 : y = a
      · subst e3
        rw [if_pos (Or.inr ⟨rfl, rfl⟩)]
        cases c
        · rw [if_neg (by simp), clrB_bit]; simp
        · rw [if_pos rfl, Nat.testBit_or, Nat.testBit_two_pow]; simp
      · rw [if_neg (show ¬ ((x = a ∧ y = x) ∨ (x = x ∧ y = a)) by omega)]
        have : ¬ a = y := fun e => e3 e.symm
        cases c
        · rw [if_neg (by simp), clrB_bit]
          simp [this]
        · rw [if_pos rfl, Nat.testBit_or, Nat.testBit_two_pow]
          simp [this]
    · rw [if_neg e2, if_neg (by omega)]
theorem jnE_lt {T : TD} {a b n : Nat} {c : Bool} {k : Nat} (ha : a < n) (hb : b < n) (hE : ∀ k, tE T k < 2 ^ n) : jnE T a b c k < 2 ^ n := by
  have pa : 2 ^ a < 2 ^ n := Nat.pow_lt_pow_right (by decide) ha
  have pb : 2 ^ b < 2 ^ n := Nat.pow_lt_pow_right (by decide) hb
  unfold jnE
  split
  · split
    · exact Nat.or_lt_two_pow (hE a) pb
    · exact clrB_lt (hE a)
  · split
    · split
      · exact Nat.or_lt_two_pow (hE b) pa
      · exact clrB_lt (hE b)
    · exact hE k
/-- streets joined or parted keep all rules -/
theorem join_e {T : TD} {a b : Nat} {c : Bool} (h : TdW T) (ha : a < tD T) (hb : b < tD T) (hab : a ≠ b) : TdW (tD T, tS T, tN T, jnE T a b c, tL T, tG T) := by
  obtain ⟨h1, h2, h3, h4, h5, h6⟩ := h
  have hE : ∀ k, tE T k < 2 ^ tD T := fun k => by
    by_cases hk : k < tD T
    · exact (h3 k hk).2.1
    · rw [h6 k (by omega)]; exact Nat.two_pow_pos _
  refine ⟨h1, h2, fun k hk => ⟨(h3 k hk).1, jnE_lt ha hb hE, ?_⟩, fun x y hx hy => ?_, h5, fun k hk => ?_⟩
  · show (jnE T a b c k).testBit k = false
    rw [jnE_bit hab, if_neg (by omega)]
    exact (h3 k hk).2.2
  · show (jnE T a b c x).testBit y = (jnE T a b c y).testBit x
    rw [jnE_bit hab, jnE_bit hab]
    by_cases e : (x = a ∧ y = b) ∨ (x = b ∧ y = a)
    · rw [if_pos e, if_pos (by omega)]
    · rw [if_neg e, if_neg (by omega)]
      exact h4 x y hx hy
  · show jnE T a b c k = 0
    have hk : tD T ≤ k := hk
    unfold jnE
    rw [if_neg (by omega), if_neg (by omega)]
    exact h6 k hk
theorem addSg_ok {T : TD} (h : TdQ T) (hS : tS T < 4) : TdW (addSg T) ∧ tL (addSg T) (tS T) = 0 := by
  obtain ⟨⟨h1, h2, h3, h4, h5, h6⟩, h7⟩ := h
  have hL : ∀ k, tL (addSg T) k = if k = tS T then 0 else tL T k := fun k => rfl
  refine ⟨⟨h1, ?_, h3, h4, fun k hk => ?_, h6⟩, by rw [hL, if_pos rfl]⟩
  · show tS T + 1 ≤ 4; omega
  · have hk : k < tS T + 1 := hk
    rw [hL]
    by_cases e : k = tS T
    · rw [if_pos e]
      refine ⟨fun q => ?_, by omega, fun i hi => by omega⟩
      have q : k + 1 < tS T + 1 := q
      omega
    · rw [if_neg e]
      have := h5 k (by omega)
      exact ⟨fun _ => h7 k (by omega), this.2.1, this.2.2⟩
theorem addSn_ok {T : TD} {a : Nat} (h : TdW T) (h1S : 1 ≤ tS T) (hl : tL T (tS T - 1) < 6) (ha : a ≤ 8) : TdW (addSn T a) ∧ tL (addSn T a) (tS T - 1) = tL T (tS T - 1) + 1 := by
  obtain ⟨h1, h2, h3, h4, h5, h6⟩ := h
  have hL : ∀ k, tL (addSn T a) k = if k = tS T - 1 then tL T (tS T - 1) + 1 else tL T k := fun k => rfl
  have hG : ∀ j, tG (addSn T a) j = if j = 6 * (tS T - 1) + tL T (tS T - 1) then a else tG T j := fun j => rfl
  refine ⟨⟨h1, h2, h3, h4, fun k hk => ?_, h6⟩, by rw [hL, if_pos rfl]⟩
  have hk : k < tS T := hk
  rw [hL]
  have h5k := h5 k hk
  by_cases e : k = tS T - 1
  · rw [if_pos e]
    refine ⟨fun q => by have q : k + 1 < tS T := q; omega, by omega, fun i hi => ?_⟩
    rw [hG]
    by_cases e2 : 6 * k + i = 6 * (tS T - 1) + tL T (tS T - 1)
    · rw [if_pos e2]; exact ha
    · rw [if_neg e2]
      exact h5k.2.2 i (by rw [e]; subst e; omega)
  · rw [if_neg e]
    refine ⟨h5k.1, h5k.2.1, fun i hi => ?_⟩
    rw [hG, if_neg (by omega)]
    exact h5k.2.2 i hi
theorem pSn_ok {n : Nat} {bt : Nat → Nat} : ∀ f pl T, TdW T → 1 ≤ tS T → tL T (tS T - 1) + f ≤ 6 → TdW (pSn n bt f pl T).2 ∧ tS (pSn n bt f pl T).2 = tS T ∧ tL T (tS T - 1) ≤ tL (pSn n bt f pl T).2 (tS T - 1)
  | 0, pl, T, h, _, _ => ⟨h, rfl, Nat.le_refl _⟩
  | f + 1, pl, T, h, h1, h2 => by
    rw [pSn]
    split
    · exact ⟨h, rfl, Nat.le_refl _⟩
    next a ha =>
      have hs := addSn_ok (a := a) h h1 (by omega) (by have := sgO_lt ha; omega)
      have := pSn_ok (n := n) (bt := bt) f (pl + 1) (addSn T a) hs.1 h1 (by show tL (addSn T a) (tS T - 1) + f ≤ 6; rw [hs.2]; omega)
      refine ⟨this.1, this.2.1, ?_⟩
      have h3 : tL (addSn T a) (tS T - 1) ≤ tL (pSn n bt f (pl + 1) (addSn T a)).2 (tS T - 1) := this.2.2
      rw [hs.2] at h3
      omega
theorem pOn_ok {n : Nat} {bt : Nat → Nat} {pl : Nat} {T : TD} (h : TdQ T) : (pOn n bt pl T).1 = true → TdQ (pOn n bt pl T).2.2 := by
  unfold pOn
  split
  · unfold pSt
    split
    · intro q; simp at q
    · split
      · intro q; simp at q
      next a ha =>
        split
        · intro q; simp at q
        · split
          · intro q; simp at q
          next b hb =>
            split
            · intro q; simp at q
            · split
              · intro q; simp at q
              · intro _
                have := drO_lt ha
                have := drO_lt hb
                exact ⟨join_e h.1 (by omega) (by omega) (by omega), h.2⟩
  · unfold pSo
    split
    · intro q; simp at q
    next hc =>
      split
      · intro q; simp at q
      next a ha =>
        intro _
        have hS : tS T < 4 := by omega
        have hg := addSg_ok h hS
        have e5 : pSn n bt 6 (pl + 1) (addSg T) = pSn n bt 5 (pl + 1 + 1) (addSn (addSg T) a) := by rw [pSn, ha]
        show TdQ (pSn n bt 6 (pl + 1) (addSg T)).2
        have hl0 : tL (addSg T) (tS (addSg T) - 1) = 0 := by
          show tL (addSg T) (tS T + 1 - 1) = 0
          rw [show tS T + 1 - 1 = tS T by omega]; exact hg.2
        have h1 : 1 ≤ tS (addSg T) := by show 1 ≤ tS T + 1; omega
        have hn := addSn_ok (a := a) hg.1 h1 (by omega) (by have := sgO_lt ha; omega)
        have hk := pSn_ok (n := n) (bt := bt) 5 (pl + 1 + 1) (addSn (addSg T) a) hn.1 h1 (by show tL (addSn (addSg T) a) (tS (addSg T) - 1) + 5 ≤ 6; rw [hn.2]; omega)
        rw [e5]
        refine ⟨hk.1, fun k hk2 => ?_⟩
        by_cases e : k + 1 < tS (pSn n bt 5 (pl + 1 + 1) (addSn (addSg T) a)).2
        · exact (hk.1.2.2.2.2.1 k hk2).1 e
        · have e2 : k = tS (addSg T) - 1 := by
            have h3 : tS (pSn n bt 5 (pl + 1 + 1) (addSn (addSg T) a)).2 = tS (addSg T) := hk.2.1
            omega
          have h4 : tL (addSn (addSg T) a) (tS (addSg T) - 1) ≤ tL (pSn n bt 5 (pl + 1 + 1) (addSn (addSg T) a)).2 (tS (addSg T) - 1) := hk.2.2
          rw [hn.2] at h4
          rw [e2]
          omega
theorem pDo_ok {n : Nat} {bt : Nat → Nat} : ∀ f pl T, TdQ T → tD T + f ≤ 12 → TdQ (pDo n bt f pl T).2
  | 0, pl, T, h, _ => h
  | f + 1, pl, T, h, h1 => by
    rw [pDo]
    split
    · exact h
    next a ha => exact pDo_ok f (pl + 1) (addD T a) (addD_ok h (by omega) (by have := ltO_lt ha; omega)) (by show tD T + 1 + f ≤ 12; omega)
theorem pPa_ok {n : Nat} {bt : Nat → Nat} : ∀ f pl T, TdQ T → (pPa n bt f pl T).1 = none → TdQ (pPa n bt f pl T).2 ∧ tD (pPa n bt f pl T).2 = tD T
  | 0, pl, T, h, _ => ⟨h, rfl⟩
  | f + 1, pl, T, h, e => by
    rw [pPa] at e ⊢
    split
    · exact ⟨h, rfl⟩
    next hc =>
      rw [if_neg hc] at e
      split
      next hp =>
        rw [if_pos hp] at e
        have := pPa_ok f _ _ (pOn_ok h hp) e
        exact ⟨this.1, by rw [this.2]; exact pOn_gt.2⟩
      next hp =>
        rw [if_neg hp] at e
        cases e
theorem pRd_ok {n : Nat} {bt : Nat → Nat} (h : (pRd n bt).1 = none) : TdOk (pRd n bt).2 := by
  unfold pRd at h ⊢
  split
  next hb =>
    rw [if_pos hb] at h
    have hd := pDo_ok (n := n) (bt := bt) 12 1 td0 td0_ok (by decide)
    split
    next h0 => rw [if_pos h0] at h; cases h
    next h0 =>
      rw [if_neg h0] at h
      have := pPa_ok _ _ _ hd h
      exact this.1.ok (by rw [this.2]; omega)
  next hb => rw [if_neg hb] at h; cases h
