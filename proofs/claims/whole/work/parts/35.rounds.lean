/-! longs -/
theorem wb_tb (n : Nat) : (lN n).toBitVec = BitVec.ofNat 64 n := rfl
theorem wb_inj {a b : Int64} (h : a.toBitVec = b.toBitVec) : a = b := Int64.toBitVec_inj.mp h
theorem wb_c : ∀ k, k < 64 → ((nI k).toInt64 &&& 63) = lN k := by decide +kernel
theorem wb_sm : ∀ k, k < 64 → (BitVec.ofNat 64 k).smod 64 = BitVec.ofNat 64 k := by decide +kernel
theorem wb_shl (n : Nat) {k : Nat} (hk : k < 64) : lN n <<< ((nI k).toInt64 &&& 63) = lN (n * 2 ^ k) := by
  rw [wb_c k hk]
  apply wb_inj
  rw [Int64.toBitVec_shiftLeft, wb_tb, wb_tb, wb_tb, wb_sm k hk]
  apply BitVec.eq_of_toNat_eq
  rw [BitVec.shiftLeft_eq', BitVec.toNat_shiftLeft, BitVec.toNat_ofNat, BitVec.toNat_ofNat, BitVec.toNat_ofNat, Nat.mod_eq_of_lt (show k < 2 ^ 64 by omega), Nat.shiftLeft_eq, Nat.mul_mod, Nat.mod_mod, ← Nat.mul_mod]
theorem fb_orL (a b : Nat) : lN a ||| lN b = lN (a ||| b) := by
  apply Int64.toBitVec_inj.1
  show BitVec.ofNat 64 a ||| BitVec.ofNat 64 b = BitVec.ofNat 64 (a ||| b)
  apply BitVec.eq_of_getLsbD_eq
  intro i hi
  simp [hi]
theorem z_lshr {a k : Nat} (hk : k < 64) (h : a < 2 ^ 62) : lN a >>> ((nI k).toInt64 &&& 63) = lN (a >>> k) := by
  rw [wb_c k hk]
  have hd : a / 2 ^ k ≤ a := Nat.div_le_self _ _
  apply Int64.toInt_inj.mp
  have hD : ((lN k).toBitVec.smod 64).toNat = k := by
    rw [wb_tb]
    have := wb_sm k hk
    rw [show (64 : BitVec 64) = 64#64 from rfl] at *
    rw [this, BitVec.toNat_ofNat, Nat.mod_eq_of_lt (by omega)]
  have e : (lN a >>> lN k).toInt = (lN a).toInt >>> k := by
    conv => rhs; rw [← hD]
    exact BitVec.toInt_sshiftRight ..
  rw [e, Int.shiftRight_eq_div_pow, pk_lT (by omega), Nat.shiftRight_eq_div_pow, pk_lT (by omega)]
  rfl
/-! counting bits -/
theorem cntB_congr {p q : Nat → Bool} : ∀ n, (∀ i, i < n → p i = q i) → cntB p n = cntB q n
  | 0, _ => rfl
  | n + 1, h => by rw [cntB, cntB, cntB_congr n fun i hi => h i (by omega), h n (by omega)]
theorem cntB_del {p : Nat → Bool} {e : Nat} (he : p e = true) : ∀ n, e < n → cntB (fun i => p i && !decide (e = i)) n + 1 = cntB p n
  | 0, h => absurd h (Nat.not_lt_zero e)
  | n + 1, h => by
    rw [cntB, cntB]
    by_cases q : e = n
    · subst q
      have : cntB (fun i => p i && !decide (e = i)) e = cntB p e := cntB_congr e fun i hi => by simp [show ¬ e = i by omega]
      rw [this]
      simp [he]
    · have := cntB_del he n (by omega)
      have e2 : (p n && !decide (e = n)) = p n := by simp [q]
      simp only [e2]
      omega
theorem cntB_out {p : Nat → Bool} {D : Nat} (h : ∀ i, D ≤ i → p i = false) : ∀ n, cntB p n ≤ D
  | 0 => Nat.zero_le _
  | n + 1 => by
    rw [cntB]
    rcases Nat.lt_or_ge n D with q | q
    · have := cntB_le p n
      split <;> omega
    · rw [h n q]
      simpa using cntB_out h n
theorem cntB_pos {p : Nat → Bool} {e n : Nat} (he : p e = true) (h : e < n) : 1 ≤ cntB p n := by
  have := cntB_del he n h
  omega
theorem ones_clr {r e : Nat} (hr : r < 4096) (he : r.testBit e = true) : ones (clrB r e) + 1 = ones r := by
  unfold ones
  have h12 : e < 12 := z_bit_lt (n := 12) hr he
  rw [← cntB_del (p := r.testBit) he 12 h12]
  congr 1
  exact cntB_congr 12 fun i _ => clrB_bit r e i
theorem ones_le_D {r D : Nat} (h : r < 2 ^ D) : ones r ≤ D := cntB_out (fun i hi => Nat.testBit_lt_two_pow (Nat.lt_of_lt_of_le h (Nat.pow_le_pow_right (by decide) hi))) 12
theorem ones_pos {r : Nat} (hr : r < 4096) (h : r ≠ 0) : 1 ≤ ones r := cntB_pos (lsb_bit r hr h) (lsb_lt r hr h)
theorem clrB_lt2 {r e : Nat} (he : r.testBit e = true) : clrB r e < r := by
  -- by halving
  induction e generalizing r with
  | zero =>
    have h : clrB r 0 / 2 = r / 2 := by
      apply Nat.eq_of_testBit_eq
      intro i
      rw [Nat.testBit_div_two, Nat.testBit_div_two, clrB_bit]
      simp
    have h0 : clrB r 0 % 2 = 0 := by
      have := clrB_bit r 0 0
      rw [Nat.testBit_zero] at this
      simp at this
      omega
    have h1 : r % 2 = 1 := by
      rw [Nat.testBit_zero] at he
      simpa using he
    omega
  | succ e ih =>
    have h : clrB r (e + 1) / 2 = clrB (r / 2) e := by
      apply Nat.eq_of_testBit_eq
      intro i
      rw [Nat.testBit_div_two, clrB_bit, clrB_bit, Nat.testBit_div_two]
      simp
    have h0 : clrB r (e + 1) % 2 = r % 2 := by
      have := clrB_bit r (e + 1) 0
      rw [Nat.testBit_zero, Nat.testBit_zero] at this
      simp at this
      omega
    have h1 := ih (r := r / 2) (by rw [Nat.testBit_div_two]; exact he)
    omega
/-! the greatest gain -/
def mxS (p : Nat → Bool) (v : Nat → Nat) : Nat → Nat
  | 0 => 1
  | k + 1 => if p k then max (mxS p v k) (v k) else mxS p v k
theorem mxS_congr {p : Nat → Bool} {v w : Nat → Nat} : ∀ n, (∀ k, k < n → p k = true → v k = w k) → mxS p v n = mxS p w n
  | 0, _ => rfl
  | n + 1, h => by
    rw [mxS, mxS, mxS_congr n fun k hk => h k (by omega)]
    split
    next hp => rw [h n (by omega) hp]
    next => rfl
theorem mxS_stop {p : Nat → Bool} {v : Nat → Nat} {k : Nat} (h : ∀ j, k ≤ j → p j = false) : ∀ n, mxS p v (k + n) = mxS p v k
  | 0 => rfl
  | n + 1 => by rw [← Nat.add_assoc, mxS, h (k + n) (by omega), mxS_stop h n]; simp
theorem mxS_le {p : Nat → Bool} {v : Nat → Nat} {c : Nat} (hc : 1 ≤ c) : ∀ n, (∀ k, k < n → v k ≤ c) → mxS p v n ≤ c
  | 0, _ => hc
  | n + 1, h => by
    have := mxS_le (p := p) hc n fun k hk => h k (by omega)
    have := h n (by omega)
    rw [mxS]
    split <;> omega
theorem mxS_pos {p : Nat → Bool} {v : Nat → Nat} : ∀ n, 1 ≤ mxS p v n
  | 0 => Nat.le_refl _
  | n + 1 => by have := mxS_pos (p := p) (v := v) n; rw [mxS]; split <;> omega
def wtS (T : TD) (F : Nat → Nat) (e r : Nat) : Nat := if (F (tD T - ones r)).testBit e then 1 else 0
def gnF (T : TD) (F : Nat → Nat) : Nat → Nat → Nat → Nat
  | 0, _, _ => 2
  | f + 1, d, r => if r = 0 then 2 else mxS (tE T d &&& r).testBit (fun e => if gnF T F f e (clrB r e) = 1 then 1 else gnF T F f e (clrB r e) + wtS T F e r) (tD T)
theorem gnF_fuel (T : TD) (F : Nat → Nat) : ∀ f g d r, r < 4096 → ones r ≤ f → ones r ≤ g → gnF T F f d r = gnF T F g d r
  | 0, g, d, r, hr, hf, hg => by
    have h0 : r = 0 := by
      rcases Nat.eq_zero_or_pos r with h | h
      · exact h
      · have := ones_pos hr (by omega); omega
    subst h0
    cases g with
    | zero => rfl
    | succ g => rw [gnF, gnF, if_pos rfl]
  | f + 1, 0, d, r, hr, hf, hg => by
    have h0 : r = 0 := by
      rcases Nat.eq_zero_or_pos r with h | h
      · exact h
      · have := ones_pos hr (by omega); omega
    subst h0
    rw [gnF, gnF, if_pos rfl]
  | f + 1, g + 1, d, r, hr, hf, hg => by
    rw [gnF, gnF]
    split
    · rfl
    · refine mxS_congr _ fun e he hb => ?_
      rw [Nat.testBit_and, Bool.and_eq_true] at hb
      have h1 := ones_clr hr hb.2
      have h2 := clrB_lt2 hb.2
      rw [gnF_fuel T F f g e (clrB r e) (by omega) (by omega) (by omega)]
def gnS (T : TD) (F : Nat → Nat) (d r : Nat) : Nat := gnF T F 12 d r
def gtS (T : TD) (F : Nat → Nat) (e r : Nat) : Nat := if gnS T F e (clrB r e) = 1 then 1 else gnS T F e (clrB r e) + wtS T F e r
theorem gnS_0 (T : TD) (F : Nat → Nat) (d : Nat) : gnS T F d 0 = 2 := by rw [gnS, gnF, if_pos rfl]
theorem gnS_eq (T : TD) (F : Nat → Nat) (d : Nat) {r : Nat} (hr : r < 4096) (h0 : r ≠ 0) : gnS T F d r = mxS (tE T d &&& r).testBit (fun e => gtS T F e r) (tD T) := by
  rw [gnS, gnF, if_neg h0]
  refine mxS_congr _ fun e he hb => ?_
  rw [Nat.testBit_and, Bool.and_eq_true] at hb
  have h1 := ones_clr hr hb.2
  have h2 := clrB_lt2 hb.2
  have h3 := ones_le r
  rw [gtS, gnS, gnF_fuel T F 11 12 e (clrB r e) (by omega) (by omega) (by omega)]
theorem gnF_le (T : TD) (F : Nat → Nat) : ∀ f d r, r < 4096 → gnF T F f d r ≤ 2 + ones r ∧ 1 ≤ gnF T F f d r
  | 0, d, r, _ => ⟨by rw [gnF]; omega, by rw [gnF]; omega⟩
  | f + 1, d, r, hr => by
    rw [gnF]
    split
    · exact ⟨by omega, by omega⟩
    · refine ⟨?_, mxS_pos _⟩
      have key : ∀ n, mxS (tE T d &&& r).testBit (fun e => if gnF T F f e (clrB r e) = 1 then 1 else gnF T F f e (clrB r e) + wtS T F e r) n ≤ 2 + ones r := by
        intro n
        induction n with
        | zero => rw [mxS]; omega
        | succ n ih =>
          rw [mxS]
          split
          next hb =>
            rw [Nat.testBit_and, Bool.and_eq_true] at hb
            have h1 := ones_clr hr hb.2
            have h2 := clrB_lt2 hb.2
            have h3 := (gnF_le T F f n (clrB r n) (by omega)).1
            have h4 : wtS T F n r ≤ 1 := by unfold wtS; split <;> omega
            refine Nat.max_le.mpr ⟨ih, ?_⟩
            split <;> omega
          next => exact ih
      exact key _
theorem gnS_le (T : TD) (F : Nat → Nat) (d : Nat) {r : Nat} (hr : r < 4096) : gnS T F d r ≤ 14 ∧ 1 ≤ gnS T F d r := by
  have := gnF_le T F 12 d r hr
  have := ones_le r
  unfold gnS
  omega
/-! four bits of a long -/
def nib (m d : Nat) : Nat := (m >>> (4 * d)) &&& 15
theorem nib_lt (m d : Nat) : nib m d < 16 := Nat.lt_of_le_of_lt Nat.and_le_right (by decide)
theorem nib_or {m g d e : Nat} (hg : g < 16) : nib (m ||| g * 2 ^ (4 * d)) e = if e = d then nib m d ||| g else nib m e := by
  have hbit : ∀ i, 4 ≤ i → g.testBit i = false := fun i hi => Nat.testBit_lt_two_pow (Nat.lt_of_lt_of_le hg (Nat.pow_le_pow_right (n := 2) (i := 4) (by decide) hi))
  have h15 : ∀ i, (15 : Nat).testBit i = decide (i < 4) := fun i => Nat.testBit_two_pow_sub_one 4 i
  apply Nat.eq_of_testBit_eq
  intro i
  unfold nib
  rw [← Nat.shiftLeft_eq]
  split
  next q =>
    subst q
    rw [Nat.testBit_and, Nat.testBit_shiftRight, Nat.testBit_or, Nat.testBit_shiftLeft, Nat.testBit_or, Nat.testBit_and, Nat.testBit_shiftRight, h15]
    by_cases hi : i < 4
    · simp [hi]
    · simp [hi, hbit i (by omega)]
  next q =>
    rw [Nat.testBit_and, Nat.testBit_shiftRight, Nat.testBit_or, Nat.testBit_shiftLeft, Nat.testBit_and, Nat.testBit_shiftRight, h15]
    by_cases hi : i < 4
    · by_cases h2 : 4 * d ≤ 4 * e + i
      · rw [hbit (4 * e + i - 4 * d) (by omega)]
        simp
      · simp [h2]
    · simp [hi]
theorem clrB_le (r e : Nat) : clrB r e ≤ r := by
  cases h : r.testBit e with
  | true => exact Nat.le_of_lt (clrB_lt2 h)
  | false =>
    have : r &&& 2 ^ e = 0 := (and_p2 r e).mpr h
    unfold clrB
    rw [this, Nat.xor_zero]
    exact Nat.le_refl _
