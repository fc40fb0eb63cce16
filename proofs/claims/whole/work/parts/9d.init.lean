/-! the first state -/
theorem ClsR.rows {σ σ' : ZS} {A : AD} (h : ClsR σ A) (hd : ∀ i, i ≤ 55 → zd σ' i = zd σ i) (hR : ∀ i, i ≤ 55 → zR σ' i = zR σ i) (hI : ∀ i, i ≤ 55 → zI σ' i = zI σ i) : ClsR σ' A := by
  obtain ⟨hs, hv⟩ := h
  refine ⟨?_, ?_⟩
  · unfold ClsS TextS TownS ScnS TuneS ShS RoS TownS WalkS EarS at *
    simp only [Nat.reduceAdd] at hs ⊢
    rw [hR 1 (by decide), hR 2 (by decide), hR 4 (by decide), hR 9 (by decide), hR 10 (by decide), hR 15 (by decide), hR 17 (by decide), hR 19 (by decide), hR 20 (by decide), hR 25 (by decide), hR 27 (by decide), hR 29 (by decide), hR 30 (by decide), hR 35 (by decide), hR 37 (by decide), hR 39 (by decide), hR 43 (by decide), hR 47 (by decide), hR 54 (by decide)]
    simpa only [hd 1 (by decide), hd 2 (by decide), hd 3 (by decide), hd 4 (by decide), hd 5 (by decide), hd 6 (by decide), hd 7 (by decide), hd 8 (by decide), hd 9 (by decide), hd 10 (by decide), hd 11 (by decide), hd 12 (by decide), hd 13 (by decide), hd 14 (by decide), hd 15 (by decide), hd 16 (by decide), hd 17 (by decide), hd 18 (by decide), hd 19 (by decide), hd 20 (by decide), hd 21 (by decide), hd 22 (by decide), hd 23 (by decide), hd 24 (by decide), hd 25 (by decide), hd 26 (by decide), hd 27 (by decide), hd 28 (by decide), hd 29 (by decide), hd 30 (by decide), hd 31 (by decide), hd 32 (by decide), hd 33 (by decide), hd 34 (by decide), hd 35 (by decide), hd 36 (by decide), hd 37 (by decide), hd 38 (by decide), hd 39 (by decide), hd 40 (by decide), hd 41 (by decide), hd 42 (by decide), hd 43 (by decide), hd 44 (by decide), hd 45 (by decide), hd 46 (by decide), hd 47 (by decide), hd 48 (by decide), hd 49 (by decide), hd 50 (by decide), hd 51 (by decide), hd 52 (by decide), hd 53 (by decide), hd 54 (by decide), hd 55 (by decide)] using hs
  · unfold ClsV TextV TownV ScnV TownV WalkV EarV SltV ScnV TownV WalkV EarV at *
    simp only [Nat.reduceAdd] at hv ⊢
    simpa only [hI 1 (by decide), hI 2 (by decide), hI 3 (by decide), hI 4 (by decide), hI 5 (by decide), hI 6 (by decide), hI 7 (by decide), hI 8 (by decide), hI 9 (by decide), hI 10 (by decide), hI 11 (by decide), hI 12 (by decide), hI 13 (by decide), hI 14 (by decide), hI 15 (by decide), hI 16 (by decide), hI 17 (by decide), hI 18 (by decide), hI 19 (by decide), hI 20 (by decide), hI 21 (by decide), hI 22 (by decide), hI 23 (by decide), hI 24 (by decide), hI 25 (by decide), hI 26 (by decide), hI 27 (by decide), hI 28 (by decide), hI 29 (by decide), hI 30 (by decide), hI 31 (by decide), hI 32 (by decide), hI 33 (by decide), hI 34 (by decide), hI 35 (by decide), hI 36 (by decide), hI 37 (by decide), hI 38 (by decide)] using hv
theorem ModR.zf {σ σ' : ZS} {A : AD} (h : ModR σ A) (hf : ZF σ σ' 1 56) : ModR σ' A := by
  have hd := hf.1
  have hR : zR σ' 56 = zR σ 56 := (hf.2 56 (by omega)).1
  have hI : ∀ i, 56 ≤ i → zI σ' i = zI σ i := fun i hi => (hf.2 i (by omega)).2.1
  obtain ⟨hs, hv⟩ := h
  refine ⟨?_, ?_⟩
  · unfold ModS at *
    rw [hd, hR]
    exact hs
  · unfold ModV MTV MKV at *
    rw [hI 56 (by decide), hI 61 (by decide), hI 62 (by decide), hI 63 (by decide), hI 64 (by decide), hI 65 (by decide), hI 66 (by decide), hI 72 (by decide), hI 74 (by decide), hI 75 (by decide), hI 76 (by decide), hI 77 (by decide), hI 78 (by decide), hI 79 (by decide), hI 80 (by decide), hI 81 (by decide)]
    exact hv
theorem ClsR.zf {σ σ' : ZS} {A : AD} (h : ClsR σ A) (hf : ZF σ σ' 56 82) : ClsR σ' A := h.rows (fun i _ => by rw [hf.1]) (fun i hi => (hf.2 i (by omega)).1) (fun i hi => (hf.2 i (by omega)).2.1)
def td1 : TD := (tD td0 + 1, tS td0, va_up (tN td0) (tD td0) 0, va_up (tE td0) (tD td0) 0, tL td0, tG td0)
def sd1 : SD := (td1, (0, fun _ => 0), (0, fun _ => 0))
def ad1 : AD := ((0, fun _ => 0), sd1, none, none)
theorem ad1_ok : AOk ad1 := by
  have h : TdOk td1 := (addD_ok (a := 0) td0_ok (by decide) (by decide)).ok (by decide)
  exact ⟨by decide, fun k hk => absurd hk (Nat.not_lt_zero k), ⟨h, by decide, by decide, fun k hk => absurd hk (Nat.not_lt_zero k), fun k hk => absurd hk (Nat.not_lt_zero k)⟩, fun X h => (by cases h), fun X h => by cases h⟩
theorem cls1_S : ClsS (rX11 z1 1) := by
  refine ⟨by decide +kernel, by decide +kernel, by decide +kernel, by decide +kernel, by decide +kernel, by decide +kernel, by decide +kernel, by decide +kernel, by decide +kernel, by decide +kernel, ?_, ?_, ?_, ?_, ?_, ?_, ?_, ?_, ?_⟩
  · unfold TextS; decide +kernel
  · unfold TownS; decide +kernel
  · unfold ScnS TownS WalkS EarS; decide +kernel
  · unfold ScnS TownS WalkS EarS; decide +kernel
  · unfold ScnS TownS WalkS EarS; decide +kernel
  · unfold TuneS; decide +kernel
  · unfold TuneS; decide +kernel
  · unfold ShS; decide +kernel
  · unfold RoS; decide +kernel
theorem cls1 {σ' : ZS} (hf : Fr (rX11 z1 1) σ' 10 15) (hT : TownR σ' 10 td1) : ClsR σ' ad1 := by
  refine ⟨cls1_S.of hf.1 hf.2.1, ⟨?_, by decide, fun k hk => absurd hk (Nat.not_lt_zero k)⟩, ⟨td0, ?_, ?_, by decide, by decide, fun k hk => absurd hk (Nat.not_lt_zero k), fun k hk => absurd hk (Nat.not_lt_zero k), fun k hk => absurd hk (Nat.not_lt_zero k), fun k i hk => absurd hk (Nat.not_lt_zero k)⟩, ⟨hT.2, ⟨?_, by decide, fun k hk => absurd hk (Nat.not_lt_zero k)⟩, ⟨?_, by decide, fun k hk => absurd hk (Nat.not_lt_zero k)⟩⟩, ?_, ?_⟩
  · rw [hf.2.2.1 2 (by omega)]; decide +kernel
  · rw [hf.2.2.1 4 (by omega)]; decide +kernel
  · rw [hf.2.2.1 4 (by omega)]; decide +kernel
  · rw [hf.2.2.1 (9 + 6) (by omega)]; decide +kernel
  · rw [hf.2.2.1 (9 + 8) (by omega)]; decide +kernel
  · show zI σ' 19 3 = 0
    rw [hf.2.2.1 19 (by omega)]; decide +kernel
  · show zI σ' 29 3 = 0
    rw [hf.2.2.1 29 (by omega)]; decide +kernel
theorem zd_arr (σ : ZS) (i j kd n a : Nat) : zd (arrF σ i j kd n) a = if a = zN σ + 1 then some (kd, n) else zd σ a := by
  show zd (sNew σ (kd, n)) a = _
  split
  next e => rw [e, zd_new]
  next e =>
    unfold zd
    rw [zK_old σ _ e]
    show (if 1 ≤ a ∧ a ≤ zN σ + 1 then some (zK σ a) else none) = if 1 ≤ a ∧ a ≤ zN σ then some (zK σ a) else none
    by_cases h : 1 ≤ a ∧ a ≤ zN σ
    · rw [if_pos h, if_pos (by omega)]
    · rw [if_neg h, if_neg (by omega)]
theorem zR_arr (σ : ZS) (i j kd n a b : Nat) (hi : i ≠ zN σ + 1) (ha : a ≠ zN σ + 1) : zR (arrF σ i j kd n) a b = if a = i ∧ b = j then zN σ + 1 else zR σ a b := by
  unfold arrF
  rw [zR_sR]
  by_cases e : a = i
  · subst e
    rw [if_pos rfl]
    unfold va_up
    rw [zR_old σ _ ha]
    by_cases e2 : b = j
    · rw [if_pos e2, if_pos ⟨rfl, e2⟩]
    · rw [if_neg e2, if_neg (fun h => e2 h.2)]
  · rw [if_neg e, if_neg (fun h => e h.1), zR_old σ _ ha]
theorem zI_arr (σ : ZS) (i j kd n a : Nat) : zI (arrF σ i j kd n) a = if a = zN σ + 1 then (fun _ => 0) else zI σ a := rfl
/-- the model behind its constructor -/
def md1 (σ : ZS) : ZS := sI (rX12 (sNew σ (0, 9)) 56) 56 10 1
theorem zR_arr56 (σ : ZS) (j kd n b : Nat) (hi : 56 ≠ zN σ + 1) : zR (arrF σ 56 j kd n) 56 b = if b = j then zN σ + 1 else zR σ 56 b := by
  rw [zR_arr σ 56 j kd n 56 b hi hi]
  by_cases e : b = j
  · rw [if_pos e, if_pos ⟨rfl, e⟩]
  · rw [if_neg e, if_neg (fun h => e h.2)]
theorem mod1_S {σ : ZS} (h : zN σ = 55) : ModS (md1 σ) := by
  have h1 : zN (sNew σ (0, 9)) = 56 := by show zN σ + 1 = 56; omega
  have h2 : zd (sNew σ (0, 9)) 56 = some (0, 9) := by have := zd_new σ (0, 9); rw [h] at this; exact this
  unfold ModS md1
  rw [zd_sI, zR_sI]
  unfold rX12
  generalize sNew σ (0, 9) = τ at h1 h2
  simp only [zd_arr, zR_arr56, zN_arr, h1, h2, ne_eq, Nat.reduceAdd, Nat.reduceEqDiff, not_false_eq_true, ↓reduceIte, true_and, and_self]
theorem mod1_V {σ : ZS} (h : zN σ = 55) : ModV (md1 σ) ad1 := by
  have h1 : zN (sNew σ (0, 9)) = 56 := by show zN σ + 1 = 56; omega
  have h2 : zI (sNew σ (0, 9)) 56 = fun _ => 0 := by have := zI_new σ (0, 9); rw [h] at this; exact this
  have hI : ∀ a, a ≠ 56 → zI (md1 σ) a = zI (rX12 (sNew σ (0, 9)) 56) a := fun a ha => zI_off _ _ _ ha
  have hz : zI (rX12 (sNew σ (0, 9)) 56) 56 = (fun _ => 0) ∧ zI (rX12 (sNew σ (0, 9)) 56) 61 = (fun _ => 0) ∧ zI (rX12 (sNew σ (0, 9)) 56) 62 = (fun _ => 0) ∧ zI (rX12 (sNew σ (0, 9)) 56) 74 = (fun _ => 0) := by
    unfold rX12
    generalize sNew σ (0, 9) = τ at h1 h2
    simp only [zI_arr, zN_arr, h1, h2, Nat.reduceAdd, Nat.reduceEqDiff, ↓reduceIte, and_self]
  have h56 : ∀ j, zI (md1 σ) 56 j = if j = 10 then 1 else 0 := fun j => by
    unfold md1
    rw [zI_at, hz.1]
  have e0 : ∀ j, j ≠ 10 → zI (md1 σ) 56 j = 0 := fun j hj => by rw [h56, if_neg hj]
  have hT : ∀ k, tE td1 k = 0 := fun k => by
    show va_up (fun _ => 0) 0 0 k = 0
    unfold va_up
    split <;> rfl
  have hN0 : ∀ k, tN td1 k = 0 := fun k => by
    show va_up (fun _ => 0) 0 0 k = 0
    unfold va_up
    split <;> rfl
  refine ⟨⟨?_, ?_, fun k hk => ?_, fun k hk => ?_, fun k hk => absurd hk (Nat.not_lt_zero k), fun k i hk => absurd hk (Nat.not_lt_zero k)⟩, ⟨?_, fun k hk => absurd hk (Nat.not_lt_zero k)⟩, ⟨?_, fun k hk => absurd hk (Nat.not_lt_zero k)⟩, ⟨?_, fun k hk => absurd hk (Nat.not_lt_zero k)⟩, ?_, ?_⟩
  · rw [h56, if_pos rfl]; rfl
  · rw [e0 _ (by decide)]; rfl
  · rw [hI _ (by decide), hz.2.1]
    show (0 : Int32) = nI (tN td1 k)
    rw [hN0]; rfl
  · rw [hI _ (by decide), hz.2.2.1]
    show (0 : Int32) = nI (tE td1 k)
    rw [hT]; rfl
  · rw [e0 _ (by decide)]; rfl
  · rw [e0 _ (by decide)]; rfl
  · rw [e0 _ (by decide)]; rfl
  · show zI (md1 σ) 74 0 = 0
    rw [hI _ (by decide), hz.2.2.2]
  · show zI (md1 σ) 74 1 = 0
    rw [hI _ (by decide), hz.2.2.2]
theorem mod1 {σ : ZS} (h : zN σ = 55) : ModR (md1 σ) ad1 := ⟨mod1_S h, mod1_V h⟩
/-- the class's cells are as they were -/
theorem md1_old {σ : ZS} (h : zN σ = 55) {A : AD} (hc : ClsR σ A) : ClsR (md1 σ) A := by
  have h1 : zN (sNew σ (0, 9)) = 56 := by show zN σ + 1 = 56; omega
  have hd0 : ∀ i, i ≤ 55 → zd (sNew σ (0, 9)) i = zd σ i := fun i hi => by
    unfold zd
    rw [zK_old σ _ (by omega)]
    show (if 1 ≤ i ∧ i ≤ zN σ + 1 then some (zK σ i) else none) = if 1 ≤ i ∧ i ≤ zN σ then some (zK σ i) else none
    by_cases h : 1 ≤ i
    · rw [if_pos (by omega), if_pos (by omega)]
    · rw [if_neg (by omega), if_neg (by omega)]
  have hr0 : ∀ i, i ≤ 55 → zR (sNew σ (0, 9)) i = zR σ i := fun i hi => zR_old σ _ (by omega)
  have hi0 : ∀ i, i ≤ 55 → zI (sNew σ (0, 9)) i = zI σ i := fun i hi => zI_old σ _ (by omega)
  have step : ∀ (τ : ZS) (j kd n : Nat), 56 ≤ zN τ → (∀ i, i ≤ 55 → zd τ i = zd σ i) ∧ (∀ i, i ≤ 55 → zR τ i = zR σ i) ∧ (∀ i, i ≤ 55 → zI τ i = zI σ i) → 56 ≤ zN (arrF τ 56 j kd n) ∧ (∀ i, i ≤ 55 → zd (arrF τ 56 j kd n) i = zd σ i) ∧ (∀ i, i ≤ 55 → zR (arrF τ 56 j kd n) i = zR σ i) ∧ (∀ i, i ≤ 55 → zI (arrF τ 56 j kd n) i = zI σ i) := by
    intro τ j kd n hn hh
    refine ⟨by rw [zN_arr]; omega, fun i hi => ?_, fun i hi => ?_, fun i hi => ?_⟩
    · rw [zd_arr, if_neg (by omega)]; exact hh.1 i hi
    · unfold arrF
      rw [zR_sR, if_neg (by omega), zR_old τ _ (by omega)]
      exact hh.2.1 i hi
    · rw [zI_arr, if_neg (by omega)]; exact hh.2.2 i hi
  have all : 56 ≤ zN (rX12 (sNew σ (0, 9)) 56) ∧ (∀ i, i ≤ 55 → zd (rX12 (sNew σ (0, 9)) 56) i = zd σ i) ∧ (∀ i, i ≤ 55 → zR (rX12 (sNew σ (0, 9)) 56) i = zR σ i) ∧ (∀ i, i ≤ 55 → zI (rX12 (sNew σ (0, 9)) 56) i = zI σ i) := by
    unfold rX12
    have q0 : 56 ≤ zN (sNew σ (0, 9)) ∧ (∀ i, i ≤ 55 → zd (sNew σ (0, 9)) i = zd σ i) ∧ (∀ i, i ≤ 55 → zR (sNew σ (0, 9)) i = zR σ i) ∧ (∀ i, i ≤ 55 → zI (sNew σ (0, 9)) i = zI σ i) := ⟨by omega, hd0, hr0, hi0⟩
    have st2 : ∀ (τ : ZS) (j kd n : Nat), (56 ≤ zN τ ∧ (∀ i, i ≤ 55 → zd τ i = zd σ i) ∧ (∀ i, i ≤ 55 → zR τ i = zR σ i) ∧ (∀ i, i ≤ 55 → zI τ i = zI σ i)) → 56 ≤ zN (arrF τ 56 j kd n) ∧ (∀ i, i ≤ 55 → zd (arrF τ 56 j kd n) i = zd σ i) ∧ (∀ i, i ≤ 55 → zR (arrF τ 56 j kd n) i = zR σ i) ∧ (∀ i, i ≤ 55 → zI (arrF τ 56 j kd n) i = zI σ i) := fun τ j kd n hh => step τ j kd n hh.1 hh.2
    repeat (first | exact q0 | refine st2 _ _ _ _ ?_)
  refine hc.rows (fun i hi => ?_) (fun i hi => ?_) (fun i hi => ?_)
  · unfold md1
    rw [zd_sI]
    exact all.2.1 i hi
  · unfold md1
    rw [zR_sI]
    exact all.2.2.1 i hi
  · unfold md1
    rw [zI_off _ _ _ (by omega)]
    exact all.2.2.2 i hi
