/-! PURE: sets by their size -/
def frc {α : Type} (x : Nat) (f : Nat → α) : α := Nat.casesOn x (f 0) (fun n => f (Nat.succ n))
theorem frc_eq {α : Type} (x : Nat) (f : Nat → α) : frc x f = f x := by cases x <;> rfl
def pcN (x : Nat) : Nat := frc (Nat.sub x (Nat.land (Nat.div x 2) 1365)) (fun a => frc (Nat.add (Nat.land a 819) (Nat.land (Nat.div a 4) 819)) (fun b => frc (Nat.land (Nat.add b (Nat.div b 16)) 3855) (fun c => Nat.land (Nat.add c (Nat.div c 256)) 15)))
theorem pcN_ok : ∀ s, s < 4096 → pcN s = ones s := z_4096 (P := fun s => pcN s = ones s) (by decide +kernel)
theorem lw_ok : ∀ d, d < 4096 → d ≠ 0 → Nat.land d (Nat.sub 8192 d) = 2 ^ lsb d := z_4096 (P := fun d => d ≠ 0 → Nat.land d (Nat.sub 8192 d) = 2 ^ lsb d) (by decide +kernel)
def nxC (d : Nat) : Nat := frc (Nat.land d (Nat.sub 8192 d)) (fun l => frc (Nat.add d l) (fun r => Nat.lor r (Nat.div (Nat.div (Nat.xor r d) l) 4)))
theorem nxC_ok {d : Nat} (hd : d < 4096) (h0 : d ≠ 0) : nxtS d 0 = nxC d := by
  unfold nxC
  rw [frc_eq, frc_eq, lw_ok d hd h0]
  unfold nxtS
  rw [if_neg h0, Nat.shiftRight_eq_div_pow, Nat.add_comm 2, Nat.pow_add, ← Nat.div_div_eq_div_mul]
  rfl
def ckN (d : Nat) : Bool := frc (nxC d) (fun n => Nat.ble (Nat.succ d) n && (Nat.ble 4096 n || Nat.beq (pcN n) (pcN d)))
def ckP (y : Nat) : Bool := Nat.beq y (2 ^ pcN y - 1) || frc (Nat.sub 4095 (nxC (Nat.sub 4095 y))) (fun z => Nat.ble (Nat.succ z) y && Nat.beq (pcN z) (pcN y) && Nat.beq (nxC z) y && Nat.ble 1 z)
theorem ckN_all : ∀ d, d < 4096 → d ≠ 0 → ckN d = true := z_4096 (P := fun d => d ≠ 0 → ckN d = true) (by decide +kernel)
theorem ckP_all : ∀ d, d < 4096 → ckP d = true := z_4096 (P := fun d => ckP d = true) (by decide +kernel)
theorem ones_least : ∀ y, y < 4096 → 2 ^ ones y - 1 ≤ y := z_4096 (P := fun y => 2 ^ ones y - 1 ≤ y) (by decide +kernel)
theorem ones_pow : ∀ a, a < 13 → ones (2 ^ a - 1) = a := by decide +kernel
theorem nx_reach : ∀ n y, y < n → y < 4096 → ∀ d, d ≠ 0 → d < y → ones d = ones y → nxtS d 0 ≤ y
  | 0, y, hn, _, d, _, _, _ => absurd hn (Nat.not_lt_zero y)
  | n + 1, y, hn, hy, d, h0, hd, ho => by
    have h := ckP_all y hy
    unfold ckP at h
    rw [frc_eq] at h
    generalize Nat.sub 4095 (nxC (Nat.sub 4095 y)) = z at h
    simp only [Bool.and_eq_true, Bool.or_eq_true] at h
    rcases h with h | ⟨⟨⟨h1, h2⟩, h3⟩, h4⟩
    · have h := Nat.eq_of_beq_eq_true h
      rw [pcN_ok y hy] at h
      have := ones_least d (by omega)
      rw [ho] at this
      omega
    · have h1 := Nat.le_of_ble_eq_true h1
      have h2 := Nat.eq_of_beq_eq_true h2
      have h3 := Nat.eq_of_beq_eq_true h3
      have h4 := Nat.le_of_ble_eq_true h4
      rw [pcN_ok y hy, pcN_ok z (by omega)] at h2
      rw [← nxC_ok (by omega) (by omega)] at h3
      rcases Nat.lt_trichotomy z d with q | q | q
      · have := nx_reach n d (by omega) (by omega) z (by omega) q (h2.trans ho.symm)
        omega
      · subst q; omega
      · have := nx_reach n z (by omega) (by omega) d h0 q (ho.trans h2.symm)
        omega
theorem nx_ok {d : Nat} (e : Nat) (hd : d < 4096) (h0 : d ≠ 0) : d < nxtS d e ∧ (nxtS d e < 4096 → ones (nxtS d e) = ones d) ∧ ∀ y, d < y → y < nxtS d e → y < 4096 → ones y ≠ ones d := by
  have h := ckN_all d hd h0
  have e1 : nxtS d e = nxtS d 0 := by unfold nxtS; rw [if_neg h0, if_neg h0]
  rw [e1]
  unfold ckN at h
  rw [frc_eq, ← nxC_ok hd h0] at h
  simp only [Bool.and_eq_true, Bool.or_eq_true] at h
  have h11 := Nat.le_of_ble_eq_true h.1
  refine ⟨by omega, fun q => ?_, fun y h1 h2 h3 ho => ?_⟩
  · rcases h.2 with r | r
    · have := Nat.le_of_ble_eq_true r
      omega
    · rw [← pcN_ok _ q, ← pcN_ok _ hd]
      exact Nat.eq_of_beq_eq_true r
  · have := nx_reach (y + 1) y (by omega) h3 d h0 h1 ho.symm
    omega
