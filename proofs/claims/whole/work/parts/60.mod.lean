/-! THE MODEL: what the memory says of a state -/
def ModS (σ : ZS) : Prop := zd σ 56 = some (0, 9) ∧ zR σ 56 0 = 57 ∧ zR σ 56 1 = 58 ∧ zR σ 56 2 = 59 ∧ zR σ 56 3 = 60 ∧ zR σ 56 6 = 61 ∧ zR σ 56 7 = 62 ∧ zR σ 56 8 = 63 ∧ zR σ 56 9 = 64 ∧ zR σ 56 12 = 65 ∧ zR σ 56 17 = 66 ∧ zR σ 56 18 = 67 ∧ zR σ 56 19 = 68 ∧ zR σ 56 20 = 69 ∧ zR σ 56 21 = 70 ∧ zR σ 56 22 = 71 ∧ zR σ 56 24 = 72 ∧ zR σ 56 25 = 73 ∧ zR σ 56 26 = 74 ∧ zR σ 56 27 = 75 ∧ zR σ 56 28 = 76 ∧ zR σ 56 29 = 77 ∧ zR σ 56 30 = 78 ∧ zR σ 56 31 = 79 ∧ zR σ 56 32 = 80 ∧ zR σ 56 33 = 81 ∧ zd σ 57 = some (1, 12) ∧ zd σ 58 = some (1, 12) ∧ zd σ 59 = some (1, 24) ∧ zd σ 60 = some (1, 4) ∧ zd σ 61 = some (1, 12) ∧ zd σ 62 = some (1, 12) ∧ zd σ 63 = some (1, 24) ∧ zd σ 64 = some (1, 4) ∧ zd σ 65 = some (1, 96) ∧ zd σ 66 = some (1, 24) ∧ zd σ 67 = some (3, 84) ∧ zd σ 68 = some (1, 768) ∧ zd σ 69 = some (3, 768) ∧ zd σ 70 = some (3, 768) ∧ zd σ 71 = some (1, 13068) ∧ zd σ 72 = some (1, 12) ∧ zd σ 73 = some (1, 49152) ∧ zd σ 74 = some (4, 2) ∧ zd σ 75 = some (1, 24) ∧ zd σ 76 = some (1, 24) ∧ zd σ 77 = some (1, 48) ∧ zd σ 78 = some (1, 8) ∧ zd σ 79 = some (1, 48) ∧ zd σ 80 = some (1, 24) ∧ zd σ 81 = some (1, 8)
theorem ModS.of {σ σ' : ZS} (h : ModS σ) (h1 : zd σ' = zd σ) (h2 : zR σ' = zR σ) : ModS σ' := by
  unfold ModS at *
  rw [h1, h2]
  exact h
/-- a town, told by numbers and rows -/
def TDV (T : TD) (dv sv : Int32) (an ae al ag : Nat → Int32) : Prop := dv = nI (tD T) ∧ sv = nI (tS T) ∧ (∀ k, k < tD T → an k = nI (tN T k)) ∧ (∀ k, k < 12 → ae k = nI (tE T k)) ∧ (∀ k, k < tS T → al k = nI (tL T k)) ∧ (∀ k i, k < tS T → i < tL T k → ag (6 * k + i) = nI (tG T (6 * k + i)))
def RowV (n : Nat) (f : Nat → Nat) (nv : Int32) (a : Nat → Int32) : Prop := nv = nI n ∧ ∀ k, k < n → a k = nI (f k)
def MTV (σ : ZS) (T : TD) : Prop := TDV T (zI σ 56 10) (zI σ 56 11) (zI σ 61) (zI σ 62) (zI σ 64) (zI σ 63)
def MKV (σ : ZS) (s : Nat) (o : Option SD) : Prop := match o with
  | none => zI σ 74 s = 0
  | some X => zI σ 74 s = 1 ∧ TDV (xT X) (zI σ 81 (4 * s)) (zI σ 81 (4 * s + 1)) (fun k => zI σ 75 (12 * s + k)) (fun k => zI σ 76 (12 * s + k)) (fun k => zI σ 78 (4 * s + k)) (fun k => zI σ 77 (24 * s + k)) ∧ RowV (xW X) (xF X) (zI σ 81 (4 * s + 2)) (fun k => zI σ 79 (24 * s + k)) ∧ RowV (xE X) (xG X) (zI σ 81 (4 * s + 3)) (fun k => zI σ 80 (12 * s + k))
def ModV (σ : ZS) (A : AD) : Prop := MTV σ (aT A) ∧ RowV (aN A) (aB A) (zI σ 56 13) (zI σ 65) ∧ RowV (xW (aX A)) (xF (aX A)) (zI σ 56 16) (zI σ 66) ∧ RowV (xE (aX A)) (xG (aX A)) (zI σ 56 23) (zI σ 72) ∧ MKV σ 0 (a1 A) ∧ MKV σ 1 (a2 A)
def ModR (σ : ZS) (A : AD) : Prop := ModS σ ∧ ModV σ A
theorem mod_f {σ : ZS} {A : AD} (h : ModR σ A) : zd σ 56 = some (0, 9) ∧ zR σ 56 0 = 57 ∧ zR σ 56 1 = 58 ∧ zR σ 56 2 = 59 ∧ zR σ 56 3 = 60 ∧ zR σ 56 6 = 61 ∧ zR σ 56 7 = 62 ∧ zR σ 56 8 = 63 ∧ zR σ 56 9 = 64 ∧ zR σ 56 12 = 65 ∧ zR σ 56 17 = 66 ∧ zR σ 56 18 = 67 ∧ zR σ 56 19 = 68 ∧ zR σ 56 20 = 69 ∧ zR σ 56 21 = 70 ∧ zR σ 56 22 = 71 ∧ zR σ 56 24 = 72 ∧ zR σ 56 25 = 73 ∧ zR σ 56 26 = 74 ∧ zR σ 56 27 = 75 ∧ zR σ 56 28 = 76 ∧ zR σ 56 29 = 77 ∧ zR σ 56 30 = 78 ∧ zR σ 56 31 = 79 ∧ zR σ 56 32 = 80 ∧ zR σ 56 33 = 81 ∧ zd σ 57 = some (1, 12) ∧ zd σ 58 = some (1, 12) ∧ zd σ 59 = some (1, 24) ∧ zd σ 60 = some (1, 4) ∧ zd σ 61 = some (1, 12) ∧ zd σ 62 = some (1, 12) ∧ zd σ 63 = some (1, 24) ∧ zd σ 64 = some (1, 4) ∧ zd σ 65 = some (1, 96) ∧ zd σ 66 = some (1, 24) ∧ zd σ 67 = some (3, 84) ∧ zd σ 68 = some (1, 768) ∧ zd σ 69 = some (3, 768) ∧ zd σ 70 = some (3, 768) ∧ zd σ 71 = some (1, 13068) ∧ zd σ 72 = some (1, 12) ∧ zd σ 73 = some (1, 49152) ∧ zd σ 74 = some (4, 2) ∧ zd σ 75 = some (1, 24) ∧ zd σ 76 = some (1, 24) ∧ zd σ 77 = some (1, 48) ∧ zd σ 78 = some (1, 8) ∧ zd σ 79 = some (1, 48) ∧ zd σ 80 = some (1, 24) ∧ zd σ 81 = some (1, 8) ∧ zI σ 56 10 = nI (tD (aT A)) ∧ zI σ 56 11 = nI (tS (aT A)) ∧ zI σ 56 13 = nI (aN A) ∧ zI σ 56 16 = nI (xW (aX A)) ∧ zI σ 56 23 = nI (xE (aX A)) := by
  obtain ⟨hs, hv⟩ := h
  have e1 := hv.1.1
  have e2 := hv.1.2.1
  have e3 := hv.2.1.1
  have e4 := hv.2.2.1.1
  have e5 := hv.2.2.2.1.1
  unfold ModS at hs
  simp only [hs, e1, e2, e3, e4, e5, and_self]
/-- what a query of the model leaves -/
def MoQ (σ σ' : ZS) : Prop := zd σ' = zd σ ∧ zR σ' = zR σ ∧ (∀ j, j ≠ 4 → j ≠ 5 → j ≠ 14 → j ≠ 15 → zI σ' 56 j = zI σ 56 j) ∧ (∀ i, (i < 56 ∨ (61 ≤ i ∧ i ≤ 66) ∨ i = 72 ∨ 74 ≤ i) → zI σ' i = zI σ i) ∧ (∀ i, (i < 56 ∨ 82 ≤ i) → zJ σ' i = zJ σ i)
theorem MoQ.refl (σ : ZS) : MoQ σ σ := ⟨rfl, rfl, fun _ _ _ _ _ => rfl, fun _ _ => rfl, fun _ _ => rfl⟩
theorem MoQ.trans {σ σ1 σ2 : ZS} (h : MoQ σ σ1) (g : MoQ σ1 σ2) : MoQ σ σ2 := ⟨g.1.trans h.1, g.2.1.trans h.2.1, fun j a b c d => (g.2.2.1 j a b c d).trans (h.2.2.1 j a b c d), fun i hi => (g.2.2.2.1 i hi).trans (h.2.2.2.1 i hi), fun i hi => (g.2.2.2.2 i hi).trans (h.2.2.2.2 i hi)⟩
theorem MoQ.z {σ σ' : ZS} (h : MoQ σ σ') : ZF σ σ' 56 82 := ⟨h.1, fun i q => ⟨by rw [h.2.1], h.2.2.2.1 i (by omega), h.2.2.2.2 i q⟩⟩
theorem MoQ.r {σ σ' : ZS} {A : AD} (h : MoQ σ σ') (hm : ModR σ A) : ModR σ' A := by
  refine ⟨hm.1.of h.1 h.2.1, ?_⟩
  have hv := hm.2
  obtain ⟨-, -, f1, f2, -⟩ := h
  unfold ModV MTV MKV at *
  rw [f1 10 (by decide) (by decide) (by decide) (by decide), f1 11 (by decide) (by decide) (by decide) (by decide), f1 13 (by decide) (by decide) (by decide) (by decide), f1 16 (by decide) (by decide) (by decide) (by decide), f1 23 (by decide) (by decide) (by decide) (by decide), f2 61 (by decide), f2 62 (by decide), f2 63 (by decide), f2 64 (by decide), f2 65 (by decide), f2 66 (by decide), f2 72 (by decide), f2 74 (by decide), f2 75 (by decide), f2 76 (by decide), f2 77 (by decide), f2 78 (by decide), f2 79 (by decide), f2 80 (by decide), f2 81 (by decide)]
  exact hv
theorem JF.m {σ σ' : ZS} {a : Nat} (h : JF σ σ' a) (h1 : 56 ≤ a) (h2 : a < 82) : MoQ σ σ' := ⟨h.1, h.2.1, fun j _ _ _ _ => by rw [h.2.2.1], fun i _ => by rw [h.2.2.1], fun i hi => h.2.2.2 i (by omega)⟩
/-- only one row of ints -/
def IF (σ σ' : ZS) (a : Nat) : Prop := zd σ' = zd σ ∧ zR σ' = zR σ ∧ zJ σ' = zJ σ ∧ offI σ σ' a
theorem IF.refl (σ : ZS) (a : Nat) : IF σ σ a := ⟨rfl, rfl, rfl, fun _ _ => rfl⟩
theorem IF.trans {σ σ1 σ2 : ZS} {a : Nat} (h : IF σ σ1 a) (g : IF σ1 σ2 a) : IF σ σ2 a := ⟨g.1.trans h.1, g.2.1.trans h.2.1, g.2.2.1.trans h.2.2.1, fun i hi => (g.2.2.2 i hi).trans (h.2.2.2 i hi)⟩
theorem if_one {σ : ZS} {a j : Nat} {v : Int32} : IF σ (sI σ a j v) a := ⟨rfl, rfl, rfl, fun i hi => by rw [zI_sI, if_neg hi]⟩
theorem IF.m {σ σ' : ZS} {a : Nat} (h : IF σ σ' a) (h1 : (57 ≤ a ∧ a ≤ 60) ∨ (67 ≤ a ∧ a ≤ 71) ∨ a = 73) : MoQ σ σ' := ⟨h.1, h.2.1, fun j _ _ _ _ => by rw [h.2.2.2 56 (by omega)], fun i hi => h.2.2.2 i (by omega), fun i _ => by rw [h.2.2.1]⟩
def PubM (σ : ZS) (r : AD → Int32 × AD) (Q : Option Value → ZS → Prop) : Prop := ∃ A, ModR σ A ∧ AOk A ∧ ∀ σ', ZF σ σ' 56 82 → ModR σ' (r A).2 → Q (some (.int (r A).1)) σ'
def PubN (σ : ZS) (r : AD → Int64 × AD) (Q : Option Value → ZS → Prop) : Prop := ∃ A, ModR σ A ∧ AOk A ∧ ∀ σ', ZF σ σ' 56 82 → ModR σ' (r A).2 → Q (some (.long (r A).1)) σ'
