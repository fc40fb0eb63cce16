/-! THE WHOLE CLASS: a state, and what the memory says of it -/
abbrev SD : Type := TD × (Nat × (Nat → Nat)) × (Nat × (Nat → Nat))
def xT (X : SD) : TD := X.1
def xW (X : SD) : Nat := X.2.1.1
def xF (X : SD) : Nat → Nat := X.2.1.2
def xE (X : SD) : Nat := X.2.2.1
def xG (X : SD) : Nat → Nat := X.2.2.2
abbrev AD : Type := (Nat × (Nat → Nat)) × SD × Option SD × Option SD
def aN (A : AD) : Nat := A.1.1
def aB (A : AD) : Nat → Nat := A.1.2
def aX (A : AD) : SD := A.2.1
def a1 (A : AD) : Option SD := A.2.2.1
def a2 (A : AD) : Option SD := A.2.2.2
def aT (A : AD) : TD := xT (aX A)
def setX (A : AD) (X : SD) : AD := (A.1, X, A.2.2)
def setT (A : AD) (T : TD) : AD := (A.1, (T, A.2.1.2), A.2.2)
def setW (A : AD) (n : Nat) (f : Nat → Nat) : AD := (A.1, (A.2.1.1, (n, f), A.2.1.2.2), A.2.2)
def setE (A : AD) (n : Nat) (g : Nat → Nat) : AD := (A.1, (A.2.1.1, A.2.1.2.1, (n, g)), A.2.2)
def setB (A : AD) (n : Nat) (b : Nat → Nat) : AD := ((n, b), A.2)
def ScnS (σ : ZS) (s : Nat) : Prop := zd σ s = some (0, 2) ∧ zR σ s 0 = s + 1 ∧ zR σ s 1 = s + 6 ∧ zR σ s 2 = s + 8 ∧ TownS σ (s + 1) ∧ WalkS σ (s + 6) ∧ EarS σ (s + 8)
def ScnV (σ : ZS) (s : Nat) (X : SD) : Prop := TownV σ (s + 1) (xT X) ∧ WalkV σ (s + 6) (xW X) (xF X) ∧ EarV σ (s + 8) (xE X) (xG X)
theorem ScnS.of {σ σ' : ZS} {w : Nat} (h : ScnS σ w) (h1 : zd σ' = zd σ) (h2 : ∀ i, (w ≤ i ∧ i < w + 10) → zR σ' i = zR σ i) : ScnS σ' w := by
  obtain ⟨s1, s2, s3, s4, s5, s6, s7⟩ := h
  unfold ScnS TownS WalkS EarS at *
  rw [h1, h2 w (by omega), h2 (w + 1) (by omega), h2 (w + 6) (by omega), h2 (w + 8) (by omega)]
  exact ⟨s1, s2, s3, s4, s5, s6, s7⟩
theorem TownV.fr {σ σ' : ZS} {t lo hi : Nat} {T : TD} (h : TownV σ t T) (hf : Fr σ σ' lo hi) (hd : t + 5 ≤ lo ∨ hi ≤ t) : TownV σ' t T := by
  have e := hf.2.2.1
  unfold TownV
  rw [e t (by omega), e (t + 1) (by omega), e (t + 2) (by omega), e (t + 3) (by omega), e (t + 4) (by omega)]
  exact h
theorem TextV.fr {σ σ' : ZS} {p n lo hi : Nat} {b : Nat → Nat} (h : TextV σ p n b) (hf : Fr σ σ' lo hi) (hd : p + 2 ≤ lo ∨ hi ≤ p) : TextV σ' p n b := by
  have e := hf.2.2.1
  unfold TextV
  rw [e p (by omega), e (p + 1) (by omega)]
  exact h
theorem ScnV.fr {σ σ' : ZS} {s lo hi : Nat} {X : SD} (h : ScnV σ s X) (hf : Fr σ σ' lo hi) (hd : s + 10 ≤ lo ∨ hi ≤ s + 1) : ScnV σ' s X := ⟨h.1.fr hf (by omega), h.2.1.fr hf (by omega), h.2.2.fr hf (by omega)⟩
def SltV (σ : ZS) (s : Nat) (o : Option SD) : Prop := match o with
  | none => zI σ s 3 = 0
  | some X => zI σ s 3 = 1 ∧ ScnV σ s X
theorem SltV.fr {σ σ' : ZS} {s lo hi : Nat} {o : Option SD} (h : SltV σ s o) (hf : Fr σ σ' lo hi) (hd : s + 10 ≤ lo ∨ hi ≤ s) : SltV σ' s o := by
  have e := hf.2.2.1
  cases o with
  | none => unfold SltV at *; rw [e s (by omega)]; exact h
  | some X => exact ⟨by rw [e s (by omega)]; exact h.1, h.2.fr hf (by omega)⟩
def ClsS (σ : ZS) : Prop := zd σ 1 = some (0, 8) ∧ zR σ 1 0 = 2 ∧ zR σ 1 1 = 4 ∧ zR σ 1 2 = 9 ∧ zR σ 1 3 = 19 ∧ zR σ 1 4 = 29 ∧ zR σ 1 5 = 39 ∧ zR σ 1 6 = 43 ∧ zR σ 1 7 = 47 ∧ zR σ 1 8 = 54 ∧ TextS σ 2 ∧ TownS σ 4 ∧ ScnS σ 9 ∧ ScnS σ 19 ∧ ScnS σ 29 ∧ TuneS σ 39 ∧ TuneS σ 43 ∧ ShS σ 47 ∧ RoS σ 54
def ClsV (σ : ZS) (A : AD) : Prop := TextV σ 2 (aN A) (aB A) ∧ (∃ T, TownV σ 4 T) ∧ ScnV σ 9 (aX A) ∧ SltV σ 19 (a1 A) ∧ SltV σ 29 (a2 A)
def ClsR (σ : ZS) (A : AD) : Prop := ClsS σ ∧ ClsV σ A
theorem ClsS.of {σ σ' : ZS} (h : ClsS σ) (h1 : zd σ' = zd σ) (h2 : zR σ' = zR σ) : ClsS σ' := by
  unfold ClsS TextS TownS ScnS TuneS ShS RoS TownS WalkS EarS at *
  rw [h1, h2]
  exact h
theorem ClsR.q {σ σ' : ZS} {A : AD} {lo hi : Nat} (h : ClsR σ A) (hf : Fr σ σ' lo hi) (h1 : 39 ≤ lo) : ClsR σ' A := by
  obtain ⟨hs, h1, ⟨T, h2⟩, h3, h4, h5⟩ := h
  exact ⟨hs.of hf.1 hf.2.1, h1.fr hf (by omega), ⟨T, h2.fr hf (by omega)⟩, h3.fr hf (by omega), h4.fr hf (by omega), h5.fr hf (by omega)⟩
theorem ClsR.jf {σ σ' : ZS} {A : AD} {a : Nat} (h : ClsR σ A) (hf : JF σ σ' a) : ClsR σ' A := by
  refine ⟨h.1.of hf.1 hf.2.1, ?_⟩
  have := h.2
  unfold ClsV TextV TownV ScnV TownV WalkV EarV SltV ScnV TownV WalkV EarV at *
  rw [hf.2.2.1]
  exact this
theorem ClsR.sf {σ σ' : ZS} {A : AD} (h : ClsR σ A) (hf : ShF σ σ' 47) : ClsR σ' A := by
  obtain ⟨⟨s1, s2, s3, s4, s5, s6, s7, s8, s9, s10, s11, s12, s13, s14, s15, s16, s17, s18, s19⟩, hv⟩ := h
  obtain ⟨f1, f2, f3, f4, f5⟩ := hf
  have r1 := f3 1 (by decide)
  refine ⟨⟨by rw [f1]; exact s1, by rw [r1]; exact s2, by rw [r1]; exact s3, by rw [r1]; exact s4, by rw [r1]; exact s5, by rw [r1]; exact s6, by rw [r1]; exact s7, by rw [r1]; exact s8, by rw [r1]; exact s9, by rw [r1]; exact s10, ?_, ?_, s13.of f1 (fun i hi => f3 i (by omega)), s14.of f1 (fun i hi => f3 i (by omega)), s15.of f1 (fun i hi => f3 i (by omega)), ?_, ?_, f5, ?_⟩, ?_⟩
  · unfold TextS at *; rw [f1, f3 2 (by decide)]; exact s11
  · unfold TownS at *; rw [f1, f3 4 (by decide)]; exact s12
  · unfold TuneS at *; rw [f1, f3 39 (by decide)]; exact s16
  · unfold TuneS at *; rw [f1, f3 43 (by decide)]; exact s17
  · unfold RoS at *; rw [f1, f3 54 (by decide)]; exact s19
  · unfold ClsV TextV TownV ScnV TownV WalkV EarV SltV ScnV TownV WalkV EarV at *
    rw [f2]
    exact hv
theorem ClsR.town {σ σ' : ZS} {A : AD} {T : TD} (h : ClsR σ A) (hf : Fr σ σ' 10 15) (hT : TownV σ' 10 T) : ClsR σ' (setT A T) := by
  obtain ⟨hs, h1, ⟨U, h2⟩, h3, h4, h5⟩ := h
  exact ⟨hs.of hf.1 hf.2.1, h1.fr hf (by omega), ⟨U, h2.fr hf (by omega)⟩, ⟨hT, h3.2.1.fr hf (by omega), h3.2.2.fr hf (by omega)⟩, h4.fr hf (by omega), h5.fr hf (by omega)⟩
theorem ClsR.walk {σ σ' : ZS} {A : AD} {n : Nat} {f : Nat → Nat} (h : ClsR σ A) (hf : Fr σ σ' 15 17) (hT : WalkV σ' 15 n f) : ClsR σ' (setW A n f) := by
  obtain ⟨hs, h1, ⟨U, h2⟩, h3, h4, h5⟩ := h
  exact ⟨hs.of hf.1 hf.2.1, h1.fr hf (by omega), ⟨U, h2.fr hf (by omega)⟩, ⟨h3.1.fr hf (by omega), hT, h3.2.2.fr hf (by omega)⟩, h4.fr hf (by omega), h5.fr hf (by omega)⟩
theorem ClsR.ear {σ σ' : ZS} {A : AD} {n : Nat} {f : Nat → Nat} (h : ClsR σ A) (hf : Fr σ σ' 17 19) (hT : EarV σ' 17 n f) : ClsR σ' (setE A n f) := by
  obtain ⟨hs, h1, ⟨U, h2⟩, h3, h4, h5⟩ := h
  exact ⟨hs.of hf.1 hf.2.1, h1.fr hf (by omega), ⟨U, h2.fr hf (by omega)⟩, ⟨h3.1.fr hf (by omega), h3.2.1.fr hf (by omega), hT⟩, h4.fr hf (by omega), h5.fr hf (by omega)⟩
theorem ClsR.text {σ σ' : ZS} {A : AD} {n : Nat} {f : Nat → Nat} (h : ClsR σ A) (hf : Fr σ σ' 2 4) (hT : TextV σ' 2 n f) : ClsR σ' (setB A n f) := by
  obtain ⟨hs, h1, ⟨U, h2⟩, h3, h4, h5⟩ := h
  exact ⟨hs.of hf.1 hf.2.1, hT, ⟨U, h2.fr hf (by omega)⟩, h3.fr hf (by omega), h4.fr hf (by omega), h5.fr hf (by omega)⟩
theorem ClsR.told {σ σ' : ZS} {A : AD} {T : TD} (h : ClsR σ A) (hf : Fr σ σ' 2 9) (hX : TextV σ' 2 (aN A) (aB A)) (hT : TownV σ' 4 T) : ClsR σ' A := by
  obtain ⟨hs, h1, ⟨U, h2⟩, h3, h4, h5⟩ := h
  exact ⟨hs.of hf.1 hf.2.1, hX, ⟨T, hT⟩, h3.fr hf (by omega), h4.fr hf (by omega), h5.fr hf (by omega)⟩
/-- what a call leaves as it was -/
def ZF (σ σ' : ZS) (lo hi : Nat) : Prop := zd σ' = zd σ ∧ ∀ i, (i < lo ∨ hi ≤ i) → zR σ' i = zR σ i ∧ zI σ' i = zI σ i ∧ zJ σ' i = zJ σ i
theorem ZF.refl (σ : ZS) (lo hi : Nat) : ZF σ σ lo hi := ⟨rfl, fun _ _ => ⟨rfl, rfl, rfl⟩⟩
theorem ZF.trans {σ σ1 σ2 : ZS} {lo hi : Nat} (h : ZF σ σ1 lo hi) (g : ZF σ1 σ2 lo hi) : ZF σ σ2 lo hi := ⟨g.1.trans h.1, fun i hi => ⟨(g.2 i hi).1.trans (h.2 i hi).1, (g.2 i hi).2.1.trans (h.2 i hi).2.1, (g.2 i hi).2.2.trans (h.2 i hi).2.2⟩⟩
theorem Fr.z {σ σ' : ZS} {lo hi lo' hi' : Nat} (h : Fr σ σ' lo hi) (h1 : lo' ≤ lo) (h2 : hi ≤ hi') : ZF σ σ' lo' hi' := ⟨h.1, fun i q => ⟨by rw [h.2.1], h.2.2.1 i (by omega), h.2.2.2 i (by omega)⟩⟩
theorem JF.z {σ σ' : ZS} {a lo' hi' : Nat} (h : JF σ σ' a) (h1 : lo' ≤ a) (h2 : a < hi') : ZF σ σ' lo' hi' := ⟨h.1, fun i q => ⟨by rw [h.2.1], by rw [h.2.2.1], h.2.2.2 i (by omega)⟩⟩
theorem ShF.z {σ σ' : ZS} {a lo' hi' : Nat} (h : ShF σ σ' a) (h1 : lo' ≤ a) (h2 : a + 7 ≤ hi') : ZF σ σ' lo' hi' := ⟨h.1, fun i q => ⟨h.2.2.1 i (by omega), by rw [h.2.1], h.2.2.2.1 i (by omega) (by omega)⟩⟩
/-! what always holds of a town -/
def TdOk (T : TD) : Prop := 1 ≤ tD T ∧ tD T ≤ 12 ∧ tS T ≤ 4 ∧ (∀ k, k < tD T → tN T k ≤ 7 ∧ tE T k < 2 ^ tD T ∧ (tE T k).testBit k = false) ∧ (∀ a b, a < tD T → b < tD T → (tE T a).testBit b = (tE T b).testBit a) ∧ (∀ k, k < tS T → 1 ≤ tL T k ∧ tL T k ≤ 6 ∧ ∀ i, i < tL T k → tG T (6 * k + i) ≤ 8) ∧ (∀ k, tD T ≤ k → tE T k = 0)
def SdOk (X : SD) : Prop := TdOk (xT X) ∧ xW X ≤ 24 ∧ xE X ≤ 12 ∧ (∀ k, k < xW X → xF X k < tD (xT X)) ∧ (∀ k, k < xE X → xG X k ≤ 8)
def AOk (A : AD) : Prop := aN A ≤ 96 ∧ (∀ k, k < aN A → aB A k < 256) ∧ SdOk (aX A) ∧ (∀ X, a1 A = some X → SdOk X) ∧ (∀ X, a2 A = some X → SdOk X)
/-- a number as an index -/
def ix (x : Int32) (n : Nat) : Option Nat := if 0 ≤ x ∧ x < nI n then some x.toNatClampNeg else none
theorem ix_some {n k : Nat} (h : k < n) (hn : n < 2 ^ 31) : ix (nI k) n = some k := by
  unfold ix
  rw [if_pos ⟨nI_pos' (by omega), nI_lt h hn⟩, nI_clamp (by omega)]
theorem ix_none {x : Int32} {n : Nat} (h : ¬ (0 ≤ x ∧ x < nI n)) : ix x n = none := if_neg h
theorem ix_cases (x : Int32) {n : Nat} (hn : n < 2 ^ 31) : (∃ k, k < n ∧ x = nI k ∧ ix x n = some k) ∨ (¬ (0 ≤ x ∧ x < nI n) ∧ ix x n = none) := by
  rcases z_ix x hn with ⟨k, hk, rfl⟩ | h
  · exact Or.inl ⟨k, hk, rfl, ix_some hk hn⟩
  · have : ¬ (0 ≤ x ∧ x < nI n) := by
      rintro ⟨q1, q2⟩
      rcases h with h | h
      · exact absurd h (Int32.not_lt.mpr q1)
      · exact absurd q2 (Int32.not_lt.mpr h.2)
    exact Or.inr ⟨this, ix_none this⟩
/-! scenes copied, slots -/
def FrS (σ σ' : ZS) (s : Nat) : Prop := Fr σ σ' (s + 1) (s + 10)
def apS (s r : Nat) : Prop := s + 10 ≤ r ∨ r + 10 ≤ s
def w_X5_copyFrom : WPt := fun args σ Q => match args with
  | [.ref s, .ref r] => ∃ X, ScnS σ s ∧ ScnS σ r ∧ ScnV σ r X ∧ apS s r ∧ ∀ σ', FrS σ σ' s → ScnV σ' s X → Q none σ'
  | _ => False
set_option maxHeartbeats 1000000 in
theorem m_X5_copyFrom : Meets yX5_copyFrom cX5_copyFrom 2 none 2 w_X5_copyFrom := by
  refine Meets.mk (by decide) fun args σ Φ h => ?_
  unfold w_X5_copyFrom at h
  split at h
  rotate_left
  · exact h.elim
  rename_i s r
  obtain ⟨s, rfl⟩ : ∃ q : Nat, q = s := ⟨s, rfl⟩
  obtain ⟨r, rfl⟩ : ∃ q : Nat, q = r := ⟨r, rfl⟩
  obtain ⟨X, hs, hr, hv, hap, hQ⟩ := h
  unfold apS at hap
  unfold FrS at hQ
  refine ⟨Nat.le_of_ble_eq_true rfl, fun C hC hR => ?_⟩
  have ⟨s1, s2, s3, s4, s5, s6, s7⟩ := hs
  have ⟨r1, r2, r3, r4, r5, r6, r7⟩ := hr
  have ⟨v1, v2, v3⟩ := hv
  refine r_X5_copyFrom_0 hC hR m_X8_copyFrom (by decide) m_X10_copyFrom (by decide) m_X0_copyFrom (by decide) _ _ _ ?_
  simp only [T_X5_copyFrom_0, x_psh, x_ild, x_lld, x_ald, x_ist, x_ast, x_lst, x_inc, x_iadd, x_isub, x_imul, x_iand, x_ior, x_ixor, x_ishl, x_ishr, x_iushr, x_idiv, x_irem, x_ladd, x_land, x_lor, x_lshl, x_lshr, x_ineg, x_i2l, x_l2i, x_i2b, x_lcmp, x_dup, x_dup2, x_if_eq, x_if_ne, x_if_lt, x_if_ge, x_if_gt, x_if_le, x_ic_eq, x_ic_ne, x_ic_lt, x_ic_ge, x_ic_gt, x_ic_le, x_getI, x_getR, x_putI, x_putZ, x_putR, x_iald, x_bald, x_lald, x_iast, x_bast, x_last, x_alen, x_acp, x_mmax, x_mmin, x_callV, x_callS, x_iret, x_zret, x_lret, x_aret, x_vret, x_tsw, x_stop, zst1, zst2, zkill, zkl, zsplit, zmask, zent, zentL, List.getElem?_cons_zero, List.getElem?_cons_succ, List.set_cons_zero, List.set_cons_succ, List.set_nil, List.length_cons, List.length_nil, List.replicate, List.nil_append, List.cons_append, List.map_cons, List.map_nil, List.sum_cons, List.sum_nil, Value.category, Option.toList, List.contains_cons, List.contains_nil, true_or, or_true, true_and, Nat.zero_le, Nat.reduceAdd, Nat.reduceLeDiff, Nat.reduceLT, Nat.reduceBEq, Bool.true_or, Bool.or_true, Bool.false_or, Bool.or_false, ↓reduceIte, Bool.false_eq_true, Nat.add_zero, Nat.zero_add, Nat.reduceEqDiff, Nat.reduceSub, w_X8_copyFrom, w_X10_copyFrom, w_X0_copyFrom, s1, s2, r1, r2]
  refine ⟨by omega, by omega, s5.1, xT X, s5, ⟨r5, v1⟩, by unfold apart5; omega, fun σ1 f1 t1 => ?_⟩
  rw [f1.1, f1.2.1, s1, r1, s3, r3]
  refine ⟨rfl, by omega, rfl, by omega, s6.1, xW X, xF X, s6.of f1.1 f1.2.1, r6.of f1.1 f1.2.1, v2.fr f1 (by omega), by unfold apart5; omega, fun σ2 f2 t2 => ?_⟩
  rw [f2.1, f2.2.1, f1.1, f1.2.1, s1, r1, s4, r4]
  refine ⟨rfl, by omega, rfl, by omega, s7.1, xE X, xG X, (s7.of f1.1 f1.2.1).of f2.1 f2.2.1, (r7.of f1.1 f1.2.1).of f2.1 f2.2.1, (v3.fr f1 (by omega)).fr f2 (by omega), by unfold apart5; omega, fun σ3 f3 t3 => ?_⟩
  refine hQ σ3 (((f1.mono (by omega) (by omega)).trans (f2.mono (by omega) (by omega))).trans (f3.mono (by omega) (by omega))) ⟨(t1.2.fr f2 (by omega)).fr f3 (by omega), t2.fr f3 (by omega), t3⟩
