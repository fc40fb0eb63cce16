/-! public calls: an answer and the next state -/
def PubI (σ : ZS) (r : AD → Int32 × AD) (Q : Option Value → ZS → Prop) : Prop := ∃ A, ClsR σ A ∧ AOk A ∧ ∀ σ', ZF σ σ' 1 56 → ClsR σ' (r A).2 → Q (some (.int (r A).1)) σ'
def PubL (σ : ZS) (r : AD → Int64 × AD) (Q : Option Value → ZS → Prop) : Prop := ∃ A, ClsR σ A ∧ AOk A ∧ ∀ σ', ZF σ σ' 1 56 → ClsR σ' (r A).2 → Q (some (.long (r A).1)) σ'
theorem cls_f {σ : ZS} {A : AD} (h : ClsR σ A) : zd σ 1 = some (0, 8) ∧ zR σ 1 0 = 2 ∧ zR σ 1 1 = 4 ∧ zR σ 1 2 = 9 ∧ zR σ 1 3 = 19 ∧ zR σ 1 4 = 29 ∧ zR σ 1 5 = 39 ∧ zR σ 1 6 = 43 ∧ zR σ 1 7 = 47 ∧ zR σ 1 8 = 54 ∧ zd σ 2 = some (0, 4) ∧ zd σ 4 = some (0, 5) ∧ zd σ 9 = some (0, 2) ∧ zd σ 19 = some (0, 2) ∧ zd σ 29 = some (0, 2) ∧ zR σ 9 0 = 10 ∧ zR σ 9 1 = 15 ∧ zR σ 9 2 = 17 ∧ zR σ 19 0 = 20 ∧ zR σ 29 0 = 30 ∧ zd σ 10 = some (0, 5) ∧ zd σ 20 = some (0, 5) ∧ zd σ 30 = some (0, 5) ∧ zd σ 15 = some (0, 7) ∧ zd σ 17 = some (0, 0) ∧ zd σ 39 = some (0, 6) ∧ zd σ 43 = some (0, 6) ∧ zd σ 47 = some (0, 3) ∧ zd σ 54 = some (0, 1) ∧ zR σ 10 2 = 11 ∧ zd σ 11 = some (1, 12) ∧ zI σ 2 1 = nI (aN A) ∧ zI σ 10 0 = nI (tD (aT A)) ∧ zI σ 10 1 = nI (tS (aT A)) ∧ zI σ 15 1 = nI (xW (aX A)) ∧ zI σ 17 1 = nI (xE (aX A)) := by
  obtain ⟨⟨s1, s2, s3, s4, s5, s6, s7, s8, s9, s10, s11, s12, s13, s14, s15, s16, s17, s18, s19⟩, v1, v2, v3, v4, v5⟩ := h
  exact ⟨s1, s2, s3, s4, s5, s6, s7, s8, s9, s10, s11.1, s12.1, s13.1, s14.1, s15.1, s13.2.1, s13.2.2.1, s13.2.2.2.1, s14.2.1, s15.2.1, s13.2.2.2.2.1.1, s14.2.2.2.2.1.1, s15.2.2.2.2.1.1, s13.2.2.2.2.2.1.1, s13.2.2.2.2.2.2.1, s16.1, s17.1, s18.1, s19.1, s13.2.2.2.2.1.2.2.2.2.2.1, s13.2.2.2.2.1.2.1, v1.1, v3.1.1, v3.1.2.1, v3.2.1.1, v3.2.2.1⟩
theorem ClsR.tT {σ : ZS} {A : AD} (h : ClsR σ A) : TownR σ 10 (aT A) := ⟨h.1.2.2.2.2.2.2.2.2.2.2.2.2.1.2.2.2.2.1, h.2.2.2.1.1⟩
theorem ClsR.tW {σ : ZS} {A : AD} (h : ClsR σ A) : WalkS σ 15 ∧ WalkV σ 15 (xW (aX A)) (xF (aX A)) := ⟨h.1.2.2.2.2.2.2.2.2.2.2.2.2.1.2.2.2.2.2.1, h.2.2.2.1.2.1⟩
theorem ClsR.tE {σ : ZS} {A : AD} (h : ClsR σ A) : EarS σ 17 ∧ EarV σ 17 (xE (aX A)) (xG (aX A)) := ⟨h.1.2.2.2.2.2.2.2.2.2.2.2.2.1.2.2.2.2.2.2, h.2.2.2.1.2.2⟩
theorem ClsR.tX {σ : ZS} {A : AD} (h : ClsR σ A) : TextS σ 2 ∧ TextV σ 2 (aN A) (aB A) := ⟨h.1.2.2.2.2.2.2.2.2.2.2.1, h.2.1⟩
theorem ClsR.tU {σ : ZS} {A : AD} (h : ClsR σ A) : TuneS σ 39 ∧ TuneS σ 43 := ⟨h.1.2.2.2.2.2.2.2.2.2.2.2.2.2.2.2.1, h.1.2.2.2.2.2.2.2.2.2.2.2.2.2.2.2.2.1⟩
theorem ClsR.tH {σ : ZS} {A : AD} (h : ClsR σ A) : ShS σ 47 ∧ RoS σ 54 := ⟨h.1.2.2.2.2.2.2.2.2.2.2.2.2.2.2.2.2.2.1, h.1.2.2.2.2.2.2.2.2.2.2.2.2.2.2.2.2.2.2⟩
theorem AOk.t {A : AD} (h : AOk A) : TdOk (aT A) := h.2.2.1.1
theorem ix_cs (x : Int32) {n : Nat} (hn : n < 2 ^ 31) : (∃ k, k < n ∧ x = nI k ∧ ix x n = some k ∧ (0 ≤ x ∧ x < nI n) = True) ∨ (ix x n = none ∧ (0 ≤ x ∧ x < nI n) = False) := by
  rcases ix_cases x hn with ⟨k, h1, h2, h3⟩ | ⟨h1, h2⟩
  · exact Or.inl ⟨k, h1, h2, h3, eq_true (by rw [h2]; exact not_lt_pos hn h1)⟩
  · exact Or.inr ⟨h2, eq_false h1⟩
def q_write (A : AD) (x : Int32) (v : Int64) : Int32 × AD := match ix (x - 1) 8 with
  | none => (-2, A)
  | some k => if 96 < aN A + (k + 1) then (-4, A) else (nI (aN A + (k + 1)), setB A (aN A + (k + 1)) (apB (aB A) (aN A) (k + 1) v))
def w_X11_write : WPt := fun args σ Q => match args with
  | [.ref x, .int n, .long v] => x = 1 ∧ PubI σ (q_write · n v) Q
  | _ => False
theorem i_wr (x : Int32) : (x < 1 ∧ ix (x - 1) 8 = none) ∨ (¬ x < 1 ∧ ¬ x ≤ 8 ∧ ix (x - 1) 8 = none) ∨ (∃ k, k < 8 ∧ x = nI (k + 1) ∧ ix (x - 1) 8 = some k) := by
  rcases ix_cases (x - 1) (n := 8) (by decide) with ⟨k, h1, h2, h3⟩ | ⟨h1, h2⟩
  · refine Or.inr (Or.inr ⟨k, h1, ?_, h3⟩)
    rw [← nI_i3, ← h2, Int32.sub_add_cancel]
  · by_cases h : x < 1
    · exact Or.inl ⟨h, h2⟩
    · refine Or.inr (Or.inl ⟨h, fun q => ?_, h2⟩)
      have h0 : ¬ x < 0 := fun q2 => h (Int32.lt_trans q2 (by decide))
      obtain ⟨k, hk, rfl⟩ := z_ge0 x h0
      have a1 : k ≤ 8 := (nI_leI (by omega) (by omega)).mp (by rw [z_l8] at q; exact q)
      have a2 : ¬ k < 1 := fun q3 => h (by rw [z_l1]; exact nI_lt q3 (by omega))
      refine h1 ?_
      rw [show nI k - 1 = nI (k - 1) from pk_sub (b := 1) (by omega)]
      exact not_lt_pos (by omega) (by omega)
theorem m_X11_write : Meets yX11_write cX11_write 4 (some .int) 2 w_X11_write := by
  refine Meets.mk (by decide) fun args σ Φ h => ?_
  unfold w_X11_write at h
  split at h
  rotate_left
  · exact h.elim
  rename_i x n v
  obtain ⟨x, rfl⟩ : ∃ q : Nat, q = x := ⟨x, rfl⟩
  obtain ⟨hx, A, hK, hA, hQ⟩ := h
  subst hx
  refine ⟨Nat.le_of_ble_eq_true rfl, fun C hC hR => ?_⟩
  have hf := cls_f hK
  have hN := hA.1
  have hD1 := hA.t.1
  have hD := hA.t.2.1
  have hS := hA.t.2.2.1
  have hW := hA.2.2.1.2.1
  have hE := hA.2.2.1.2.2.1
  have hT := hK.tT
  refine r_X11_write_0 hC hR m_X7_append (by decide) _ _ _ ?_
  simp only [T_X11_write_0, x_psh, x_ild, x_lld, x_ald, x_ist, x_ast, x_lst, x_inc, x_iadd, x_isub, x_imul, x_iand, x_ior, x_ixor, x_ishl, x_ishr, x_iushr, x_idiv, x_irem, x_ladd, x_land, x_lor, x_lshl, x_lshr, x_ineg, x_i2l, x_l2i, x_i2b, x_lcmp, x_dup, x_dup2, x_if_eq, x_if_ne, x_if_lt, x_if_ge, x_if_gt, x_if_le, x_ic_eq, x_ic_ne, x_ic_lt, x_ic_ge, x_ic_gt, x_ic_le, x_getI, x_getR, x_putI, x_putZ, x_putR, x_iald, x_bald, x_lald, x_iast, x_bast, x_last, x_alen, x_acp, x_mmax, x_mmin, x_callV, x_callS, x_iret, x_zret, x_lret, x_aret, x_vret, x_tsw, x_stop, zst1, zst2, zkill, zkl, zsplit, zmask, zent, zentL, List.getElem?_cons_zero, List.getElem?_cons_succ, List.set_cons_zero, List.set_cons_succ, List.set_nil, List.length_cons, List.length_nil, List.replicate, List.nil_append, List.cons_append, List.map_cons, List.map_nil, List.sum_cons, List.sum_nil, Value.category, Option.toList, List.contains_cons, List.contains_nil, true_or, or_true, true_and, Nat.zero_le, Nat.reduceAdd, Nat.reduceLeDiff, Nat.reduceLT, Nat.reduceBEq, Bool.true_or, Bool.or_true, Bool.false_or, Bool.or_false, ↓reduceIte, Bool.false_eq_true, Nat.add_zero, Nat.zero_add, Nat.reduceEqDiff, Nat.reduceSub, hf, w_X7_append]
  rcases i_wr n with ⟨h1, h2⟩ | ⟨h1, h3, h2⟩ | ⟨k, hk, rfl, h2⟩
  · refine ⟨fun _ => ?_, fun q => absurd h1 q⟩
    simp only [q_write, h2] at hQ
    exact hQ σ (ZF.refl _ _ _) hK
  · refine ⟨fun q => absurd q h1, fun _ => ⟨fun q => absurd q h3, fun _ => ?_⟩⟩
    simp only [q_write, h2] at hQ
    exact hQ σ (ZF.refl _ _ _) hK
  · simp only [q_write, h2] at hQ
    refine ⟨fun q => absurd q (by rw [z_l1]; exact nI_nlt (by omega) (by omega)), fun _ => ⟨fun _ => ⟨by decide, ?_⟩, fun q => absurd (by rw [z_l8]; exact nI_le (by omega) (by omega)) q⟩⟩
    have e : (96 : Int32) - nI (k + 1) = nI (96 - (k + 1)) := by rw [z_l96]; exact pk_sub (by omega)
    rw [e, nI_leI (by omega) (by omega)]
    refine ⟨fun q => ⟨by decide, aN A, aB A, k + 1, hK.tX.1, hK.tX.2, rfl, by omega, by omega, by omega, fun σ' hf1 hs1 hv1 => ?_⟩, fun q => ?_⟩
    · rw [if_neg (by omega)] at hQ
      have hK1 : ClsR σ' (setB A (aN A + (k + 1)) (apB (aB A) (aN A) (k + 1) v)) := hK.text hf1 hv1
      have hf2 := cls_f hK1
      simp only [hf2]
      refine ⟨trivial, by decide, trivial, ?_⟩
      exact hQ σ' (Fr.z hf1 (by omega) (by omega)) hK1
    · rw [if_pos (by omega)] at hQ
      exact hQ σ (ZF.refl _ _ _) hK
