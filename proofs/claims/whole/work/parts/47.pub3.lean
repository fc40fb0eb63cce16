def q_note (A : AD) (x : Int32) : Int32 × AD := match ix x (tD (aT A)) with
  | none => (-1, A)
  | some k => (nI (tN (aT A) k), A)
def w_X11_note : WPt := fun args σ Q => match args with
  | [.ref x, .int d] => x = 1 ∧ PubI σ (q_note · d) Q
  | _ => False
theorem m_X11_note : Meets yX11_note cX11_note 2 (some .int) 2 w_X11_note := by
  refine Meets.mk (by decide) fun args σ Φ h => ?_
  unfold w_X11_note at h
  split at h
  rotate_left
  · exact h.elim
  rename_i x d
  obtain ⟨x, rfl⟩ : ∃ q : Nat, q = x := ⟨x, rfl⟩
  obtain ⟨hx, A, hK, hA, hQ⟩ := h
  subst hx
  refine ⟨Nat.le_of_ble_eq_true rfl, fun C hC hR => ?_⟩
  have hf := cls_f hK
  have hN := hA.1
  have hD1 := hA.t.1
  have hD := hA.t.2.1
  have hS := hA.t.2.2.1
  have hW := hA.2.2.1.2.1
  have hE := hA.2.2.1.2.2.1
  have hT := hK.tT
  refine r_X11_note_0 hC hR m_X8_isDoor (by decide) _ _ _ ?_
  simp only [T_X11_note_0, x_psh, x_ild, x_lld, x_ald, x_ist, x_ast, x_lst, x_inc, x_iadd, x_isub, x_imul, x_iand, x_ior, x_ixor, x_ishl, x_ishr, x_iushr, x_idiv, x_irem, x_ladd, x_land, x_lor, x_lshl, x_lshr, x_ineg, x_i2l, x_l2i, x_i2b, x_lcmp, x_dup, x_dup2, x_if_eq, x_if_ne, x_if_lt, x_if_ge, x_if_gt, x_if_le, x_ic_eq, x_ic_ne, x_ic_lt, x_ic_ge, x_ic_gt, x_ic_le, x_getI, x_getR, x_putI, x_putZ, x_putR, x_iald, x_bald, x_lald, x_iast, x_bast, x_last, x_alen, x_acp, x_mmax, x_mmin, x_callV, x_callS, x_iret, x_zret, x_lret, x_aret, x_vret, x_tsw, x_stop, zst1, zst2, zkill, zkl, zsplit, zmask, zent, zentL, List.getElem?_cons_zero, List.getElem?_cons_succ, List.set_cons_zero, List.set_cons_succ, List.set_nil, List.length_cons, List.length_nil, List.replicate, List.nil_append, List.cons_append, List.map_cons, List.map_nil, List.sum_cons, List.sum_nil, Value.category, Option.toList, List.contains_cons, List.contains_nil, true_or, or_true, true_and, Nat.zero_le, Nat.reduceAdd, Nat.reduceLeDiff, Nat.reduceLT, Nat.reduceBEq, Bool.true_or, Bool.or_true, Bool.false_or, Bool.or_false, ↓reduceIte, Bool.false_eq_true, Nat.add_zero, Nat.zero_add, Nat.reduceEqDiff, Nat.reduceSub, hf, w_X8_isDoor]
  unfold q_note at hQ
  rcases ix_cs d (show tD (aT A) < 2 ^ 31 by omega) with ⟨k, hk, rfl, h1, h2⟩ | ⟨h1, h2⟩
  · simp only [h1] at hQ
    simp only [h2, b2i_0, ne_eq, Nat.reduceEqDiff, not_false_eq_true, not_true_eq_false, true_and, and_true, true_implies, false_implies, implies_true, and_self]
    refine ⟨12, rfl, vp_in_nI (by omega) (by omega), ?_⟩
    rw [nI_clamp (by omega), (hT.2.2.2.2.2.1 k hk).1]
    exact hQ σ (ZF.refl _ _ _) hK
  · simp only [h1] at hQ
    simp only [h2, b2i_0, ne_eq, Nat.reduceEqDiff, not_false_eq_true, not_true_eq_false, true_and, and_true, true_implies, false_implies, implies_true, and_self]
    exact hQ σ (ZF.refl _ _ _) hK
def q_let (A : AD) (x y : Int32) : Int32 × AD := match ix x (tD (aT A)) with
  | none => (-1, A)
  | some k => match ix y 8 with
    | none => (-2, A)
    | some v => (nI (tN (aT A) k), setT A (tD (aT A), tS (aT A), va_up (tN (aT A)) k v, tE (aT A), tL (aT A), tG (aT A)))
def w_X11_let : WPt := fun args σ Q => match args with
  | [.ref x, .int d, .int y] => x = 1 ∧ PubI σ (q_let · d y) Q
  | _ => False
theorem ix_le (x : Int32) (n : Nat) (hn : n + 1 < 2 ^ 31) : (∃ k, k ≤ n ∧ x = nI k ∧ ix x (n + 1) = some k) ∨ (x < 0 ∧ ix x (n + 1) = none) ∨ (¬ x < 0 ∧ ¬ x ≤ nI n ∧ ix x (n + 1) = none) := by
  rcases ix_cases x hn with ⟨k, h1, h2, h3⟩ | ⟨h1, h2⟩
  · exact Or.inl ⟨k, by omega, h2, h3⟩
  · by_cases h : x < 0
    · exact Or.inr (Or.inl ⟨h, h2⟩)
    · refine Or.inr (Or.inr ⟨h, fun q => h1 ?_, h2⟩)
      obtain ⟨k, hk, rfl⟩ := z_ge0 x h
      exact not_lt_pos hn (by have := (nI_leI hk (by omega)).mp q; omega)
theorem ix_lt (x : Int32) (n : Nat) (hn : n < 2 ^ 31) : (∃ k, k < n ∧ x = nI k ∧ ix x n = some k) ∨ (x < 0 ∧ ix x n = none) ∨ (¬ x < 0 ∧ ¬ x < nI n ∧ ix x n = none) := by
  rcases ix_cases x hn with ⟨k, h1, h2, h3⟩ | ⟨h1, h2⟩
  · exact Or.inl ⟨k, by omega, h2, h3⟩
  · by_cases h : x < 0
    · exact Or.inr (Or.inl ⟨h, h2⟩)
    · exact Or.inr (Or.inr ⟨h, fun q => h1 ⟨Int32.not_lt.mp h, q⟩, h2⟩)
theorem m_X11_let : Meets yX11_let cX11_let 4 (some .int) 2 w_X11_let := by
  refine Meets.mk (by decide) fun args σ Φ h => ?_
  unfold w_X11_let at h
  split at h
  rotate_left
  · exact h.elim
  rename_i x d y
  obtain ⟨x, rfl⟩ : ∃ q : Nat, q = x := ⟨x, rfl⟩
  obtain ⟨hx, A, hK, hA, hQ⟩ := h
  subst hx
  refine ⟨Nat.le_of_ble_eq_true rfl, fun C hC hR => ?_⟩
  have hf := cls_f hK
  have hN := hA.1
  have hD1 := hA.t.1
  have hD := hA.t.2.1
  have hS := hA.t.2.2.1
  have hW := hA.2.2.1.2.1
  have hE := hA.2.2.1.2.2.1
  have hT := hK.tT
  refine r_X11_let_0 hC hR m_X8_isDoor (by decide) _ _ _ ?_
  simp only [T_X11_let_0, x_psh, x_ild, x_lld, x_ald, x_ist, x_ast, x_lst, x_inc, x_iadd, x_isub, x_imul, x_iand, x_ior, x_ixor, x_ishl, x_ishr, x_iushr, x_idiv, x_irem, x_ladd, x_land, x_lor, x_lshl, x_lshr, x_ineg, x_i2l, x_l2i, x_i2b, x_lcmp, x_dup, x_dup2, x_if_eq, x_if_ne, x_if_lt, x_if_ge, x_if_gt, x_if_le, x_ic_eq, x_ic_ne, x_ic_lt, x_ic_ge, x_ic_gt, x_ic_le, x_getI, x_getR, x_putI, x_putZ, x_putR, x_iald, x_bald, x_lald, x_iast, x_bast, x_last, x_alen, x_acp, x_mmax, x_mmin, x_callV, x_callS, x_iret, x_zret, x_lret, x_aret, x_vret, x_tsw, x_stop, zst1, zst2, zkill, zkl, zsplit, zmask, zent, zentL, List.getElem?_cons_zero, List.getElem?_cons_succ, List.set_cons_zero, List.set_cons_succ, List.set_nil, List.length_cons, List.length_nil, List.replicate, List.nil_append, List.cons_append, List.map_cons, List.map_nil, List.sum_cons, List.sum_nil, Value.category, Option.toList, List.contains_cons, List.contains_nil, true_or, or_true, true_and, Nat.zero_le, Nat.reduceAdd, Nat.reduceLeDiff, Nat.reduceLT, Nat.reduceBEq, Bool.true_or, Bool.or_true, Bool.false_or, Bool.or_false, ↓reduceIte, Bool.false_eq_true, Nat.add_zero, Nat.zero_add, Nat.reduceEqDiff, Nat.reduceSub, hf, w_X8_isDoor]
  unfold q_let at hQ
  rcases ix_cs d (show tD (aT A) < 2 ^ 31 by omega) with ⟨k, hk, rfl, h1, h2⟩ | ⟨h1, h2⟩
  · simp only [h1] at hQ
    simp only [h2, b2i_0, ne_eq, Nat.reduceEqDiff, not_false_eq_true, not_true_eq_false, true_and, and_true, true_implies, false_implies, implies_true, and_self]
    rcases ix_le y 7 (by decide) with ⟨v, hv, rfl, h3⟩ | ⟨h4, h3⟩ | ⟨h4, h5, h3⟩
    · simp only [h3] at hQ
      refine ⟨fun q => absurd q (nI_pos (by omega)), fun _ => ⟨fun _ => ⟨12, rfl, vp_in_nI (by omega) (by omega), 12, rfl, vp_in_nI (by omega) (by omega), ?_⟩, fun q => absurd (by rw [z_l7]; exact nI_le hv (by omega)) q⟩⟩
      rw [nI_clamp (by omega), (hT.2.2.2.2.2.1 k hk).1]
      refine hQ _ (Fr.z (fr_one (lo := 11) (hi := 12) (by omega) (by omega)) (by omega) (by omega)) (hK.town (fr_one (by omega) (by omega)) ?_)
      have ⟨v1, v2, v3, v4, v5, v6, v7, v8⟩ := hT.2
      refine ⟨v1, v2, v3, v4, fun j hj => ?_, v6, v7, v8⟩
      rw [zI_sI, if_pos rfl]
      show _ = nI (va_up (tN (aT A)) k v j) ∧ va_up (tN (aT A)) k v j ≤ 7
      by_cases e : j = k
      · subst e
        simp only [va_up, if_pos]
        exact ⟨pk_us .., hv⟩
      · simp only [va_up, if_neg e]
        exact ⟨by rw [pk_un e]; exact (v5 j hj).1, (v5 j hj).2⟩
    · simp only [h3] at hQ
      exact ⟨fun _ => hQ σ (ZF.refl _ _ _) hK, fun q => absurd h4 q⟩
    · simp only [h3] at hQ
      exact ⟨fun q => absurd q h4, fun _ => ⟨fun q => absurd q h5, fun _ => hQ σ (ZF.refl _ _ _) hK⟩⟩
  · simp only [h1] at hQ
    simp only [h2, b2i_0, ne_eq, Nat.reduceEqDiff, not_false_eq_true, not_true_eq_false, true_and, and_true, true_implies, false_implies, implies_true, and_self]
    exact hQ σ (ZF.refl _ _ _) hK
def q_street (A : AD) (x y : Int32) : Int32 × AD := match ix x (tD (aT A)) with
  | none => (-1, A)
  | some a => match ix y (tD (aT A)) with
    | none => (-1, A)
    | some b => (b2i ((tE (aT A) a).testBit b = true), A)
def w_X11_street : WPt := fun args σ Q => match args with
  | [.ref x, .int d, .int y] => x = 1 ∧ PubI σ (q_street · d y) Q
  | _ => False
theorem m_X11_street : Meets yX11_street cX11_street 3 (some .int) 4 w_X11_street := by
  refine Meets.mk (by decide) fun args σ Φ h => ?_
  unfold w_X11_street at h
  split at h
  rotate_left
  · exact h.elim
  rename_i x d y
  obtain ⟨x, rfl⟩ : ∃ q : Nat, q = x := ⟨x, rfl⟩
  obtain ⟨hx, A, hK, hA, hQ⟩ := h
  subst hx
  refine ⟨Nat.le_of_ble_eq_true rfl, fun C hC hR => ?_⟩
  have hf := cls_f hK
  have hN := hA.1
  have hD1 := hA.t.1
  have hD := hA.t.2.1
  have hS := hA.t.2.2.1
  have hW := hA.2.2.1.2.1
  have hE := hA.2.2.1.2.2.1
  have hT := hK.tT
  refine r_X11_street_0 hC hR m_X8_isDoor (by decide) m_X8_isJoined (by decide) _ _ _ ?_
  simp only [T_X11_street_0, x_psh, x_ild, x_lld, x_ald, x_ist, x_ast, x_lst, x_inc, x_iadd, x_isub, x_imul, x_iand, x_ior, x_ixor, x_ishl, x_ishr, x_iushr, x_idiv, x_irem, x_ladd, x_land, x_lor, x_lshl, x_lshr, x_ineg, x_i2l, x_l2i, x_i2b, x_lcmp, x_dup, x_dup2, x_if_eq, x_if_ne, x_if_lt, x_if_ge, x_if_gt, x_if_le, x_ic_eq, x_ic_ne, x_ic_lt, x_ic_ge, x_ic_gt, x_ic_le, x_getI, x_getR, x_putI, x_putZ, x_putR, x_iald, x_bald, x_lald, x_iast, x_bast, x_last, x_alen, x_acp, x_mmax, x_mmin, x_callV, x_callS, x_iret, x_zret, x_lret, x_aret, x_vret, x_tsw, x_stop, zst1, zst2, zkill, zkl, zsplit, zmask, zent, zentL, List.getElem?_cons_zero, List.getElem?_cons_succ, List.set_cons_zero, List.set_cons_succ, List.set_nil, List.length_cons, List.length_nil, List.replicate, List.nil_append, List.cons_append, List.map_cons, List.map_nil, List.sum_cons, List.sum_nil, Value.category, Option.toList, List.contains_cons, List.contains_nil, true_or, or_true, true_and, Nat.zero_le, Nat.reduceAdd, Nat.reduceLeDiff, Nat.reduceLT, Nat.reduceBEq, Bool.true_or, Bool.or_true, Bool.false_or, Bool.or_false, ↓reduceIte, Bool.false_eq_true, Nat.add_zero, Nat.zero_add, Nat.reduceEqDiff, Nat.reduceSub, hf, w_X8_isDoor, w_X8_isJoined]
  unfold q_street at hQ
  rcases ix_cs d (show tD (aT A) < 2 ^ 31 by omega) with ⟨k, hk, rfl, h1, h2⟩ | ⟨h1, h2⟩
  · simp only [h1] at hQ
    simp only [h2, b2i_0, ne_eq, Nat.reduceEqDiff, not_false_eq_true, not_true_eq_false, true_and, and_true, true_implies, false_implies, implies_true, and_self]
    rcases ix_cs y (show tD (aT A) < 2 ^ 31 by omega) with ⟨j, hj, rfl, h3, h4⟩ | ⟨h3, h4⟩
    · simp only [h3] at hQ
      simp only [h4, b2i_0, ne_eq, Nat.reduceEqDiff, not_false_eq_true, not_true_eq_false, true_and, and_true, true_implies, false_implies, implies_true, and_self]
      refine ⟨aT A, k, j, hT, rfl, hk, rfl, by omega, ?_⟩
      refine ⟨fun q => ?_, fun q => ?_⟩
      · rw [b2i_f q] at hQ
        exact hQ σ (ZF.refl _ _ _) hK
      · rw [b2i_t (Decidable.not_not.mp q)] at hQ
        exact hQ σ (ZF.refl _ _ _) hK
    · simp only [h3] at hQ
      simp only [h4, b2i_0, ne_eq, Nat.reduceEqDiff, not_false_eq_true, not_true_eq_false, true_and, and_true, true_implies, false_implies, implies_true, and_self]
      exact hQ σ (ZF.refl _ _ _) hK
  · simp only [h1] at hQ
    simp only [h2, b2i_0, ne_eq, Nat.reduceEqDiff, not_false_eq_true, not_true_eq_false, true_and, and_true, true_implies, false_implies, implies_true, and_self]
    exact hQ σ (ZF.refl _ _ _) hK
def q_road (A : AD) (x y z : Int32) : Int32 × AD := match ix x (tD (aT A)) with
  | none => (-1, A)
  | some a => match ix y (tD (aT A)) with
    | none => (-1, A)
    | some b => if a = b then (-3, A) else (b2i ((tE (aT A) a).testBit b = true), setW (setT A (tD (aT A), tS (aT A), tN (aT A), jnE (aT A) a b (!decide (z = 0)), tL (aT A), tG (aT A))) 0 (xF (aX A)))
def w_X11_road : WPt := fun args σ Q => match args with
  | [.ref x, .int d, .int y, .int z] => x = 1 ∧ PubI σ (q_road · d y z) Q
  | _ => False
set_option maxHeartbeats 1000000 in
theorem m_X11_road : Meets yX11_road cX11_road 5 (some .int) 4 w_X11_road := by
  refine Meets.mk (by decide) fun args σ Φ h => ?_
  unfold w_X11_road at h
  split at h
  rotate_left
  · exact h.elim
  rename_i x d y z
  obtain ⟨x, rfl⟩ : ∃ q : Nat, q = x := ⟨x, rfl⟩
  obtain ⟨hx, A, hK, hA, hQ⟩ := h
  subst hx
  refine ⟨Nat.le_of_ble_eq_true rfl, fun C hC hR => ?_⟩
  have hf := cls_f hK
  have hN := hA.1
  have hD1 := hA.t.1
  have hD := hA.t.2.1
  have hS := hA.t.2.2.1
  have hW := hA.2.2.1.2.1
  have hE := hA.2.2.1.2.2.1
  have hT := hK.tT
  refine r_X11_road_0 hC hR m_X8_isDoor (by decide) m_X8_isJoined (by decide) m_X8_join (by decide) _ _ _ ?_
  simp only [T_X11_road_0, x_psh, x_ild, x_lld, x_ald, x_ist, x_ast, x_lst, x_inc, x_iadd, x_isub, x_imul, x_iand, x_ior, x_ixor, x_ishl, x_ishr, x_iushr, x_idiv, x_irem, x_ladd, x_land, x_lor, x_lshl, x_lshr, x_ineg, x_i2l, x_l2i, x_i2b, x_lcmp, x_dup, x_dup2, x_if_eq, x_if_ne, x_if_lt, x_if_ge, x_if_gt, x_if_le, x_ic_eq, x_ic_ne, x_ic_lt, x_ic_ge, x_ic_gt, x_ic_le, x_getI, x_getR, x_putI, x_putZ, x_putR, x_iald, x_bald, x_lald, x_iast, x_bast, x_last, x_alen, x_acp, x_mmax, x_mmin, x_callV, x_callS, x_iret, x_zret, x_lret, x_aret, x_vret, x_tsw, x_stop, zst1, zst2, zkill, zkl, zsplit, zmask, zent, zentL, List.getElem?_cons_zero, List.getElem?_cons_succ, List.set_cons_zero, List.set_cons_succ, List.set_nil, List.length_cons, List.length_nil, List.replicate, List.nil_append, List.cons_append, List.map_cons, List.map_nil, List.sum_cons, List.sum_nil, Value.category, Option.toList, List.contains_cons, List.contains_nil, true_or, or_true, true_and, Nat.zero_le, Nat.reduceAdd, Nat.reduceLeDiff, Nat.reduceLT, Nat.reduceBEq, Bool.true_or, Bool.or_true, Bool.false_or, Bool.or_false, ↓reduceIte, Bool.false_eq_true, Nat.add_zero, Nat.zero_add, Nat.reduceEqDiff, Nat.reduceSub, hf, w_X8_isDoor, w_X8_isJoined, w_X8_join]
  unfold q_road at hQ
  rcases ix_cs d (show tD (aT A) < 2 ^ 31 by omega) with ⟨k, hk, rfl, h1, h2⟩ | ⟨h1, h2⟩
  · simp only [h1] at hQ
    simp only [h2, b2i_0, ne_eq, Nat.reduceEqDiff, not_false_eq_true, not_true_eq_false, true_and, and_true, true_implies, false_implies, implies_true, and_self]
    rcases ix_cs y (show tD (aT A) < 2 ^ 31 by omega) with ⟨j, hj, rfl, h3, h4⟩ | ⟨h3, h4⟩
    · simp only [h3] at hQ
      simp only [h4, b2i_0, ne_eq, Nat.reduceEqDiff, not_false_eq_true, not_true_eq_false, true_and, and_true, true_implies, false_implies, implies_true, and_self]
      have ek : (nI k = nI j) = (k = j) := propext (nI_eq (by omega) (by omega))
      simp only [ek]
      by_cases e : k = j
      · simp only [if_pos e] at hQ
        exact ⟨fun q => absurd e q, fun _ => hQ σ (ZF.refl _ _ _) hK⟩
      · simp only [if_neg e] at hQ
        refine ⟨fun _ => ⟨aT A, k, j, hT, rfl, hk, rfl, by omega, ?_⟩, fun q => absurd q (by simpa using e)⟩
        have rest : ∀ r : Int32, (b2i ((tE (aT A) k).testBit j = true) = r) → ∃ T a b, TownR σ 10 T ∧ nI k = nI a ∧ nI j = nI b ∧ a < tD T ∧ b < tD T ∧ a ≠ b ∧ ∀ σ', Fr σ σ' 10 15 → TownR σ' 10 (tD T, tS T, tN T, jnE T a b (!decide (z = 0)), tL T, tG T) → zd σ' 1 = some (0, 8) ∧ zR σ' 1 2 ≠ 0 ∧ zd σ' (zR σ' 1 2) = some (0, 2) ∧ zR σ' (zR σ' 1 2) 1 ≠ 0 ∧ zd σ' (zR σ' (zR σ' 1 2) 1) = some (0, 7) ∧ Φ (some (.int r)) (sI σ' (zR σ' (zR σ' 1 2) 1) 1 0) := by
          rintro r rfl
          refine ⟨aT A, k, j, hT, rfl, rfl, hk, hj, e, fun σ1 f1 t1 => ?_⟩
          have hK1 := hK.town f1 t1.2
          have g1 := cls_f hK1
          simp only [g1]
          refine ⟨trivial, by decide, trivial, by decide, trivial, ?_⟩
          have hK3 : ClsR (sI σ1 15 1 0) (setW _ 0 (xF (aX A))) := hK1.walk (fr_one (by omega) (by omega)) ⟨by rw [zI_sI, if_pos rfl, pk_us]; rfl, by omega, fun k hk => absurd hk (by omega)⟩
          exact hQ _ ((Fr.z f1 (by omega) (by omega)).trans (Fr.z (fr_one (lo := 15) (hi := 16) (by omega) (by omega)) (by omega) (by omega))) hK3
        refine ⟨fun q => rest 0 (b2i_f q), fun q => rest 1 (b2i_t (Decidable.not_not.mp q))⟩
    · simp only [h3] at hQ
      simp only [h4, b2i_0, ne_eq, Nat.reduceEqDiff, not_false_eq_true, not_true_eq_false, true_and, and_true, true_implies, false_implies, implies_true, and_self]
      exact hQ σ (ZF.refl _ _ _) hK
  · simp only [h1] at hQ
    simp only [h2, b2i_0, ne_eq, Nat.reduceEqDiff, not_false_eq_true, not_true_eq_false, true_and, and_true, true_implies, false_implies, implies_true, and_self]
    exact hQ σ (ZF.refl _ _ _) hK
def q_song (A : AD) (x y : Int32) : Int32 × AD := match ix x (tS (aT A)) with
  | none => (-1, A)
  | some k => match ix y (tL (aT A) k) with
    | none => (-9, A)
    | some i => (nI (tG (aT A) (6 * k + i)), A)
def w_X11_song : WPt := fun args σ Q => match args with
  | [.ref x, .int d, .int y] => x = 1 ∧ PubI σ (q_song · d y) Q
  | _ => False
theorem m_X11_song : Meets yX11_song cX11_song 3 (some .int) 3 w_X11_song := by
  refine Meets.mk (by decide) fun args σ Φ h => ?_
  unfold w_X11_song at h
  split at h
  rotate_left
  · exact h.elim
  rename_i x d y
  obtain ⟨x, rfl⟩ : ∃ q : Nat, q = x := ⟨x, rfl⟩
  obtain ⟨hx, A, hK, hA, hQ⟩ := h
  subst hx
  refine ⟨Nat.le_of_ble_eq_true rfl, fun C hC hR => ?_⟩
  have hf := cls_f hK
  have hN := hA.1
  have hD1 := hA.t.1
  have hD := hA.t.2.1
  have hS := hA.t.2.2.1
  have hW := hA.2.2.1.2.1
  have hE := hA.2.2.1.2.2.1
  have hT := hK.tT
  refine r_X11_song_0 hC hR m_X8_isSong (by decide) m_X8_signOf (by decide) _ _ _ ?_
  simp only [T_X11_song_0, x_psh, x_ild, x_lld, x_ald, x_ist, x_ast, x_lst, x_inc, x_iadd, x_isub, x_imul, x_iand, x_ior, x_ixor, x_ishl, x_ishr, x_iushr, x_idiv, x_irem, x_ladd, x_land, x_lor, x_lshl, x_lshr, x_ineg, x_i2l, x_l2i, x_i2b, x_lcmp, x_dup, x_dup2, x_if_eq, x_if_ne, x_if_lt, x_if_ge, x_if_gt, x_if_le, x_ic_eq, x_ic_ne, x_ic_lt, x_ic_ge, x_ic_gt, x_ic_le, x_getI, x_getR, x_putI, x_putZ, x_putR, x_iald, x_bald, x_lald, x_iast, x_bast, x_last, x_alen, x_acp, x_mmax, x_mmin, x_callV, x_callS, x_iret, x_zret, x_lret, x_aret, x_vret, x_tsw, x_stop, zst1, zst2, zkill, zkl, zsplit, zmask, zent, zentL, List.getElem?_cons_zero, List.getElem?_cons_succ, List.set_cons_zero, List.set_cons_succ, List.set_nil, List.length_cons, List.length_nil, List.replicate, List.nil_append, List.cons_append, List.map_cons, List.map_nil, List.sum_cons, List.sum_nil, Value.category, Option.toList, List.contains_cons, List.contains_nil, true_or, or_true, true_and, Nat.zero_le, Nat.reduceAdd, Nat.reduceLeDiff, Nat.reduceLT, Nat.reduceBEq, Bool.true_or, Bool.or_true, Bool.false_or, Bool.or_false, ↓reduceIte, Bool.false_eq_true, Nat.add_zero, Nat.zero_add, Nat.reduceEqDiff, Nat.reduceSub, hf, w_X8_isSong, w_X8_signOf]
  unfold q_song at hQ
  rcases ix_cs d (show tS (aT A) < 2 ^ 31 by omega) with ⟨k, hk, rfl, h1, h2⟩ | ⟨h1, h2⟩
  · simp only [h1] at hQ
    simp only [h2, b2i_0, ne_eq, Nat.reduceEqDiff, not_false_eq_true, not_true_eq_false, true_and, and_true, true_implies, false_implies, implies_true, and_self]
    have hL := (hA.t.2.2.2.2.2.1 k hk).2.1
    refine ⟨aT A, k, hT, rfl, hk, fun j hj e => ?_, fun q => ?_⟩
    · subst e
      simp only [ix_some hj (show tL (aT A) k < 2 ^ 31 by omega)] at hQ
      exact hQ σ (ZF.refl _ _ _) hK
    · simp only [ix_none q] at hQ
      exact hQ σ (ZF.refl _ _ _) hK
  · simp only [h1] at hQ
    simp only [h2, b2i_0, ne_eq, Nat.reduceEqDiff, not_false_eq_true, not_true_eq_false, true_and, and_true, true_implies, false_implies, implies_true, and_self]
    exact hQ σ (ZF.refl _ _ _) hK
def q_spring (A : AD) : Int32 × AD := (nI (tN (aT A) (tD (aT A) - 1)), setT A (tD (aT A), tS (aT A), trnN (aT A), tE (aT A), tL (aT A), tG (aT A)))
def w_X11_spring : WPt := fun args σ Q => match args with
  | [.ref x] => x = 1 ∧ PubI σ q_spring Q
  | _ => False
theorem m_X11_spring : Meets yX11_spring cX11_spring 1 (some .int) 2 w_X11_spring := by
  refine Meets.mk (by decide) fun args σ Φ h => ?_
  unfold w_X11_spring at h
  split at h
  rotate_left
  · exact h.elim
  rename_i x
  obtain ⟨x, rfl⟩ : ∃ q : Nat, q = x := ⟨x, rfl⟩
  obtain ⟨hx, A, hK, hA, hQ⟩ := h
  subst hx
  refine ⟨Nat.le_of_ble_eq_true rfl, fun C hC hR => ?_⟩
  have hf := cls_f hK
  have hN := hA.1
  have hD1 := hA.t.1
  have hD := hA.t.2.1
  have hS := hA.t.2.2.1
  have hW := hA.2.2.1.2.1
  have hE := hA.2.2.1.2.2.1
  have hT := hK.tT
  refine r_X11_spring_0 hC hR m_X8_turnNotes (by decide) _ _ _ ?_
  simp only [T_X11_spring_0, x_psh, x_ild, x_lld, x_ald, x_ist, x_ast, x_lst, x_inc, x_iadd, x_isub, x_imul, x_iand, x_ior, x_ixor, x_ishl, x_ishr, x_iushr, x_idiv, x_irem, x_ladd, x_land, x_lor, x_lshl, x_lshr, x_ineg, x_i2l, x_l2i, x_i2b, x_lcmp, x_dup, x_dup2, x_if_eq, x_if_ne, x_if_lt, x_if_ge, x_if_gt, x_if_le, x_ic_eq, x_ic_ne, x_ic_lt, x_ic_ge, x_ic_gt, x_ic_le, x_getI, x_getR, x_putI, x_putZ, x_putR, x_iald, x_bald, x_lald, x_iast, x_bast, x_last, x_alen, x_acp, x_mmax, x_mmin, x_callV, x_callS, x_iret, x_zret, x_lret, x_aret, x_vret, x_tsw, x_stop, zst1, zst2, zkill, zkl, zsplit, zmask, zent, zentL, List.getElem?_cons_zero, List.getElem?_cons_succ, List.set_cons_zero, List.set_cons_succ, List.set_nil, List.length_cons, List.length_nil, List.replicate, List.nil_append, List.cons_append, List.map_cons, List.map_nil, List.sum_cons, List.sum_nil, Value.category, Option.toList, List.contains_cons, List.contains_nil, true_or, or_true, true_and, Nat.zero_le, Nat.reduceAdd, Nat.reduceLeDiff, Nat.reduceLT, Nat.reduceBEq, Bool.true_or, Bool.or_true, Bool.false_or, Bool.or_false, ↓reduceIte, Bool.false_eq_true, Nat.add_zero, Nat.zero_add, Nat.reduceEqDiff, Nat.reduceSub, hf, w_X8_turnNotes]
  exact ⟨by decide, by decide, aT A, hT, hD1, fun σ1 f1 t1 => hQ σ1 (Fr.z f1 (by omega) (by omega)) (hK.town f1 t1.2)⟩
def q_home (A : AD) : Int32 × AD := (nI (xW (aX A)), setW A 0 (xF (aX A)))
def w_X11_home : WPt := fun args σ Q => match args with
  | [.ref x] => x = 1 ∧ PubI σ q_home Q
  | _ => False
theorem m_X11_home : Meets yX11_home cX11_home 2 (some .int) 1 w_X11_home := by
  refine Meets.mk (by decide) fun args σ Φ h => ?_
  unfold w_X11_home at h
  split at h
  rotate_left
  · exact h.elim
  rename_i x
  obtain ⟨x, rfl⟩ : ∃ q : Nat, q = x := ⟨x, rfl⟩
  obtain ⟨hx, A, hK, hA, hQ⟩ := h
  subst hx
  refine ⟨Nat.le_of_ble_eq_true rfl, fun C hC hR => ?_⟩
  have hf := cls_f hK
  have hN := hA.1
  have hD1 := hA.t.1
  have hD := hA.t.2.1
  have hS := hA.t.2.2.1
  have hW := hA.2.2.1.2.1
  have hE := hA.2.2.1.2.2.1
  have hT := hK.tT
  refine r_X11_home_0 hC hR _ _ _ ?_
  simp only [T_X11_home_0, x_psh, x_ild, x_lld, x_ald, x_ist, x_ast, x_lst, x_inc, x_iadd, x_isub, x_imul, x_iand, x_ior, x_ixor, x_ishl, x_ishr, x_iushr, x_idiv, x_irem, x_ladd, x_land, x_lor, x_lshl, x_lshr, x_ineg, x_i2l, x_l2i, x_i2b, x_lcmp, x_dup, x_dup2, x_if_eq, x_if_ne, x_if_lt, x_if_ge, x_if_gt, x_if_le, x_ic_eq, x_ic_ne, x_ic_lt, x_ic_ge, x_ic_gt, x_ic_le, x_getI, x_getR, x_putI, x_putZ, x_putR, x_iald, x_bald, x_lald, x_iast, x_bast, x_last, x_alen, x_acp, x_mmax, x_mmin, x_callV, x_callS, x_iret, x_zret, x_lret, x_aret, x_vret, x_tsw, x_stop, zst1, zst2, zkill, zkl, zsplit, zmask, zent, zentL, List.getElem?_cons_zero, List.getElem?_cons_succ, List.set_cons_zero, List.set_cons_succ, List.set_nil, List.length_cons, List.length_nil, List.replicate, List.nil_append, List.cons_append, List.map_cons, List.map_nil, List.sum_cons, List.sum_nil, Value.category, Option.toList, List.contains_cons, List.contains_nil, true_or, or_true, true_and, Nat.zero_le, Nat.reduceAdd, Nat.reduceLeDiff, Nat.reduceLT, Nat.reduceBEq, Bool.true_or, Bool.or_true, Bool.false_or, Bool.or_false, ↓reduceIte, Bool.false_eq_true, Nat.add_zero, Nat.zero_add, Nat.reduceEqDiff, Nat.reduceSub, hf]
  have hK3 : ClsR (sI σ 15 1 0) (setW A 0 (xF (aX A))) := hK.walk (fr_one (by omega) (by omega)) ⟨by rw [zI_sI, if_pos rfl, pk_us]; rfl, by omega, fun k hk => absurd hk (by omega)⟩
  exact ⟨by decide, by decide, by decide, by decide, hQ _ (Fr.z (fr_one (lo := 15) (hi := 16) (by omega) (by omega)) (by omega) (by omega)) hK3⟩
def q_deaf (A : AD) : Int32 × AD := (nI (xE (aX A)), setE A 0 (xG (aX A)))
def w_X11_deaf : WPt := fun args σ Q => match args with
  | [.ref x] => x = 1 ∧ PubI σ q_deaf Q
  | _ => False
theorem m_X11_deaf : Meets yX11_deaf cX11_deaf 2 (some .int) 1 w_X11_deaf := by
  refine Meets.mk (by decide) fun args σ Φ h => ?_
  unfold w_X11_deaf at h
  split at h
  rotate_left
  · exact h.elim
  rename_i x
  obtain ⟨x, rfl⟩ : ∃ q : Nat, q = x := ⟨x, rfl⟩
  obtain ⟨hx, A, hK, hA, hQ⟩ := h
  subst hx
  refine ⟨Nat.le_of_ble_eq_true rfl, fun C hC hR => ?_⟩
  have hf := cls_f hK
  have hN := hA.1
  have hD1 := hA.t.1
  have hD := hA.t.2.1
  have hS := hA.t.2.2.1
  have hW := hA.2.2.1.2.1
  have hE := hA.2.2.1.2.2.1
  have hT := hK.tT
  refine r_X11_deaf_0 hC hR _ _ _ ?_
  simp only [T_X11_deaf_0, x_psh, x_ild, x_lld, x_ald, x_ist, x_ast, x_lst, x_inc, x_iadd, x_isub, x_imul, x_iand, x_ior, x_ixor, x_ishl, x_ishr, x_iushr, x_idiv, x_irem, x_ladd, x_land, x_lor, x_lshl, x_lshr, x_ineg, x_i2l, x_l2i, x_i2b, x_lcmp, x_dup, x_dup2, x_if_eq, x_if_ne, x_if_lt, x_if_ge, x_if_gt, x_if_le, x_ic_eq, x_ic_ne, x_ic_lt, x_ic_ge, x_ic_gt, x_ic_le, x_getI, x_getR, x_putI, x_putZ, x_putR, x_iald, x_bald, x_lald, x_iast, x_bast, x_last, x_alen, x_acp, x_mmax, x_mmin, x_callV, x_callS, x_iret, x_zret, x_lret, x_aret, x_vret, x_tsw, x_stop, zst1, zst2, zkill, zkl, zsplit, zmask, zent, zentL, List.getElem?_cons_zero, List.getElem?_cons_succ, List.set_cons_zero, List.set_cons_succ, List.set_nil, List.length_cons, List.length_nil, List.replicate, List.nil_append, List.cons_append, List.map_cons, List.map_nil, List.sum_cons, List.sum_nil, Value.category, Option.toList, List.contains_cons, List.contains_nil, true_or, or_true, true_and, Nat.zero_le, Nat.reduceAdd, Nat.reduceLeDiff, Nat.reduceLT, Nat.reduceBEq, Bool.true_or, Bool.or_true, Bool.false_or, Bool.or_false, ↓reduceIte, Bool.false_eq_true, Nat.add_zero, Nat.zero_add, Nat.reduceEqDiff, Nat.reduceSub, hf]
  have hK3 : ClsR (sI σ 17 1 0) (setE A 0 (xG (aX A))) := hK.ear (fr_one (by omega) (by omega)) ⟨by rw [zI_sI, if_pos rfl, pk_us]; rfl, by omega, fun k hk => absurd hk (by omega)⟩
  exact ⟨by decide, by decide, by decide, by decide, hQ _ (Fr.z (fr_one (lo := 17) (hi := 18) (by omega) (by omega)) (by omega) (by omega)) hK3⟩
def q_at (A : AD) (x : Int32) : Int32 × AD := match ix x (xW (aX A)) with
  | none => (-9, A)
  | some k => (nI (xF (aX A) k), A)
def w_X11_at : WPt := fun args σ Q => match args with
  | [.ref x, .int d] => x = 1 ∧ PubI σ (q_at · d) Q
  | _ => False
theorem m_X11_at : Meets yX11_at cX11_at 2 (some .int) 2 w_X11_at := by
  refine Meets.mk (by decide) fun args σ Φ h => ?_
  unfold w_X11_at at h
  split at h
  rotate_left
  · exact h.elim
  rename_i x d
  obtain ⟨x, rfl⟩ : ∃ q : Nat, q = x := ⟨x, rfl⟩
  obtain ⟨hx, A, hK, hA, hQ⟩ := h
  subst hx
  refine ⟨Nat.le_of_ble_eq_true rfl, fun C hC hR => ?_⟩
  have hf := cls_f hK
  have hN := hA.1
  have hD1 := hA.t.1
  have hD := hA.t.2.1
  have hS := hA.t.2.2.1
  have hW := hA.2.2.1.2.1
  have hE := hA.2.2.1.2.2.1
  have hT := hK.tT
  refine r_X11_at_0 hC hR m_X10_doorAt (by decide) _ _ _ ?_
  simp only [T_X11_at_0, x_psh, x_ild, x_lld, x_ald, x_ist, x_ast, x_lst, x_inc, x_iadd, x_isub, x_imul, x_iand, x_ior, x_ixor, x_ishl, x_ishr, x_iushr, x_idiv, x_irem, x_ladd, x_land, x_lor, x_lshl, x_lshr, x_ineg, x_i2l, x_l2i, x_i2b, x_lcmp, x_dup, x_dup2, x_if_eq, x_if_ne, x_if_lt, x_if_ge, x_if_gt, x_if_le, x_ic_eq, x_ic_ne, x_ic_lt, x_ic_ge, x_ic_gt, x_ic_le, x_getI, x_getR, x_putI, x_putZ, x_putR, x_iald, x_bald, x_lald, x_iast, x_bast, x_last, x_alen, x_acp, x_mmax, x_mmin, x_callV, x_callS, x_iret, x_zret, x_lret, x_aret, x_vret, x_tsw, x_stop, zst1, zst2, zkill, zkl, zsplit, zmask, zent, zentL, List.getElem?_cons_zero, List.getElem?_cons_succ, List.set_cons_zero, List.set_cons_succ, List.set_nil, List.length_cons, List.length_nil, List.replicate, List.nil_append, List.cons_append, List.map_cons, List.map_nil, List.sum_cons, List.sum_nil, Value.category, Option.toList, List.contains_cons, List.contains_nil, true_or, or_true, true_and, Nat.zero_le, Nat.reduceAdd, Nat.reduceLeDiff, Nat.reduceLT, Nat.reduceBEq, Bool.true_or, Bool.or_true, Bool.false_or, Bool.or_false, ↓reduceIte, Bool.false_eq_true, Nat.add_zero, Nat.zero_add, Nat.reduceEqDiff, Nat.reduceSub, hf, w_X10_doorAt]
  unfold q_at at hQ
  refine ⟨by decide, by decide, xW (aX A), xF (aX A), hK.tW.1, hK.tW.2, fun k hk e => ?_, fun q => ?_⟩
  · subst e
    simp only [ix_some hk (show xW (aX A) < 2 ^ 31 by omega)] at hQ
    exact hQ σ (ZF.refl _ _ _) hK
  · simp only [ix_none q] at hQ
    exact hQ σ (ZF.refl _ _ _) hK
