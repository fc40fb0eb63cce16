/-! THE TEXT -/
def TextS (σ : ZS) (p : Nat) : Prop := zd σ p = some (0, 4) ∧ zd σ (p + 1) = some (2, 96) ∧ zR σ p 0 = p + 1
def bsx (b : Nat) : Int32 := (nI b).toInt8.toInt32
def TextV (σ : ZS) (p n : Nat) (bt : Nat → Nat) : Prop := zI σ p 1 = nI n ∧ n ≤ 96 ∧ ∀ k, k < n → zI σ (p + 1) k = bsx (bt k) ∧ bt k < 256
theorem TextS.of {σ σ' : ZS} {w : Nat} (h : TextS σ w) (h1 : zd σ' = zd σ) (h2 : zR σ' = zR σ) : TextS σ' w := by unfold TextS at *; rw [h1, h2]; exact h
def bhO (n : Nat) (bt : Nat → Nat) (p : Nat) : Option Nat := if p < n then some (bt p) else none
def w_X7_byteHere : WPt := fun args σ Q => match args with
  | [.ref p] => ∃ (n : Nat) (bt : Nat → Nat) (pl : Nat), TextS σ p ∧ TextV σ p n bt ∧ zI σ p 2 = nI pl ∧ pl < 2 ^ 31 ∧ Q (some (.int (i2 (bhO n bt pl)))) σ
  | _ => False
theorem m_X7_byteHere : Meets yX7_byteHere cX7_byteHere 1 (some .int) 1 w_X7_byteHere := by
  refine Meets.mk (by decide) fun args σ Φ h => ?_
  unfold w_X7_byteHere at h
  split at h
  rotate_left
  · exact h.elim
  rename_i p
  obtain ⟨p, rfl⟩ : ∃ q : Nat, q = p := ⟨p, rfl⟩
  obtain ⟨n, bt, pl, ⟨s1, s2, s3⟩, ⟨v1, v2, v3⟩, hpl, hpl31, hQ⟩ := h
  refine ⟨Nat.le_of_ble_eq_true rfl, fun C hC hR => ?_⟩
  refine r_X7_byteHere_0 hC hR _ _ _ ?_
  simp only [T_X7_byteHere_0, x_psh, x_ild, x_lld, x_ald, x_ist, x_ast, x_lst, x_inc, x_iadd, x_isub, x_imul, x_iand, x_ior, x_ixor, x_ishl, x_ishr, x_iushr, x_idiv, x_irem, x_ladd, x_land, x_lor, x_lshl, x_lshr, x_ineg, x_i2l, x_l2i, x_i2b, x_lcmp, x_dup, x_dup2, x_if_eq, x_if_ne, x_if_lt, x_if_ge, x_if_gt, x_if_le, x_ic_eq, x_ic_ne, x_ic_lt, x_ic_ge, x_ic_gt, x_ic_le, x_getI, x_getR, x_putI, x_putZ, x_putR, x_iald, x_bald, x_lald, x_iast, x_bast, x_last, x_alen, x_acp, x_mmax, x_mmin, x_callV, x_callS, x_iret, x_zret, x_lret, x_aret, x_vret, x_tsw, x_stop, zst1, zst2, zkill, zkl, zsplit, zmask, zent, zentL, List.getElem?_cons_zero, List.getElem?_cons_succ, List.set_cons_zero, List.set_cons_succ, List.set_nil, List.length_cons, List.length_nil, List.replicate, List.nil_append, List.cons_append, List.map_cons, List.map_nil, List.sum_cons, List.sum_nil, Value.category, Option.toList, List.contains_cons, List.contains_nil, true_or, or_true, true_and, Nat.zero_le, Nat.reduceAdd, Nat.reduceLeDiff, Nat.reduceLT, Nat.reduceBEq, Bool.true_or, Bool.or_true, Bool.false_or, Bool.or_false, ↓reduceIte, Bool.false_eq_true, Nat.add_zero, Nat.zero_add, Nat.reduceEqDiff, Nat.reduceSub, s1, s3, v1, hpl]
  refine ⟨fun q => absurd q (nI_pos hpl31), fun _ => ⟨fun q => ?_, fun q => ?_⟩⟩
  · rw [bhO, if_neg (by have := (nI_leI (by omega) (by omega)).mp q; omega)] at hQ
    exact hQ
  · have hlt : pl < n := by
      rcases Nat.lt_or_ge pl n with h | h
      · exact h
      · exact absurd (nI_le h (by omega)) q
    rw [bhO, if_pos hlt] at hQ
    refine ⟨fun q => absurd q (by rw [z_l96]; exact nI_ge (by omega) (by omega)), fun _ => ⟨by omega, 96, Or.inl s2, vp_in_nI (by omega) (by omega), ?_⟩⟩
    rw [nI_clamp (by omega), (v3 pl hlt).1]
    show Φ (some (.int ((nI (bt pl)).toInt8.toInt32 &&& 255))) σ
    rw [sc_k8 (bt pl) (v3 pl hlt).2]
    exact hQ
def ltO (n : Nat) (bt : Nat → Nat) (p : Nat) : Option Nat := match bhO n bt p with
  | none => none
  | some b => if 97 ≤ b ∧ b < 104 then some (b - 97) else none
theorem bhO_lt {n p b : Nat} {bt : Nat → Nat} {σ : ZS} {t : Nat} (hv : TextV σ t n bt) (h : bhO n bt p = some b) : b < 256 ∧ p < n := by
  unfold bhO at h
  split at h
  next h1 => have := Option.some.inj h; have := (hv.2.2 p h1).2; omega
  next => cases h
def w_X7_letterHere : WPt := fun args σ Q => match args with
  | [.ref p] => ∃ (n : Nat) (bt : Nat → Nat) (pl : Nat), TextS σ p ∧ TextV σ p n bt ∧ zI σ p 2 = nI pl ∧ pl < 2 ^ 31 ∧ Q (some (.int (i2 (ltO n bt pl)))) σ
  | _ => False
theorem m_X7_letterHere : Meets yX7_letterHere cX7_letterHere 2 (some .int) 2 w_X7_letterHere := by
  refine Meets.mk (by decide) fun args σ Φ h => ?_
  unfold w_X7_letterHere at h
  split at h
  rotate_left
  · exact h.elim
  rename_i p
  obtain ⟨p, rfl⟩ : ∃ q : Nat, q = p := ⟨p, rfl⟩
  obtain ⟨n, bt, pl, hs, hv, hpl, hpl31, hQ⟩ := h
  refine ⟨Nat.le_of_ble_eq_true rfl, fun C hC hR => ?_⟩
  refine r_X7_letterHere_0 hC hR m_X7_byteHere (by decide) _ _ _ ?_
  simp only [T_X7_letterHere_0, x_psh, x_ild, x_lld, x_ald, x_ist, x_ast, x_lst, x_inc, x_iadd, x_isub, x_imul, x_iand, x_ior, x_ixor, x_ishl, x_ishr, x_iushr, x_idiv, x_irem, x_ladd, x_land, x_lor, x_lshl, x_lshr, x_ineg, x_i2l, x_l2i, x_i2b, x_lcmp, x_dup, x_dup2, x_if_eq, x_if_ne, x_if_lt, x_if_ge, x_if_gt, x_if_le, x_ic_eq, x_ic_ne, x_ic_lt, x_ic_ge, x_ic_gt, x_ic_le, x_getI, x_getR, x_putI, x_putZ, x_putR, x_iald, x_bald, x_lald, x_iast, x_bast, x_last, x_alen, x_acp, x_mmax, x_mmin, x_callV, x_callS, x_iret, x_zret, x_lret, x_aret, x_vret, x_tsw, x_stop, zst1, zst2, zkill, zkl, zsplit, zmask, zent, zentL, List.getElem?_cons_zero, List.getElem?_cons_succ, List.set_cons_zero, List.set_cons_succ, List.set_nil, List.length_cons, List.length_nil, List.replicate, List.nil_append, List.cons_append, List.map_cons, List.map_nil, List.sum_cons, List.sum_nil, Value.category, Option.toList, List.contains_cons, List.contains_nil, true_or, or_true, true_and, Nat.zero_le, Nat.reduceAdd, Nat.reduceLeDiff, Nat.reduceLT, Nat.reduceBEq, Bool.true_or, Bool.or_true, Bool.false_or, Bool.or_false, ↓reduceIte, Bool.false_eq_true, Nat.add_zero, Nat.zero_add, Nat.reduceEqDiff, Nat.reduceSub, w_X7_byteHere]
  refine ⟨hs.1, n, bt, pl, hs, hv, hpl, hpl31, ?_⟩
  unfold ltO at hQ
  cases hb : bhO n bt pl with
  | none =>
    rw [hb] at hQ
    exact ⟨fun _ => hQ, fun q => absurd (by decide) q⟩
  | some b =>
    have hb2 := (bhO_lt hv hb).1
    rw [hb] at hQ
    rw [show (0 : Int32) = iI 0 from rfl, show (97 : Int32) = iI 97 from rfl, show i2 (some b) = iI b from iI_n b, iI_sub, iI_lt (by omega) (by omega), show (7 : Int32) = iI 7 from rfl]
    have c7 : iI 7 ≤ iI ((b : Int) - 97) ↔ 7 ≤ (b : Int) - 97 := iI_le (by omega) (by omega)
    rw [c7]
    refine ⟨fun q => ?_, fun q => ⟨fun q2 => ?_, fun q2 => ?_⟩⟩
    · simp only [if_neg (show ¬ (97 ≤ b ∧ b < 104) by omega)] at hQ
      exact hQ
    · simp only [if_neg (show ¬ (97 ≤ b ∧ b < 104) by omega)] at hQ
      exact hQ
    · simp only [if_pos (show 97 ≤ b ∧ b < 104 by omega)] at hQ
      have e : iI ((b : Int) - 97) = nI (b - 97) := by rw [iI_n]; congr 1; omega
      rw [e]
      exact hQ
def sgO (n : Nat) (bt : Nat → Nat) (p : Nat) : Option Nat := if bhO n bt p = some 46 then some 8 else ltO n bt p
theorem i2_eq {o : Option Nat} {c : Nat} (h : ∀ b, o = some b → b < 2 ^ 31) (hc : c < 2 ^ 31) : i2 o = nI c ↔ o = some c := by
  cases o with
  | none => exact ⟨fun q => absurd q.symm (z_m9 hc), fun q => by cases q⟩
  | some b =>
    have := h b rfl
    show nI b = nI c ↔ _
    rw [nI_eq this hc]
    exact ⟨fun q => by rw [q], fun q => Option.some.inj q⟩
def w_X7_signHere : WPt := fun args σ Q => match args with
  | [.ref p] => ∃ (n : Nat) (bt : Nat → Nat) (pl : Nat), TextS σ p ∧ TextV σ p n bt ∧ zI σ p 2 = nI pl ∧ pl < 2 ^ 31 ∧ Q (some (.int (i2 (sgO n bt pl)))) σ
  | _ => False
theorem m_X7_signHere : Meets yX7_signHere cX7_signHere 1 (some .int) 3 w_X7_signHere := by
  refine Meets.mk (by decide) fun args σ Φ h => ?_
  unfold w_X7_signHere at h
  split at h
  rotate_left
  · exact h.elim
  rename_i p
  obtain ⟨p, rfl⟩ : ∃ q : Nat, q = p := ⟨p, rfl⟩
  obtain ⟨n, bt, pl, hs, hv, hpl, hpl31, hQ⟩ := h
  refine ⟨Nat.le_of_ble_eq_true rfl, fun C hC hR => ?_⟩
  refine r_X7_signHere_0 hC hR m_X7_byteHere (by decide) m_X7_letterHere (by decide) _ _ _ ?_
  simp only [T_X7_signHere_0, x_psh, x_ild, x_lld, x_ald, x_ist, x_ast, x_lst, x_inc, x_iadd, x_isub, x_imul, x_iand, x_ior, x_ixor, x_ishl, x_ishr, x_iushr, x_idiv, x_irem, x_ladd, x_land, x_lor, x_lshl, x_lshr, x_ineg, x_i2l, x_l2i, x_i2b, x_lcmp, x_dup, x_dup2, x_if_eq, x_if_ne, x_if_lt, x_if_ge, x_if_gt, x_if_le, x_ic_eq, x_ic_ne, x_ic_lt, x_ic_ge, x_ic_gt, x_ic_le, x_getI, x_getR, x_putI, x_putZ, x_putR, x_iald, x_bald, x_lald, x_iast, x_bast, x_last, x_alen, x_acp, x_mmax, x_mmin, x_callV, x_callS, x_iret, x_zret, x_lret, x_aret, x_vret, x_tsw, x_stop, zst1, zst2, zkill, zkl, zsplit, zmask, zent, zentL, List.getElem?_cons_zero, List.getElem?_cons_succ, List.set_cons_zero, List.set_cons_succ, List.set_nil, List.length_cons, List.length_nil, List.replicate, List.nil_append, List.cons_append, List.map_cons, List.map_nil, List.sum_cons, List.sum_nil, Value.category, Option.toList, List.contains_cons, List.contains_nil, true_or, or_true, true_and, Nat.zero_le, Nat.reduceAdd, Nat.reduceLeDiff, Nat.reduceLT, Nat.reduceBEq, Bool.true_or, Bool.or_true, Bool.false_or, Bool.or_false, ↓reduceIte, Bool.false_eq_true, Nat.add_zero, Nat.zero_add, Nat.reduceEqDiff, Nat.reduceSub, w_X7_byteHere, w_X7_letterHere]
  refine ⟨hs.1, n, bt, pl, hs, hv, hpl, hpl31, ?_⟩
  have hb31 : ∀ b, bhO n bt pl = some b → b < 2 ^ 31 := fun b h => by have := (bhO_lt hv h).1; omega
  rw [z_l46, i2_eq hb31 (by omega)]
  unfold sgO at hQ
  refine ⟨fun q => ⟨hs.1, n, bt, pl, hs, hv, hpl, hpl31, ?_⟩, fun q => ?_⟩
  · rw [if_neg q] at hQ
    exact hQ
  · rw [if_pos q] at hQ
    exact hQ
def dvO (b : Nat) : Option Nat := if 48 ≤ b ∧ b ≤ 57 then some (b - 48) else if b = 97 ∨ b = 98 then some (b - 87) else none
def drO (n : Nat) (bt : Nat → Nat) (p D : Nat) : Option Nat := match bhO n bt p with
  | none => none
  | some b => match dvO b with
    | none => none
    | some v => if v < D then some v else none
def w_X7_doorHere : WPt := fun args σ Q => match args with
  | [.ref p, .ref t] => ∃ (n : Nat) (bt : Nat → Nat) (pl D : Nat), TextS σ p ∧ TextV σ p n bt ∧ zI σ p 2 = nI pl ∧ pl < 2 ^ 31 ∧ zd σ t = some (0, 5) ∧ zI σ t 0 = nI D ∧ D ≤ 12 ∧ Q (some (.int (i2 (drO n bt pl D)))) σ
  | _ => False
set_option maxHeartbeats 2000000 in
theorem m_X7_doorHere : Meets yX7_doorHere cX7_doorHere 4 (some .int) 2 w_X7_doorHere := by
  refine Meets.mk (by decide) fun args σ Φ h => ?_
  unfold w_X7_doorHere at h
  split at h
  rotate_left
  · exact h.elim
  rename_i p t
  obtain ⟨p, rfl⟩ : ∃ q : Nat, q = p := ⟨p, rfl⟩
  obtain ⟨t, rfl⟩ : ∃ q : Nat, q = t := ⟨t, rfl⟩
  obtain ⟨n, bt, pl, D, hs, hv, hpl, hpl31, ht, htD, hD, hQ⟩ := h
  refine ⟨Nat.le_of_ble_eq_true rfl, fun C hC hR => ?_⟩
  have hb31 : ∀ b, bhO n bt pl = some b → b < 2 ^ 31 := fun b h => by have := (bhO_lt hv h).1; omega
  have notdoor : ∀ x : Int32, x < 0 → ¬ (0 ≤ x ∧ x < nI D) := fun x hx q => absurd hx (Int32.not_lt.mpr q.1)
  -- the end, with a number v or none
  have endd : ∀ o : Option Nat, (∀ v, o = some v → v < 100) → (∀ v, o = some v → v < D → Φ (some (.int (nI v))) σ) → ((o = none ∨ ∃ v, o = some v ∧ ¬ v < D) → Φ (some (.int (-9))) σ) → (¬ (0 ≤ i2 o ∧ i2 o < nI D) → Φ (some (.int (-9))) σ) ∧ (¬¬ (0 ≤ i2 o ∧ i2 o < nI D) → Φ (some (.int (i2 o))) σ) := by
    intro o hov h1 h2
    cases o with
    | none => exact ⟨fun _ => h2 (Or.inl rfl), fun q => absurd (notdoor _ (by decide)) q⟩
    | some v =>
      have hv1 := hov v rfl
      by_cases hvD : v < D
      · exact ⟨fun q => absurd (not_lt_pos (by omega) hvD) q, fun _ => h1 v rfl hvD⟩
      · exact ⟨fun _ => h2 (Or.inr ⟨v, rfl, hvD⟩), fun q => absurd (fun q2 : 0 ≤ nI v ∧ nI v < nI D => absurd ((nI_ltI (by omega) (by omega)).mp q2.2) hvD) q⟩
  cases hb : bhO n bt pl with
  | none =>
    have hq : Φ (some (.int (-9))) σ := by rw [drO, hb] at hQ; exact hQ
    have st : WW C 26 [none, some (.ref t), some (.int (-9)), none] [.int (-9)] σ := by
      refine r_X7_doorHere_26 hC hR m_X7_byteHere (by decide) m_X8_isDoor (by decide) _ _ _ ?_
      simp only [T_X7_doorHere_26, x_psh, x_ild, x_lld, x_ald, x_ist, x_ast, x_lst, x_inc, x_iadd, x_isub, x_imul, x_iand, x_ior, x_ixor, x_ishl, x_ishr, x_iushr, x_idiv, x_irem, x_ladd, x_land, x_lor, x_lshl, x_lshr, x_ineg, x_i2l, x_l2i, x_i2b, x_lcmp, x_dup, x_dup2, x_if_eq, x_if_ne, x_if_lt, x_if_ge, x_if_gt, x_if_le, x_ic_eq, x_ic_ne, x_ic_lt, x_ic_ge, x_ic_gt, x_ic_le, x_getI, x_getR, x_putI, x_putZ, x_putR, x_iald, x_bald, x_lald, x_iast, x_bast, x_last, x_alen, x_acp, x_mmax, x_mmin, x_callV, x_callS, x_iret, x_zret, x_lret, x_aret, x_vret, x_tsw, x_stop, zst1, zst2, zkill, zkl, zsplit, zmask, zent, zentL, List.getElem?_cons_zero, List.getElem?_cons_succ, List.set_cons_zero, List.set_cons_succ, List.set_nil, List.length_cons, List.length_nil, List.replicate, List.nil_append, List.cons_append, List.map_cons, List.map_nil, List.sum_cons, List.sum_nil, Value.category, Option.toList, List.contains_cons, List.contains_nil, true_or, or_true, true_and, Nat.zero_le, Nat.reduceAdd, Nat.reduceLeDiff, Nat.reduceLT, Nat.reduceBEq, Bool.true_or, Bool.or_true, Bool.false_or, Bool.or_false, ↓reduceIte, Bool.false_eq_true, Nat.add_zero, Nat.zero_add, Nat.reduceEqDiff, Nat.reduceSub, w_X8_isDoor, ht, htD, b2i_0]
      refine ⟨fun q => absurd q (by decide), fun _ => ⟨fun _ => ?_, fun q => absurd q (by decide)⟩⟩
      exact endd none (fun v h => by cases h) (fun v h => by cases h) (fun _ => hq)
    refine r_X7_doorHere_0 hC hR m_X7_byteHere (by decide) m_X8_isDoor (by decide) _ _ _ ?_
    simp only [T_X7_doorHere_0, x_psh, x_ild, x_lld, x_ald, x_ist, x_ast, x_lst, x_inc, x_iadd, x_isub, x_imul, x_iand, x_ior, x_ixor, x_ishl, x_ishr, x_iushr, x_idiv, x_irem, x_ladd, x_land, x_lor, x_lshl, x_lshr, x_ineg, x_i2l, x_l2i, x_i2b, x_lcmp, x_dup, x_dup2, x_if_eq, x_if_ne, x_if_lt, x_if_ge, x_if_gt, x_if_le, x_ic_eq, x_ic_ne, x_ic_lt, x_ic_ge, x_ic_gt, x_ic_le, x_getI, x_getR, x_putI, x_putZ, x_putR, x_iald, x_bald, x_lald, x_iast, x_bast, x_last, x_alen, x_acp, x_mmax, x_mmin, x_callV, x_callS, x_iret, x_zret, x_lret, x_aret, x_vret, x_tsw, x_stop, zst1, zst2, zkill, zkl, zsplit, zmask, zent, zentL, List.getElem?_cons_zero, List.getElem?_cons_succ, List.set_cons_zero, List.set_cons_succ, List.set_nil, List.length_cons, List.length_nil, List.replicate, List.nil_append, List.cons_append, List.map_cons, List.map_nil, List.sum_cons, List.sum_nil, Value.category, Option.toList, List.contains_cons, List.contains_nil, true_or, or_true, true_and, Nat.zero_le, Nat.reduceAdd, Nat.reduceLeDiff, Nat.reduceLT, Nat.reduceBEq, Bool.true_or, Bool.or_true, Bool.false_or, Bool.or_false, ↓reduceIte, Bool.false_eq_true, Nat.add_zero, Nat.zero_add, Nat.reduceEqDiff, Nat.reduceSub, w_X7_byteHere]
    refine ⟨hs.1, n, bt, pl, hs, hv, hpl, hpl31, ?_⟩
    rw [hb]
    exact ⟨fun _ => st, fun q => absurd (by decide) q⟩
  | some b =>
    have hb2 := (bhO_lt hv hb).1
    have hQ2 : ∀ o, dvO b = o → (∀ v, o = some v → v < D → Φ (some (.int (nI v))) σ) ∧ ((o = none ∨ ∃ v, o = some v ∧ ¬ v < D) → Φ (some (.int (-9))) σ) := by
      intro o ho
      rw [drO, hb] at hQ
      simp only [ho] at hQ
      refine ⟨fun v hv2 hlt => ?_, fun h => ?_⟩
      · rw [hv2] at hQ; simp only [if_pos hlt] at hQ; exact hQ
      · rcases h with h | ⟨v, h1, h2⟩
        · rw [h] at hQ; exact hQ
        · rw [h1] at hQ; simp only [if_neg h2] at hQ; exact hQ
    -- behind the first choice
    have st : ∀ o0 : Option Nat, o0 = (if 48 ≤ b ∧ b ≤ 57 then some (b - 48) else none) → WW C 26 [none, some (.ref t), some (.int (nI b)), none] [.int (i2 o0)] σ := by
      intro o0 ho0
      refine r_X7_doorHere_26 hC hR m_X7_byteHere (by decide) m_X8_isDoor (by decide) _ _ _ ?_
      simp only [T_X7_doorHere_26, x_psh, x_ild, x_lld, x_ald, x_ist, x_ast, x_lst, x_inc, x_iadd, x_isub, x_imul, x_iand, x_ior, x_ixor, x_ishl, x_ishr, x_iushr, x_idiv, x_irem, x_ladd, x_land, x_lor, x_lshl, x_lshr, x_ineg, x_i2l, x_l2i, x_i2b, x_lcmp, x_dup, x_dup2, x_if_eq, x_if_ne, x_if_lt, x_if_ge, x_if_gt, x_if_le, x_ic_eq, x_ic_ne, x_ic_lt, x_ic_ge, x_ic_gt, x_ic_le, x_getI, x_getR, x_putI, x_putZ, x_putR, x_iald, x_bald, x_lald, x_iast, x_bast, x_last, x_alen, x_acp, x_mmax, x_mmin, x_callV, x_callS, x_iret, x_zret, x_lret, x_aret, x_vret, x_tsw, x_stop, zst1, zst2, zkill, zkl, zsplit, zmask, zent, zentL, List.getElem?_cons_zero, List.getElem?_cons_succ, List.set_cons_zero, List.set_cons_succ, List.set_nil, List.length_cons, List.length_nil, List.replicate, List.nil_append, List.cons_append, List.map_cons, List.map_nil, List.sum_cons, List.sum_nil, Value.category, Option.toList, List.contains_cons, List.contains_nil, true_or, or_true, true_and, Nat.zero_le, Nat.reduceAdd, Nat.reduceLeDiff, Nat.reduceLT, Nat.reduceBEq, Bool.true_or, Bool.or_true, Bool.false_or, Bool.or_false, ↓reduceIte, Bool.false_eq_true, Nat.add_zero, Nat.zero_add, Nat.reduceEqDiff, Nat.reduceSub, w_X8_isDoor, ht, htD, b2i_0]
      rw [z_l97, z_l98, nI_eq (by omega) (by omega), nI_eq (by omega) (by omega)]
      have e10 : 10 + nI b - nI 97 = iI ((b : Int) - 87) := by rw [iI_n, iI_n, show (10 : Int32) = iI 10 from rfl, iI_add, iI_sub]; congr 1; omega
      rw [e10]
      have letter : b = 97 ∨ b = 98 → (¬ (0 ≤ iI ((b : Int) - 87) ∧ iI ((b : Int) - 87) < nI D) → Φ (some (.int (-9))) σ) ∧ (¬¬ (0 ≤ iI ((b : Int) - 87) ∧ iI ((b : Int) - 87) < nI D) → Φ (some (.int (iI ((b : Int) - 87)))) σ) := by
        intro hl
        have hd : dvO b = some (b - 87) := by unfold dvO; rw [if_neg (by omega), if_pos hl]
        have := endd (some (b - 87)) (fun v h => by have := Option.some.inj h; omega) (hQ2 _ hd).1 (hQ2 _ hd).2
        rw [show i2 (some (b - 87)) = iI ((b : Int) - 87) by show nI _ = _; rw [iI_n]; congr 1; omega] at this
        exact this
      refine ⟨fun q => letter (Or.inl q), fun q => ⟨fun q2 => ?_, fun q2 => letter (Or.inr q2)⟩⟩
      have hd : dvO b = o0 := by
        unfold dvO
        rw [ho0]
        split
        · rfl
        · rw [if_neg (by omega)]
      exact endd o0 (fun v h => by rw [ho0] at h; split at h; (have := Option.some.inj h; omega); cases h) (hQ2 _ hd).1 (hQ2 _ hd).2
    refine r_X7_doorHere_0 hC hR m_X7_byteHere (by decide) m_X8_isDoor (by decide) _ _ _ ?_
    simp only [T_X7_doorHere_0, x_psh, x_ild, x_lld, x_ald, x_ist, x_ast, x_lst, x_inc, x_iadd, x_isub, x_imul, x_iand, x_ior, x_ixor, x_ishl, x_ishr, x_iushr, x_idiv, x_irem, x_ladd, x_land, x_lor, x_lshl, x_lshr, x_ineg, x_i2l, x_l2i, x_i2b, x_lcmp, x_dup, x_dup2, x_if_eq, x_if_ne, x_if_lt, x_if_ge, x_if_gt, x_if_le, x_ic_eq, x_ic_ne, x_ic_lt, x_ic_ge, x_ic_gt, x_ic_le, x_getI, x_getR, x_putI, x_putZ, x_putR, x_iald, x_bald, x_lald, x_iast, x_bast, x_last, x_alen, x_acp, x_mmax, x_mmin, x_callV, x_callS, x_iret, x_zret, x_lret, x_aret, x_vret, x_tsw, x_stop, zst1, zst2, zkill, zkl, zsplit, zmask, zent, zentL, List.getElem?_cons_zero, List.getElem?_cons_succ, List.set_cons_zero, List.set_cons_succ, List.set_nil, List.length_cons, List.length_nil, List.replicate, List.nil_append, List.cons_append, List.map_cons, List.map_nil, List.sum_cons, List.sum_nil, Value.category, Option.toList, List.contains_cons, List.contains_nil, true_or, or_true, true_and, Nat.zero_le, Nat.reduceAdd, Nat.reduceLeDiff, Nat.reduceLT, Nat.reduceBEq, Bool.true_or, Bool.or_true, Bool.false_or, Bool.or_false, ↓reduceIte, Bool.false_eq_true, Nat.add_zero, Nat.zero_add, Nat.reduceEqDiff, Nat.reduceSub, w_X7_byteHere]
    refine ⟨hs.1, n, bt, pl, hs, hv, hpl, hpl31, ?_⟩
    rw [hb]
    show (nI b < 48 → _) ∧ _
    rw [show i2 (some b) = nI b from rfl, z_l48, z_l57, nI_ltI (by omega) (by omega), nI_ltI (by omega) (by omega)]
    refine ⟨fun q => st none (by rw [if_neg (by omega)]), fun q => ⟨fun q2 => st none (by rw [if_neg (by omega)]), fun q2 => ?_⟩⟩
    rw [pk_sub (by omega)]
    exact st (some (b - 48)) (by rw [if_pos (by omega)])
