/-! THE MODEL READS -/
def RC (σ : ZS) (n : Nat) (bt : Nat → Nat) (pl : Nat) (fo : Option Nat) : Prop := ModS σ ∧ RowV n bt (zI σ 56 13) (zI σ 65) ∧ n ≤ 96 ∧ (∀ k, k < n → bt k < 256) ∧ zI σ 56 14 = nI pl ∧ pl ≤ n ∧ zI σ 56 15 = i2 fo ∧ (∀ p, fo = some p → p ≤ 96)
def hre (n : Nat) (bt : Nat → Nat) (pl : Nat) (fo : Option Nat) : Option Nat := match fo with
  | some _ => none
  | none => bhO n bt pl
def hI (o : Option Nat) : Int32 := match o with
  | some b => nI b
  | none => -1
theorem i2_96 {fo : Option Nat} (h : ∀ p, fo = some p → p ≤ 96) : (i2 fo = -9) = (fo = none) := by
  apply propext
  cases fo with
  | none => exact ⟨fun _ => rfl, fun _ => rfl⟩
  | some p =>
    have := h p rfl
    exact ⟨fun q => absurd q (z_m9 (by omega)), fun q => by cases q⟩
def w_X12_here : WPt := fun args σ Q => match args with
  | [.ref x] => x = 56 ∧ ∃ n bt pl fo, RC σ n bt pl fo ∧ Q (some (.int (hI (hre n bt pl fo)))) σ
  | _ => False
theorem m_X12_here : Meets yX12_here cX12_here 1 (some .int) 1 w_X12_here := by
  refine Meets.mk (by decide) fun args σ Φ h => ?_
  unfold w_X12_here at h
  split at h
  rotate_left
  · exact h.elim
  rename_i x
  obtain ⟨x, rfl⟩ : ∃ q : Nat, q = x := ⟨x, rfl⟩
  obtain ⟨hx, n, bt, pl, fo, ⟨hm, hr, hn, hb, hpl, hpn, hfo, hfp⟩, hQ⟩ := h
  subst hx
  refine ⟨Nat.le_of_ble_eq_true rfl, fun C hC hR => ?_⟩
  have g := hm
  unfold ModS at g
  refine r_X12_here_0 hC hR _ _ _ ?_
  simp only [T_X12_here_0, x_psh, x_ild, x_lld, x_ald, x_ist, x_ast, x_lst, x_inc, x_iadd, x_isub, x_imul, x_iand, x_ior, x_ixor, x_ishl, x_ishr, x_iushr, x_idiv, x_irem, x_ladd, x_land, x_lor, x_lshl, x_lshr, x_ineg, x_i2l, x_l2i, x_i2b, x_lcmp, x_dup, x_dup2, x_if_eq, x_if_ne, x_if_lt, x_if_ge, x_if_gt, x_if_le, x_ic_eq, x_ic_ne, x_ic_lt, x_ic_ge, x_ic_gt, x_ic_le, x_getI, x_getR, x_putI, x_putZ, x_putR, x_iald, x_bald, x_lald, x_iast, x_bast, x_last, x_alen, x_acp, x_mmax, x_mmin, x_callV, x_callS, x_iret, x_zret, x_lret, x_aret, x_vret, x_tsw, x_stop, zst1, zst2, zkill, zkl, zsplit, zmask, zent, zentL, List.getElem?_cons_zero, List.getElem?_cons_succ, List.set_cons_zero, List.set_cons_succ, List.set_nil, List.length_cons, List.length_nil, List.replicate, List.nil_append, List.cons_append, List.map_cons, List.map_nil, List.sum_cons, List.sum_nil, Value.category, Option.toList, List.contains_cons, List.contains_nil, true_or, or_true, true_and, Nat.zero_le, Nat.reduceAdd, Nat.reduceLeDiff, Nat.reduceLT, Nat.reduceBEq, Bool.true_or, Bool.or_true, Bool.false_or, Bool.or_false, ↓reduceIte, Bool.false_eq_true, Nat.add_zero, Nat.zero_add, Nat.reduceEqDiff, Nat.reduceSub, g, hpl, hfo, b2i_0, ne_eq, Nat.reduceEqDiff, not_false_eq_true, not_true_eq_false, true_and, and_true, true_implies, false_implies, implies_true, and_self]
  rw [i2_96 hfp, hr.1, nI_leI (by omega) (by omega)]
  refine ⟨fun q => ?_, fun q => ⟨fun q2 => ?_, fun q2 => ⟨96, rfl, vp_in_nI (by omega) (by omega), ?_⟩⟩⟩
  · cases fo with
    | none => exact absurd rfl q
    | some p => exact hQ
  · subst q
    unfold hre bhO at hQ
    rw [if_neg (by omega)] at hQ
    exact hQ
  · subst q
    unfold hre bhO at hQ
    rw [if_pos (by omega)] at hQ
    rw [nI_clamp (by omega), hr.2 pl (by omega)]
    exact hQ
def w_X12_fail : WPt := fun args σ Q => match args with
  | [.ref x] => x = 56 ∧ ∃ n bt pl fo, RC σ n bt pl fo ∧ Q none (sI σ 56 15 (i2 (some (fo.getD pl))))
  | _ => False
theorem m_X12_fail : Meets yX12_fail cX12_fail 1 none 1 w_X12_fail := by
  refine Meets.mk (by decide) fun args σ Φ h => ?_
  unfold w_X12_fail at h
  split at h
  rotate_left
  · exact h.elim
  rename_i x
  obtain ⟨x, rfl⟩ : ∃ q : Nat, q = x := ⟨x, rfl⟩
  obtain ⟨hx, n, bt, pl, fo, ⟨hm, hr, hn, hb, hpl, hpn, hfo, hfp⟩, hQ⟩ := h
  subst hx
  refine ⟨Nat.le_of_ble_eq_true rfl, fun C hC hR => ?_⟩
  have g := hm
  unfold ModS at g
  refine r_X12_fail_0 hC hR _ _ _ ?_
  simp only [T_X12_fail_0, x_psh, x_ild, x_lld, x_ald, x_ist, x_ast, x_lst, x_inc, x_iadd, x_isub, x_imul, x_iand, x_ior, x_ixor, x_ishl, x_ishr, x_iushr, x_idiv, x_irem, x_ladd, x_land, x_lor, x_lshl, x_lshr, x_ineg, x_i2l, x_l2i, x_i2b, x_lcmp, x_dup, x_dup2, x_if_eq, x_if_ne, x_if_lt, x_if_ge, x_if_gt, x_if_le, x_ic_eq, x_ic_ne, x_ic_lt, x_ic_ge, x_ic_gt, x_ic_le, x_getI, x_getR, x_putI, x_putZ, x_putR, x_iald, x_bald, x_lald, x_iast, x_bast, x_last, x_alen, x_acp, x_mmax, x_mmin, x_callV, x_callS, x_iret, x_zret, x_lret, x_aret, x_vret, x_tsw, x_stop, zst1, zst2, zkill, zkl, zsplit, zmask, zent, zentL, List.getElem?_cons_zero, List.getElem?_cons_succ, List.set_cons_zero, List.set_cons_succ, List.set_nil, List.length_cons, List.length_nil, List.replicate, List.nil_append, List.cons_append, List.map_cons, List.map_nil, List.sum_cons, List.sum_nil, Value.category, Option.toList, List.contains_cons, List.contains_nil, true_or, or_true, true_and, Nat.zero_le, Nat.reduceAdd, Nat.reduceLeDiff, Nat.reduceLT, Nat.reduceBEq, Bool.true_or, Bool.or_true, Bool.false_or, Bool.or_false, ↓reduceIte, Bool.false_eq_true, Nat.add_zero, Nat.zero_add, Nat.reduceEqDiff, Nat.reduceSub, g, hpl, hfo, b2i_0, ne_eq, Nat.reduceEqDiff, not_false_eq_true, not_true_eq_false, true_and, and_true, true_implies, false_implies, implies_true, and_self]
  rw [i2_96 hfp]
  cases fo with
  | none => exact ⟨fun q => absurd rfl q, fun _ => hQ⟩
  | some p => exact ⟨fun _ => hQ, fun q => absurd q (by simp)⟩
theorem in_h {o : Option Nat} (h : ∀ b, o = some b → b < 256) {c d : Nat} (hc : c < 2 ^ 31) (hd : d < 2 ^ 31) : ((nI c).toInt64 ≤ (hI o).toInt64 ∧ (hI o).toInt64 ≤ (nI d).toInt64) = (∃ b, o = some b ∧ c ≤ b ∧ b ≤ d) := by
  apply propext
  rw [i64_le, i64_le]
  cases o with
  | none =>
    constructor
    · rintro ⟨q, -⟩
      have q : nI c ≤ -1 := q
      rw [Int32.le_iff_toInt_le, nI_toInt hc] at q
      have : (-1 : Int32).toInt = -1 := by decide
      omega
    · rintro ⟨b, hb, -⟩; cases hb
  | some b =>
    have := h b rfl
    show nI c ≤ nI b ∧ nI b ≤ nI d ↔ _
    rw [nI_leI hc (by omega), nI_leI (by omega) hd]
    exact ⟨fun q => ⟨b, rfl, q.1, q.2⟩, fun ⟨b', e, q1, q2⟩ => by cases e; exact ⟨q1, q2⟩⟩
theorem hre_lt {n pl : Nat} {bt : Nat → Nat} {fo : Option Nat} (hb : ∀ k, k < n → bt k < 256) : ∀ b, hre n bt pl fo = some b → b < 256 ∧ pl < n := by
  intro b h
  cases fo with
  | some p => cases h
  | none =>
    unfold hre bhO at h
    simp only at h
    split at h
    next hk => have := Option.some.inj h; have := hb pl hk; omega
    · cases h
def dwO (o : Option Nat) : Option Nat := match o with
  | some b => dvO b
  | none => none
def w_X12_doorOf : WPt := fun args σ Q => match args with
  | [.ref x, .int m] => x = 56 ∧ ∃ n bt pl fo s, RC σ n bt pl fo ∧ m = nI s ∧ s < 4096 ∧ (∀ v, dwO (hre n bt pl fo) = some v → s.testBit v = true → Q (some (.int (nI v))) (sI σ 56 14 (nI (pl + 1)))) ∧ ((∀ v, dwO (hre n bt pl fo) = some v → s.testBit v = false) → Q (some (.int 0)) (sI σ 56 15 (i2 (some (fo.getD pl)))))
  | _ => False
theorem l_48 : (48 : Int64) = (nI 48).toInt64 := by decide
theorem l_57 : (57 : Int64) = (nI 57).toInt64 := by decide
theorem l_97 : (97 : Int64) = (nI 97).toInt64 := by decide
theorem l_98 : (98 : Int64) = (nI 98).toInt64 := by decide
theorem l_103 : (103 : Int64) = (nI 103).toInt64 := by decide
theorem m_X12_doorOf : Meets yX12_doorOf cX12_doorOf 4 (some .int) 2 w_X12_doorOf := by
  refine Meets.mk (by decide) fun args σ Φ h => ?_
  unfold w_X12_doorOf at h
  split at h
  rotate_left
  · exact h.elim
  rename_i x m
  obtain ⟨x, rfl⟩ : ∃ q : Nat, q = x := ⟨x, rfl⟩
  obtain ⟨hx, n, bt, pl, fo, s, hRC, rfl, hs, hQ1, hQ2⟩ := h
  subst hx
  refine ⟨Nat.le_of_ble_eq_true rfl, fun C hC hR => ?_⟩
  have ⟨hm, hr, hn, hb, hpl, hpn, hfo, hfp⟩ := hRC
  have g := hm
  unfold ModS at g
  refine r_X12_doorOf_0 hC hR m_X12_here (by decide) m_X12_in (by decide) m_X12_fail (by decide) _ _ _ ?_
  simp only [T_X12_doorOf_0, x_psh, x_ild, x_lld, x_ald, x_ist, x_ast, x_lst, x_inc, x_iadd, x_isub, x_imul, x_iand, x_ior, x_ixor, x_ishl, x_ishr, x_iushr, x_idiv, x_irem, x_ladd, x_land, x_lor, x_lshl, x_lshr, x_ineg, x_i2l, x_l2i, x_i2b, x_lcmp, x_dup, x_dup2, x_if_eq, x_if_ne, x_if_lt, x_if_ge, x_if_gt, x_if_le, x_ic_eq, x_ic_ne, x_ic_lt, x_ic_ge, x_ic_gt, x_ic_le, x_getI, x_getR, x_putI, x_putZ, x_putR, x_iald, x_bald, x_lald, x_iast, x_bast, x_last, x_alen, x_acp, x_mmax, x_mmin, x_callV, x_callS, x_iret, x_zret, x_lret, x_aret, x_vret, x_tsw, x_stop, zst1, zst2, zkill, zkl, zsplit, zmask, zent, zentL, List.getElem?_cons_zero, List.getElem?_cons_succ, List.set_cons_zero, List.set_cons_succ, List.set_nil, List.length_cons, List.length_nil, List.replicate, List.nil_append, List.cons_append, List.map_cons, List.map_nil, List.sum_cons, List.sum_nil, Value.category, Option.toList, List.contains_cons, List.contains_nil, true_or, or_true, true_and, Nat.zero_le, Nat.reduceAdd, Nat.reduceLeDiff, Nat.reduceLT, Nat.reduceBEq, Bool.true_or, Bool.or_true, Bool.false_or, Bool.or_false, ↓reduceIte, Bool.false_eq_true, Nat.add_zero, Nat.zero_add, Nat.reduceEqDiff, Nat.reduceSub, g, w_X12_here, w_X12_in, b2i_0, ne_eq, Nat.reduceEqDiff, not_false_eq_true, not_true_eq_false, true_and, and_true, true_implies, false_implies, implies_true, and_self]
  refine ⟨n, bt, pl, fo, hRC, ?_⟩
  have hlt := hre_lt (pl := pl) (fo := fo) hb
  generalize hre n bt pl fo = o at hQ1 hQ2 hlt
  simp only [l_48, l_57, l_97, l_98, in_h (fun b hb => (hlt b hb).1) (show 48 < 2 ^ 31 by decide) (show 57 < 2 ^ 31 by decide), in_h (fun b hb => (hlt b hb).1) (show 97 < 2 ^ 31 by decide) (show 98 < 2 ^ 31 by decide)]
  have key : ∀ vo : Option Nat, dwO o = vo → (∀ v, vo = some v → v < 12 ∧ pl < n) → WW C 49 [some (.ref 56), some (.int (nI s)), none, none] [.int (match vo with | some v => nI v | none => 31)] σ := by
    intro vo hvo hv12
    refine r_X12_doorOf_49 hC hR m_X12_here (by decide) m_X12_in (by decide) m_X12_fail (by decide) _ _ _ ?_
    simp only [T_X12_doorOf_49, x_psh, x_ild, x_lld, x_ald, x_ist, x_ast, x_lst, x_inc, x_iadd, x_isub, x_imul, x_iand, x_ior, x_ixor, x_ishl, x_ishr, x_iushr, x_idiv, x_irem, x_ladd, x_land, x_lor, x_lshl, x_lshr, x_ineg, x_i2l, x_l2i, x_i2b, x_lcmp, x_dup, x_dup2, x_if_eq, x_if_ne, x_if_lt, x_if_ge, x_if_gt, x_if_le, x_ic_eq, x_ic_ne, x_ic_lt, x_ic_ge, x_ic_gt, x_ic_le, x_getI, x_getR, x_putI, x_putZ, x_putR, x_iald, x_bald, x_lald, x_iast, x_bast, x_last, x_alen, x_acp, x_mmax, x_mmin, x_callV, x_callS, x_iret, x_zret, x_lret, x_aret, x_vret, x_tsw, x_stop, zst1, zst2, zkill, zkl, zsplit, zmask, zent, zentL, List.getElem?_cons_zero, List.getElem?_cons_succ, List.set_cons_zero, List.set_cons_succ, List.set_nil, List.length_cons, List.length_nil, List.replicate, List.nil_append, List.cons_append, List.map_cons, List.map_nil, List.sum_cons, List.sum_nil, Value.category, Option.toList, List.contains_cons, List.contains_nil, true_or, or_true, true_and, Nat.zero_le, Nat.reduceAdd, Nat.reduceLeDiff, Nat.reduceLT, Nat.reduceBEq, Bool.true_or, Bool.or_true, Bool.false_or, Bool.or_false, ↓reduceIte, Bool.false_eq_true, Nat.add_zero, Nat.zero_add, Nat.reduceEqDiff, Nat.reduceSub, g, w_X12_fail, b2i_0, ne_eq, Nat.reduceEqDiff, not_false_eq_true, not_true_eq_false, true_and, and_true, true_implies, false_implies, implies_true, and_self]
    rw [hvo] at hQ1 hQ2
    cases vo with
    | none => exact ⟨fun _ => ⟨n, bt, pl, fo, hRC, hQ2 (fun v h => by cases h)⟩, fun q => absurd rfl q⟩
    | some v =>
      have := hv12 v rfl
      refine ⟨fun q => absurd ((nI_eq (by omega) (by omega)).mp (show nI v = nI 31 from q)) (by omega), fun _ => ?_⟩
      show (¬ (nI s >>> (nI v &&& 31)) &&& 1 = 0 → _) ∧ ((nI s >>> (nI v &&& 31)) &&& 1 = 0 → _)
      rw [z_b1 (by omega) (by omega), b2i_0, hpl, nI_i3]
      refine ⟨fun q => hQ1 v rfl (by simpa using q), fun q => ⟨n, bt, pl, fo, hRC, hQ2 (fun v' h => by cases h; simpa using q)⟩⟩
  refine ⟨fun q => ⟨fun q2 => ?_, fun q2 => ?_⟩, fun q => ?_⟩
  · refine key none ?_ (fun v h => by cases h)
    cases o with
    | none => rfl
    | some b =>
      show dvO b = none
      unfold dvO
      rw [if_neg (fun h => q ⟨b, rfl, h⟩), if_neg (fun h => q2 ⟨b, rfl, by omega⟩)]
  · obtain ⟨b, rfl, h1, h2⟩ := Decidable.not_not.mp q2
    have := key (some (b - 87)) (by show dvO b = _; unfold dvO; rw [if_neg (by omega), if_pos (by omega)]) (fun v h => by cases h; have := hlt b rfl; omega)
    rw [z_l87, show hI (some b) - nI 87 = nI (b - 87) from pk_sub (by omega)]
    exact this
  · obtain ⟨b, rfl, h1, h2⟩ := Decidable.not_not.mp q
    have := key (some (b - 48)) (by show dvO b = _; unfold dvO; rw [if_pos (by omega)]) (fun v h => by cases h; have := hlt b rfl; omega)
    rw [z_l48, show hI (some b) - nI 48 = nI (b - 48) from pk_sub (by omega)]
    exact this
theorem z_dif' {a b : Nat} (ha : a < 2 ^ 31) : nI a &&& (nI b ^^^ -nI 1) = nI (dif a b) := z_dif ha
def frS (D m c : Nat) : Nat := clrB (dif (2 ^ D - 1) m) c
def w_X12_free : WPt := fun args σ Q => match args with
  | [.ref x, .int a] => x = 56 ∧ ∃ D m c, ModS σ ∧ zI σ 56 4 = nI D ∧ D ≤ 12 ∧ a = nI c ∧ c < 12 ∧ zI σ 58 c = nI m ∧ Q (some (.int (nI (frS D m c)))) σ
  | _ => False
theorem m_X12_free : Meets yX12_free cX12_free 2 (some .int) 1 w_X12_free := by
  refine Meets.mk (by decide) fun args σ Φ h => ?_
  unfold w_X12_free at h
  split at h
  rotate_left
  · exact h.elim
  rename_i x a
  obtain ⟨x, rfl⟩ : ∃ q : Nat, q = x := ⟨x, rfl⟩
  obtain ⟨hx, D, m, c, hm, hD, hD12, rfl, hc, h58, hQ⟩ := h
  subst hx
  refine ⟨Nat.le_of_ble_eq_true rfl, fun C hC hR => ?_⟩
  have g := hm
  unfold ModS at g
  have hp := z_pow31 hD12
  have hpp := Nat.two_pow_pos D
  refine r_X12_free_0 hC hR _ _ _ ?_
  simp only [T_X12_free_0, x_psh, x_ild, x_lld, x_ald, x_ist, x_ast, x_lst, x_inc, x_iadd, x_isub, x_imul, x_iand, x_ior, x_ixor, x_ishl, x_ishr, x_iushr, x_idiv, x_irem, x_ladd, x_land, x_lor, x_lshl, x_lshr, x_ineg, x_i2l, x_l2i, x_i2b, x_lcmp, x_dup, x_dup2, x_if_eq, x_if_ne, x_if_lt, x_if_ge, x_if_gt, x_if_le, x_ic_eq, x_ic_ne, x_ic_lt, x_ic_ge, x_ic_gt, x_ic_le, x_getI, x_getR, x_putI, x_putZ, x_putR, x_iald, x_bald, x_lald, x_iast, x_bast, x_last, x_alen, x_acp, x_mmax, x_mmin, x_callV, x_callS, x_iret, x_zret, x_lret, x_aret, x_vret, x_tsw, x_stop, zst1, zst2, zkill, zkl, zsplit, zmask, zent, zentL, List.getElem?_cons_zero, List.getElem?_cons_succ, List.set_cons_zero, List.set_cons_succ, List.set_nil, List.length_cons, List.length_nil, List.replicate, List.nil_append, List.cons_append, List.map_cons, List.map_nil, List.sum_cons, List.sum_nil, Value.category, Option.toList, List.contains_cons, List.contains_nil, true_or, or_true, true_and, Nat.zero_le, Nat.reduceAdd, Nat.reduceLeDiff, Nat.reduceLT, Nat.reduceBEq, Bool.true_or, Bool.or_true, Bool.false_or, Bool.or_false, ↓reduceIte, Bool.false_eq_true, Nat.add_zero, Nat.zero_add, Nat.reduceEqDiff, Nat.reduceSub, g, hD, b2i_0, ne_eq, Nat.reduceEqDiff, not_false_eq_true, not_true_eq_false, true_and, and_true, true_implies, false_implies, implies_true, and_self]
  refine ⟨12, rfl, vp_in_nI (by omega) (by omega), ?_⟩
  rw [nI_clamp (by omega), h58, z_l31, z_l1, z_p2 D (by omega), z_p2m D (by omega), z_dif' (by omega), z_p2 c (by omega)]
  have hdl : dif (2 ^ D - 1) m < 2 ^ D := dif_lt (by omega)
  rw [z_clr' (by omega) (by omega)]
  exact hQ
def fsS (D : Nat) (E : Nat → Nat) : Nat := stS (fun d => decide (frS D (E d) d ≠ 0)) D
def w_X12_frees : WPt := fun args σ Q => match args with
  | [.ref x] => x = 56 ∧ ∃ D E, ModS σ ∧ zI σ 56 4 = nI D ∧ D ≤ 12 ∧ (∀ k, k < D → zI σ 58 k = nI (E k)) ∧ Q (some (.int (nI (fsS D E)))) σ
  | _ => False
theorem frS_lt {D m c : Nat} : frS D m c < 2 ^ D := clrB_lt (dif_lt (by have := Nat.two_pow_pos D; omega))
theorem m_X12_frees : Meets yX12_frees cX12_frees 3 (some .int) 2 w_X12_frees := by
  refine Meets.mk (by decide) fun args σ Φ h => ?_
  unfold w_X12_frees at h
  split at h
  rotate_left
  · exact h.elim
  rename_i x
  obtain ⟨x, rfl⟩ : ∃ q : Nat, q = x := ⟨x, rfl⟩
  obtain ⟨hx, D, E, hm, hD, hD12, hE, hQ⟩ := h
  subst hx
  refine ⟨Nat.le_of_ble_eq_true rfl, fun C hC hR => ?_⟩
  have g := hm
  unfold ModS at g
  have hp := z_pow31 hD12
  refine r_X12_frees_0 hC hR m_X12_free (by decide) _ _ _ ?_
  simp only [T_X12_frees_0, x_psh, x_ild, x_lld, x_ald, x_ist, x_ast, x_lst, x_inc, x_iadd, x_isub, x_imul, x_iand, x_ior, x_ixor, x_ishl, x_ishr, x_iushr, x_idiv, x_irem, x_ladd, x_land, x_lor, x_lshl, x_lshr, x_ineg, x_i2l, x_l2i, x_i2b, x_lcmp, x_dup, x_dup2, x_if_eq, x_if_ne, x_if_lt, x_if_ge, x_if_gt, x_if_le, x_ic_eq, x_ic_ne, x_ic_lt, x_ic_ge, x_ic_gt, x_ic_le, x_getI, x_getR, x_putI, x_putZ, x_putR, x_iald, x_bald, x_lald, x_iast, x_bast, x_last, x_alen, x_acp, x_mmax, x_mmin, x_callV, x_callS, x_iret, x_zret, x_lret, x_aret, x_vret, x_tsw, x_stop, zst1, zst2, zkill, zkl, zsplit, zmask, zent, zentL, List.getElem?_cons_zero, List.getElem?_cons_succ, List.set_cons_zero, List.set_cons_succ, List.set_nil, List.length_cons, List.length_nil, List.replicate, List.nil_append, List.cons_append, List.map_cons, List.map_nil, List.sum_cons, List.sum_nil, Value.category, Option.toList, List.contains_cons, List.contains_nil, true_or, or_true, true_and, Nat.zero_le, Nat.reduceAdd, Nat.reduceLeDiff, Nat.reduceLT, Nat.reduceBEq, Bool.true_or, Bool.or_true, Bool.false_or, Bool.or_false, ↓reduceIte, Bool.false_eq_true, Nat.add_zero, Nat.zero_add, Nat.reduceEqDiff, Nat.reduceSub, b2i_0, ne_eq, Nat.reduceEqDiff, not_false_eq_true, not_true_eq_false, true_and, and_true, true_implies, false_implies, implies_true, and_self]
  have key := zloop (P := fun d => WW C 4 [some (.ref 56), some (.int (nI (stS (fun d => decide (frS D (E d) d ≠ 0)) d))), some (.int (nI d))] [] σ) D (fun d hd ih => ?_) ?_ 0 (by omega)
  · exact key
  · refine r_X12_frees_4 hC hR m_X12_free (by decide) _ _ _ ?_
    simp only [T_X12_frees_4, x_psh, x_ild, x_lld, x_ald, x_ist, x_ast, x_lst, x_inc, x_iadd, x_isub, x_imul, x_iand, x_ior, x_ixor, x_ishl, x_ishr, x_iushr, x_idiv, x_irem, x_ladd, x_land, x_lor, x_lshl, x_lshr, x_ineg, x_i2l, x_l2i, x_i2b, x_lcmp, x_dup, x_dup2, x_if_eq, x_if_ne, x_if_lt, x_if_ge, x_if_gt, x_if_le, x_ic_eq, x_ic_ne, x_ic_lt, x_ic_ge, x_ic_gt, x_ic_le, x_getI, x_getR, x_putI, x_putZ, x_putR, x_iald, x_bald, x_lald, x_iast, x_bast, x_last, x_alen, x_acp, x_mmax, x_mmin, x_callV, x_callS, x_iret, x_zret, x_lret, x_aret, x_vret, x_tsw, x_stop, zst1, zst2, zkill, zkl, zsplit, zmask, zent, zentL, List.getElem?_cons_zero, List.getElem?_cons_succ, List.set_cons_zero, List.set_cons_succ, List.set_nil, List.length_cons, List.length_nil, List.replicate, List.nil_append, List.cons_append, List.map_cons, List.map_nil, List.sum_cons, List.sum_nil, Value.category, Option.toList, List.contains_cons, List.contains_nil, true_or, or_true, true_and, Nat.zero_le, Nat.reduceAdd, Nat.reduceLeDiff, Nat.reduceLT, Nat.reduceBEq, Bool.true_or, Bool.or_true, Bool.false_or, Bool.or_false, ↓reduceIte, Bool.false_eq_true, Nat.add_zero, Nat.zero_add, Nat.reduceEqDiff, Nat.reduceSub, g, hD, w_X12_free, b2i_0, ne_eq, Nat.reduceEqDiff, not_false_eq_true, not_true_eq_false, true_and, and_true, true_implies, false_implies, implies_true, and_self]
    refine ⟨fun q => absurd q (nI_ge hd (by omega)), fun _ => ⟨D, E d, d, hm, rfl, hD12, rfl, by omega, hE d hd, ?_⟩⟩
    have hl := frS_lt (D := D) (m := E d) (c := d)
    have e0 : (nI (frS D (E d) d) = 0) = (frS D (E d) d = 0) := propext (nI_eq (a := frS D (E d) d) (b := 0) (by omega) (by omega))
    simp only [e0]
    rw [show (0 : Int32) = nI 0 from rfl, z_l31, z_l1, z_p2 d (by omega), z_or, z_or, nI_add]
    rw [stS] at ih
    refine ⟨fun q => ?_, fun q => ?_⟩
    · rw [if_neg (by simpa using q)] at ih
      exact ih
    · rw [if_pos (by simpa using q)] at ih
      exact ih
  · refine r_X12_frees_4 hC hR m_X12_free (by decide) _ _ _ ?_
    simp only [T_X12_frees_4, x_psh, x_ild, x_lld, x_ald, x_ist, x_ast, x_lst, x_inc, x_iadd, x_isub, x_imul, x_iand, x_ior, x_ixor, x_ishl, x_ishr, x_iushr, x_idiv, x_irem, x_ladd, x_land, x_lor, x_lshl, x_lshr, x_ineg, x_i2l, x_l2i, x_i2b, x_lcmp, x_dup, x_dup2, x_if_eq, x_if_ne, x_if_lt, x_if_ge, x_if_gt, x_if_le, x_ic_eq, x_ic_ne, x_ic_lt, x_ic_ge, x_ic_gt, x_ic_le, x_getI, x_getR, x_putI, x_putZ, x_putR, x_iald, x_bald, x_lald, x_iast, x_bast, x_last, x_alen, x_acp, x_mmax, x_mmin, x_callV, x_callS, x_iret, x_zret, x_lret, x_aret, x_vret, x_tsw, x_stop, zst1, zst2, zkill, zkl, zsplit, zmask, zent, zentL, List.getElem?_cons_zero, List.getElem?_cons_succ, List.set_cons_zero, List.set_cons_succ, List.set_nil, List.length_cons, List.length_nil, List.replicate, List.nil_append, List.cons_append, List.map_cons, List.map_nil, List.sum_cons, List.sum_nil, Value.category, Option.toList, List.contains_cons, List.contains_nil, true_or, or_true, true_and, Nat.zero_le, Nat.reduceAdd, Nat.reduceLeDiff, Nat.reduceLT, Nat.reduceBEq, Bool.true_or, Bool.or_true, Bool.false_or, Bool.or_false, ↓reduceIte, Bool.false_eq_true, Nat.add_zero, Nat.zero_add, Nat.reduceEqDiff, Nat.reduceSub, g, hD, w_X12_free, b2i_0, ne_eq, Nat.reduceEqDiff, not_false_eq_true, not_true_eq_false, true_and, and_true, true_implies, false_implies, implies_true, and_self]
    exact ⟨fun _ => hQ, fun q => absurd (nI_le (Nat.le_refl _) (by omega)) q⟩
