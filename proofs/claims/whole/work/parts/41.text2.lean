/-! reading -/
def addD (T : TD) (a : Nat) : TD := (tD T + 1, tS T, va_up (tN T) (tD T) a, va_up (tE T) (tD T) 0, tL T, tG T)
def addSg (T : TD) : TD := (tD T, tS T + 1, tN T, tE T, va_up (tL T) (tS T) 0, tG T)
def addSn (T : TD) (a : Nat) : TD := (tD T, tS T, tN T, tE T, va_up (tL T) (tS T - 1) (tL T (tS T - 1) + 1), va_up (tG T) (6 * (tS T - 1) + tL T (tS T - 1)) a)
def addSt (T : TD) (a b : Nat) : TD := (tD T, tS T, tN T, jnE T a b true, tL T, tG T)
/-- a state of the reading: the place, the town so far -/
def RdR (σ τ : ZS) (p t n : Nat) (bt : Nat → Nat) (pl : Nat) (T : TD) : Prop := Fr σ τ p (t + 5) ∧ TextS τ p ∧ TextV τ p n bt ∧ zI τ p 2 = nI pl ∧ pl ≤ n ∧ TownR τ t T
def FrP (σ σ' : ZS) (p t : Nat) : Prop := Fr σ σ' p (t + 5)
def apPT (p t : Nat) : Prop := p + 2 ≤ t
theorem ltO_lt {n p a : Nat} {bt : Nat → Nat} (h : ltO n bt p = some a) : a ≤ 6 ∧ p < n := by
  unfold ltO at h
  split at h
  · cases h
  next b hb =>
    unfold bhO at hb
    split at hb
    · split at h
      · have := Option.some.inj h; omega
      · cases h
    · cases hb
theorem sgO_lt {n p a : Nat} {bt : Nat → Nat} (h : sgO n bt p = some a) : a ≤ 8 ∧ p < n := by
  unfold sgO at h
  split at h
  next hb =>
    unfold bhO at hb
    split at hb
    · have := Option.some.inj h; omega
    · cases hb
  next => have := ltO_lt h; omega
theorem drO_lt {n p D a : Nat} {bt : Nat → Nat} (h : drO n bt p D = some a) : a < D ∧ p < n := by
  unfold drO at h
  split at h
  · cases h
  next b hb =>
    unfold bhO at hb
    split at hb
    · split at h
      · cases h
      · split at h
        · have := Option.some.inj h; omega
        · cases h
    · cases hb
/-- one place further -/
theorem RdR.next {σ τ : ZS} {p t n pl : Nat} {bt : Nat → Nat} {T : TD} (h : RdR σ τ p t n bt pl T) (hp : p + 2 ≤ t) (hn : pl < n) : RdR σ (sI τ p 2 (nI (pl + 1))) p t n bt (pl + 1) T := by
  obtain ⟨h1, h2, h3, h4, h5, h6⟩ := h
  refine ⟨h1.sI (by omega) (by omega), h2.of rfl rfl, ?_, by rw [zI_sI, if_pos rfl, pk_us], by omega, h6.fr (lo := p) (hi := p + 1) ((Fr.refl τ _ _).sI (by omega) (by omega)) (by omega)⟩
  refine ⟨by rw [zI_sI, if_pos rfl, pk_un (by decide)]; exact h3.1, h3.2.1, fun k hk => ?_⟩
  rw [zI_sI, if_neg (by omega)]
  exact h3.2.2 k hk
/-- the town goes on -/
theorem RdR.town {σ τ τ' : ZS} {p t n pl : Nat} {bt : Nat → Nat} {T T' : TD} (h : RdR σ τ p t n bt pl T) (hp : p + 2 ≤ t) (hf : Fr τ τ' t (t + 5)) (hT : TownR τ' t T') : RdR σ τ' p t n bt pl T' := by
  obtain ⟨h1, h2, h3, h4, h5, h6⟩ := h
  refine ⟨h1.trans (hf.mono (by omega) (by omega)), h2.of hf.1 hf.2.1, ?_, by rw [hf.2.2.1 p (by omega)]; exact h4, h5, hT⟩
  unfold TextV
  rw [hf.2.2.1 p (by omega), hf.2.2.1 (p + 1) (by omega)]
  exact h3
def pDo (n : Nat) (bt : Nat → Nat) : Nat → Nat → TD → Nat × TD
  | 0, pl, T => (pl, T)
  | f + 1, pl, T => match ltO n bt pl with
    | none => (pl, T)
    | some a => pDo n bt f (pl + 1) (addD T a)
def w_X7_readDoors : WPt := fun args σ Q => match args with
  | [.ref p, .ref t] => ∃ (n : Nat) (bt : Nat → Nat) (pl : Nat) (T : TD), apPT p t ∧ RdR σ σ p t n bt pl T ∧ tD T = 0 ∧ ∀ σ', RdR σ σ' p t n bt (pDo n bt 12 pl T).1 (pDo n bt 12 pl T).2 → Q none σ'
  | _ => False
theorem m_X7_readDoors : Meets yX7_readDoors cX7_readDoors 3 none 3 w_X7_readDoors := by
  refine Meets.mk (by decide) fun args σ Φ h => ?_
  unfold w_X7_readDoors at h
  split at h
  rotate_left
  · exact h.elim
  rename_i p t
  obtain ⟨p, rfl⟩ : ∃ q : Nat, q = p := ⟨p, rfl⟩
  obtain ⟨t, rfl⟩ : ∃ q : Nat, q = t := ⟨t, rfl⟩
  obtain ⟨n, bt, pl, T, hp, hR0, hT0, hQ⟩ := h
  unfold apPT at hp
  refine ⟨Nat.le_of_ble_eq_true rfl, fun C hC hR => ?_⟩
  refine r_X7_readDoors_0 hC hR m_X7_letterHere (by decide) m_X8_addDoor (by decide) _ _ _ ?_
  simp only [T_X7_readDoors_0, x_psh, x_ild, x_lld, x_ald, x_ist, x_ast, x_lst, x_inc, x_iadd, x_isub, x_imul, x_iand, x_ior, x_ixor, x_ishl, x_ishr, x_iushr, x_idiv, x_irem, x_ladd, x_land, x_lor, x_lshl, x_lshr, x_ineg, x_i2l, x_l2i, x_i2b, x_lcmp, x_dup, x_dup2, x_if_eq, x_if_ne, x_if_lt, x_if_ge, x_if_gt, x_if_le, x_ic_eq, x_ic_ne, x_ic_lt, x_ic_ge, x_ic_gt, x_ic_le, x_getI, x_getR, x_putI, x_putZ, x_putR, x_iald, x_bald, x_lald, x_iast, x_bast, x_last, x_alen, x_acp, x_mmax, x_mmin, x_callV, x_callS, x_iret, x_zret, x_lret, x_aret, x_vret, x_tsw, x_stop, zst1, zst2, zkill, zkl, zsplit, zmask, zent, zentL, List.getElem?_cons_zero, List.getElem?_cons_succ, List.set_cons_zero, List.set_cons_succ, List.set_nil, List.length_cons, List.length_nil, List.replicate, List.nil_append, List.cons_append, List.map_cons, List.map_nil, List.sum_cons, List.sum_nil, Value.category, Option.toList, List.contains_cons, List.contains_nil, true_or, or_true, true_and, Nat.zero_le, Nat.reduceAdd, Nat.reduceLeDiff, Nat.reduceLT, Nat.reduceBEq, Bool.true_or, Bool.or_true, Bool.false_or, Bool.or_false, ↓reduceIte, Bool.false_eq_true, Nat.add_zero, Nat.zero_add, Nat.reduceEqDiff, Nat.reduceSub]
  have key : ∀ (f i pl' : Nat) (T' : TD) (τ : ZS), i + f = 12 → tD T' = i → RdR σ τ p t n bt pl' T' → pDo n bt f pl' T' = pDo n bt 12 pl T → WW C 2 [some (.ref p), some (.ref t), some (.int (nI i))] [] τ := by
    intro f
    induction f with
    | zero =>
      intro i pl' T' τ hi hTi hR1 he
      refine r_X7_readDoors_2 hC hR m_X7_letterHere (by decide) m_X8_addDoor (by decide) _ _ _ ?_
      simp only [T_X7_readDoors_2, x_psh, x_ild, x_lld, x_ald, x_ist, x_ast, x_lst, x_inc, x_iadd, x_isub, x_imul, x_iand, x_ior, x_ixor, x_ishl, x_ishr, x_iushr, x_idiv, x_irem, x_ladd, x_land, x_lor, x_lshl, x_lshr, x_ineg, x_i2l, x_l2i, x_i2b, x_lcmp, x_dup, x_dup2, x_if_eq, x_if_ne, x_if_lt, x_if_ge, x_if_gt, x_if_le, x_ic_eq, x_ic_ne, x_ic_lt, x_ic_ge, x_ic_gt, x_ic_le, x_getI, x_getR, x_putI, x_putZ, x_putR, x_iald, x_bald, x_lald, x_iast, x_bast, x_last, x_alen, x_acp, x_mmax, x_mmin, x_callV, x_callS, x_iret, x_zret, x_lret, x_aret, x_vret, x_tsw, x_stop, zst1, zst2, zkill, zkl, zsplit, zmask, zent, zentL, List.getElem?_cons_zero, List.getElem?_cons_succ, List.set_cons_zero, List.set_cons_succ, List.set_nil, List.length_cons, List.length_nil, List.replicate, List.nil_append, List.cons_append, List.map_cons, List.map_nil, List.sum_cons, List.sum_nil, Value.category, Option.toList, List.contains_cons, List.contains_nil, true_or, or_true, true_and, Nat.zero_le, Nat.reduceAdd, Nat.reduceLeDiff, Nat.reduceLT, Nat.reduceBEq, Bool.true_or, Bool.or_true, Bool.false_or, Bool.or_false, ↓reduceIte, Bool.false_eq_true, Nat.add_zero, Nat.zero_add, Nat.reduceEqDiff, Nat.reduceSub]
      refine ⟨fun _ => hQ τ ?_, fun q => absurd (by rw [z_l12]; exact nI_le (by omega) (by omega)) q⟩
      rw [← he]
      exact hR1
    | succ f ih =>
      intro i pl' T' τ hi hTi hR1 he
      have ⟨h1, h2, h3, h4, h5, h6⟩ := hR1
      have hn96 := h3.2.1
      rw [pDo] at he
      refine r_X7_readDoors_2 hC hR m_X7_letterHere (by decide) m_X8_addDoor (by decide) _ _ _ ?_
      simp only [T_X7_readDoors_2, x_psh, x_ild, x_lld, x_ald, x_ist, x_ast, x_lst, x_inc, x_iadd, x_isub, x_imul, x_iand, x_ior, x_ixor, x_ishl, x_ishr, x_iushr, x_idiv, x_irem, x_ladd, x_land, x_lor, x_lshl, x_lshr, x_ineg, x_i2l, x_l2i, x_i2b, x_lcmp, x_dup, x_dup2, x_if_eq, x_if_ne, x_if_lt, x_if_ge, x_if_gt, x_if_le, x_ic_eq, x_ic_ne, x_ic_lt, x_ic_ge, x_ic_gt, x_ic_le, x_getI, x_getR, x_putI, x_putZ, x_putR, x_iald, x_bald, x_lald, x_iast, x_bast, x_last, x_alen, x_acp, x_mmax, x_mmin, x_callV, x_callS, x_iret, x_zret, x_lret, x_aret, x_vret, x_tsw, x_stop, zst1, zst2, zkill, zkl, zsplit, zmask, zent, zentL, List.getElem?_cons_zero, List.getElem?_cons_succ, List.set_cons_zero, List.set_cons_succ, List.set_nil, List.length_cons, List.length_nil, List.replicate, List.nil_append, List.cons_append, List.map_cons, List.map_nil, List.sum_cons, List.sum_nil, Value.category, Option.toList, List.contains_cons, List.contains_nil, true_or, or_true, true_and, Nat.zero_le, Nat.reduceAdd, Nat.reduceLeDiff, Nat.reduceLT, Nat.reduceBEq, Bool.true_or, Bool.or_true, Bool.false_or, Bool.or_false, ↓reduceIte, Bool.false_eq_true, Nat.add_zero, Nat.zero_add, Nat.reduceEqDiff, Nat.reduceSub, w_X7_letterHere, w_X8_addDoor]
      refine ⟨fun q => absurd q (by rw [z_l12]; exact nI_ge (by omega) (by omega)), fun _ => ⟨h2.1, n, bt, pl', h2, h3, h4, by omega, ?_⟩⟩
      cases hl : ltO n bt pl' with
      | none =>
        rw [hl] at he
        refine ⟨fun _ => hQ τ ?_, fun q => absurd rfl q⟩
        rw [← he]
        exact hR1
      | some a =>
        have ha := ltO_lt hl
        rw [hl] at he
        refine ⟨fun q => absurd q (z_m9 (by omega)), fun _ => ⟨h2.1, n, bt, pl', h2, h3, h4, by omega, h6.1.1, T', a, h6, by rw [hl]; rfl, by omega, by omega, fun σ' hf' hT' => ?_⟩⟩
        have hR2 := hR1.town hp hf' hT'
        refine ⟨hR2.2.1.1, ?_⟩
        rw [hR2.2.2.2.1, nI_i3, nI_i3]
        exact ⟨hR2.2.1.1, ih (i + 1) (pl' + 1) (addD T' a) _ (by omega) (by show tD T' + 1 = i + 1; omega) (hR2.next hp ha.2) he⟩
  exact key 12 0 pl T σ rfl hT0 hR0 rfl
def pSt (n : Nat) (bt : Nat → Nat) (pl : Nat) (T : TD) : Bool × Nat × TD :=
  if roomS T = false then (false, pl, T) else match drO n bt (pl + 1) (tD T) with
    | none => (false, pl + 1, T)
    | some a => if tE T a ||| 2 ^ a = 2 ^ tD T - 1 then (false, pl + 1, T) else match drO n bt (pl + 2) (tD T) with
      | none => (false, pl + 2, T)
      | some b => if b = a then (false, pl + 2, T) else if (tE T a).testBit b then (false, pl + 2, T) else (true, pl + 3, addSt T a b)
def w_X7_readStreet : WPt := fun args σ Q => match args with
  | [.ref p, .ref t] => ∃ (n : Nat) (bt : Nat → Nat) (pl : Nat) (T : TD), apPT p t ∧ RdR σ σ p t n bt pl T ∧ pl < n ∧ ∀ σ', RdR σ σ' p t n bt (pSt n bt pl T).2.1 (pSt n bt pl T).2.2 → Q (some (.int (b2i ((pSt n bt pl T).1 = true)))) σ'
  | _ => False
set_option maxHeartbeats 4000000 in
theorem m_X7_readStreet : Meets yX7_readStreet cX7_readStreet 4 (some .boolean) 4 w_X7_readStreet := by
  refine Meets.mk (by decide) fun args σ Φ h => ?_
  unfold w_X7_readStreet at h
  split at h
  rotate_left
  · exact h.elim
  rename_i p t
  obtain ⟨p, rfl⟩ : ∃ q : Nat, q = p := ⟨p, rfl⟩
  obtain ⟨t, rfl⟩ : ∃ q : Nat, q = t := ⟨t, rfl⟩
  obtain ⟨n, bt, pl, T, hp, hR0, hpln, hQ⟩ := h
  unfold apPT at hp
  refine ⟨Nat.le_of_ble_eq_true rfl, fun C hC hR => ?_⟩
  have ⟨h1, h2, h3, h4, h5, h6⟩ := hR0
  have hn96 := h3.2.1
  have hD := h6.2.2.2.1
  refine r_X7_readStreet_0 hC hR m_X8_hasRoomForStreet (by decide) m_X7_doorHere (by decide) m_X8_isJoinedToAll (by decide) m_X8_isJoined (by decide) m_X8_join (by decide) _ _ _ ?_
  simp only [T_X7_readStreet_0, x_psh, x_ild, x_lld, x_ald, x_ist, x_ast, x_lst, x_inc, x_iadd, x_isub, x_imul, x_iand, x_ior, x_ixor, x_ishl, x_ishr, x_iushr, x_idiv, x_irem, x_ladd, x_land, x_lor, x_lshl, x_lshr, x_ineg, x_i2l, x_l2i, x_i2b, x_lcmp, x_dup, x_dup2, x_if_eq, x_if_ne, x_if_lt, x_if_ge, x_if_gt, x_if_le, x_ic_eq, x_ic_ne, x_ic_lt, x_ic_ge, x_ic_gt, x_ic_le, x_getI, x_getR, x_putI, x_putZ, x_putR, x_iald, x_bald, x_lald, x_iast, x_bast, x_last, x_alen, x_acp, x_mmax, x_mmin, x_callV, x_callS, x_iret, x_zret, x_lret, x_aret, x_vret, x_tsw, x_stop, zst1, zst2, zkill, zkl, zsplit, zmask, zent, zentL, List.getElem?_cons_zero, List.getElem?_cons_succ, List.set_cons_zero, List.set_cons_succ, List.set_nil, List.length_cons, List.length_nil, List.replicate, List.nil_append, List.cons_append, List.map_cons, List.map_nil, List.sum_cons, List.sum_nil, Value.category, Option.toList, List.contains_cons, List.contains_nil, true_or, or_true, true_and, Nat.zero_le, Nat.reduceAdd, Nat.reduceLeDiff, Nat.reduceLT, Nat.reduceBEq, Bool.true_or, Bool.or_true, Bool.false_or, Bool.or_false, ↓reduceIte, Bool.false_eq_true, Nat.add_zero, Nat.zero_add, Nat.reduceEqDiff, Nat.reduceSub, w_X8_hasRoomForStreet, w_X7_doorHere, w_X8_isJoinedToAll, w_X8_isJoined, w_X8_join]
  refine ⟨h6.1.1, T, h6, ?_⟩
  rw [b2i_0]
  have hQ0 : ∀ pl' T', pSt n bt pl T = (false, pl', T') → ∀ σ', RdR σ σ' p t n bt pl' T' → Φ (some (.int 0)) σ' := fun pl' T' e σ' hr => by
    rw [e] at hQ
    have := hQ σ' hr
    rw [b2i_f (by simp)] at this
    exact this
  have hQ1 : ∀ pl' T', pSt n bt pl T = (true, pl', T') → ∀ σ', RdR σ σ' p t n bt pl' T' → Φ (some (.int 1)) σ' := fun pl' T' e σ' hr => by
    rw [e] at hQ
    have := hQ σ' hr
    rw [b2i_t rfl] at this
    exact this
  unfold pSt at hQ0 hQ1
  refine ⟨fun q => ?_, fun q => ?_⟩
  rotate_left
  · exact hQ0 pl T (by rw [if_pos (by simpa using q)]) σ hR0
  have q2 : ¬ roomS T = false := by
    have := Decidable.not_not.mp q
    rw [this]; simp
  rw [if_neg q2] at hQ0 hQ1
  have hR1 := hR0.next hp hpln
  refine ⟨h2.1, ?_⟩
  rw [h4, nI_i3]
  generalize sI σ p 2 (nI (pl + 1)) = τ at hR1 ⊢
  have ⟨k1, k2, k3, k4, k5, k6⟩ := hR1
  refine ⟨h2.1, k2.1, n, bt, pl + 1, tD T, k2, k3, k4, by omega, k6.1.1, k6.2.1, hD, ?_⟩
  cases hd1 : drO n bt (pl + 1) (tD T) with
  | none =>
    simp only [hd1] at hQ0
    exact ⟨fun _ => hQ0 _ _ rfl τ hR1, fun q => absurd rfl q⟩
  | some a =>
    have ha := drO_lt hd1
    simp only [hd1] at hQ0 hQ1
    refine ⟨fun q => absurd q (z_m9 (by omega)), fun _ => ⟨k6.1.1, T, a, k6, rfl, ha.1, ?_⟩⟩
    rw [b2i_0]
    refine ⟨fun q3 => ?_, fun q3 => ?_⟩
    rotate_left
    · exact hQ0 _ _ (by rw [if_pos (Decidable.not_not.mp q3)]) τ hR1
    rw [if_neg q3] at hQ0 hQ1
    have hR2 := hR1.next hp ha.2
    refine ⟨k2.1, ?_⟩
    rw [k4, nI_i3]
    generalize sI τ p 2 (nI (pl + 1 + 1)) = τ2 at hR2 ⊢
    have ⟨l1, l2, l3, l4, l5, l6⟩ := hR2
    refine ⟨k2.1, l2.1, n, bt, pl + 2, tD T, l2, l3, l4, by omega, l6.1.1, l6.2.1, hD, ?_⟩
    cases hd2 : drO n bt (pl + 2) (tD T) with
    | none =>
      simp only [hd2] at hQ0
      exact ⟨fun _ => hQ0 _ _ rfl τ2 hR2, fun q => absurd rfl q⟩
    | some b =>
      have hb := drO_lt hd2
      simp only [hd2] at hQ0 hQ1
      refine ⟨fun q => absurd q (z_m9 (by omega)), fun _ => ?_⟩
      show (nI b = nI a → _) ∧ _
      rw [nI_eq (by omega) (by omega)]
      refine ⟨fun q4 => ?_, fun q4 => ⟨l6.1.1, T, a, b, l6, rfl, ha.1, rfl, by omega, ?_⟩⟩
      · exact hQ0 _ _ (by rw [if_pos q4]) τ2 hR2
      have q4 : ¬ b = a := fun e => q4 (by rw [e])
      rw [if_neg q4] at hQ0 hQ1
      rw [b2i_0]
      refine ⟨fun q5 => ?_, fun q5 => ?_⟩
      rotate_left
      · exact hQ0 _ _ (by rw [if_pos (Decidable.not_not.mp q5)]) τ2 hR2
      rw [if_neg q5] at hQ1
      have hR3 := hR2.next hp hb.2
      refine ⟨l2.1, ?_⟩
      rw [l4, nI_i3]
      generalize sI τ2 p 2 (nI (pl + 1 + 1 + 1)) = τ3 at hR3 ⊢
      have ⟨m1, m2, m3, m4, m5, m6⟩ := hR3
      refine ⟨l2.1, m6.1.1, T, a, b, m6, rfl, rfl, ha.1, hb.1, fun e => q4 e.symm, fun σ' hf' hT' => ?_⟩
      exact hQ1 _ _ rfl σ' (hR3.town hp hf' hT')
/-- signs, f of them at most -/
def pSn (n : Nat) (bt : Nat → Nat) : Nat → Nat → TD → Nat × TD
  | 0, pl, T => (pl, T)
  | f + 1, pl, T => match sgO n bt pl with
    | none => (pl, T)
    | some a => pSn n bt f (pl + 1) (addSn T a)
def pSo (n : Nat) (bt : Nat → Nat) (pl : Nat) (T : TD) : Bool × Nat × TD :=
  if ¬ bhO n bt pl = some 83 ∨ 4 ≤ tS T then (false, pl, T) else match sgO n bt (pl + 1) with
    | none => (false, pl + 1, T)
    | some _ => (true, pSn n bt 6 (pl + 1) (addSg T))
def w_X7_readSong : WPt := fun args σ Q => match args with
  | [.ref p, .ref t] => ∃ (n : Nat) (bt : Nat → Nat) (pl : Nat) (T : TD), apPT p t ∧ RdR σ σ p t n bt pl T ∧ pl < n ∧ ∀ σ', RdR σ σ' p t n bt (pSo n bt pl T).2.1 (pSo n bt pl T).2.2 → Q (some (.int (b2i ((pSo n bt pl T).1 = true)))) σ'
  | _ => False
set_option maxHeartbeats 4000000 in
theorem m_X7_readSong : Meets yX7_readSong cX7_readSong 3 (some .boolean) 4 w_X7_readSong := by
  refine Meets.mk (by decide) fun args σ Φ h => ?_
  unfold w_X7_readSong at h
  split at h
  rotate_left
  · exact h.elim
  rename_i p t
  obtain ⟨p, rfl⟩ : ∃ q : Nat, q = p := ⟨p, rfl⟩
  obtain ⟨t, rfl⟩ : ∃ q : Nat, q = t := ⟨t, rfl⟩
  obtain ⟨n, bt, pl, T, hp, hR0, hpln, hQ⟩ := h
  unfold apPT at hp
  refine ⟨Nat.le_of_ble_eq_true rfl, fun C hC hR => ?_⟩
  have ⟨h1, h2, h3, h4, h5, h6⟩ := hR0
  have hn96 := h3.2.1
  have hS := h6.2.2.2.2.1
  have hb31 : ∀ b, bhO n bt pl = some b → b < 2 ^ 31 := fun b h => by have := (bhO_lt h3 h).1; omega
  have hQ0 : ∀ pl' T', pSo n bt pl T = (false, pl', T') → ∀ σ', RdR σ σ' p t n bt pl' T' → Φ (some (.int 0)) σ' := fun pl' T' e σ' hr => by
    rw [e] at hQ
    have := hQ σ' hr
    rw [b2i_f (by simp)] at this
    exact this
  have hQ1 : ∀ pl' T', pSo n bt pl T = (true, pl', T') → ∀ σ', RdR σ σ' p t n bt pl' T' → Φ (some (.int 1)) σ' := fun pl' T' e σ' hr => by
    rw [e] at hQ
    have := hQ σ' hr
    rw [b2i_t rfl] at this
    exact this
  unfold pSo at hQ0 hQ1
  refine r_X7_readSong_0 hC hR m_X7_byteHere (by decide) m_X7_signHere (by decide) m_X8_addSong (by decide) m_X8_addSign (by decide) _ _ _ ?_
  simp only [T_X7_readSong_0, x_psh, x_ild, x_lld, x_ald, x_ist, x_ast, x_lst, x_inc, x_iadd, x_isub, x_imul, x_iand, x_ior, x_ixor, x_ishl, x_ishr, x_iushr, x_idiv, x_irem, x_ladd, x_land, x_lor, x_lshl, x_lshr, x_ineg, x_i2l, x_l2i, x_i2b, x_lcmp, x_dup, x_dup2, x_if_eq, x_if_ne, x_if_lt, x_if_ge, x_if_gt, x_if_le, x_ic_eq, x_ic_ne, x_ic_lt, x_ic_ge, x_ic_gt, x_ic_le, x_getI, x_getR, x_putI, x_putZ, x_putR, x_iald, x_bald, x_lald, x_iast, x_bast, x_last, x_alen, x_acp, x_mmax, x_mmin, x_callV, x_callS, x_iret, x_zret, x_lret, x_aret, x_vret, x_tsw, x_stop, zst1, zst2, zkill, zkl, zsplit, zmask, zent, zentL, List.getElem?_cons_zero, List.getElem?_cons_succ, List.set_cons_zero, List.set_cons_succ, List.set_nil, List.length_cons, List.length_nil, List.replicate, List.nil_append, List.cons_append, List.map_cons, List.map_nil, List.sum_cons, List.sum_nil, Value.category, Option.toList, List.contains_cons, List.contains_nil, true_or, or_true, true_and, Nat.zero_le, Nat.reduceAdd, Nat.reduceLeDiff, Nat.reduceLT, Nat.reduceBEq, Bool.true_or, Bool.or_true, Bool.false_or, Bool.or_false, ↓reduceIte, Bool.false_eq_true, Nat.add_zero, Nat.zero_add, Nat.reduceEqDiff, Nat.reduceSub, w_X7_byteHere, w_X7_signHere, w_X8_addSong]
  refine ⟨h2.1, n, bt, pl, h2, h3, h4, by omega, ?_⟩
  rw [z_l83, i2_eq hb31 (by omega)]
  refine ⟨fun q => ?_, fun q => ⟨h6.1.1, ?_⟩⟩
  · exact hQ0 _ _ (by rw [if_pos (Or.inl q)]) σ hR0
  rw [h6.2.2.1, z_l4, nI_ltI (by omega) (by omega)]
  refine ⟨fun q2 => ?_, fun q2 => ?_⟩
  rotate_left
  · exact hQ0 _ _ (by rw [if_pos (Or.inr (by omega))]) σ hR0
  rw [if_neg (by rintro (h | h); exact h q; omega)] at hQ0 hQ1
  have hR1 := hR0.next hp hpln
  refine ⟨h2.1, ?_⟩
  rw [h4, nI_i3]
  generalize sI σ p 2 (nI (pl + 1)) = τ at hR1 ⊢
  have ⟨k1, k2, k3, k4, k5, k6⟩ := hR1
  refine ⟨h2.1, k2.1, n, bt, pl + 1, k2, k3, k4, by omega, ?_⟩
  cases hs1 : sgO n bt (pl + 1) with
  | none =>
    simp only [hs1] at hQ0
    exact ⟨fun q => absurd rfl q, fun _ => hQ0 _ _ rfl τ hR1⟩
  | some a0 =>
    have ha0 := sgO_lt hs1
    have hQ2 : ∀ σ', RdR σ σ' p t n bt (pSn n bt 6 (pl + 1) (addSg T)).1 (pSn n bt 6 (pl + 1) (addSg T)).2 → Φ (some (.int 1)) σ' := hQ1 _ _ (by rw [hs1])
    refine ⟨fun _ => ⟨k6.1.1, T, k6, q2, fun σ' hf' hT' => ?_⟩, fun q => absurd q (z_m9 (by omega))⟩
    have hR2 := hR1.town hp hf' hT'
    have key : ∀ (f i pl' : Nat) (T' : TD) (τ : ZS), i + f = 6 → 1 ≤ tS T' → tS T' ≤ 4 → tL T' (tS T' - 1) = i → RdR σ τ p t n bt pl' T' → pSn n bt f pl' T' = pSn n bt 6 (pl + 1) (addSg T) → WW C 46 [some (.ref p), some (.ref t), some (.int (nI i))] [] τ := by
      intro f
      induction f with
      | zero =>
        intro i pl' T' τ hi hS1 hS4 hLi hR3 he
        refine r_X7_readSong_46 hC hR m_X7_byteHere (by decide) m_X7_signHere (by decide) m_X8_addSong (by decide) m_X8_addSign (by decide) _ _ _ ?_
        simp only [T_X7_readSong_46, x_psh, x_ild, x_lld, x_ald, x_ist, x_ast, x_lst, x_inc, x_iadd, x_isub, x_imul, x_iand, x_ior, x_ixor, x_ishl, x_ishr, x_iushr, x_idiv, x_irem, x_ladd, x_land, x_lor, x_lshl, x_lshr, x_ineg, x_i2l, x_l2i, x_i2b, x_lcmp, x_dup, x_dup2, x_if_eq, x_if_ne, x_if_lt, x_if_ge, x_if_gt, x_if_le, x_ic_eq, x_ic_ne, x_ic_lt, x_ic_ge, x_ic_gt, x_ic_le, x_getI, x_getR, x_putI, x_putZ, x_putR, x_iald, x_bald, x_lald, x_iast, x_bast, x_last, x_alen, x_acp, x_mmax, x_mmin, x_callV, x_callS, x_iret, x_zret, x_lret, x_aret, x_vret, x_tsw, x_stop, zst1, zst2, zkill, zkl, zsplit, zmask, zent, zentL, List.getElem?_cons_zero, List.getElem?_cons_succ, List.set_cons_zero, List.set_cons_succ, List.set_nil, List.length_cons, List.length_nil, List.replicate, List.nil_append, List.cons_append, List.map_cons, List.map_nil, List.sum_cons, List.sum_nil, Value.category, Option.toList, List.contains_cons, List.contains_nil, true_or, or_true, true_and, Nat.zero_le, Nat.reduceAdd, Nat.reduceLeDiff, Nat.reduceLT, Nat.reduceBEq, Bool.true_or, Bool.or_true, Bool.false_or, Bool.or_false, ↓reduceIte, Bool.false_eq_true, Nat.add_zero, Nat.zero_add, Nat.reduceEqDiff, Nat.reduceSub]
        refine ⟨fun _ => hQ2 τ ?_, fun q => absurd (by rw [z_l6]; exact nI_le (by omega) (by omega)) q⟩
        rw [← he]
        exact hR3
      | succ f ih =>
        intro i pl' T' τ hi hS1 hS4 hLi hR3 he
        have ⟨h1, h2, h3, h4, h5, h6⟩ := hR3
        rw [pSn] at he
        refine r_X7_readSong_46 hC hR m_X7_byteHere (by decide) m_X7_signHere (by decide) m_X8_addSong (by decide) m_X8_addSign (by decide) _ _ _ ?_
        simp only [T_X7_readSong_46, x_psh, x_ild, x_lld, x_ald, x_ist, x_ast, x_lst, x_inc, x_iadd, x_isub, x_imul, x_iand, x_ior, x_ixor, x_ishl, x_ishr, x_iushr, x_idiv, x_irem, x_ladd, x_land, x_lor, x_lshl, x_lshr, x_ineg, x_i2l, x_l2i, x_i2b, x_lcmp, x_dup, x_dup2, x_if_eq, x_if_ne, x_if_lt, x_if_ge, x_if_gt, x_if_le, x_ic_eq, x_ic_ne, x_ic_lt, x_ic_ge, x_ic_gt, x_ic_le, x_getI, x_getR, x_putI, x_putZ, x_putR, x_iald, x_bald, x_lald, x_iast, x_bast, x_last, x_alen, x_acp, x_mmax, x_mmin, x_callV, x_callS, x_iret, x_zret, x_lret, x_aret, x_vret, x_tsw, x_stop, zst1, zst2, zkill, zkl, zsplit, zmask, zent, zentL, List.getElem?_cons_zero, List.getElem?_cons_succ, List.set_cons_zero, List.set_cons_succ, List.set_nil, List.length_cons, List.length_nil, List.replicate, List.nil_append, List.cons_append, List.map_cons, List.map_nil, List.sum_cons, List.sum_nil, Value.category, Option.toList, List.contains_cons, List.contains_nil, true_or, or_true, true_and, Nat.zero_le, Nat.reduceAdd, Nat.reduceLeDiff, Nat.reduceLT, Nat.reduceBEq, Bool.true_or, Bool.or_true, Bool.false_or, Bool.or_false, ↓reduceIte, Bool.false_eq_true, Nat.add_zero, Nat.zero_add, Nat.reduceEqDiff, Nat.reduceSub, w_X7_signHere, w_X8_addSign]
        refine ⟨fun q => absurd q (by rw [z_l6]; exact nI_ge (by omega) (by omega)), fun _ => ⟨h2.1, n, bt, pl', h2, h3, h4, by omega, ?_⟩⟩
        cases hl : sgO n bt pl' with
        | none =>
          rw [hl] at he
          refine ⟨fun _ => hQ2 τ ?_, fun q => absurd rfl q⟩
          rw [← he]
          exact hR3
        | some a =>
          have ha := sgO_lt hl
          rw [hl] at he
          refine ⟨fun q => absurd q (z_m9 (by omega)), fun _ => ⟨h2.1, n, bt, pl', h2, h3, h4, by omega, h6.1.1, T', tS T' - 1, a, h6, by omega, by omega, by rw [hl]; rfl, ha.1, fun σ' hf' hT' => ?_⟩⟩
          have hR4 := hR3.town hp hf' hT'
          refine ⟨hR4.2.1.1, ?_⟩
          rw [hR4.2.2.2.1, nI_i3, nI_i3]
          refine ⟨hR4.2.1.1, ih (i + 1) (pl' + 1) (addSn T' a) _ (by omega) hS1 hS4 ?_ (hR4.next hp ha.2) he⟩
          show va_up (tL T') (tS T' - 1) (tL T' (tS T' - 1) + 1) (tS T' - 1) = i + 1
          unfold va_up
          rw [if_pos rfl]
          omega
    refine key 6 0 (pl + 1) (addSg T) σ' rfl (by show 1 ≤ tS T + 1; omega) (by show tS T + 1 ≤ 4; omega) ?_ hR2 rfl
    show va_up (tL T) (tS T) 0 (tS T + 1 - 1) = 0
    unfold va_up
    rw [if_pos (by omega)]
