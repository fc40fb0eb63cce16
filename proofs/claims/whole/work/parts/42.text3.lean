/-- one part of the text -/
def pOn (n : Nat) (bt : Nat → Nat) (pl : Nat) (T : TD) : Bool × Nat × TD := if bhO n bt pl = some 87 then pSt n bt pl T else pSo n bt pl T
def pPa (n : Nat) (bt : Nat → Nat) : Nat → Nat → TD → Option Nat × TD
  | 0, _, T => (none, T)
  | f + 1, pl, T => if n ≤ pl then (none, T) else if (pOn n bt pl T).1 = true then pPa n bt f (pOn n bt pl T).2.1 (pOn n bt pl T).2.2 else (some (pOn n bt pl T).2.1, (pOn n bt pl T).2.2)
def td0 : TD := (0, 0, fun _ => 0, fun _ => 0, fun _ => 0, fun _ => 0)
def pRd (n : Nat) (bt : Nat → Nat) : Option Nat × TD :=
  if bhO n bt 0 = some 68 then (if tD (pDo n bt 12 1 td0).2 = 0 then (some (pDo n bt 12 1 td0).1, (pDo n bt 12 1 td0).2) else pPa n bt 96 (pDo n bt 12 1 td0).1 (pDo n bt 12 1 td0).2) else (some 0, td0)
def w_X7_readInto : WPt := fun args σ Q => match args with
  | [.ref p, .ref t] => ∃ (n : Nat) (bt : Nat → Nat) (T0 : TD), apPT p t ∧ TextS σ p ∧ TextV σ p n bt ∧ TownR σ t T0 ∧ ∀ σ' : ZS, FrP σ σ' p t → TextS σ' p → TextV σ' p n bt → TownR σ' t (pRd n bt).2 → Q (some (.int (i2 (pRd n bt).1))) σ'
  | _ => False
set_option maxHeartbeats 4000000 in
theorem m_X7_readInto : Meets yX7_readInto cX7_readInto 4 (some .int) 5 w_X7_readInto := by
  refine Meets.mk (by decide) fun args σ Φ h => ?_
  unfold w_X7_readInto at h
  split at h
  rotate_left
  · exact h.elim
  rename_i p t
  obtain ⟨p, rfl⟩ : ∃ q : Nat, q = p := ⟨p, rfl⟩
  obtain ⟨t, rfl⟩ : ∃ q : Nat, q = t := ⟨t, rfl⟩
  obtain ⟨n, bt, T0, hp, hTS, hTV, hT0, hQ⟩ := h
  unfold apPT at hp
  refine ⟨Nat.le_of_ble_eq_true rfl, fun C hC hR => ?_⟩
  have hQ2 : ∀ o T, pRd n bt = (o, T) → ∀ σ' pl, RdR σ σ' p t n bt pl T → Φ (some (.int (i2 o))) σ' := fun o T e σ' pl hr => by
    rw [e] at hQ
    exact hQ σ' hr.1 hr.2.1 hr.2.2.1 hr.2.2.2.2.2
  unfold pRd at hQ2
  refine r_X7_readInto_0 hC hR m_X8_clear (by decide) m_X7_byteHere (by decide) m_X7_readDoors (by decide) m_X7_readStreet (by decide) m_X7_readSong (by decide) _ _ _ ?_
  simp only [T_X7_readInto_0, x_psh, x_ild, x_lld, x_ald, x_ist, x_ast, x_lst, x_inc, x_iadd, x_isub, x_imul, x_iand, x_ior, x_ixor, x_ishl, x_ishr, x_iushr, x_idiv, x_irem, x_ladd, x_land, x_lor, x_lshl, x_lshr, x_ineg, x_i2l, x_l2i, x_i2b, x_lcmp, x_dup, x_dup2, x_if_eq, x_if_ne, x_if_lt, x_if_ge, x_if_gt, x_if_le, x_ic_eq, x_ic_ne, x_ic_lt, x_ic_ge, x_ic_gt, x_ic_le, x_getI, x_getR, x_putI, x_putZ, x_putR, x_iald, x_bald, x_lald, x_iast, x_bast, x_last, x_alen, x_acp, x_mmax, x_mmin, x_callV, x_callS, x_iret, x_zret, x_lret, x_aret, x_vret, x_tsw, x_stop, zst1, zst2, zkill, zkl, zsplit, zmask, zent, zentL, List.getElem?_cons_zero, List.getElem?_cons_succ, List.set_cons_zero, List.set_cons_succ, List.set_nil, List.length_cons, List.length_nil, List.replicate, List.nil_append, List.cons_append, List.map_cons, List.map_nil, List.sum_cons, List.sum_nil, Value.category, Option.toList, List.contains_cons, List.contains_nil, true_or, or_true, true_and, Nat.zero_le, Nat.reduceAdd, Nat.reduceLeDiff, Nat.reduceLT, Nat.reduceBEq, Bool.true_or, Bool.or_true, Bool.false_or, Bool.or_false, ↓reduceIte, Bool.false_eq_true, Nat.add_zero, Nat.zero_add, Nat.reduceEqDiff, Nat.reduceSub, w_X8_clear, w_X7_byteHere, w_X7_readDoors]
  refine ⟨hT0.1.1, T0, hT0, fun σ1 hf1 hT1 => ?_⟩
  have hR0 : RdR σ (sI σ1 p 2 (nI 0)) p t n bt 0 td0 := by
    have hf2 : Fr σ (sI σ1 p 2 (nI 0)) p (t + 5) := (hf1.mono (by omega) (by omega)).sI (by omega) (by omega)
    refine ⟨hf2, hTS.of hf2.1 hf2.2.1, ?_, by rw [zI_sI, if_pos rfl, pk_us], by omega, ?_⟩
    · refine ⟨?_, hTV.2.1, fun k hk => ?_⟩
      · rw [zI_sI, if_pos rfl, pk_un (by decide), hf1.2.2.1 p (by omega)]; exact hTV.1
      · rw [zI_sI, if_neg (by omega), hf1.2.2.1 (p + 1) (by omega)]
        exact hTV.2.2 k hk
    · have : TownR σ1 t td0 := ⟨hT1.1, hT1.2.1, hT1.2.2.1, by decide, by decide, fun k hk => absurd hk (by simp [td0, tD]), fun k hk => absurd hk (by simp [td0, tD]), fun k hk => absurd hk (by simp [td0, tS]), fun k i hk => absurd hk (by simp [td0, tS])⟩
      exact this.fr (lo := p) (hi := p + 1) ((Fr.refl σ1 _ _).sI (by omega) (by omega)) (by omega)
  have hn96 := hTV.2.1
  rw [show (0 : Int32) = nI 0 from rfl]
  have hzd1 : zd σ1 p = some (0, 4) := by rw [hf1.1]; exact hTS.1
  refine ⟨hzd1, ?_⟩
  generalize sI σ1 p 2 (nI 0) = τ at hR0 ⊢
  have ⟨k1, k2, k3, k4, k5, k6⟩ := hR0
  have hb31 : ∀ pl b, bhO n bt pl = some b → b < 2 ^ 31 := fun pl b h => by have := (bhO_lt hTV h).1; omega
  refine ⟨k2.1, n, bt, 0, k2, k3, k4, by omega, ?_⟩
  rw [z_l68, i2_eq (hb31 0) (by omega)]
  refine ⟨fun q => ?_, fun q => ⟨k2.1, ?_⟩⟩
  rotate_left
  · rw [k4]
    exact hQ2 (some 0) td0 (by rw [if_neg q]) τ 0 hR0
  rw [if_pos q] at hQ2
  have hn0 : 0 < n := (bhO_lt hTV q).2
  have hR1 := hR0.next hp hn0
  refine ⟨k2.1, ?_⟩
  rw [k4, nI_i3]
  generalize sI τ p 2 (nI (0 + 1)) = τ1 at hR1 ⊢
  have ⟨l1, l2, l3, l4, l5, l6⟩ := hR1
  refine ⟨k2.1, l2.1, n, bt, 0 + 1, td0, hp, ⟨Fr.refl _ _ _, l2, l3, l4, l5, l6⟩, rfl, fun σ2 hR2' => ?_⟩
  have hR2 : RdR σ σ2 p t n bt (pDo n bt 12 1 td0).1 (pDo n bt 12 1 td0).2 := ⟨l1.trans hR2'.1, hR2'.2⟩
  clear hR2'
  generalize hpd : pDo n bt 12 1 td0 = r at hR2 hQ2
  obtain ⟨pl0, T⟩ := r
  have ⟨m1, m2, m3, m4, m5, m6⟩ := hR2
  simp only at m4 m5 m6 hQ2 hR2
  refine ⟨m6.1.1, ?_⟩
  rw [m6.2.1, m4]
  have hD := m6.2.2.2.1
  have e0 : (nI (tD T) = nI 0) ↔ tD T = 0 := nI_eq (by omega) (by omega)
  rw [show nI 0 = 0 from rfl] at e0
  rw [show nI 0 = 0 from rfl, e0]
  refine ⟨fun q2 => ?_, fun q2 => ⟨m2.1, ?_⟩⟩
  rotate_left
  · exact hQ2 (some pl0) T (by rw [if_pos (by omega)]) σ2 pl0 hR2
  rw [if_neg q2] at hQ2
  rw [show (0 : Int32) = nI 0 from rfl]
  have key : ∀ (f i pl' : Nat) (T' : TD) (τ : ZS), i + f = 96 → RdR σ τ p t n bt pl' T' → pPa n bt f pl' T' = pPa n bt 96 pl0 T → WW C 52 [some (.ref p), some (.ref t), some (.int (nI i)), none] [] τ := by
    intro f
    induction f with
    | zero =>
      intro i pl' T' τ hi hR3 he
      refine r_X7_readInto_52 hC hR m_X8_clear (by decide) m_X7_byteHere (by decide) m_X7_readDoors (by decide) m_X7_readStreet (by decide) m_X7_readSong (by decide) _ _ _ ?_
      simp only [T_X7_readInto_52, x_psh, x_ild, x_lld, x_ald, x_ist, x_ast, x_lst, x_inc, x_iadd, x_isub, x_imul, x_iand, x_ior, x_ixor, x_ishl, x_ishr, x_iushr, x_idiv, x_irem, x_ladd, x_land, x_lor, x_lshl, x_lshr, x_ineg, x_i2l, x_l2i, x_i2b, x_lcmp, x_dup, x_dup2, x_if_eq, x_if_ne, x_if_lt, x_if_ge, x_if_gt, x_if_le, x_ic_eq, x_ic_ne, x_ic_lt, x_ic_ge, x_ic_gt, x_ic_le, x_getI, x_getR, x_putI, x_putZ, x_putR, x_iald, x_bald, x_lald, x_iast, x_bast, x_last, x_alen, x_acp, x_mmax, x_mmin, x_callV, x_callS, x_iret, x_zret, x_lret, x_aret, x_vret, x_tsw, x_stop, zst1, zst2, zkill, zkl, zsplit, zmask, zent, zentL, List.getElem?_cons_zero, List.getElem?_cons_succ, List.set_cons_zero, List.set_cons_succ, List.set_nil, List.length_cons, List.length_nil, List.replicate, List.nil_append, List.cons_append, List.map_cons, List.map_nil, List.sum_cons, List.sum_nil, Value.category, Option.toList, List.contains_cons, List.contains_nil, true_or, or_true, true_and, Nat.zero_le, Nat.reduceAdd, Nat.reduceLeDiff, Nat.reduceLT, Nat.reduceBEq, Bool.true_or, Bool.or_true, Bool.false_or, Bool.or_false, ↓reduceIte, Bool.false_eq_true, Nat.add_zero, Nat.zero_add, Nat.reduceEqDiff, Nat.reduceSub]
      refine ⟨fun _ => ?_, fun q => absurd (by rw [z_l96]; exact nI_le (by omega) (by omega)) q⟩
      rw [pPa] at he
      exact hQ2 none T' he.symm τ pl' hR3
    | succ f ih =>
      intro i pl' T' τ hi hR3 he
      have ⟨h1, h2, h3, h4, h5, h6⟩ := hR3
      rw [pPa] at he
      refine r_X7_readInto_52 hC hR m_X8_clear (by decide) m_X7_byteHere (by decide) m_X7_readDoors (by decide) m_X7_readStreet (by decide) m_X7_readSong (by decide) _ _ _ ?_
      simp only [T_X7_readInto_52, x_psh, x_ild, x_lld, x_ald, x_ist, x_ast, x_lst, x_inc, x_iadd, x_isub, x_imul, x_iand, x_ior, x_ixor, x_ishl, x_ishr, x_iushr, x_idiv, x_irem, x_ladd, x_land, x_lor, x_lshl, x_lshr, x_ineg, x_i2l, x_l2i, x_i2b, x_lcmp, x_dup, x_dup2, x_if_eq, x_if_ne, x_if_lt, x_if_ge, x_if_gt, x_if_le, x_ic_eq, x_ic_ne, x_ic_lt, x_ic_ge, x_ic_gt, x_ic_le, x_getI, x_getR, x_putI, x_putZ, x_putR, x_iald, x_bald, x_lald, x_iast, x_bast, x_last, x_alen, x_acp, x_mmax, x_mmin, x_callV, x_callS, x_iret, x_zret, x_lret, x_aret, x_vret, x_tsw, x_stop, zst1, zst2, zkill, zkl, zsplit, zmask, zent, zentL, List.getElem?_cons_zero, List.getElem?_cons_succ, List.set_cons_zero, List.set_cons_succ, List.set_nil, List.length_cons, List.length_nil, List.replicate, List.nil_append, List.cons_append, List.map_cons, List.map_nil, List.sum_cons, List.sum_nil, Value.category, Option.toList, List.contains_cons, List.contains_nil, true_or, or_true, true_and, Nat.zero_le, Nat.reduceAdd, Nat.reduceLeDiff, Nat.reduceLT, Nat.reduceBEq, Bool.true_or, Bool.or_true, Bool.false_or, Bool.or_false, ↓reduceIte, Bool.false_eq_true, Nat.add_zero, Nat.zero_add, Nat.reduceEqDiff, Nat.reduceSub, w_X7_byteHere, w_X7_readSong, w_X7_readStreet]
      refine ⟨fun q => absurd q (by rw [z_l96]; exact nI_ge (by omega) (by omega)), fun _ => ⟨h2.1, h2.1, ?_⟩⟩
      rw [h4, h3.1, nI_leI (by omega) (by omega)]
      refine ⟨fun q => ?_, fun q => ⟨h2.1, n, bt, pl', h2, h3, rfl, by omega, ?_⟩⟩
      · rw [if_pos q] at he
        exact hQ2 none T' he.symm τ pl' hR3
      rw [if_neg q] at he
      rw [z_l87, i2_eq (hb31 pl') (by omega)]
      have hR3' : RdR τ τ p t n bt pl' T' := ⟨Fr.refl _ _ _, h2, h3, h4, h5, h6⟩
      refine ⟨fun q3 => ⟨h2.1, n, bt, pl', T', hp, hR3', by omega, fun σ' hR4' => ?_⟩, fun q3 => ⟨h2.1, n, bt, pl', T', hp, hR3', by omega, fun σ' hR4' => ?_⟩⟩
      · have hR4 : RdR σ σ' p t n bt _ _ := ⟨h1.trans hR4'.1, hR4'.2⟩
        clear hR4'
        rw [show pOn n bt pl' T' = pSo n bt pl' T' by unfold pOn; rw [if_neg q3]] at he
        generalize pSo n bt pl' T' = r at hR4 he ⊢
        obtain ⟨rb, rp, rT⟩ := r
        have ⟨j1, j2, j3, j4, j5, j6⟩ := hR4
        cases rb with
        | true =>
          rw [if_pos rfl] at he
          rw [b2i_t rfl, nI_i3]
          exact ⟨fun _ => ih (i + 1) rp rT σ' (by omega) hR4 he, fun q => absurd q (by decide)⟩
        | false =>
          rw [if_neg (by simp)] at he
          rw [b2i_f (by simp)]
          refine ⟨fun q => absurd rfl q, fun _ => ⟨j2.1, ?_⟩⟩
          rw [j4]
          exact hQ2 (some rp) rT he.symm σ' rp hR4
      · have hR4 : RdR σ σ' p t n bt _ _ := ⟨h1.trans hR4'.1, hR4'.2⟩
        clear hR4'
        rw [show pOn n bt pl' T' = pSt n bt pl' T' by unfold pOn; rw [if_pos q3]] at he
        generalize pSt n bt pl' T' = r at hR4 he ⊢
        obtain ⟨rb, rp, rT⟩ := r
        have ⟨j1, j2, j3, j4, j5, j6⟩ := hR4
        cases rb with
        | true =>
          rw [if_pos rfl] at he
          rw [b2i_t rfl, nI_i3]
          exact ⟨fun _ => ih (i + 1) rp rT σ' (by omega) hR4 he, fun q => absurd q (by decide)⟩
        | false =>
          rw [if_neg (by simp)] at he
          rw [b2i_f (by simp)]
          refine ⟨fun q => absurd rfl q, fun _ => ⟨j2.1, ?_⟩⟩
          rw [j4]
          exact hQ2 (some rp) rT he.symm σ' rp hR4
  exact key 96 0 pl0 T σ2 rfl hR2 rfl
