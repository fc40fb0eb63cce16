/-- one below, for counting down -/
def dn (r : Nat) : Int32 := nI r - 1
theorem dn_0 : dn 0 < 0 := by decide
theorem dn_s (r : Nat) : dn (r + 1) = nI r := pk_sub (b := 1) (by omega)
theorem dn_dec (r : Nat) : nI r + -1 = dn r := by
  unfold dn
  rw [Int32.sub_eq_add_neg]
theorem dn_def (r : Nat) : nI r - 1 = dn r := rfl
def wsh (v : Int64) (i : Nat) : Int64 := v >>> ((8 * nI i).toInt64 &&& 63)
def byN (v : Int64) (i : Nat) : Nat := (wsh v i).toBitVec.toNat % 256
theorem byN_lt (v : Int64) (i : Nat) : byN v i < 256 := Nat.mod_lt _ (by decide)
theorem by_cls (w : Int64) : w.toInt32.toInt8.toInt32 = bsx (w.toBitVec.toNat % 256) := by
  unfold bsx
  congr 1
  apply Int8.toBitVec_inj.1
  apply BitVec.eq_of_toNat_eq
  rw [Int32.toBitVec_toInt8, Int32.toBitVec_toInt8, Int64.toBitVec_toInt32, BitVec.signExtend_eq_setWidth_of_le _ (by decide), BitVec.signExtend_eq_setWidth_of_le _ (by decide), BitVec.signExtend_eq_setWidth_of_le _ (by decide)]
  rw [BitVec.toNat_setWidth, BitVec.toNat_setWidth, BitVec.toNat_setWidth]
  show _ = (BitVec.ofNat 32 (w.toBitVec.toNat % 256)).toNat % 2 ^ 8
  rw [BitVec.toNat_ofNat]
  omega
theorem by_mod (w : Int64) : (w &&& 255).toInt32 = nI (w.toBitVec.toNat % 256) := by
  apply Int32.toBitVec_inj.1
  apply BitVec.eq_of_toNat_eq
  rw [Int64.toBitVec_toInt32, BitVec.signExtend_eq_setWidth_of_le _ (by decide), BitVec.toNat_setWidth, Int64.toBitVec_and, BitVec.toNat_and]
  show (w.toBitVec.toNat &&& 255) % 2 ^ 32 = (BitVec.ofNat 32 (w.toBitVec.toNat % 256)).toNat
  rw [BitVec.toNat_ofNat, show (255 : Nat) = 2 ^ 8 - 1 from rfl, Nat.and_two_pow_sub_one_eq_mod]
def apB (bt : Nat → Nat) (n m : Nat) (v : Int64) : Nat → Nat := fun k => if k < n then bt k else byN v (n + m - 1 - k)
def FrA (σ σ' : ZS) (p : Nat) : Prop := Fr σ σ' p (p + 2)
def w_X7_append : WPt := fun args σ Q => match args with
  | [.ref p, .int x, .long v] => ∃ (n : Nat) (bt : Nat → Nat) (m : Nat), TextS σ p ∧ TextV σ p n bt ∧ x = nI m ∧ 1 ≤ m ∧ m ≤ 8 ∧ n + m ≤ 96 ∧ ∀ σ', FrA σ σ' p → TextS σ' p → TextV σ' p (n + m) (apB bt n m v) → Q none σ'
  | _ => False
set_option maxHeartbeats 1000000 in
theorem m_X7_append : Meets yX7_append cX7_append 5 none 1 w_X7_append := by
  refine Meets.mk (by decide) fun args σ Φ h => ?_
  unfold w_X7_append at h
  split at h
  rotate_left
  · exact h.elim
  rename_i p x v
  obtain ⟨p, rfl⟩ : ∃ q : Nat, q = p := ⟨p, rfl⟩
  obtain ⟨n, bt, m, hS, hV, rfl, hm1, hm8, hnm, hQ⟩ := h
  refine ⟨Nat.le_of_ble_eq_true rfl, fun C hC hR => ?_⟩
  refine r_X7_append_0 hC hR _ _ _ ?_
  simp only [T_X7_append_0, x_psh, x_ild, x_lld, x_ald, x_ist, x_ast, x_lst, x_inc, x_iadd, x_isub, x_imul, x_iand, x_ior, x_ixor, x_ishl, x_ishr, x_iushr, x_idiv, x_irem, x_ladd, x_land, x_lor, x_lshl, x_lshr, x_ineg, x_i2l, x_l2i, x_i2b, x_lcmp, x_dup, x_dup2, x_if_eq, x_if_ne, x_if_lt, x_if_ge, x_if_gt, x_if_le, x_ic_eq, x_ic_ne, x_ic_lt, x_ic_ge, x_ic_gt, x_ic_le, x_getI, x_getR, x_putI, x_putZ, x_putR, x_iald, x_bald, x_lald, x_iast, x_bast, x_last, x_alen, x_acp, x_mmax, x_mmin, x_callV, x_callS, x_iret, x_zret, x_lret, x_aret, x_vret, x_tsw, x_stop, zst1, zst2, zkill, zkl, zsplit, zmask, zent, zentL, List.getElem?_cons_zero, List.getElem?_cons_succ, List.set_cons_zero, List.set_cons_succ, List.set_nil, List.length_cons, List.length_nil, List.replicate, List.nil_append, List.cons_append, List.map_cons, List.map_nil, List.sum_cons, List.sum_nil, Value.category, Option.toList, List.contains_cons, List.contains_nil, true_or, or_true, true_and, Nat.zero_le, Nat.reduceAdd, Nat.reduceLeDiff, Nat.reduceLT, Nat.reduceBEq, Bool.true_or, Bool.or_true, Bool.false_or, Bool.or_false, ↓reduceIte, Bool.false_eq_true, Nat.add_zero, Nat.zero_add, Nat.reduceEqDiff, Nat.reduceSub]
  have key : ∀ r j : Nat, r + j = m → ∀ τ, FrA σ τ p → TextS τ p → TextV τ p (n + j) (apB bt n m v) → WW C 5 [some (.ref p), none, some (.long v), none, some (.int (dn r))] [] τ := by
    intro r
    induction r with
    | zero =>
      intro j hj τ hf hs hv
      refine r_X7_append_5 hC hR _ _ _ ?_
      simp only [T_X7_append_5, x_psh, x_ild, x_lld, x_ald, x_ist, x_ast, x_lst, x_inc, x_iadd, x_isub, x_imul, x_iand, x_ior, x_ixor, x_ishl, x_ishr, x_iushr, x_idiv, x_irem, x_ladd, x_land, x_lor, x_lshl, x_lshr, x_ineg, x_i2l, x_l2i, x_i2b, x_lcmp, x_dup, x_dup2, x_if_eq, x_if_ne, x_if_lt, x_if_ge, x_if_gt, x_if_le, x_ic_eq, x_ic_ne, x_ic_lt, x_ic_ge, x_ic_gt, x_ic_le, x_getI, x_getR, x_putI, x_putZ, x_putR, x_iald, x_bald, x_lald, x_iast, x_bast, x_last, x_alen, x_acp, x_mmax, x_mmin, x_callV, x_callS, x_iret, x_zret, x_lret, x_aret, x_vret, x_tsw, x_stop, zst1, zst2, zkill, zkl, zsplit, zmask, zent, zentL, List.getElem?_cons_zero, List.getElem?_cons_succ, List.set_cons_zero, List.set_cons_succ, List.set_nil, List.length_cons, List.length_nil, List.replicate, List.nil_append, List.cons_append, List.map_cons, List.map_nil, List.sum_cons, List.sum_nil, Value.category, Option.toList, List.contains_cons, List.contains_nil, true_or, or_true, true_and, Nat.zero_le, Nat.reduceAdd, Nat.reduceLeDiff, Nat.reduceLT, Nat.reduceBEq, Bool.true_or, Bool.or_true, Bool.false_or, Bool.or_false, ↓reduceIte, Bool.false_eq_true, Nat.add_zero, Nat.zero_add, Nat.reduceEqDiff, Nat.reduceSub]
      refine ⟨fun _ => hQ τ hf hs (by rw [show n + m = n + j by omega]; exact hv), fun q => absurd dn_0 q⟩
    | succ r ih =>
      intro j hj τ hf hs hv
      have ⟨s1, s2, s3⟩ := hs
      have ⟨v1, v2, v3⟩ := hv
      rw [dn_s]
      refine r_X7_append_5 hC hR _ _ _ ?_
      simp only [T_X7_append_5, x_psh, x_ild, x_lld, x_ald, x_ist, x_ast, x_lst, x_inc, x_iadd, x_isub, x_imul, x_iand, x_ior, x_ixor, x_ishl, x_ishr, x_iushr, x_idiv, x_irem, x_ladd, x_land, x_lor, x_lshl, x_lshr, x_ineg, x_i2l, x_l2i, x_i2b, x_lcmp, x_dup, x_dup2, x_if_eq, x_if_ne, x_if_lt, x_if_ge, x_if_gt, x_if_le, x_ic_eq, x_ic_ne, x_ic_lt, x_ic_ge, x_ic_gt, x_ic_le, x_getI, x_getR, x_putI, x_putZ, x_putR, x_iald, x_bald, x_lald, x_iast, x_bast, x_last, x_alen, x_acp, x_mmax, x_mmin, x_callV, x_callS, x_iret, x_zret, x_lret, x_aret, x_vret, x_tsw, x_stop, zst1, zst2, zkill, zkl, zsplit, zmask, zent, zentL, List.getElem?_cons_zero, List.getElem?_cons_succ, List.set_cons_zero, List.set_cons_succ, List.set_nil, List.length_cons, List.length_nil, List.replicate, List.nil_append, List.cons_append, List.map_cons, List.map_nil, List.sum_cons, List.sum_nil, Value.category, Option.toList, List.contains_cons, List.contains_nil, true_or, or_true, true_and, Nat.zero_le, Nat.reduceAdd, Nat.reduceLeDiff, Nat.reduceLT, Nat.reduceBEq, Bool.true_or, Bool.or_true, Bool.false_or, Bool.or_false, ↓reduceIte, Bool.false_eq_true, Nat.add_zero, Nat.zero_add, Nat.reduceEqDiff, Nat.reduceSub, s1, s3, v1, zd_sI]
      refine ⟨fun q => absurd q (nI_pos (by omega)), fun _ => ⟨fun q => absurd q (by rw [z_l96]; exact nI_ge (by omega) (by omega)), fun _ => ⟨by omega, 96, Or.inl ⟨s2, by show Int8.toInt32 (Int32.toInt8 (Int8.toInt32 _)) = _; rw [Int8.toInt8_toInt32]⟩, vp_in_nI (by omega) (by omega), ?_⟩⟩⟩
      rw [nI_clamp (by omega), zI_sI, if_neg (by omega), v1, nI_i3, dn_dec]
      refine ih (j + 1) (by omega) _ ((Fr.sI (Fr.sI hf (by omega) (by omega)) (by omega) (by omega))) (hs.of rfl rfl) ⟨?_, by omega, fun k hk => ?_⟩
      · rw [zI_sI, if_pos rfl, pk_us]; rfl
      · rw [zI_sI, if_neg (by omega), zI_sI, if_pos rfl]
        by_cases e : k = n + j
        · subst e
          rw [pk_us]
          unfold apB
          rw [if_neg (by omega), show n + m - 1 - (n + j) = r by omega]
          exact ⟨by_cls (wsh v r), byN_lt _ _⟩
        · rw [pk_un e]
          exact v3 k (by omega)
  exact key m 0 (by omega) σ (Fr.refl _ _ _) hS ⟨hV.1, by omega, fun k hk => by
    unfold apB
    rw [if_pos (by omega)]
    exact hV.2.2 k (by omega)⟩
theorem pDo_pl {n : Nat} {bt : Nat → Nat} : ∀ f pl T, pl ≤ n → (pDo n bt f pl T).1 ≤ n
  | 0, pl, T, h => h
  | f + 1, pl, T, h => by
    rw [pDo]
    split
    · exact h
    next a ha => exact pDo_pl f (pl + 1) _ (by have := ltO_lt ha; omega)
theorem pSn_pl {n : Nat} {bt : Nat → Nat} : ∀ f pl T, pl ≤ n → (pSn n bt f pl T).1 ≤ n
  | 0, pl, T, h => h
  | f + 1, pl, T, h => by
    rw [pSn]
    split
    · exact h
    next a ha => exact pSn_pl f (pl + 1) _ (by have := sgO_lt ha; omega)
theorem pSt_pl {n : Nat} {bt : Nat → Nat} {pl : Nat} {T : TD} (h : pl < n) : (pSt n bt pl T).2.1 ≤ n := by
  unfold pSt
  split
  · show pl ≤ n; omega
  · split
    · show pl + 1 ≤ n; omega
    next a ha =>
      have := drO_lt ha
      split
      · show pl + 1 ≤ n; omega
      · split
        · show pl + 2 ≤ n; omega
        next b hb =>
          have := drO_lt hb
          split
          · show pl + 2 ≤ n; omega
          · split
            · show pl + 2 ≤ n; omega
            · show pl + 3 ≤ n; omega
theorem pSo_pl {n : Nat} {bt : Nat → Nat} {pl : Nat} {T : TD} (h : pl < n) : (pSo n bt pl T).2.1 ≤ n := by
  unfold pSo
  split
  · show pl ≤ n; omega
  · split
    · show pl + 1 ≤ n; omega
    · exact pSn_pl 6 _ _ (by omega)
theorem pOn_pl {n : Nat} {bt : Nat → Nat} {pl : Nat} {T : TD} (h : pl < n) : (pOn n bt pl T).2.1 ≤ n := by
  unfold pOn
  split
  · exact pSt_pl h
  · exact pSo_pl h
theorem pPa_pl {n : Nat} {bt : Nat → Nat} : ∀ f pl T p, pl ≤ n → (pPa n bt f pl T).1 = some p → p ≤ n
  | 0, pl, T, p, h, e => by cases e
  | f + 1, pl, T, p, h, e => by
    rw [pPa] at e
    split at e
    · cases e
    · have hl := pOn_pl (bt := bt) (T := T) (show pl < n by omega)
      split at e
      · exact pPa_pl f _ _ p hl e
      · have := Option.some.inj e
        omega
theorem pRd_pl {n p : Nat} {bt : Nat → Nat} (hn : n ≤ 96) (h : (pRd n bt).1 = some p) : p ≤ 96 := by
  unfold pRd at h
  split at h
  next hb =>
    have hn0 : 0 < n := by
      unfold bhO at hb
      split at hb
      · assumption
      · cases hb
    have := pDo_pl (bt := bt) 12 1 td0 hn0
    split at h
    · have := Option.some.inj h; omega
    · have := pPa_pl _ _ _ p this h; omega
  · have := Option.some.inj h; omega
