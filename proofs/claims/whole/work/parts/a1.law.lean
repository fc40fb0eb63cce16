/-! THE LAW: its script, its end -/
def LwS (C : ZC) (Ln : Nat) (xs : Nat → Int32) : Prop := match C with
  | (l, D, cA, b, p, e, R, s, m, args, below, meth, c, cells, slots, Q) => va_X b.2 Ln xs s s.heap ∧ b.2 < s.heap.size ∧ ¬ b.1 < b.2
def LwQ (C : ZC) : Prop := match C with
  | (l, D, cA, b, p, e, R, s, m, args, below, meth, c, cells, slots, Q) => R = room_1 ∧ args = #[Value.ref b.2] ∧ Q = lw_Z below #[Value.ref b.2] s ∧ meth.sig.returnType = ret ∧ meth.locks = false ∧ cells ≤ 600000 ∧ slots ≤ 7302250 ∧ s.heap.size = b.1 + 1
def x_sld (Ln : Nat) (xs : Nat → Int32) (k : PT) : PT := fun L st σ => match st with
  | .int x :: .float _ :: r => vp_in x Ln ∧ k L (.int (xs x.toNatClampNeg) :: r) σ
  | _ => False
def x_slen (Ln : Nat) (k : PT) : PT := fun L st σ => match st with
  | .float _ :: r => k L (.int (nI Ln) :: r) σ
  | _ => False
def x_one : PT := fun _ st _ => st = [.int 1]
section LAW
variable {C : ZC} {cc : ByteArray} {own : String} {nL d pc Ln : Nat} {xs : Nat → Int32} {k : PT}
theorem s_sld (hC : CF C own cc nL d) (hX : LwS C Ln xs) (hd : decode cc pc = .ok (.iaload, 1)) (h : Sound C (pc + 1) k) : Sound C pc (x_sld Ln xs k) := by
  intro L st σ hk
  unfold x_sld at hk
  split at hk
  next x y r =>
    obtain ⟨hin, hk⟩ := hk
    have h1 := h _ _ _ hk
    obtain ⟨l, D, cA, b, p, e, R, s, m, args, below, meth, c, cells, slots, Q⟩ := C
    obtain ⟨hx, hb, hml, hown, hts, hK, hbs, -⟩ := hC
    obtain ⟨x1, x2, x3⟩ := hX
    intro H locs ls hP hS hl
    exact va_sld hx hb x1 x2 x3 hS hin hd (h1 H locs ls hP hS hl)
  next => exact hk.elim
theorem s_slen (hC : CF C own cc nL d) (hX : LwS C Ln xs) (hd : decode cc pc = .ok (.arraylength, 1)) (h : Sound C (pc + 1) k) : Sound C pc (x_slen Ln k) := by
  intro L st σ hk
  unfold x_slen at hk
  split at hk
  next y r =>
    have h1 := h _ _ _ hk
    obtain ⟨l, D, cA, b, p, e, R, s, m, args, below, meth, c, cells, slots, Q⟩ := C
    obtain ⟨hx, hb, hml, hown, hts, hK, hbs, -⟩ := hC
    obtain ⟨x1, x2, x3⟩ := hX
    intro H locs ls hP hS hl
    exact va_slen hx hb x1 x2 x3 hS hd (h1 H locs ls hP hS hl)
  next => exact hk.elim
theorem s_one (hC : CF C own code nL d) (hR : LwQ C) (hd : decode code pc = .ok (.ireturn, 1)) : Sound C pc x_one := by
  intro L st σ hk
  have hk : st = [.int 1] := hk
  subst hk
  obtain ⟨l, D, cA, b, p, e, R, s, m, args, below, meth, c, cells, slots, Q⟩ := C
  obtain ⟨hx, hb, hml, hown, hts, hK, hbs, -⟩ := hC
  obtain ⟨rfl, rfl, rfl, r1, r2, r3, r4, r5⟩ := hR
  intro H locs ls hP hS hl
  refine va_forget (fun q hq => by have := hS.2.2 q hq; omega) ?_
  exact W.widen r3 r4 (lw_ret hx hb r1 r2 hd)
theorem CF.ad {k n : Nat} (hC : CF C own cc nL d) (hr : CRm C k n) : CF (CA C k n) own cc nL d := by
  obtain ⟨l, D, cA, b, p, e, R, s, m, args, below, meth, c, cells, slots, Q⟩ := C
  obtain ⟨hx, hb, hml, hown, hts, hK, hbs, hfr, hlo, hce, hsl⟩ := hC
  exact ⟨hx, hb, hml, hown, hts, hK, hbs, hfr, hlo, hr.1, hr.2⟩
theorem LwS.ad {k n : Nat} (hC : LwS C Ln xs) : LwS (CA C k n) Ln xs := by
  obtain ⟨l, D, cA, b, p, e, R, s, m, args, below, meth, c, cells, slots, Q⟩ := C
  exact hC
theorem LwQ.ad {k n : Nat} (hC : LwQ C) (hr : CRm C k n) : LwQ (CA C k n) := by
  obtain ⟨l, D, cA, b, p, e, R, s, m, args, below, meth, c, cells, slots, Q⟩ := C
  obtain ⟨rfl, rfl, rfl, r1, r2, r3, r4, r5⟩ := hC
  exact ⟨rfl, rfl, rfl, r1, r2, hr.1, hr.2, r5⟩
theorem CX.ad {k n : Nat} {σ σ' : ZS} (hC : CX C σ) (hz : zN σ' = zN σ + k) : CX (CA C k n) σ' := by
  obtain ⟨l, D, cA, b, p, e, R, s, m, args, below, meth, c, cells, slots, Q⟩ := C
  have hC : s.heap.size + cells = b.1 + zN σ + 1 := hC
  show s.heap.size + (cells + k) = b.1 + zN σ' + 1
  omega
theorem CRm.ad {k n k' n' : Nat} (hC : CRm C (k' + k) (n' + n)) : CRm (CA C k' n') k n := by
  obtain ⟨l, D, cA, b, p, e, R, s, m, args, below, meth, c, cells, slots, Q⟩ := C
  have hC : cells + (k' + k) ≤ R.cells ∧ slots + (n' + n) ≤ R.slots := hC
  show cells + k' + k ≤ R.cells ∧ slots + n' + n ≤ R.slots
  omega
theorem CRm.le {k n k' n' : Nat} (hC : CRm C k n) (h1 : k' ≤ k) (h2 : n' ≤ n) : CRm C k' n' := by
  obtain ⟨l, D, cA, b, p, e, R, s, m, args, below, meth, c, cells, slots, Q⟩ := C
  have hC : cells + k ≤ R.cells ∧ slots + n ≤ R.slots := hC
  show cells + k' ≤ R.cells ∧ slots + n' ≤ R.slots
  omega
end LAW
theorem lg_self (v : Int64) : lg_cmp v v = 0 := by
  unfold lg_cmp
  have hn : ¬ v > v := fun h => by
    have h : v < v := h
    rw [Int64.lt_iff_toInt_lt] at h
    omega
  rw [if_neg hn, if_pos rfl]
def LwI (C : ZC) (pc i : Nat) : Prop := ∀ (σ : ZS) (A : AD), ClsR σ A → ModR σ A → AOk A → WW C pc [some (.float 0), some (.ref 1), some (.ref 56), some (.int (nI i))] [] σ
