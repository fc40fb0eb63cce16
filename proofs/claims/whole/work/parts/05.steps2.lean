section STEPS2
variable {C : ZC} {own : String} {cc : ByteArray} {nL d pc : Nat} {k kt kf : PT}
def x_iadd (k : PT) : PT := fun L st σ => match st with
  | .int y :: .int x :: r => k L (.int (x + y) :: r) σ
  | _ => False
theorem s_iadd (hC : CF C own cc nL d) (hd : decode cc pc = .ok (.iadd, 1)) (h : Sound C (pc + 1) k) : Sound C pc (x_iadd k) := by
  intro L st σ hk
  unfold x_iadd at hk
  split at hk
  next y x r =>
    have h1 := h _ _ _ hk
    obtain ⟨l, D, cA, b, p, e, R, s, m, args, below, meth, c, cells, slots, Q⟩ := C
    obtain ⟨hx, hb, hml, hown, hts, hK, hbs, -⟩ := hC
    intro H locs ls hP hS hl
    exact lv_iadd hx hb hd (h1 H locs ls hP hS hl)
  next => exact hk.elim
def x_isub (k : PT) : PT := fun L st σ => match st with
  | .int y :: .int x :: r => k L (.int (x - y) :: r) σ
  | _ => False
theorem s_isub (hC : CF C own cc nL d) (hd : decode cc pc = .ok (.isub, 1)) (h : Sound C (pc + 1) k) : Sound C pc (x_isub k) := by
  intro L st σ hk
  unfold x_isub at hk
  split at hk
  next y x r =>
    have h1 := h _ _ _ hk
    obtain ⟨l, D, cA, b, p, e, R, s, m, args, below, meth, c, cells, slots, Q⟩ := C
    obtain ⟨hx, hb, hml, hown, hts, hK, hbs, -⟩ := hC
    intro H locs ls hP hS hl
    exact lv_isub hx hb hd (h1 H locs ls hP hS hl)
  next => exact hk.elim
def x_imul (k : PT) : PT := fun L st σ => match st with
  | .int y :: .int x :: r => k L (.int (x * y) :: r) σ
  | _ => False
theorem s_imul (hC : CF C own cc nL d) (hd : decode cc pc = .ok (.imul, 1)) (h : Sound C (pc + 1) k) : Sound C pc (x_imul k) := by
  intro L st σ hk
  unfold x_imul at hk
  split at hk
  next y x r =>
    have h1 := h _ _ _ hk
    obtain ⟨l, D, cA, b, p, e, R, s, m, args, below, meth, c, cells, slots, Q⟩ := C
    obtain ⟨hx, hb, hml, hown, hts, hK, hbs, -⟩ := hC
    intro H locs ls hP hS hl
    exact lv_imul hx hb hd (h1 H locs ls hP hS hl)
  next => exact hk.elim
def x_iand (k : PT) : PT := fun L st σ => match st with
  | .int y :: .int x :: r => k L (.int (x &&& y) :: r) σ
  | _ => False
theorem s_iand (hC : CF C own cc nL d) (hd : decode cc pc = .ok (.iand, 1)) (h : Sound C (pc + 1) k) : Sound C pc (x_iand k) := by
  intro L st σ hk
  unfold x_iand at hk
  split at hk
  next y x r =>
    have h1 := h _ _ _ hk
    obtain ⟨l, D, cA, b, p, e, R, s, m, args, below, meth, c, cells, slots, Q⟩ := C
    obtain ⟨hx, hb, hml, hown, hts, hK, hbs, -⟩ := hC
    intro H locs ls hP hS hl
    exact lv_iand hx hb hd (h1 H locs ls hP hS hl)
  next => exact hk.elim
def x_ior (k : PT) : PT := fun L st σ => match st with
  | .int y :: .int x :: r => k L (.int (x ||| y) :: r) σ
  | _ => False
theorem s_ior (hC : CF C own cc nL d) (hd : decode cc pc = .ok (.ior, 1)) (h : Sound C (pc + 1) k) : Sound C pc (x_ior k) := by
  intro L st σ hk
  unfold x_ior at hk
  split at hk
  next y x r =>
    have h1 := h _ _ _ hk
    obtain ⟨l, D, cA, b, p, e, R, s, m, args, below, meth, c, cells, slots, Q⟩ := C
    obtain ⟨hx, hb, hml, hown, hts, hK, hbs, -⟩ := hC
    intro H locs ls hP hS hl
    exact lv_ior hx hb hd (h1 H locs ls hP hS hl)
  next => exact hk.elim
def x_ixor (k : PT) : PT := fun L st σ => match st with
  | .int y :: .int x :: r => k L (.int (x ^^^ y) :: r) σ
  | _ => False
theorem s_ixor (hC : CF C own cc nL d) (hd : decode cc pc = .ok (.ixor, 1)) (h : Sound C (pc + 1) k) : Sound C pc (x_ixor k) := by
  intro L st σ hk
  unfold x_ixor at hk
  split at hk
  next y x r =>
    have h1 := h _ _ _ hk
    obtain ⟨l, D, cA, b, p, e, R, s, m, args, below, meth, c, cells, slots, Q⟩ := C
    obtain ⟨hx, hb, hml, hown, hts, hK, hbs, -⟩ := hC
    intro H locs ls hP hS hl
    exact lv_ixor hx hb hd (h1 H locs ls hP hS hl)
  next => exact hk.elim
def x_ishl (k : PT) : PT := fun L st σ => match st with
  | .int y :: .int x :: r => k L (.int (x <<< (y &&& 31)) :: r) σ
  | _ => False
theorem s_ishl (hC : CF C own cc nL d) (hd : decode cc pc = .ok (.ishl, 1)) (h : Sound C (pc + 1) k) : Sound C pc (x_ishl k) := by
  intro L st σ hk
  unfold x_ishl at hk
  split at hk
  next y x r =>
    have h1 := h _ _ _ hk
    obtain ⟨l, D, cA, b, p, e, R, s, m, args, below, meth, c, cells, slots, Q⟩ := C
    obtain ⟨hx, hb, hml, hown, hts, hK, hbs, -⟩ := hC
    intro H locs ls hP hS hl
    exact lv_ishl hx hb hd (h1 H locs ls hP hS hl)
  next => exact hk.elim
def x_ishr (k : PT) : PT := fun L st σ => match st with
  | .int y :: .int x :: r => k L (.int (x >>> (y &&& 31)) :: r) σ
  | _ => False
theorem s_ishr (hC : CF C own cc nL d) (hd : decode cc pc = .ok (.ishr, 1)) (h : Sound C (pc + 1) k) : Sound C pc (x_ishr k) := by
  intro L st σ hk
  unfold x_ishr at hk
  split at hk
  next y x r =>
    have h1 := h _ _ _ hk
    obtain ⟨l, D, cA, b, p, e, R, s, m, args, below, meth, c, cells, slots, Q⟩ := C
    obtain ⟨hx, hb, hml, hown, hts, hK, hbs, -⟩ := hC
    intro H locs ls hP hS hl
    exact lv_ishr hx hb hd (h1 H locs ls hP hS hl)
  next => exact hk.elim
def x_iushr (k : PT) : PT := fun L st σ => match st with
  | .int y :: .int x :: r => k L (.int ((x.toUInt32 >>> (y.toUInt32 &&& Int32.toUInt32 31)).toInt32) :: r) σ
  | _ => False
theorem s_iushr (hC : CF C own cc nL d) (hd : decode cc pc = .ok (.iushr, 1)) (h : Sound C (pc + 1) k) : Sound C pc (x_iushr k) := by
  intro L st σ hk
  unfold x_iushr at hk
  split at hk
  next y x r =>
    have h1 := h _ _ _ hk
    obtain ⟨l, D, cA, b, p, e, R, s, m, args, below, meth, c, cells, slots, Q⟩ := C
    obtain ⟨hx, hb, hml, hown, hts, hK, hbs, -⟩ := hC
    intro H locs ls hP hS hl
    exact lv_iushr hx hb hd rfl (h1 H locs ls hP hS hl)
  next => exact hk.elim
def x_idiv (k : PT) : PT := fun L st σ => match st with
  | .int y :: .int x :: r => ¬ y = 0 ∧ k L (.int (x / y) :: r) σ
  | _ => False
theorem s_idiv (hC : CF C own cc nL d) (hd : decode cc pc = .ok (.idiv, 1)) (h : Sound C (pc + 1) k) : Sound C pc (x_idiv k) := by
  intro L st σ hk
  unfold x_idiv at hk
  split at hk
  next y x r =>
    obtain ⟨hne, hk⟩ := hk
    have h1 := h _ _ _ hk
    obtain ⟨l, D, cA, b, p, e, R, s, m, args, below, meth, c, cells, slots, Q⟩ := C
    obtain ⟨hx, hb, hml, hown, hts, hK, hbs, -⟩ := hC
    intro H locs ls hP hS hl
    exact lv_idiv hx hb hd hne (h1 H locs ls hP hS hl)
  next => exact hk.elim
def x_irem (k : PT) : PT := fun L st σ => match st with
  | .int y :: .int x :: r => ¬ y = 0 ∧ k L (.int (x - x / y * y) :: r) σ
  | _ => False
theorem s_irem (hC : CF C own cc nL d) (hd : decode cc pc = .ok (.irem, 1)) (h : Sound C (pc + 1) k) : Sound C pc (x_irem k) := by
  intro L st σ hk
  unfold x_irem at hk
  split at hk
  next y x r =>
    obtain ⟨hne, hk⟩ := hk
    have h1 := h _ _ _ hk
    obtain ⟨l, D, cA, b, p, e, R, s, m, args, below, meth, c, cells, slots, Q⟩ := C
    obtain ⟨hx, hb, hml, hown, hts, hK, hbs, -⟩ := hC
    intro H locs ls hP hS hl
    exact lv_irem hx hb hd hne (h1 H locs ls hP hS hl)
  next => exact hk.elim
def x_ladd (k : PT) : PT := fun L st σ => match st with
  | .long y :: .long x :: r => k L (.long (x + y) :: r) σ
  | _ => False
theorem s_ladd (hC : CF C own cc nL d) (hd : decode cc pc = .ok (.ladd, 1)) (h : Sound C (pc + 1) k) : Sound C pc (x_ladd k) := by
  intro L st σ hk
  unfold x_ladd at hk
  split at hk
  next y x r =>
    have h1 := h _ _ _ hk
    obtain ⟨l, D, cA, b, p, e, R, s, m, args, below, meth, c, cells, slots, Q⟩ := C
    obtain ⟨hx, hb, hml, hown, hts, hK, hbs, -⟩ := hC
    intro H locs ls hP hS hl
    exact lv_ladd hx hb hd (h1 H locs ls hP hS hl)
  next => exact hk.elim
def x_land (k : PT) : PT := fun L st σ => match st with
  | .long y :: .long x :: r => k L (.long (x &&& y) :: r) σ
  | _ => False
theorem s_land (hC : CF C own cc nL d) (hd : decode cc pc = .ok (.land, 1)) (h : Sound C (pc + 1) k) : Sound C pc (x_land k) := by
  intro L st σ hk
  unfold x_land at hk
  split at hk
  next y x r =>
    have h1 := h _ _ _ hk
    obtain ⟨l, D, cA, b, p, e, R, s, m, args, below, meth, c, cells, slots, Q⟩ := C
    obtain ⟨hx, hb, hml, hown, hts, hK, hbs, -⟩ := hC
    intro H locs ls hP hS hl
    exact lv_land hx hb hd (h1 H locs ls hP hS hl)
  next => exact hk.elim
def x_lor (k : PT) : PT := fun L st σ => match st with
  | .long y :: .long x :: r => k L (.long (x ||| y) :: r) σ
  | _ => False
theorem s_lor (hC : CF C own cc nL d) (hd : decode cc pc = .ok (.lor, 1)) (h : Sound C (pc + 1) k) : Sound C pc (x_lor k) := by
  intro L st σ hk
  unfold x_lor at hk
  split at hk
  next y x r =>
    have h1 := h _ _ _ hk
    obtain ⟨l, D, cA, b, p, e, R, s, m, args, below, meth, c, cells, slots, Q⟩ := C
    obtain ⟨hx, hb, hml, hown, hts, hK, hbs, -⟩ := hC
    intro H locs ls hP hS hl
    exact lv_lor hx hb hd (h1 H locs ls hP hS hl)
  next => exact hk.elim
def x_lshl (k : PT) : PT := fun L st σ => match st with
  | .int y :: .long x :: r => k L (.long (x <<< (y.toInt64 &&& 63)) :: r) σ
  | _ => False
theorem s_lshl (hC : CF C own cc nL d) (hd : decode cc pc = .ok (.lshl, 1)) (h : Sound C (pc + 1) k) : Sound C pc (x_lshl k) := by
  intro L st σ hk
  unfold x_lshl at hk
  split at hk
  next y x r =>
    have h1 := h _ _ _ hk
    obtain ⟨l, D, cA, b, p, e, R, s, m, args, below, meth, c, cells, slots, Q⟩ := C
    obtain ⟨hx, hb, hml, hown, hts, hK, hbs, -⟩ := hC
    intro H locs ls hP hS hl
    exact lv_lshl hx hb hd rfl (h1 H locs ls hP hS hl)
  next => exact hk.elim
def x_lshr (k : PT) : PT := fun L st σ => match st with
  | .int y :: .long x :: r => k L (.long (x >>> (y.toInt64 &&& 63)) :: r) σ
  | _ => False
theorem s_lshr (hC : CF C own cc nL d) (hd : decode cc pc = .ok (.lshr, 1)) (h : Sound C (pc + 1) k) : Sound C pc (x_lshr k) := by
  intro L st σ hk
  unfold x_lshr at hk
  split at hk
  next y x r =>
    have h1 := h _ _ _ hk
    obtain ⟨l, D, cA, b, p, e, R, s, m, args, below, meth, c, cells, slots, Q⟩ := C
    obtain ⟨hx, hb, hml, hown, hts, hK, hbs, -⟩ := hC
    intro H locs ls hP hS hl
    exact lv_lshr hx hb hd rfl (h1 H locs ls hP hS hl)
  next => exact hk.elim
def x_ineg (k : PT) : PT := fun L st σ => match st with
  | .int x :: r => k L (.int (-x) :: r) σ
  | _ => False
theorem s_ineg (hC : CF C own cc nL d) (hd : decode cc pc = .ok (.ineg, 1)) (h : Sound C (pc + 1) k) : Sound C pc (x_ineg k) := by
  intro L st σ hk
  unfold x_ineg at hk
  split at hk
  next x r =>
    have h1 := h _ _ _ hk
    obtain ⟨l, D, cA, b, p, e, R, s, m, args, below, meth, c, cells, slots, Q⟩ := C
    obtain ⟨hx, hb, hml, hown, hts, hK, hbs, -⟩ := hC
    intro H locs ls hP hS hl
    exact lv_ineg hx hb hd (h1 H locs ls hP hS hl)
  next => exact hk.elim
def x_i2l (k : PT) : PT := fun L st σ => match st with
  | .int x :: r => k L (.long (x.toInt64) :: r) σ
  | _ => False
theorem s_i2l (hC : CF C own cc nL d) (hd : decode cc pc = .ok (.i2l, 1)) (h : Sound C (pc + 1) k) : Sound C pc (x_i2l k) := by
  intro L st σ hk
  unfold x_i2l at hk
  split at hk
  next x r =>
    have h1 := h _ _ _ hk
    obtain ⟨l, D, cA, b, p, e, R, s, m, args, below, meth, c, cells, slots, Q⟩ := C
    obtain ⟨hx, hb, hml, hown, hts, hK, hbs, -⟩ := hC
    intro H locs ls hP hS hl
    exact lv_i2l hx hb hd rfl (h1 H locs ls hP hS hl)
  next => exact hk.elim
def x_l2i (k : PT) : PT := fun L st σ => match st with
  | .long x :: r => k L (.int (x.toInt32) :: r) σ
  | _ => False
theorem s_l2i (hC : CF C own cc nL d) (hd : decode cc pc = .ok (.l2i, 1)) (h : Sound C (pc + 1) k) : Sound C pc (x_l2i k) := by
  intro L st σ hk
  unfold x_l2i at hk
  split at hk
  next x r =>
    have h1 := h _ _ _ hk
    obtain ⟨l, D, cA, b, p, e, R, s, m, args, below, meth, c, cells, slots, Q⟩ := C
    obtain ⟨hx, hb, hml, hown, hts, hK, hbs, -⟩ := hC
    intro H locs ls hP hS hl
    exact lv_l2i hx hb hd rfl (h1 H locs ls hP hS hl)
  next => exact hk.elim
def x_i2b (k : PT) : PT := fun L st σ => match st with
  | .int x :: r => k L (.int (x.toInt8.toInt32) :: r) σ
  | _ => False
theorem s_i2b (hC : CF C own cc nL d) (hd : decode cc pc = .ok (.i2b, 1)) (h : Sound C (pc + 1) k) : Sound C pc (x_i2b k) := by
  intro L st σ hk
  unfold x_i2b at hk
  split at hk
  next x r =>
    have h1 := h _ _ _ hk
    obtain ⟨l, D, cA, b, p, e, R, s, m, args, below, meth, c, cells, slots, Q⟩ := C
    obtain ⟨hx, hb, hml, hown, hts, hK, hbs, -⟩ := hC
    intro H locs ls hP hS hl
    exact lv_i2b hx hb hd rfl (h1 H locs ls hP hS hl)
  next => exact hk.elim
def x_lcmp (k : PT) : PT := fun L st σ => match st with
  | .long y :: .long x :: r => k L (.int (lg_cmp x y) :: r) σ
  | _ => False
theorem s_lcmp (hC : CF C own cc nL d) (hd : decode cc pc = .ok (.lcmp, 1)) (h : Sound C (pc + 1) k) : Sound C pc (x_lcmp k) := by
  intro L st σ hk
  unfold x_lcmp at hk
  split at hk
  next y x r =>
    have h1 := h _ _ _ hk
    obtain ⟨l, D, cA, b, p, e, R, s, m, args, below, meth, c, cells, slots, Q⟩ := C
    obtain ⟨hx, hb, hml, hown, hts, hK, hbs, -⟩ := hC
    intro H locs ls hP hS hl
    exact W.lcmp hx hb hd (h1 H locs ls hP hS hl)
  next => exact hk.elim
def x_dup (k : PT) : PT := fun L st σ => match st with
  | v :: r => v.category = 1 ∧ k L (v :: v :: r) σ
  | _ => False
theorem s_dup (hC : CF C own cc nL d) (hd : decode cc pc = .ok (.dup, 1)) (h : Sound C (pc + 1) k) : Sound C pc (x_dup k) := by
  intro L st σ hk
  unfold x_dup at hk
  split at hk
  next v r =>
    obtain ⟨hc, hk⟩ := hk
    have h1 := h _ _ _ hk
    obtain ⟨l, D, cA, b, p, e, R, s, m, args, below, meth, c, cells, slots, Q⟩ := C
    obtain ⟨hx, hb, hml, hown, hts, hK, hbs, -⟩ := hC
    intro H locs ls hP hS hl
    exact lv_dup hx hb hd (by rw [tv_cat]; exact hc) (h1 H locs ls hP hS hl)
  next => exact hk.elim
def x_dup2 (k : PT) : PT := fun L st σ => match st with
  | v :: w :: r => v.category = 1 ∧ w.category = 1 ∧ k L (v :: w :: v :: w :: r) σ
  | _ => False
theorem s_dup2 (hC : CF C own cc nL d) (hd : decode cc pc = .ok (.dup2, 1)) (h : Sound C (pc + 1) k) : Sound C pc (x_dup2 k) := by
  intro L st σ hk
  unfold x_dup2 at hk
  split at hk
  next v w r =>
    obtain ⟨hc, hc2, hk⟩ := hk
    have h1 := h _ _ _ hk
    obtain ⟨l, D, cA, b, p, e, R, s, m, args, below, meth, c, cells, slots, Q⟩ := C
    obtain ⟨hx, hb, hml, hown, hts, hK, hbs, -⟩ := hC
    intro H locs ls hP hS hl
    exact lv_dup2_11 hx hb hd (by rw [tv_cat]; exact hc) (by rw [tv_cat]; exact hc2) (h1 H locs ls hP hS hl)
  next => exact hk.elim
def x_if_eq (kt kf : PT) : PT := fun L st σ => match st with
  | .int x :: r => (x = 0 → kt L r σ) ∧ (¬ (x = 0) → kf L r σ)
  | _ => False
theorem s_if_eq (hC : CF C own cc nL d) {off : Int} {tgt : Nat} (hd : decode cc pc = .ok (.ifCond .eq off, 3)) (ht : (pc : Int) + off = (tgt : Int)) (h : Sound C tgt kt) (h' : Sound C (pc + 3) kf) : Sound C pc (x_if_eq kt kf) := by
  intro L st σ hk
  unfold x_if_eq at hk
  split at hk
  next x r =>
    obtain ⟨hk1, hk2⟩ := hk
    have h1 := fun q => h _ _ _ (hk1 q)
    have h2 := fun q => h' _ _ _ (hk2 q)
    obtain ⟨l, D, cA, b, p, e, R, s, m, args, below, meth, c, cells, slots, Q⟩ := C
    obtain ⟨hx, hb, hml, hown, hts, hK, hbs, -⟩ := hC
    intro H locs ls hP hS hl
    exact lv_if_eq hx hb hd ht (fun q => h1 q H locs ls hP hS hl) (fun q => h2 q H locs ls hP hS hl)
  next => exact hk.elim
def x_if_ne (kt kf : PT) : PT := fun L st σ => match st with
  | .int x :: r => (¬ x = 0 → kt L r σ) ∧ (x = 0 → kf L r σ)
  | _ => False
theorem s_if_ne (hC : CF C own cc nL d) {off : Int} {tgt : Nat} (hd : decode cc pc = .ok (.ifCond .ne off, 3)) (ht : (pc : Int) + off = (tgt : Int)) (h : Sound C tgt kt) (h' : Sound C (pc + 3) kf) : Sound C pc (x_if_ne kt kf) := by
  intro L st σ hk
  unfold x_if_ne at hk
  split at hk
  next x r =>
    obtain ⟨hk1, hk2⟩ := hk
    have h1 := fun q => h _ _ _ (hk1 q)
    have h2 := fun q => h' _ _ _ (hk2 q)
    obtain ⟨l, D, cA, b, p, e, R, s, m, args, below, meth, c, cells, slots, Q⟩ := C
    obtain ⟨hx, hb, hml, hown, hts, hK, hbs, -⟩ := hC
    intro H locs ls hP hS hl
    exact lv_if_ne hx hb hd ht (fun q => h1 q H locs ls hP hS hl) (fun q => h2 q H locs ls hP hS hl)
  next => exact hk.elim
def x_if_lt (kt kf : PT) : PT := fun L st σ => match st with
  | .int x :: r => (x < 0 → kt L r σ) ∧ (¬ (x < 0) → kf L r σ)
  | _ => False
theorem s_if_lt (hC : CF C own cc nL d) {off : Int} {tgt : Nat} (hd : decode cc pc = .ok (.ifCond .lt off, 3)) (ht : (pc : Int) + off = (tgt : Int)) (h : Sound C tgt kt) (h' : Sound C (pc + 3) kf) : Sound C pc (x_if_lt kt kf) := by
  intro L st σ hk
  unfold x_if_lt at hk
  split at hk
  next x r =>
    obtain ⟨hk1, hk2⟩ := hk
    have h1 := fun q => h _ _ _ (hk1 q)
    have h2 := fun q => h' _ _ _ (hk2 q)
    obtain ⟨l, D, cA, b, p, e, R, s, m, args, below, meth, c, cells, slots, Q⟩ := C
    obtain ⟨hx, hb, hml, hown, hts, hK, hbs, -⟩ := hC
    intro H locs ls hP hS hl
    exact lv_if_lt hx hb hd ht (fun q => h1 q H locs ls hP hS hl) (fun q => h2 q H locs ls hP hS hl)
  next => exact hk.elim
def x_if_ge (kt kf : PT) : PT := fun L st σ => match st with
  | .int x :: r => (0 ≤ x → kt L r σ) ∧ (¬ (0 ≤ x) → kf L r σ)
  | _ => False
theorem s_if_ge (hC : CF C own cc nL d) {off : Int} {tgt : Nat} (hd : decode cc pc = .ok (.ifCond .ge off, 3)) (ht : (pc : Int) + off = (tgt : Int)) (h : Sound C tgt kt) (h' : Sound C (pc + 3) kf) : Sound C pc (x_if_ge kt kf) := by
  intro L st σ hk
  unfold x_if_ge at hk
  split at hk
  next x r =>
    obtain ⟨hk1, hk2⟩ := hk
    have h1 := fun q => h _ _ _ (hk1 q)
    have h2 := fun q => h' _ _ _ (hk2 q)
    obtain ⟨l, D, cA, b, p, e, R, s, m, args, below, meth, c, cells, slots, Q⟩ := C
    obtain ⟨hx, hb, hml, hown, hts, hK, hbs, -⟩ := hC
    intro H locs ls hP hS hl
    exact lv_if_ge hx hb hd ht (fun q => h1 q H locs ls hP hS hl) (fun q => h2 q H locs ls hP hS hl)
  next => exact hk.elim
def x_if_gt (kt kf : PT) : PT := fun L st σ => match st with
  | .int x :: r => (0 < x → kt L r σ) ∧ (¬ (0 < x) → kf L r σ)
  | _ => False
theorem s_if_gt (hC : CF C own cc nL d) {off : Int} {tgt : Nat} (hd : decode cc pc = .ok (.ifCond .gt off, 3)) (ht : (pc : Int) + off = (tgt : Int)) (h : Sound C tgt kt) (h' : Sound C (pc + 3) kf) : Sound C pc (x_if_gt kt kf) := by
  intro L st σ hk
  unfold x_if_gt at hk
  split at hk
  next x r =>
    obtain ⟨hk1, hk2⟩ := hk
    have h1 := fun q => h _ _ _ (hk1 q)
    have h2 := fun q => h' _ _ _ (hk2 q)
    obtain ⟨l, D, cA, b, p, e, R, s, m, args, below, meth, c, cells, slots, Q⟩ := C
    obtain ⟨hx, hb, hml, hown, hts, hK, hbs, -⟩ := hC
    intro H locs ls hP hS hl
    exact lv_if_gt hx hb hd ht (fun q => h1 q H locs ls hP hS hl) (fun q => h2 q H locs ls hP hS hl)
  next => exact hk.elim
def x_if_le (kt kf : PT) : PT := fun L st σ => match st with
  | .int x :: r => (x ≤ 0 → kt L r σ) ∧ (¬ (x ≤ 0) → kf L r σ)
  | _ => False
theorem s_if_le (hC : CF C own cc nL d) {off : Int} {tgt : Nat} (hd : decode cc pc = .ok (.ifCond .le off, 3)) (ht : (pc : Int) + off = (tgt : Int)) (h : Sound C tgt kt) (h' : Sound C (pc + 3) kf) : Sound C pc (x_if_le kt kf) := by
  intro L st σ hk
  unfold x_if_le at hk
  split at hk
  next x r =>
    obtain ⟨hk1, hk2⟩ := hk
    have h1 := fun q => h _ _ _ (hk1 q)
    have h2 := fun q => h' _ _ _ (hk2 q)
    obtain ⟨l, D, cA, b, p, e, R, s, m, args, below, meth, c, cells, slots, Q⟩ := C
    obtain ⟨hx, hb, hml, hown, hts, hK, hbs, -⟩ := hC
    intro H locs ls hP hS hl
    exact lv_if_le hx hb hd ht (fun q => h1 q H locs ls hP hS hl) (fun q => h2 q H locs ls hP hS hl)
  next => exact hk.elim
def x_ic_eq (kt kf : PT) : PT := fun L st σ => match st with
  | .int y :: .int x :: r => (x = y → kt L r σ) ∧ (¬ (x = y) → kf L r σ)
  | _ => False
theorem s_ic_eq (hC : CF C own cc nL d) {off : Int} {tgt : Nat} (hd : decode cc pc = .ok (.if_icmp .eq off, 3)) (ht : (pc : Int) + off = (tgt : Int)) (h : Sound C tgt kt) (h' : Sound C (pc + 3) kf) : Sound C pc (x_ic_eq kt kf) := by
  intro L st σ hk
  unfold x_ic_eq at hk
  split at hk
  next y x r =>
    obtain ⟨hk1, hk2⟩ := hk
    have h1 := fun q => h _ _ _ (hk1 q)
    have h2 := fun q => h' _ _ _ (hk2 q)
    obtain ⟨l, D, cA, b, p, e, R, s, m, args, below, meth, c, cells, slots, Q⟩ := C
    obtain ⟨hx, hb, hml, hown, hts, hK, hbs, -⟩ := hC
    intro H locs ls hP hS hl
    exact lv_icmp_eq hx hb hd ht (fun q => h1 q H locs ls hP hS hl) (fun q => h2 q H locs ls hP hS hl)
  next => exact hk.elim
def x_ic_ne (kt kf : PT) : PT := fun L st σ => match st with
  | .int y :: .int x :: r => (¬ x = y → kt L r σ) ∧ (x = y → kf L r σ)
  | _ => False
theorem s_ic_ne (hC : CF C own cc nL d) {off : Int} {tgt : Nat} (hd : decode cc pc = .ok (.if_icmp .ne off, 3)) (ht : (pc : Int) + off = (tgt : Int)) (h : Sound C tgt kt) (h' : Sound C (pc + 3) kf) : Sound C pc (x_ic_ne kt kf) := by
  intro L st σ hk
  unfold x_ic_ne at hk
  split at hk
  next y x r =>
    obtain ⟨hk1, hk2⟩ := hk
    have h1 := fun q => h _ _ _ (hk1 q)
    have h2 := fun q => h' _ _ _ (hk2 q)
    obtain ⟨l, D, cA, b, p, e, R, s, m, args, below, meth, c, cells, slots, Q⟩ := C
    obtain ⟨hx, hb, hml, hown, hts, hK, hbs, -⟩ := hC
    intro H locs ls hP hS hl
    exact lv_icmp_ne hx hb hd ht (fun q => h1 q H locs ls hP hS hl) (fun q => h2 q H locs ls hP hS hl)
  next => exact hk.elim
def x_ic_lt (kt kf : PT) : PT := fun L st σ => match st with
  | .int y :: .int x :: r => (x < y → kt L r σ) ∧ (¬ (x < y) → kf L r σ)
  | _ => False
theorem s_ic_lt (hC : CF C own cc nL d) {off : Int} {tgt : Nat} (hd : decode cc pc = .ok (.if_icmp .lt off, 3)) (ht : (pc : Int) + off = (tgt : Int)) (h : Sound C tgt kt) (h' : Sound C (pc + 3) kf) : Sound C pc (x_ic_lt kt kf) := by
  intro L st σ hk
  unfold x_ic_lt at hk
  split at hk
  next y x r =>
    obtain ⟨hk1, hk2⟩ := hk
    have h1 := fun q => h _ _ _ (hk1 q)
    have h2 := fun q => h' _ _ _ (hk2 q)
    obtain ⟨l, D, cA, b, p, e, R, s, m, args, below, meth, c, cells, slots, Q⟩ := C
    obtain ⟨hx, hb, hml, hown, hts, hK, hbs, -⟩ := hC
    intro H locs ls hP hS hl
    exact lv_icmp_lt hx hb hd ht (fun q => h1 q H locs ls hP hS hl) (fun q => h2 q H locs ls hP hS hl)
  next => exact hk.elim
def x_ic_ge (kt kf : PT) : PT := fun L st σ => match st with
  | .int y :: .int x :: r => (y ≤ x → kt L r σ) ∧ (¬ (y ≤ x) → kf L r σ)
  | _ => False
theorem s_ic_ge (hC : CF C own cc nL d) {off : Int} {tgt : Nat} (hd : decode cc pc = .ok (.if_icmp .ge off, 3)) (ht : (pc : Int) + off = (tgt : Int)) (h : Sound C tgt kt) (h' : Sound C (pc + 3) kf) : Sound C pc (x_ic_ge kt kf) := by
  intro L st σ hk
  unfold x_ic_ge at hk
  split at hk
  next y x r =>
    obtain ⟨hk1, hk2⟩ := hk
    have h1 := fun q => h _ _ _ (hk1 q)
    have h2 := fun q => h' _ _ _ (hk2 q)
    obtain ⟨l, D, cA, b, p, e, R, s, m, args, below, meth, c, cells, slots, Q⟩ := C
    obtain ⟨hx, hb, hml, hown, hts, hK, hbs, -⟩ := hC
    intro H locs ls hP hS hl
    exact lv_icmp_ge hx hb hd ht (fun q => h1 q H locs ls hP hS hl) (fun q => h2 q H locs ls hP hS hl)
  next => exact hk.elim
def x_ic_gt (kt kf : PT) : PT := fun L st σ => match st with
  | .int y :: .int x :: r => (y < x → kt L r σ) ∧ (¬ (y < x) → kf L r σ)
  | _ => False
theorem s_ic_gt (hC : CF C own cc nL d) {off : Int} {tgt : Nat} (hd : decode cc pc = .ok (.if_icmp .gt off, 3)) (ht : (pc : Int) + off = (tgt : Int)) (h : Sound C tgt kt) (h' : Sound C (pc + 3) kf) : Sound C pc (x_ic_gt kt kf) := by
  intro L st σ hk
  unfold x_ic_gt at hk
  split at hk
  next y x r =>
    obtain ⟨hk1, hk2⟩ := hk
    have h1 := fun q => h _ _ _ (hk1 q)
    have h2 := fun q => h' _ _ _ (hk2 q)
    obtain ⟨l, D, cA, b, p, e, R, s, m, args, below, meth, c, cells, slots, Q⟩ := C
    obtain ⟨hx, hb, hml, hown, hts, hK, hbs, -⟩ := hC
    intro H locs ls hP hS hl
    exact lv_icmp_gt hx hb hd ht (fun q => h1 q H locs ls hP hS hl) (fun q => h2 q H locs ls hP hS hl)
  next => exact hk.elim
def x_ic_le (kt kf : PT) : PT := fun L st σ => match st with
  | .int y :: .int x :: r => (x ≤ y → kt L r σ) ∧ (¬ (x ≤ y) → kf L r σ)
  | _ => False
theorem s_ic_le (hC : CF C own cc nL d) {off : Int} {tgt : Nat} (hd : decode cc pc = .ok (.if_icmp .le off, 3)) (ht : (pc : Int) + off = (tgt : Int)) (h : Sound C tgt kt) (h' : Sound C (pc + 3) kf) : Sound C pc (x_ic_le kt kf) := by
  intro L st σ hk
  unfold x_ic_le at hk
  split at hk
  next y x r =>
    obtain ⟨hk1, hk2⟩ := hk
    have h1 := fun q => h _ _ _ (hk1 q)
    have h2 := fun q => h' _ _ _ (hk2 q)
    obtain ⟨l, D, cA, b, p, e, R, s, m, args, below, meth, c, cells, slots, Q⟩ := C
    obtain ⟨hx, hb, hml, hown, hts, hK, hbs, -⟩ := hC
    intro H locs ls hP hS hl
    exact lv_icmp_le hx hb hd ht (fun q => h1 q H locs ls hP hS hl) (fun q => h2 q H locs ls hP hS hl)
  next => exact hk.elim
theorem s_goto (hC : CF C own cc nL d) {off : Int} {tgt : Nat} (hd : decode cc pc = .ok (.goto off, 3)) (ht : (pc : Int) + off = (tgt : Int)) (h : Sound C tgt k) : Sound C pc k := by
  intro L st σ hk
  have h1 := h _ _ _ hk
  obtain ⟨l, D, cA, b, p, e, R, s, m, args, below, meth, c, cells, slots, Q⟩ := C
  obtain ⟨hx, hb, hml, hown, hts, hK, hbs, -⟩ := hC
  intro H locs ls hP hS hl
  exact lv_goto hx hb hd ht (h1 H locs ls hP hS hl)
end STEPS2
