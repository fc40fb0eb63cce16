/-! THE MEMORY'S INSTRUCTIONS -/
def ClsOk (ci : Nat) (Cn : String) (T : u_T) (N : Nat) (ty : Nat → FieldType) : Prop := vwCl[ci]? = some (Cn, T, N) ∧ (∀ w ∈ u_ws Cn T N, w ∈ lw_T) ∧ (∀ k, k < N → parseFieldDescriptor (T k).2.2.1 = some (ty k)) ∧ (∀ a, a < N → ∀ b, b < N → a ≠ b → (T a).2.1 ≠ (T b).2.1) ∧ (zfk ci).length = N
theorem zce_obj {b : Nat × Nat} {cA : Nat → ClassId} {σ : ZS} {i ci : Nat} (h : zK σ i = (0, ci)) : zce b cA σ i = .inr (ci, zfv b σ i 0 (zfk ci)) := by simp only [zce, h]
theorem zce_int {b : Nat × Nat} {cA : Nat → ClassId} {σ : ZS} {i n : Nat} (h : zK σ i = (1, n)) : zce b cA σ i = .inl (cA 0, n, .inl (zI σ i)) := by simp only [zce, h]
theorem zce_byte {b : Nat × Nat} {cA : Nat → ClassId} {σ : ZS} {i n : Nat} (h : zK σ i = (2, n)) : zce b cA σ i = .inl (cA 1, n, .inl (zI σ i)) := by simp only [zce, h]
theorem zce_long {b : Nat × Nat} {cA : Nat → ClassId} {σ : ZS} {i n : Nat} (h : zK σ i = (3, n)) : zce b cA σ i = .inl (cA 2, n, .inr (.inl (zJ σ i))) := by simp only [zce, h]
theorem zce_bool {b : Nat × Nat} {cA : Nat → ClassId} {σ : ZS} {i n : Nat} (h : zK σ i = (4, n)) : zce b cA σ i = .inl (cA 3, n, .inl (zI σ i)) := by simp only [zce, h]
theorem zfv_setI {b : Nat × Nat} {σ : ZS} {i j : Nat} {v : Int32} (l : List Bool) (hj : l[j]? = some false) : zfv b (sI σ i j v) i 0 l = (zfv b σ i 0 l).set j (.int v) := by
  apply List.ext_getElem?
  intro k
  have hl : j < l.length := (List.getElem?_eq_some_iff.mp hj).1
  by_cases hk : j = k
  · subst hk
    rw [List.getElem?_set_self (by rw [zfv_len]; exact hl), zfv_at, hj]
    simp [zI_sI, upd]
  · rw [List.getElem?_set_ne hk, zfv_at, zfv_at]
    have e : upd (zI σ i) j v (0 + k) = zI σ i (0 + k) := pk_un (by omega)
    simp only [zI_sI, zR_sI, if_true, e]
theorem zfv_setR {b : Nat × Nat} {σ : ZS} {i j r : Nat} (l : List Bool) (hj : l[j]? = some true) : zfv b (sR σ i j r) i 0 l = (zfv b σ i 0 l).set j (rvb b r) := by
  apply List.ext_getElem?
  intro k
  have hl : j < l.length := (List.getElem?_eq_some_iff.mp hj).1
  by_cases hk : j = k
  · subst hk
    rw [List.getElem?_set_self (by rw [zfv_len]; exact hl), zfv_at, hj]
    simp [zR_sR, va_up]
  · rw [List.getElem?_set_ne hk, zfv_at, zfv_at]
    have e : va_up (zR σ i) j r (0 + k) = zR σ i (0 + k) := by unfold va_up; rw [if_neg (by omega)]
    simp only [zR_sR, zI_sR, if_true, e]
theorem zce_sI_ne {b : Nat × Nat} {cA : Nat → ClassId} {σ : ZS} {i j a : Nat} {v : Int32} (h : a ≠ i) : zce b cA (sI σ i j v) a = zce b cA σ a := zce_congr rfl (by rw [zI_sI, if_neg h]) rfl rfl
theorem zce_sJ_ne {b : Nat × Nat} {cA : Nat → ClassId} {σ : ZS} {i j a : Nat} {v : Int64} (h : a ≠ i) : zce b cA (sJ σ i j v) a = zce b cA σ a := zce_congr rfl rfl (by rw [zJ_sJ, if_neg h]) rfl
theorem zce_sR_ne {b : Nat × Nat} {cA : Nat → ClassId} {σ : ZS} {i j a r : Nat} (h : a ≠ i) : zce b cA (sR σ i j r) a = zce b cA σ a := zce_congr rfl rfl rfl (by rw [zR_sR, if_neg h])
theorem zce_sIr_ne {b : Nat × Nat} {cA : Nat → ClassId} {σ : ZS} {i a : Nat} {f : Nat → Int32} (h : a ≠ i) : zce b cA (sIr σ i f) a = zce b cA σ a := zce_congr rfl (by rw [zI_sIr, if_neg h]) rfl rfl
section HEAP
variable {C : ZC} {own : String} {cc : ByteArray} {nL d pc : Nat} {k kt kf : PT}
def x_getI (ci j : Nat) (k : PT) : PT := fun L st σ => match st with
  | .ref i :: r => zd σ i = some (0, ci) ∧ k L (.int (zI σ i j) :: r) σ
  | _ => False
def x_getR (ci j : Nat) (k : PT) : PT := fun L st σ => match st with
  | .ref i :: r => zd σ i = some (0, ci) ∧ zR σ i j ≠ 0 ∧ k L (.ref (zR σ i j) :: r) σ
  | _ => False
theorem s_getI (hC : CF C own cc nL d) {idx ci N j : Nat} {Cn : String} {T : u_T} {ty : Nat → FieldType} (hd : decode cc pc = .ok (.getfield idx, 3)) (hk : ClsOk ci Cn T N ty) (hj : (zfk ci)[j]? = some false) (hn : (T j).1 = Cn) (hw : Cond.fieldLink own idx Cn (T j).2.1 (T j).2.2.1 ∈ lw_T) (h : Sound C (pc + 3) k) : Sound C pc (x_getI ci j k) := by
  intro L st σ hk1
  unfold x_getI at hk1
  split at hk1
  next i r =>
    obtain ⟨hz, hk1⟩ := hk1
    have h1 := h _ _ _ hk1
    obtain ⟨c1, c2, c3, c4, c5⟩ := hk
    obtain ⟨l, D, cA, b, p, e, R, s, m, args, below, meth, c, cells, slots, Q⟩ := C
    obtain ⟨hx, hb, hml, hown, hts, hK, hbs, -⟩ := hC
    obtain ⟨g1, g2, g3, g4⟩ := ztw_at (b := b) (cA := cA) hz
    rw [zce_obj g2] at g1
    intro H locs ls hP hS hl
    exact va_get hx hb hts c2 hown hK hP (i - 1) g1 c1 j (by rw [← c5]; exact (List.getElem?_eq_some_iff.mp hj).1) (hts _ hw) (fun x hx => by rw [← hn]; exact hx) (by rw [zfv_at, hj, Nat.zero_add]; rfl) hd (h1 H locs ls hP hS hl)
  next => exact hk1.elim
theorem s_getIN (hC : CF C own cc nL d) {idx ci N j : Nat} {Cn host : String} {T : u_T} {ty : Nat → FieldType} (hd : decode cc pc = .ok (.getfield idx, 3)) (hk : ClsOk ci Cn T N ty) (hj : (zfk ci)[j]? = some false) (hn : (T j).1 = Cn) (hw : Cond.fieldLinkNest own idx Cn (T j).2.1 (T j).2.2.1 host ∈ lw_T) (h : Sound C (pc + 3) k) : Sound C pc (x_getI ci j k) := by
  intro L st σ hk1
  unfold x_getI at hk1
  split at hk1
  next i r =>
    obtain ⟨hz, hk1⟩ := hk1
    have h1 := h _ _ _ hk1
    obtain ⟨c1, c2, c3, c4, c5⟩ := hk
    obtain ⟨l, D, cA, b, p, e, R, s, m, args, below, meth, c, cells, slots, Q⟩ := C
    obtain ⟨hx, hb, hml, hown, hts, hK, hbs, -⟩ := hC
    obtain ⟨g1, g2, g3, g4⟩ := ztw_at (b := b) (cA := cA) hz
    rw [zce_obj g2] at g1
    intro H locs ls hP hS hl
    exact va_getN hx hb hts c2 hown hK hP (i - 1) g1 c1 j (by rw [← c5]; exact (List.getElem?_eq_some_iff.mp hj).1) (hts _ hw) (fun x hx => by rw [← hn]; exact hx) (by rw [zfv_at, hj, Nat.zero_add]; rfl) hd (h1 H locs ls hP hS hl)
  next => exact hk1.elim
theorem s_getR (hC : CF C own cc nL d) {idx ci N j : Nat} {Cn : String} {T : u_T} {ty : Nat → FieldType} (hd : decode cc pc = .ok (.getfield idx, 3)) (hk : ClsOk ci Cn T N ty) (hj : (zfk ci)[j]? = some true) (hn : (T j).1 = Cn) (hw : Cond.fieldLink own idx Cn (T j).2.1 (T j).2.2.1 ∈ lw_T) (h : Sound C (pc + 3) k) : Sound C pc (x_getR ci j k) := by
  intro L st σ hk1
  unfold x_getR at hk1
  split at hk1
  next i r =>
    obtain ⟨hz, hz2, hk1⟩ := hk1
    have h1 := h _ _ _ hk1
    obtain ⟨c1, c2, c3, c4, c5⟩ := hk
    obtain ⟨l, D, cA, b, p, e, R, s, m, args, below, meth, c, cells, slots, Q⟩ := C
    obtain ⟨hx, hb, hml, hown, hts, hK, hbs, -⟩ := hC
    obtain ⟨g1, g2, g3, g4⟩ := ztw_at (b := b) (cA := cA) hz
    rw [zce_obj g2] at g1
    intro H locs ls hP hS hl
    exact va_get hx hb hts c2 hown hK hP (i - 1) g1 c1 j (by rw [← c5]; exact (List.getElem?_eq_some_iff.mp hj).1) (hts _ hw) (fun x hx => by rw [← hn]; exact hx) (by rw [zfv_at, hj, Nat.zero_add]; simp [rvb, hz2]; rfl) hd (h1 H locs ls hP hS hl)
  next => exact hk1.elim
theorem s_getRN (hC : CF C own cc nL d) {idx ci N j : Nat} {Cn host : String} {T : u_T} {ty : Nat → FieldType} (hd : decode cc pc = .ok (.getfield idx, 3)) (hk : ClsOk ci Cn T N ty) (hj : (zfk ci)[j]? = some true) (hn : (T j).1 = Cn) (hw : Cond.fieldLinkNest own idx Cn (T j).2.1 (T j).2.2.1 host ∈ lw_T) (h : Sound C (pc + 3) k) : Sound C pc (x_getR ci j k) := by
  intro L st σ hk1
  unfold x_getR at hk1
  split at hk1
  next i r =>
    obtain ⟨hz, hz2, hk1⟩ := hk1
    have h1 := h _ _ _ hk1
    obtain ⟨c1, c2, c3, c4, c5⟩ := hk
    obtain ⟨l, D, cA, b, p, e, R, s, m, args, below, meth, c, cells, slots, Q⟩ := C
    obtain ⟨hx, hb, hml, hown, hts, hK, hbs, -⟩ := hC
    obtain ⟨g1, g2, g3, g4⟩ := ztw_at (b := b) (cA := cA) hz
    rw [zce_obj g2] at g1
    intro H locs ls hP hS hl
    exact va_getN hx hb hts c2 hown hK hP (i - 1) g1 c1 j (by rw [← c5]; exact (List.getElem?_eq_some_iff.mp hj).1) (hts _ hw) (fun x hx => by rw [← hn]; exact hx) (by rw [zfv_at, hj, Nat.zero_add]; simp [rvb, hz2]; rfl) hd (h1 H locs ls hP hS hl)
  next => exact hk1.elim
def x_putI (ci j : Nat) (k : PT) : PT := fun L st σ => match st with
  | .int v :: .ref i :: r => zd σ i = some (0, ci) ∧ k L r (sI σ i j v)
  | _ => False
theorem s_putI (hC : CF C own cc nL d) {idx ci N j : Nat} {Cn : String} {T : u_T} {ty : Nat → FieldType} (hd : decode cc pc = .ok (.putfield idx, 3)) (hk : ClsOk ci Cn T N ty) (hj : (zfk ci)[j]? = some false) (hn : (T j).1 = Cn) (hfin : (T j).2.2.2 = false) (hty : parseFieldDescriptor (T j).2.2.1 = some .int) (hw : Cond.fieldLink own idx Cn (T j).2.1 (T j).2.2.1 ∈ lw_T) (h : Sound C (pc + 3) k) : Sound C pc (x_putI ci j k) := by
  intro L st σ hk1
  unfold x_putI at hk1
  split at hk1
  next v i r =>
    obtain ⟨hz, hk1⟩ := hk1
    have h1 := h _ _ _ hk1
    obtain ⟨c1, c2, c3, c4, c5⟩ := hk
    obtain ⟨l, D, cA, b, p, e, R, s, m, args, below, meth, c, cells, slots, Q⟩ := C
    obtain ⟨hx, hb, hml, hown, hts, hK, hbs, -⟩ := hC
    obtain ⟨g1, g2, g3, g4⟩ := ztw_at (b := b) (cA := cA) hz
    rw [zce_obj g2] at g1
    have hjl := (List.getElem?_eq_some_iff.mp hj).1
    intro H locs ls hP hS hl
    refine va_put (v := .int v) (ty := .int) hx hb hts c2 ty c3 c4 hown hK hP (ztw_D b cA σ) hS (i - 1) g1 c1 j (by rw [← c5]; exact hjl) (hts _ hw) (fun x hx => by rw [← hn]; exact hx) hfin hty rfl rfl (by rw [zfv_len]; exact hjl) hd (fun H1 locs1 hP1 hD1 hS1 => ?_)
    rw [ztw_set (b := b) (cA := cA) (σ := σ) (σ' := sI σ i j v) g3 rfl (by rw [zce_obj (σ := sI σ i j v) (ci := ci) g2, zfv_setI _ hj]) (fun a ha => zce_sI_ne ha)] at hP1
    exact h1 H1 locs1 ls hP1 hS1 hl
  next => exact hk1.elim
theorem s_putIN (hC : CF C own cc nL d) {idx ci N j : Nat} {Cn host : String} {T : u_T} {ty : Nat → FieldType} (hd : decode cc pc = .ok (.putfield idx, 3)) (hk : ClsOk ci Cn T N ty) (hj : (zfk ci)[j]? = some false) (hn : (T j).1 = Cn) (hfin : (T j).2.2.2 = false) (hty : parseFieldDescriptor (T j).2.2.1 = some .int) (hw : Cond.fieldLinkNest own idx Cn (T j).2.1 (T j).2.2.1 host ∈ lw_T) (h : Sound C (pc + 3) k) : Sound C pc (x_putI ci j k) := by
  intro L st σ hk1
  unfold x_putI at hk1
  split at hk1
  next v i r =>
    obtain ⟨hz, hk1⟩ := hk1
    have h1 := h _ _ _ hk1
    obtain ⟨c1, c2, c3, c4, c5⟩ := hk
    obtain ⟨l, D, cA, b, p, e, R, s, m, args, below, meth, c, cells, slots, Q⟩ := C
    obtain ⟨hx, hb, hml, hown, hts, hK, hbs, -⟩ := hC
    obtain ⟨g1, g2, g3, g4⟩ := ztw_at (b := b) (cA := cA) hz
    rw [zce_obj g2] at g1
    have hjl := (List.getElem?_eq_some_iff.mp hj).1
    intro H locs ls hP hS hl
    refine va_putN (v := .int v) (ty := .int) hx hb hts c2 ty c3 c4 hown hK hP (ztw_D b cA σ) hS (i - 1) g1 c1 j (by rw [← c5]; exact hjl) (hts _ hw) (fun x hx => by rw [← hn]; exact hx) hfin hty rfl rfl (by rw [zfv_len]; exact hjl) hd (fun H1 locs1 hP1 hD1 hS1 => ?_)
    rw [ztw_set (b := b) (cA := cA) (σ := σ) (σ' := sI σ i j v) g3 rfl (by rw [zce_obj (σ := sI σ i j v) (ci := ci) g2, zfv_setI _ hj]) (fun a ha => zce_sI_ne ha)] at hP1
    exact h1 H1 locs1 ls hP1 hS1 hl
  next => exact hk1.elim
def x_putZ (ci j : Nat) (k : PT) : PT := fun L st σ => match st with
  | .int v :: .ref i :: r => zd σ i = some (0, ci) ∧ (v = 0 ∨ v = 1) ∧ k L r (sI σ i j v)
  | _ => False
theorem s_putZN (hC : CF C own cc nL d) {idx ci N j : Nat} {Cn host : String} {T : u_T} {ty : Nat → FieldType} (hd : decode cc pc = .ok (.putfield idx, 3)) (hk : ClsOk ci Cn T N ty) (hj : (zfk ci)[j]? = some false) (hn : (T j).1 = Cn) (hfin : (T j).2.2.2 = false) (hty : parseFieldDescriptor (T j).2.2.1 = some .boolean) (hw : Cond.fieldLinkNest own idx Cn (T j).2.1 (T j).2.2.1 host ∈ lw_T) (h : Sound C (pc + 3) k) : Sound C pc (x_putZ ci j k) := by
  intro L st σ hk1
  unfold x_putZ at hk1
  split at hk1
  next v i r =>
    obtain ⟨hz, hv, hk1⟩ := hk1
    have h1 := h _ _ _ hk1
    obtain ⟨c1, c2, c3, c4, c5⟩ := hk
    obtain ⟨l, D, cA, b, p, e, R, s, m, args, below, meth, c, cells, slots, Q⟩ := C
    obtain ⟨hx, hb, hml, hown, hts, hK, hbs, -⟩ := hC
    obtain ⟨g1, g2, g3, g4⟩ := ztw_at (b := b) (cA := cA) hz
    rw [zce_obj g2] at g1
    have hjl := (List.getElem?_eq_some_iff.mp hj).1
    intro H locs ls hP hS hl
    refine va_putN (v := .int v) (ty := .boolean) hx hb hts c2 ty c3 c4 hown hK hP (ztw_D b cA σ) hS (i - 1) g1 c1 j (by rw [← c5]; exact hjl) (hts _ hw) (fun x hx => by rw [← hn]; exact hx) hfin hty (by rcases hv with rfl | rfl <;> rfl) (by rcases hv with rfl | rfl <;> rfl) (by rw [zfv_len]; exact hjl) hd (fun H1 locs1 hP1 hD1 hS1 => ?_)
    rw [ztw_set (b := b) (cA := cA) (σ := σ) (σ' := sI σ i j v) g3 rfl (by rw [zce_obj (σ := sI σ i j v) (ci := ci) g2, zfv_setI _ hj]) (fun a ha => zce_sI_ne ha)] at hP1
    exact h1 H1 locs1 ls hP1 hS1 hl
  next => exact hk1.elim
def x_putR (ci j : Nat) (k : PT) : PT := fun L st σ => match st with
  | .ref v :: .ref i :: r => zd σ i = some (0, ci) ∧ v ≠ 0 ∧ k L r (sR σ i j v)
  | _ => False
theorem s_putR (hC : CF C own cc nL d) {idx ci N j : Nat} {Cn : String} {T : u_T} {ty : Nat → FieldType} (hd : decode cc pc = .ok (.putfield idx, 3)) (hk : ClsOk ci Cn T N ty) (hj : (zfk ci)[j]? = some true) (hn : (T j).1 = Cn) (hfin : (T j).2.2.2 = false) {t : FieldType} (hty : parseFieldDescriptor (T j).2.2.1 = some t) (ht : ∀ a, narrow t (.ref a) = .ref a ∧ fits t (.ref a) = true) (hw : Cond.fieldLink own idx Cn (T j).2.1 (T j).2.2.1 ∈ lw_T) (h : Sound C (pc + 3) k) : Sound C pc (x_putR ci j k) := by
  intro L st σ hk1
  unfold x_putR at hk1
  split at hk1
  next v i r =>
    obtain ⟨hz, hv, hk1⟩ := hk1
    have h1 := h _ _ _ hk1
    obtain ⟨c1, c2, c3, c4, c5⟩ := hk
    obtain ⟨l, D, cA, b, p, e, R, s, m, args, below, meth, c, cells, slots, Q⟩ := C
    obtain ⟨hx, hb, hml, hown, hts, hK, hbs, -⟩ := hC
    obtain ⟨g1, g2, g3, g4⟩ := ztw_at (b := b) (cA := cA) hz
    rw [zce_obj g2] at g1
    have hjl := (List.getElem?_eq_some_iff.mp hj).1
    intro H locs ls hP hS hl
    refine va_put (v := .ref (b.1 + v)) (ty := t) hx hb hts c2 ty c3 c4 hown hK hP (ztw_D b cA σ) hS (i - 1) g1 c1 j (by rw [← c5]; exact hjl) (hts _ hw) (fun x hx => by rw [← hn]; exact hx) hfin hty (ht _).1 (ht _).2 (by rw [zfv_len]; exact hjl) hd (fun H1 locs1 hP1 hD1 hS1 => ?_)
    rw [ztw_set (b := b) (cA := cA) (σ := σ) (σ' := sR σ i j v) g3 rfl (by rw [zce_obj (σ := sR σ i j v) (ci := ci) g2, zfv_setR _ hj]; simp [rvb, hv]) (fun a ha => zce_sR_ne ha)] at hP1
    exact h1 H1 locs1 ls hP1 hS1 hl
  next => exact hk1.elim
/-- in a constructor -/
def CI (C : ZC) : Prop := match C with
  | (l, D, cA, b, p, e, R, s, m, args, below, meth, c, cells, slots, Q) => meth.name = "<init>"
theorem s_putRF (hC : CF C own cc nL d) (hI : CI C) {idx ci N j : Nat} {T : u_T} {ty : Nat → FieldType} (hd : decode cc pc = .ok (.putfield idx, 3)) (hk : ClsOk ci own T N ty) (hj : (zfk ci)[j]? = some true) (hn : (T j).1 = own) (hfin : (T j).2.2.2 = true) {t : FieldType} (hty : parseFieldDescriptor (T j).2.2.1 = some t) (ht : ∀ a, narrow t (.ref a) = .ref a ∧ fits t (.ref a) = true) (hw : Cond.fieldLink own idx own (T j).2.1 (T j).2.2.1 ∈ lw_T) (h : Sound C (pc + 3) k) : Sound C pc (x_putR ci j k) := by
  intro L st σ hk1
  unfold x_putR at hk1
  split at hk1
  next v i r =>
    obtain ⟨hz, hv, hk1⟩ := hk1
    have h1 := h _ _ _ hk1
    obtain ⟨c1, c2, c3, c4, c5⟩ := hk
    obtain ⟨l, D, cA, b, p, e, R, s, m, args, below, meth, c, cells, slots, Q⟩ := C
    obtain ⟨hx, hb, hml, hown, hts, hK, hbs, -⟩ := hC
    obtain ⟨g1, g2, g3, g4⟩ := ztw_at (b := b) (cA := cA) hz
    rw [zce_obj g2] at g1
    have hjl := (List.getElem?_eq_some_iff.mp hj).1
    intro H locs ls hP hS hl
    refine va_putF (v := .ref (b.1 + v)) (ty := t) hx hb hts c2 ty c3 c4 hown hK hP (ztw_D b cA σ) hS (i - 1) g1 c1 j (by rw [← c5]; exact hjl) (hts _ hw) (fun x hx => by rw [← hn]; exact hx) hfin hI hn hty (ht _).1 (ht _).2 (by rw [zfv_len]; exact hjl) hd (fun H1 locs1 hP1 hD1 hS1 => ?_)
    rw [ztw_set (b := b) (cA := cA) (σ := σ) (σ' := sR σ i j v) g3 rfl (by rw [zce_obj (σ := sR σ i j v) (ci := ci) g2, zfv_setR _ hj]; simp [rvb, hv]) (fun a ha => zce_sR_ne ha)] at hP1
    exact h1 H1 locs1 ls hP1 hS1 hl
  next => exact hk1.elim
/-! arrays -/
def x_iald (k : PT) : PT := fun L st σ => match st with
  | .int x :: .ref i :: r => ∃ n, zd σ i = some (1, n) ∧ vp_in x n ∧ k L (.int (zI σ i x.toNatClampNeg) :: r) σ
  | _ => False
theorem s_iald (hC : CF C own cc nL d) (hd : decode cc pc = .ok (.iaload, 1)) (h : Sound C (pc + 1) k) : Sound C pc (x_iald k) := by
  intro L st σ hk1
  unfold x_iald at hk1
  split at hk1
  next x i r =>
    obtain ⟨n, hz, hin, hk1⟩ := hk1
    have h1 := h _ _ _ hk1
    obtain ⟨l, D, cA, b, p, e, R, s, m, args, below, meth, c, cells, slots, Q⟩ := C
    obtain ⟨hx, hb, hml, hown, hts, hK, hbs, -⟩ := hC
    obtain ⟨g1, g2, g3, g4⟩ := ztw_at (b := b) (cA := cA) hz
    rw [zce_int g2] at g1
    intro H locs ls hP hS hl
    exact va_iald hx hb hK hP (i - 1) 0 g1 rfl hin hd (h1 H locs ls hP hS hl)
  next => exact hk1.elim
def x_bald (k : PT) : PT := fun L st σ => match st with
  | .int x :: .ref i :: r => ∃ n, (zd σ i = some (2, n) ∨ zd σ i = some (4, n)) ∧ vp_in x n ∧ k L (.int (zI σ i x.toNatClampNeg) :: r) σ
  | _ => False
theorem s_bald (hC : CF C own cc nL d) (hd : decode cc pc = .ok (.baload, 1)) (h : Sound C (pc + 1) k) : Sound C pc (x_bald k) := by
  intro L st σ hk1
  unfold x_bald at hk1
  split at hk1
  next x i r =>
    obtain ⟨n, hz, hin, hk1⟩ := hk1
    have h1 := h _ _ _ hk1
    obtain ⟨l, D, cA, b, p, e, R, s, m, args, below, meth, c, cells, slots, Q⟩ := C
    obtain ⟨hx, hb, hml, hown, hts, hK, hbs, -⟩ := hC
    rcases hz with hz | hz
    · obtain ⟨g1, g2, g3, g4⟩ := ztw_at (b := b) (cA := cA) hz
      rw [zce_byte g2] at g1
      intro H locs ls hP hS hl
      exact va_bald hx hb hK hP (i - 1) 1 g1 rfl hin hd (h1 H locs ls hP hS hl)
    · obtain ⟨g1, g2, g3, g4⟩ := ztw_at (b := b) (cA := cA) hz
      rw [zce_bool g2] at g1
      intro H locs ls hP hS hl
      exact va_zald hx hb hK hP (i - 1) 3 g1 rfl hin hd (h1 H locs ls hP hS hl)
  next => exact hk1.elim
def x_lald (k : PT) : PT := fun L st σ => match st with
  | .int x :: .ref i :: r => ∃ n, zd σ i = some (3, n) ∧ vp_in x n ∧ k L (.long (zJ σ i x.toNatClampNeg) :: r) σ
  | _ => False
theorem s_lald (hC : CF C own cc nL d) (hd : decode cc pc = .ok (.laload, 1)) (h : Sound C (pc + 1) k) : Sound C pc (x_lald k) := by
  intro L st σ hk1
  unfold x_lald at hk1
  split at hk1
  next x i r =>
    obtain ⟨n, hz, hin, hk1⟩ := hk1
    have h1 := h _ _ _ hk1
    obtain ⟨l, D, cA, b, p, e, R, s, m, args, below, meth, c, cells, slots, Q⟩ := C
    obtain ⟨hx, hb, hml, hown, hts, hK, hbs, -⟩ := hC
    obtain ⟨g1, g2, g3, g4⟩ := ztw_at (b := b) (cA := cA) hz
    rw [zce_long g2] at g1
    intro H locs ls hP hS hl
    exact va_lald hx hb hK hP (i - 1) 2 g1 rfl hin hd (h1 H locs ls hP hS hl)
  next => exact hk1.elim
def x_iast (k : PT) : PT := fun L st σ => match st with
  | .int v :: .int x :: .ref i :: r => ∃ n, zd σ i = some (1, n) ∧ vp_in x n ∧ k L r (sI σ i x.toNatClampNeg v)
  | _ => False
theorem s_iast (hC : CF C own cc nL d) (hd : decode cc pc = .ok (.iastore, 1)) (h : Sound C (pc + 1) k) : Sound C pc (x_iast k) := by
  intro L st σ hk1
  unfold x_iast at hk1
  split at hk1
  next v x i r =>
    obtain ⟨n, hz, hin, hk1⟩ := hk1
    have h1 := h _ _ _ hk1
    obtain ⟨l, D, cA, b, p, e, R, s, m, args, below, meth, c, cells, slots, Q⟩ := C
    obtain ⟨hx, hb, hml, hown, hts, hK, hbs, -⟩ := hC
    obtain ⟨g1, g2, g3, g4⟩ := ztw_at (b := b) (cA := cA) hz
    rw [zce_int g2] at g1
    intro H locs ls hP hS hl
    refine va_iast hx hb hK hP (ztw_D b cA σ) hS (i - 1) 0 g1 rfl hin hd (fun H1 locs1 hP1 hD1 hS1 => ?_)
    rw [ztw_set (b := b) (cA := cA) (σ := σ) (σ' := sI σ i x.toNatClampNeg v) g3 rfl (by rw [zce_int (σ := sI σ i x.toNatClampNeg v) (n := n) g2, zI_sI, if_pos rfl]) (fun a ha => zce_sI_ne ha)] at hP1
    exact h1 H1 locs1 ls hP1 hS1 hl
  next => exact hk1.elim
/-- a byte goes into bytes, 0 or 1 into booleans -/
def x_bast (k : PT) : PT := fun L st σ => match st with
  | .int v :: .int x :: .ref i :: r => ∃ n, ((zd σ i = some (2, n) ∧ vp_nar .byte v = v) ∨ (zd σ i = some (4, n) ∧ vp_nar .boolean v = v)) ∧ vp_in x n ∧ k L r (sI σ i x.toNatClampNeg v)
  | _ => False
theorem s_bast (hC : CF C own cc nL d) (hd : decode cc pc = .ok (.bastore, 1)) (h : Sound C (pc + 1) k) : Sound C pc (x_bast k) := by
  intro L st σ hk1
  unfold x_bast at hk1
  split at hk1
  next v x i r =>
    obtain ⟨n, hz, hin, hk1⟩ := hk1
    have h1 := h _ _ _ hk1
    obtain ⟨l, D, cA, b, p, e, R, s, m, args, below, meth, c, cells, slots, Q⟩ := C
    obtain ⟨hx, hb, hml, hown, hts, hK, hbs, -⟩ := hC
    rcases hz with ⟨hz, hv⟩ | ⟨hz, hv⟩
    · obtain ⟨g1, g2, g3, g4⟩ := ztw_at (b := b) (cA := cA) hz
      rw [zce_byte g2] at g1
      intro H locs ls hP hS hl
      refine va_bast hx hb hK hP (ztw_D b cA σ) hS (i - 1) 1 g1 rfl hin hd (fun H1 locs1 hP1 hD1 hS1 => ?_)
      rw [hv, ztw_set (b := b) (cA := cA) (σ := σ) (σ' := sI σ i x.toNatClampNeg v) g3 rfl (by rw [zce_byte (σ := sI σ i x.toNatClampNeg v) (n := n) g2, zI_sI, if_pos rfl]) (fun a ha => zce_sI_ne ha)] at hP1
      exact h1 H1 locs1 ls hP1 hS1 hl
    · obtain ⟨g1, g2, g3, g4⟩ := ztw_at (b := b) (cA := cA) hz
      rw [zce_bool g2] at g1
      intro H locs ls hP hS hl
      refine va_zast hx hb hK hP (ztw_D b cA σ) hS (i - 1) 3 g1 rfl hin hd (fun H1 locs1 hP1 hD1 hS1 => ?_)
      rw [hv, ztw_set (b := b) (cA := cA) (σ := σ) (σ' := sI σ i x.toNatClampNeg v) g3 rfl (by rw [zce_bool (σ := sI σ i x.toNatClampNeg v) (n := n) g2, zI_sI, if_pos rfl]) (fun a ha => zce_sI_ne ha)] at hP1
      exact h1 H1 locs1 ls hP1 hS1 hl
  next => exact hk1.elim
def x_last (k : PT) : PT := fun L st σ => match st with
  | .long v :: .int x :: .ref i :: r => ∃ n, zd σ i = some (3, n) ∧ vp_in x n ∧ k L r (sJ σ i x.toNatClampNeg v)
  | _ => False
theorem s_last (hC : CF C own cc nL d) (hd : decode cc pc = .ok (.lastore, 1)) (h : Sound C (pc + 1) k) : Sound C pc (x_last k) := by
  intro L st σ hk1
  unfold x_last at hk1
  split at hk1
  next v x i r =>
    obtain ⟨n, hz, hin, hk1⟩ := hk1
    have h1 := h _ _ _ hk1
    obtain ⟨l, D, cA, b, p, e, R, s, m, args, below, meth, c, cells, slots, Q⟩ := C
    obtain ⟨hx, hb, hml, hown, hts, hK, hbs, -⟩ := hC
    obtain ⟨g1, g2, g3, g4⟩ := ztw_at (b := b) (cA := cA) hz
    rw [zce_long g2] at g1
    intro H locs ls hP hS hl
    refine va_last hx hb hK hP (ztw_D b cA σ) hS (i - 1) 2 g1 rfl hin hd (fun H1 locs1 hP1 hD1 hS1 => ?_)
    rw [ztw_set (b := b) (cA := cA) (σ := σ) (σ' := sJ σ i x.toNatClampNeg v) g3 rfl (by rw [zce_long (σ := sJ σ i x.toNatClampNeg v) (n := n) g2, zJ_sJ, if_pos rfl]) (fun a ha => zce_sJ_ne ha)] at hP1
    exact h1 H1 locs1 ls hP1 hS1 hl
  next => exact hk1.elim
def x_alen (k : PT) : PT := fun L st σ => match st with
  | .ref i :: r => ∃ n, (zd σ i = some (1, n) ∨ zd σ i = some (3, n)) ∧ k L (.int (Int32.ofNat n) :: r) σ
  | _ => False
theorem s_alen (hC : CF C own cc nL d) (hd : decode cc pc = .ok (.arraylength, 1)) (h : Sound C (pc + 1) k) : Sound C pc (x_alen k) := by
  intro L st σ hk1
  unfold x_alen at hk1
  split at hk1
  next i r =>
    obtain ⟨n, hz, hk1⟩ := hk1
    have h1 := h _ _ _ hk1
    obtain ⟨l, D, cA, b, p, e, R, s, m, args, below, meth, c, cells, slots, Q⟩ := C
    obtain ⟨hx, hb, hml, hown, hts, hK, hbs, -⟩ := hC
    rcases hz with hz | hz
    · obtain ⟨g1, g2, g3, g4⟩ := ztw_at (b := b) (cA := cA) hz
      rw [zce_int g2] at g1
      intro H locs ls hP hS hl
      exact va_alen hx hb hK hP (i - 1) 0 g1 rfl rfl hd (h1 H locs ls hP hS hl)
    · obtain ⟨g1, g2, g3, g4⟩ := ztw_at (b := b) (cA := cA) hz
      rw [zce_long g2] at g1
      intro H locs ls hP hS hl
      exact va_alen hx hb hK hP (i - 1) 2 g1 rfl rfl hd (h1 H locs ls hP hS hl)
  next => exact hk1.elim
/-- System.arraycopy over ints -/
def x_acp (k : PT) : PT := fun L st σ => match st with
  | .int n :: .int dp :: .ref t :: .int sp :: .ref i :: r => ∃ n0 n1, zd σ i = some (1, n0) ∧ zd σ t = some (1, n1) ∧ ¬ sp < 0 ∧ ¬ dp < 0 ∧ ¬ n < 0 ∧ sp.toNatClampNeg + n.toNatClampNeg ≤ n0 ∧ dp.toNatClampNeg + n.toNatClampNeg ≤ n1 ∧ (r.map fun v => v.category).sum ≤ 8 ∧ k L r (sIr σ t (va_cpy (zI σ i) (zI σ t) sp.toNatClampNeg dp.toNatClampNeg n.toNatClampNeg))
  | _ => False
theorem s_acp (hC : CF C own cc nL d) {idx : Nat} (hd : decode cc pc = .ok (.invokestatic idx, 3)) (h1d : 1 ≤ d) (hl : Cond.methodLink own idx arraycopyName ∈ lw_T) (hna : Cond.native arraycopyName ∈ lw_T) (hst : Cond.static arraycopyName ∈ lw_T) (hin : Cond.initialized "java/lang/System" ∈ lw_T) (h : Sound C (pc + 3) k) : Sound C pc (x_acp k) := by
  intro L st σ hk1
  unfold x_acp at hk1
  split at hk1
  next n dp t sp i r =>
    obtain ⟨n0, n1, hz0, hz1, q1, q2, q3, q4, q5, q6, hk1⟩ := hk1
    have h1 := h _ _ _ hk1
    obtain ⟨l, D, cA, b, p, e, R, s, m, args, below, meth, c, cells, slots, Q⟩ := C
    obtain ⟨hx, hb, hml, hown, hts, hK, hbs, hfr, hlo, -⟩ := hC
    obtain ⟨g1, g2, g3, g4⟩ := ztw_at (b := b) (cA := cA) hz0
    obtain ⟨f1, f2, f3, f4⟩ := ztw_at (b := b) (cA := cA) hz1
    rw [zce_int g2] at g1
    rw [zce_int f2] at f1
    intro H locs ls hP hS hl2
    have hcat : ((r.map (tv b)).map fun v => v.category).sum = (r.map fun v => v.category).sum := by
      rw [List.map_map]; congr 1; apply List.map_congr_left; intro v _; exact tv_cat b v
    have hnw : nativeFrameWords "java/lang/System" "arraycopy" 5 ≤ 40 := by decide
    have hf1 : 1 ≤ R.frames := by omega
    have hlo1 : ((r.map (tv b)).map fun v => v.category).sum + (nativeFrameWords "java/lang/System" "arraycopy" 5 + 11) ≤ R.locals := by
      rw [hcat]
      omega
    refine va_copyi (ty := .int) hx hb hl2.1.symm hown (hts _ hl) (hts _ hna) (hts _ hst) (hts _ hin) hK hP (ztw_D b cA σ) hS (i - 1) (t - 1) 0 0 g1 f1 rfl rfl rfl q1 q2 q3 q4 q5 (fun _ _ => rfl) hf1 hlo1 hd (fun H1 locs1 hP1 hD1 hS1 => ?_)
    rw [ztw_set (b := b) (cA := cA) (σ := σ) (σ' := sIr σ t (va_cpy (zI σ i) (zI σ t) sp.toNatClampNeg dp.toNatClampNeg n.toNatClampNeg)) f3 rfl (by rw [zce_int (σ := sIr σ t _) (n := n1) f2, zI_sIr, if_pos rfl]) (fun a ha => zce_sIr_ne ha)] at hP1
    exact h1 H1 locs1 ls hP1 hS1 hl2
  next => exact hk1.elim
def x_mmax (k : PT) : PT := fun L st σ => match st with
  | .int y :: .int x :: r => (r.map fun v => v.category).sum ≤ 8 ∧ k L (.int (if x < y then y else x) :: r) σ
  | _ => False
theorem s_mmax (hC : CF C own cc nL d) {idx : Nat} (hd : decode cc pc = .ok (.invokestatic idx, 3)) (h1d : 1 ≤ d) (hl : Cond.methodLink own idx Lib.Math.max.name ∈ lw_T) (hst : Cond.static Lib.Math.max.name ∈ lw_T) (hin : Cond.initialized "java/lang/Math" ∈ lw_T) (hco : Cond.code Lib.Math.max.name Lib.Math.max.code 2 (some .int) ∈ lw_T) (h : Sound C (pc + 3) k) : Sound C pc (x_mmax k) := by
  intro L st σ hk1
  unfold x_mmax at hk1
  split at hk1
  next y x r =>
    obtain ⟨q6, hk1⟩ := hk1
    have h1 := h _ _ _ hk1
    obtain ⟨l, D, cA, b, p, e, R, s, m, args, below, meth, c, cells, slots, Q⟩ := C
    obtain ⟨hx, hb, hml, hown, hts, hK, hbs, hfr, hlo, hce, hsl⟩ := hC
    intro H locs ls hP hS hl2
    have hcat : ((r.map (tv b)).map fun v => v.category).sum = (r.map fun v => v.category).sum := by
      rw [List.map_map]; congr 1; apply List.map_congr_left; intro v _; exact tv_cat b v
    have hf1 : 1 ≤ R.frames := by omega
    have hlo1 : ((r.map (tv b)).map fun v => v.category).sum + 13 ≤ R.locals := by rw [hcat]; omega
    exact va_mmax hx hb hl2.1.symm hown (hts _ hl) (hts _ hst) (hts _ hin) (hts _ hco) hf1 hlo1 hce hsl hd (h1 H locs ls hP hS hl2)
  next => exact hk1.elim
def x_mmin (k : PT) : PT := fun L st σ => match st with
  | .int y :: .int x :: r => (r.map fun v => v.category).sum ≤ 8 ∧ k L (.int (if y < x then y else x) :: r) σ
  | _ => False
theorem s_mmin (hC : CF C own cc nL d) {idx : Nat} (hd : decode cc pc = .ok (.invokestatic idx, 3)) (h1d : 1 ≤ d) (hl : Cond.methodLink own idx Lib.Math.min.name ∈ lw_T) (hst : Cond.static Lib.Math.min.name ∈ lw_T) (hin : Cond.initialized "java/lang/Math" ∈ lw_T) (hco : Cond.code Lib.Math.min.name Lib.Math.min.code 2 (some .int) ∈ lw_T) (h : Sound C (pc + 3) k) : Sound C pc (x_mmin k) := by
  intro L st σ hk1
  unfold x_mmin at hk1
  split at hk1
  next y x r =>
    obtain ⟨q6, hk1⟩ := hk1
    have h1 := h _ _ _ hk1
    obtain ⟨l, D, cA, b, p, e, R, s, m, args, below, meth, c, cells, slots, Q⟩ := C
    obtain ⟨hx, hb, hml, hown, hts, hK, hbs, hfr, hlo, hce, hsl⟩ := hC
    intro H locs ls hP hS hl2
    have hcat : ((r.map (tv b)).map fun v => v.category).sum = (r.map fun v => v.category).sum := by
      rw [List.map_map]; congr 1; apply List.map_congr_left; intro v _; exact tv_cat b v
    have hf1 : 1 ≤ R.frames := by omega
    have hlo1 : ((r.map (tv b)).map fun v => v.category).sum + 13 ≤ R.locals := by rw [hcat]; omega
    exact va_mmin hx hb hl2.1.symm hown (hts _ hl) (hts _ hst) (hts _ hin) (hts _ hco) hf1 hlo1 hce hsl hd (h1 H locs ls hP hS hl2)
  next => exact hk1.elim
end HEAP
