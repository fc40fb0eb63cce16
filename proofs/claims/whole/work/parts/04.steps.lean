/-! THE JUDGEMENTS: a context, the machine at a frame over the memory, soundness of a predicate transformer -/
abbrev ZC : Type := Launch × va_G × (Nat → ClassId) × (Nat × Nat) × Program × Env × Room × State × MethodId × Array Value × List Frame × Method × Code × Nat × Nat × (State → Prop)
abbrev PT : Type := List (Option Value) → List Value → ZS → Prop
abbrev WPt : Type := List Value → ZS → (Option Value → ZS → Prop) → Prop
def WW (C : ZC) (pc : Nat) : PT := fun L st σ => match C with
  | (l, D, cA, b, p, e, R, s, m, args, below, meth, c, cells, slots, Q) => ∀ (H : Heap) (locs : List Loc) (ls : Array Slot), va_P D vwCl (ztw b cA σ) H → va_S (fun q => b.1 < q) s.heap H locs → zhas b ls c.maxLocals L → W p l e R s m args below meth c H locs cells slots Q (F0 m pc ls (st.map (tv b)))
def CF (C : ZC) (own : String) (cc : ByteArray) (nL d : Nat) : Prop := match C with
  | (l, D, cA, b, p, e, R, s, m, args, below, meth, c, cells, slots, Q) => p.tables.exec = Jvm.exec ∧ c.code = cc ∧ c.maxLocals = nL ∧ s.vm.findClass own = some m.cls ∧ (∀ w ∈ lw_T, w.before args s = true) ∧ va_K D vwCl (zty cA) s ∧ b.1 < s.heap.size ∧ d ≤ R.frames ∧ 80 * d ≤ R.locals ∧ cells ≤ R.cells ∧ slots ≤ R.slots
def Sound (C : ZC) (pc : Nat) (k : PT) : Prop := ∀ L st σ, k L st σ → WW C pc L st σ
theorem s_here (C : ZC) (pc : Nat) : Sound C pc (WW C pc) := fun _ _ _ h => h
/-- fewer locals known -/
def zmask : List Nat → Nat → List (Option Value) → List (Option Value)
  | _, _, [] => []
  | ks, i, v :: r => (if ks.contains i then v else none) :: zmask ks (i + 1) r
theorem zmask_at : ∀ (ks : List Nat) (L : List (Option Value)) (i j : Nat) (v : Value), (zmask ks i L)[j]? = some (some v) → L[j]? = some (some v)
  | ks, [], i, j, v, h => by simp [zmask] at h
  | ks, x :: r, i, 0, v, h => by
    simp only [zmask, List.getElem?_cons_zero, Option.some.injEq] at h
    split at h
    · simp [h]
    · cases h
  | ks, x :: r, i, j + 1, v, h => by
    simp only [zmask, List.getElem?_cons_succ] at h ⊢
    exact zmask_at ks r (i + 1) j v h
def x_stop (C : ZC) (pc : Nat) (ks : List Nat) : PT := fun L st σ => WW C pc (zmask ks 0 L) st σ
theorem WW.mask {C : ZC} {pc : Nat} (ks : List Nat) {L : List (Option Value)} {st : List Value} {σ : ZS} (h : WW C pc (zmask ks 0 L) st σ) : WW C pc L st σ := by
  obtain ⟨l, D, cA, b, p, e, R, s, m, args, below, meth, c, cells, slots, Q⟩ := C
  intro H locs ls hP hS hl
  exact h H locs ls hP hS (zhas_sub hl (fun i v => zmask_at ks L 0 i v))
theorem s_stop {C : ZC} {pc : Nat} (ks : List Nat) : Sound C pc (x_stop C pc ks) := fun _ _ _ h => WW.mask ks h
section STEPS
variable {C : ZC} {own : String} {cc : ByteArray} {nL d pc : Nat} {k kt kf : PT}
/-! constants -/
def x_psh (v : Value) (k : PT) : PT := fun L st σ => k L (v :: st) σ
theorem s_iconst (hC : CF C own cc nL d) {n : Int} (hd : decode cc pc = .ok (.iconst n, 1)) {v : Int32} (hv : Int32.ofInt n = v) (h : Sound C (pc + 1) k) : Sound C pc (x_psh (.int v) k) := by
  intro L st σ hk
  have h1 := h _ _ _ hk
  obtain ⟨l, D, cA, b, p, e, R, s, m, args, below, meth, c, cells, slots, Q⟩ := C
  obtain ⟨hx, hb, -⟩ := hC
  intro H locs ls hP hS hl
  exact lv_iconst hx hb hd hv (h1 H locs ls hP hS hl)
theorem s_bipush (hC : CF C own cc nL d) {n : Int} (hd : decode cc pc = .ok (.bipush n, 2)) {v : Int32} (hv : (Int8.ofInt n).toInt32 = v) (h : Sound C (pc + 2) k) : Sound C pc (x_psh (.int v) k) := by
  intro L st σ hk
  have h1 := h _ _ _ hk
  obtain ⟨l, D, cA, b, p, e, R, s, m, args, below, meth, c, cells, slots, Q⟩ := C
  obtain ⟨hx, hb, -⟩ := hC
  intro H locs ls hP hS hl
  exact lv_bipush hx hb hd hv (h1 H locs ls hP hS hl)
theorem s_sipush (hC : CF C own cc nL d) {n : Int} (hd : decode cc pc = .ok (.sipush n, 3)) {v : Int32} (hv : (Int16.ofInt n).toInt32 = v) (h : Sound C (pc + 3) k) : Sound C pc (x_psh (.int v) k) := by
  intro L st σ hk
  have h1 := h _ _ _ hk
  obtain ⟨l, D, cA, b, p, e, R, s, m, args, below, meth, c, cells, slots, Q⟩ := C
  obtain ⟨hx, hb, -⟩ := hC
  intro H locs ls hP hS hl
  exact lv_sipush hx hb hd hv (h1 H locs ls hP hS hl)
theorem s_lconst (hC : CF C own cc nL d) {n : Fin 2} (hd : decode cc pc = .ok (.lconst n, 1)) {v : Int64} (hv : Int64.ofNat (n : Nat) = v) (h : Sound C (pc + 1) k) : Sound C pc (x_psh (.long v) k) := by
  intro L st σ hk
  have h1 := h _ _ _ hk
  obtain ⟨l, D, cA, b, p, e, R, s, m, args, below, meth, c, cells, slots, Q⟩ := C
  obtain ⟨hx, hb, -⟩ := hC
  intro H locs ls hP hS hl
  exact lv_lconst hx hb hd hv (h1 H locs ls hP hS hl)
theorem s_ldc (hC : CF C own cc nL d) {i : Nat} (hd : decode cc pc = .ok (.ldc i, 2)) {v : Int32} (hw : Cond.constant own i v ∈ lw_T) (h : Sound C (pc + 2) k) : Sound C pc (x_psh (.int v) k) := by
  intro L st σ hk
  have h1 := h _ _ _ hk
  obtain ⟨l, D, cA, b, p, e, R, s, m, args, below, meth, c, cells, slots, Q⟩ := C
  obtain ⟨hx, hb, -, hown, hts, -⟩ := hC
  intro H locs ls hP hS hl
  exact lv_ldc hx hb hown (hts _ hw) hd (h1 H locs ls hP hS hl)
theorem s_ldcw (hC : CF C own cc nL d) {i : Nat} (hd : decode cc pc = .ok (.ldc_w i, 3)) {v : Int32} (hw : Cond.constant own i v ∈ lw_T) (h : Sound C (pc + 3) k) : Sound C pc (x_psh (.int v) k) := by
  intro L st σ hk
  have h1 := h _ _ _ hk
  obtain ⟨l, D, cA, b, p, e, R, s, m, args, below, meth, c, cells, slots, Q⟩ := C
  obtain ⟨hx, hb, -, hown, hts, -⟩ := hC
  intro H locs ls hP hS hl
  exact lv_ldcw hx hb hown (hts _ hw) hd (h1 H locs ls hP hS hl)
theorem s_ldc2 (hC : CF C own cc nL d) {i : Nat} (hd : decode cc pc = .ok (.ldc2_w i, 3)) {v : Int64} (hw : Cond.constantLong own i v ∈ lw_T) (h : Sound C (pc + 3) k) : Sound C pc (x_psh (.long v) k) := by
  intro L st σ hk
  have h1 := h _ _ _ hk
  obtain ⟨l, D, cA, b, p, e, R, s, m, args, below, meth, c, cells, slots, Q⟩ := C
  obtain ⟨hx, hb, -, hown, hts, -⟩ := hC
  intro H locs ls hP hS hl
  exact lv_ldc2 hx hb hown (hts _ hw) hd (h1 H locs ls hP hS hl)
/-! loads -/
def x_ild (i : Nat) (k : PT) : PT := fun L st σ => match L[i]? with
  | some (some (.int x)) => k L (.int x :: st) σ
  | _ => False
def x_lld (i : Nat) (k : PT) : PT := fun L st σ => match L[i]? with
  | some (some (.long x)) => k L (.long x :: st) σ
  | _ => False
def x_ald (i : Nat) (k : PT) : PT := fun L st σ => match L[i]? with
  | some (some (.ref x)) => k L (.ref x :: st) σ
  | some (some (.float x)) => k L (.float x :: st) σ
  | _ => False
theorem s_iload_n (hC : CF C own cc nL d) {j : Fin 4} {i : Nat} (hd : decode cc pc = .ok (.iload_n j, 1)) (hj : (j : Nat) = i) (h : Sound C (pc + 1) k) : Sound C pc (x_ild i k) := by
  intro L st σ hk
  unfold x_ild at hk
  split at hk
  next x hx1 =>
    have h1 := h _ _ _ hk
    obtain ⟨l, D, cA, b, p, e, R, s, m, args, below, meth, c, cells, slots, Q⟩ := C
    obtain ⟨hx, hb, -⟩ := hC
    intro H locs ls hP hS hl
    exact lv_iload_n hx hb hd hj (zhas_at hl hx1) (h1 H locs ls hP hS hl)
  next => exact hk.elim
theorem s_iload (hC : CF C own cc nL d) {i : Nat} (hd : decode cc pc = .ok (.iload i, 2)) (h : Sound C (pc + 2) k) : Sound C pc (x_ild i k) := by
  intro L st σ hk
  unfold x_ild at hk
  split at hk
  next x hx1 =>
    have h1 := h _ _ _ hk
    obtain ⟨l, D, cA, b, p, e, R, s, m, args, below, meth, c, cells, slots, Q⟩ := C
    obtain ⟨hx, hb, -⟩ := hC
    intro H locs ls hP hS hl
    exact lv_iload hx hb hd (zhas_at hl hx1) (h1 H locs ls hP hS hl)
  next => exact hk.elim
theorem s_lload_n (hC : CF C own cc nL d) {j : Fin 4} {i : Nat} (hd : decode cc pc = .ok (.lload_n j, 1)) (hj : (j : Nat) = i) (h : Sound C (pc + 1) k) : Sound C pc (x_lld i k) := by
  intro L st σ hk
  unfold x_lld at hk
  split at hk
  next x hx1 =>
    have h1 := h _ _ _ hk
    obtain ⟨l, D, cA, b, p, e, R, s, m, args, below, meth, c, cells, slots, Q⟩ := C
    obtain ⟨hx, hb, -⟩ := hC
    intro H locs ls hP hS hl
    exact lv_lload_n hx hb hd hj (zhas_at hl hx1) (h1 H locs ls hP hS hl)
  next => exact hk.elim
theorem s_lload (hC : CF C own cc nL d) {i : Nat} (hd : decode cc pc = .ok (.lload i, 2)) (h : Sound C (pc + 2) k) : Sound C pc (x_lld i k) := by
  intro L st σ hk
  unfold x_lld at hk
  split at hk
  next x hx1 =>
    have h1 := h _ _ _ hk
    obtain ⟨l, D, cA, b, p, e, R, s, m, args, below, meth, c, cells, slots, Q⟩ := C
    obtain ⟨hx, hb, -⟩ := hC
    intro H locs ls hP hS hl
    exact lv_lload hx hb hd (zhas_at hl hx1) (h1 H locs ls hP hS hl)
  next => exact hk.elim
theorem s_aload_n (hC : CF C own cc nL d) {j : Fin 4} {i : Nat} (hd : decode cc pc = .ok (.aload_n j, 1)) (hj : (j : Nat) = i) (h : Sound C (pc + 1) k) : Sound C pc (x_ald i k) := by
  intro L st σ hk
  unfold x_ald at hk
  split at hk
  next x hx1 =>
    have h1 := h _ _ _ hk
    obtain ⟨l, D, cA, b, p, e, R, s, m, args, below, meth, c, cells, slots, Q⟩ := C
    obtain ⟨hx, hb, -⟩ := hC
    intro H locs ls hP hS hl
    exact lv_aload_n hx hb hd hj (zhas_at hl hx1) (h1 H locs ls hP hS hl)
  next x hx1 =>
    have h1 := h _ _ _ hk
    obtain ⟨l, D, cA, b, p, e, R, s, m, args, below, meth, c, cells, slots, Q⟩ := C
    obtain ⟨hx, hb, -⟩ := hC
    intro H locs ls hP hS hl
    exact lv_aload_n hx hb hd hj (zhas_at hl hx1) (h1 H locs ls hP hS hl)
  next => exact hk.elim
theorem s_aload (hC : CF C own cc nL d) {i : Nat} (hd : decode cc pc = .ok (.aload i, 2)) (h : Sound C (pc + 2) k) : Sound C pc (x_ald i k) := by
  intro L st σ hk
  unfold x_ald at hk
  split at hk
  next x hx1 =>
    have h1 := h _ _ _ hk
    obtain ⟨l, D, cA, b, p, e, R, s, m, args, below, meth, c, cells, slots, Q⟩ := C
    obtain ⟨hx, hb, -⟩ := hC
    intro H locs ls hP hS hl
    exact lv_aload hx hb hd (zhas_at hl hx1) (h1 H locs ls hP hS hl)
  next x hx1 =>
    have h1 := h _ _ _ hk
    obtain ⟨l, D, cA, b, p, e, R, s, m, args, below, meth, c, cells, slots, Q⟩ := C
    obtain ⟨hx, hb, -⟩ := hC
    intro H locs ls hP hS hl
    exact lv_aload hx hb hd (zhas_at hl hx1) (h1 H locs ls hP hS hl)
  next => exact hk.elim
/-! stores -/
def x_ist (i : Nat) (k : PT) : PT := fun L st σ => i < L.length ∧ match st with
  | .int x :: r => k (zst1 L i (.int x)) r σ
  | _ => False
def x_ast (i : Nat) (k : PT) : PT := fun L st σ => i < L.length ∧ match st with
  | .ref x :: r => k (zst1 L i (.ref x)) r σ
  | _ => False
def x_lst (i : Nat) (k : PT) : PT := fun L st σ => match st with
  | .long x :: r => k (zst2 L i (.long x)) r σ
  | _ => False
def x_inc (i : Nat) (v : Int32) (k : PT) : PT := fun L st σ => i < L.length ∧ match L[i]? with
  | some (some (.int x)) => k (zst1 L i (.int (x + v))) st σ
  | _ => False
theorem s_istore_n (hC : CF C own cc nL d) {j : Fin 4} {i : Nat} (hd : decode cc pc = .ok (.istore_n j, 1)) (hj : (j : Nat) = i) (hi : i < nL) (h : Sound C (pc + 1) k) : Sound C pc (x_ist i k) := by
  intro L st σ hk
  obtain ⟨hL, hk⟩ := hk
  split at hk
  next x r =>
    have h1 := h _ _ _ hk
    obtain ⟨l, D, cA, b, p, e, R, s, m, args, below, meth, c, cells, slots, Q⟩ := C
    obtain ⟨hx, hb, hml, -⟩ := hC
    intro H locs ls hP hS hl
    exact lv_istore_n hx hb hd hj hl (by rw [hml]; exact hi) rfl (fun ls' hl' => h1 H locs ls' hP hS (zhas_st1 (ls := ls) hL hl'))
  next => exact hk.elim
theorem s_istore (hC : CF C own cc nL d) {i : Nat} (hd : decode cc pc = .ok (.istore i, 2)) (hi : i < nL) (h : Sound C (pc + 2) k) : Sound C pc (x_ist i k) := by
  intro L st σ hk
  obtain ⟨hL, hk⟩ := hk
  split at hk
  next x r =>
    have h1 := h _ _ _ hk
    obtain ⟨l, D, cA, b, p, e, R, s, m, args, below, meth, c, cells, slots, Q⟩ := C
    obtain ⟨hx, hb, hml, -⟩ := hC
    intro H locs ls hP hS hl
    exact lv_istore hx hb hd hl (by rw [hml]; exact hi) rfl (fun ls' hl' => h1 H locs ls' hP hS (zhas_st1 (ls := ls) hL hl'))
  next => exact hk.elim
theorem s_astore_n (hC : CF C own cc nL d) {j : Fin 4} {i : Nat} (hd : decode cc pc = .ok (.astore_n j, 1)) (hj : (j : Nat) = i) (hi : i < nL) (h : Sound C (pc + 1) k) : Sound C pc (x_ast i k) := by
  intro L st σ hk
  obtain ⟨hL, hk⟩ := hk
  split at hk
  next x r =>
    have h1 := h _ _ _ hk
    obtain ⟨l, D, cA, b, p, e, R, s, m, args, below, meth, c, cells, slots, Q⟩ := C
    obtain ⟨hx, hb, hml, -⟩ := hC
    intro H locs ls hP hS hl
    exact lv_astore_n hx hb hd hj hl (by rw [hml]; exact hi) rfl (fun ls' hl' => h1 H locs ls' hP hS (zhas_st1 (ls := ls) (v := .ref x) hL hl'))
  next => exact hk.elim
theorem s_lstore_n (hC : CF C own cc nL d) {j : Fin 4} {i : Nat} (hd : decode cc pc = .ok (.lstore_n j, 1)) (hj : (j : Nat) = i) (hi : i + 1 < nL) (h : Sound C (pc + 1) k) : Sound C pc (x_lst i k) := by
  intro L st σ hk
  unfold x_lst at hk
  split at hk
  next x r =>
    have h1 := h _ _ _ hk
    obtain ⟨l, D, cA, b, p, e, R, s, m, args, below, meth, c, cells, slots, Q⟩ := C
    obtain ⟨hx, hb, hml, -⟩ := hC
    intro H locs ls hP hS hl
    exact lv_lstore_n hx hb hd hj hl (by rw [hml]; exact hi) rfl (fun ls' hl' => h1 H locs ls' hP hS (zhas_st2 (ls := ls) hl'))
  next => exact hk.elim
theorem s_lstore (hC : CF C own cc nL d) {i : Nat} (hd : decode cc pc = .ok (.lstore i, 2)) (hi : i + 1 < nL) (h : Sound C (pc + 2) k) : Sound C pc (x_lst i k) := by
  intro L st σ hk
  unfold x_lst at hk
  split at hk
  next x r =>
    have h1 := h _ _ _ hk
    obtain ⟨l, D, cA, b, p, e, R, s, m, args, below, meth, c, cells, slots, Q⟩ := C
    obtain ⟨hx, hb, hml, -⟩ := hC
    intro H locs ls hP hS hl
    exact lv_lstore hx hb hd hl (by rw [hml]; exact hi) rfl (fun ls' hl' => h1 H locs ls' hP hS (zhas_st2 (ls := ls) hl'))
  next => exact hk.elim
theorem s_iinc (hC : CF C own cc nL d) {i : Nat} {n : Int} (hd : decode cc pc = .ok (.iinc i n, 3)) (hi : i < nL) {v : Int32} (hv : Int32.ofInt n = v) (h : Sound C (pc + 3) k) : Sound C pc (x_inc i v k) := by
  intro L st σ hk
  obtain ⟨hL, hk⟩ := hk
  split at hk
  next x hx1 =>
    have h1 := h _ _ _ hk
    obtain ⟨l, D, cA, b, p, e, R, s, m, args, below, meth, c, cells, slots, Q⟩ := C
    obtain ⟨hx, hb, hml, -⟩ := hC
    intro H locs ls hP hS hl
    have hm : (i, Value.int x) ∈ zas b 0 L := (zas_mem L 0 _).mpr ⟨i, .int x, hx1, by simp [tv]⟩
    obtain ⟨q, hq⟩ := List.getElem?_of_mem hm
    exact lv_iinc hx hb hd hl hq (by rw [hv]) (by rw [hml]; exact hi) rfl (fun ls' hl' => h1 H locs ls' hP hS (zhas_st1 (ls := ls) hL hl'))
  next => exact hk.elim
end STEPS
