/-! NEW CELLS -/
theorem z_size {p : Program} {l : Launch} {e : Env} {R : Room} {s : State} {m : MethodId} {args : Array Value} {below : List Frame} {meth : Method} {c : Code} {H : Heap} {locs : List Loc} {cells slots : Nat} {Q : State → Prop} {g : JFrame} (k : H.size ≤ s.heap.size + cells → W p l e R s m args below meth c H locs cells slots Q g) : W p l e R s m args below meth c H locs cells slots Q g := fun T hT X => k (by rw [← hT]; exact X.heapSize) T hT X
def CX (C : ZC) (σ : ZS) : Prop := match C with
  | (l, D, cA, b, p, e, R, s, m, args, below, meth, c, cells, slots, Q) => s.heap.size + cells = b.1 + zN σ + 1
def CA (C : ZC) (k n : Nat) : ZC := match C with
  | (l, D, cA, b, p, e, R, s, m, args, below, meth, c, cells, slots, Q) => (l, D, cA, b, p, e, R, s, m, args, below, meth, c, cells + k, slots + n, Q)
def CRm (C : ZC) (k n : Nat) : Prop := match C with
  | (l, D, cA, b, p, e, R, s, m, args, below, meth, c, cells, slots, Q) => cells + k ≤ R.cells ∧ slots + n ≤ R.slots
theorem zfv_zero {b : Nat × Nat} {σ : ZS} {i : Nat} (hI : zI σ i = fun _ => 0) (hR : zR σ i = fun _ => 0) : ∀ (l : List Bool) (j : Nat), zfv b σ i j l = l.map (fun f => if f then Value.null else .int 0)
  | [], _ => rfl
  | false :: r, j => by rw [zfv, zfv_zero hI hR r, hI]; rfl
  | true :: r, j => by rw [zfv, zfv_zero hI hR r, hR]; rfl
theorem zI_new (σ : ZS) (k : Nat × Nat) : zI (sNew σ k) (zN σ + 1) = fun _ => 0 := if_pos rfl
theorem zJ_new (σ : ZS) (k : Nat × Nat) : zJ (sNew σ k) (zN σ + 1) = fun _ => 0 := if_pos rfl
theorem zR_new (σ : ZS) (k : Nat × Nat) : zR (sNew σ k) (zN σ + 1) = fun _ => 0 := if_pos rfl
theorem zK_new (σ : ZS) (k : Nat × Nat) : zK (sNew σ k) (zN σ + 1) = k := if_pos rfl
theorem zI_old (σ : ZS) (k : Nat × Nat) {i : Nat} (h : i ≠ zN σ + 1) : zI (sNew σ k) i = zI σ i := if_neg h
theorem zJ_old (σ : ZS) (k : Nat × Nat) {i : Nat} (h : i ≠ zN σ + 1) : zJ (sNew σ k) i = zJ σ i := if_neg h
theorem zR_old (σ : ZS) (k : Nat × Nat) {i : Nat} (h : i ≠ zN σ + 1) : zR (sNew σ k) i = zR σ i := if_neg h
theorem zK_old (σ : ZS) (k : Nat × Nat) {i : Nat} (h : i ≠ zN σ + 1) : zK (sNew σ k) i = zK σ i := if_neg h
theorem ztw_new (b : Nat × Nat) (cA : Nat → ClassId) (σ : ZS) (k : Nat × Nat) : ztw b cA (sNew σ k) = ztw b cA σ ++ [(b.1 + (zN σ + 1), zce b cA (sNew σ k) (zN σ + 1))] := by
  unfold ztw
  rw [show zN (sNew σ k) = zN σ + 1 from rfl, List.range_succ, List.map_append]
  congr 1
  apply List.map_congr_left
  intro i hi
  have hi := List.mem_range.mp hi
  have hne : i + 1 ≠ zN σ + 1 := by omega
  rw [zce_congr (zK_old σ k hne) (zI_old σ k hne) (zJ_old σ k hne) (zR_old σ k hne)]
theorem z_low {D : va_G} {cA : Nat → ClassId} {b : Nat × Nat} {σ : ZS} {H : Heap} (hP : va_P D vwCl (ztw b cA σ) H) (h0 : b.1 < H.size) : b.1 + zN σ < H.size := by
  by_cases h : zN σ = 0
  · omega
  · have hz : zd σ (zN σ) = some (zK σ (zN σ)) := by unfold zd; rw [if_pos (by omega)]
    obtain ⟨g1, -, -, -⟩ := ztw_at (b := b) (cA := cA) hz
    exact (hP _ _ g1).lt
theorem w_new {C : ZC} {own Cn : String} {cc : ByteArray} {nL d pc idx ci N : Nat} {T : u_T} {ty : Nat → FieldType} {L : List (Option Value)} {st : List Value} {σ : ZS} (hC : CF C own cc nL d) (hX : CX C σ) (hr : CRm C 1 N) (hd : decode cc pc = .ok (.new idx, 3)) (hk : ClsOk ci Cn T N ty) (hcl : Cond.classLink own idx Cn ∈ lw_T) (hin : Cond.instantiable Cn N ∈ lw_T) (hini : Cond.initialized Cn ∈ lw_T) (hdef : ∀ j, j < N → defaultValue (ty j) = vp_V ((zfk ci).map (fun f => if f then Value.null else .int 0)) j) (h : WW (CA C 1 N) (pc + 3) L (.ref (zN σ + 1) :: st) (sNew σ (0, ci))) : WW C pc L st σ := by
  obtain ⟨l, D, cA, b, p, e, R, s, m, args, below, meth, c, cells, slots, Q⟩ := C
  obtain ⟨hx, hb, hml, hown, hts, hK, hbs, hfr, hlo, hce, hsl⟩ := hC
  obtain ⟨c1, c2, c3, c4, c5⟩ := hk
  intro H locs ls hP hS hl
  refine z_size fun hsz => ?_
  have hX : s.heap.size + cells = b.1 + zN σ + 1 := hX
  have hr : cells + 1 ≤ R.cells ∧ slots + N ≤ R.slots := hr
  have hlow := z_low hP (Nat.lt_of_lt_of_le hbs hS.1)
  have hH : H.size = b.1 + (zN σ + 1) := by omega
  have hKn := hK.1 ci _ c1
  refine W.newcK hx hb hown (hts _ hcl) (hts _ hin) (hts _ hini) rfl hd hr.1 hr.2 hKn.2.1 hH fun H1 kC hkC e1 z1 o1 => ?_
  have hk : ∀ (k : Nat) (x : Nat × va_E), (ztw b cA σ)[k]? = some x → H1[x.1]? = H[x.1]? := fun k x hx => o1 x.1 (by have := (hP k x hx).lt; omega)
  refine h H1 locs ls ?_ ⟨Nat.le_trans hS.1 (by omega), fun x h1 h2 => (o1 x (by have := hS.1; omega)).trans (hS.2.1 x h1 h2), hS.2.2⟩ hl
  rw [ztw_new]
  refine (hP.kept hk).app (fun k x hx => ?_)
  have hz : k < 1 := (List.getElem?_eq_some_iff.mp hx).1
  rw [show k = 0 by omega] at hx
  cases hx
  rw [zce_obj (zK_new σ (0, ci)), zfv_zero (zI_new σ _) (zR_new σ _)]
  exact ⟨_, c1, (u_born ty hts c2 hKn hkC e1 c3).to hdef⟩
def ztk : Nat → FieldType
  | 1 => .int
  | 2 => .byte
  | 3 => .long
  | _ => .boolean
theorem w_newa {C : ZC} {own : String} {cc : ByteArray} {nL d pc kd N : Nat} {atype : ArrayType} {L : List (Option Value)} {st : List Value} {σ : ZS} (hC : CF C own cc nL d) (hX : CX C σ) (hr : CRm C 1 N) (hd : decode cc pc = .ok (.newarray atype, 2)) (hty : newarray.typeOf atype = ztk kd) (hkd : 1 ≤ kd ∧ kd ≤ 4) (ha : Cond.arrayClass (ztk kd) ∈ lw_T) (hN : N < 2 ^ 31) (hby : N * componentBytes (newarray.typeOf atype) ≤ 536870912) (h : WW (CA C 1 N) (pc + 2) L (.ref (zN σ + 1) :: st) (sNew σ (kd, N))) : WW C pc L (.int (nI N) :: st) σ := by
  obtain ⟨l, D, cA, b, p, e, R, s, m, args, below, meth, c, cells, slots, Q⟩ := C
  obtain ⟨hx, hb, hml, hown, hts, hK, hbs, hfr, hlo, hce, hsl⟩ := hC
  intro H locs ls hP hS hl
  refine z_size fun hsz => ?_
  have hX : s.heap.size + cells = b.1 + zN σ + 1 := hX
  have hr : cells + 1 ≤ R.cells ∧ slots + N ≤ R.slots := hr
  have hlow := z_low hP (Nat.lt_of_lt_of_le hbs hS.1)
  have hH : H.size = b.1 + (zN σ + 1) := by omega
  refine va_newaK hx hb (by rw [hty]; exact hts _ ha) rfl hd rfl (nI_pos hN) (nI_clamp hN) hby hr.1 hr.2 hH fun H1 cB e1 z1 o1 hAr hNm => ?_
  have hk : ∀ (k : Nat) (x : Nat × va_E), (ztw b cA σ)[k]? = some x → H1[x.1]? = H[x.1]? := fun k x hx => o1 x.1 (by have := (hP k x hx).lt; omega)
  refine h H1 locs ls ?_ ⟨Nat.le_trans hS.1 (by omega), fun x h1 h2 => (o1 x (by have := hS.1; omega)).trans (hS.2.1 x h1 h2), hS.2.2⟩ hl
  rw [ztw_new]
  refine (hP.kept hk).app (fun k x hx => ?_)
  have hz : k < 1 := (List.getElem?_eq_some_iff.mp hx).1
  rw [show k = 0 by omega] at hx
  cases hx
  rw [hty] at e1 hNm
  rcases (show kd = 1 ∨ kd = 2 ∨ kd = 3 ∨ kd = 4 by omega) with rfl | rfl | rfl | rfl
  · have hq : s.vm.findClass ("[" ++ (ztk 1).toString) = some (cA 0) := (hK.2 0 _ rfl).2
    cases hNm.symm.trans hq
    rw [zce_int (zK_new σ (1, N)), zI_new]
    exact e1
  · have hq : s.vm.findClass ("[" ++ (ztk 2).toString) = some (cA 1) := (hK.2 1 _ rfl).2
    cases hNm.symm.trans hq
    rw [zce_byte (zK_new σ (2, N)), zI_new]
    exact e1
  · have hq : s.vm.findClass ("[" ++ (ztk 3).toString) = some (cA 2) := (hK.2 2 _ rfl).2
    cases hNm.symm.trans hq
    rw [zce_long (zK_new σ (3, N)), zJ_new]
    exact e1
  · have hq : s.vm.findClass ("[" ++ (ztk 4).toString) = some (cA 3) := (hK.2 3 _ rfl).2
    cases hNm.symm.trans hq
    rw [zce_bool (zK_new σ (4, N)), zI_new]
    exact e1
theorem w_obji {C : ZC} {own : String} {cc : ByteArray} {nL d pc idx i : Nat} {L : List (Option Value)} {σ : ZS} (hC : CF C own cc nL d) (h1d : 1 ≤ d) (hd : decode cc pc = .ok (.invokespecial idx, 3)) (hlk : Cond.methodLink own idx objectInit ∈ lw_T) (hi : Cond.instanceMethod objectInit ∈ lw_T) (hco : Cond.code objectInit ⟨#[0xb1]⟩ 1 none ∈ lw_T) (h : WW C (pc + 3) L [] σ) : WW C pc L [.ref i] σ := by
  obtain ⟨l, D, cA, b, p, e, R, s, m, args, below, meth, c, cells, slots, Q⟩ := C
  obtain ⟨hx, hb, hml, hown, hts, hK, hbs, hfr, hlo, hce, hsl⟩ := hC
  intro H locs ls hP hS hl
  have hf1 : 1 ≤ R.frames := by omega
  exact W.objInit (a := b.1 + i) (rest := []) hx hb hown (hts _ hlk) (hts _ hi) (hts _ hco) rfl hl.1 rfl hd hf1 (by show 0 + 12 ≤ R.locals; omega) (h H locs ls hP hS hl)
/-! constructors -/
def MPreX (D : va_G) (cA : Nat → ClassId) (b : Nat × Nat) (args : List Value) (σ : ZS) : Array Value → State → Prop := va_Pc (args.map (tv b)) (fun U => U.heap.size = b.1 + (zN σ + 1) ∧ b.1 < U.heap.size ∧ va_P D vwCl (ztw b cA σ) U.heap ∧ va_K D vwCl (zty cA) U ∧ ∀ w ∈ lw_T, zNest w = true → va_Nw w U)
def MeetsI (y : MethodName) (cc : ByteArray) (d mc ms : Nat) (ci : Nat) (r : ZS → Nat → ZS) : Prop :=
  ∀ (l : Launch) (D : va_G) (cA : Nat → ClassId) (b : Nat × Nat) (i : Nat) (σ : ZS) (Φ : Option Value → ZS → Prop), zd σ i = some (0, ci) → Φ none (r σ i) → Met l y (Cond.code y cc 1 none :: lw_G) (zrm d mc ms) (MPreX D cA b [.ref i] σ) (MPost D cA b Φ) mc ms (fun q => b.1 < q)
def CRX (C : ZC) (Φ : Option Value → ZS → Prop) : Prop := match C with
  | (l, D, cA, b, p, e, R, s, m, args, below, meth, c, cells, slots, Q) => meth.sig.returnType = none ∧ meth.locks = false ∧ Q = MQ below (MPost D cA b Φ) args s R.cells R.slots (fun q => b.1 < q)
/-- all that a constructor's walk needs: room for k cells of n slots is left -/
def CtI (C : ZC) (own : String) (cc : ByteArray) (d k n : Nat) (σ : ZS) (Φ : Option Value → ZS → Prop) : Prop := CF C own cc 1 d ∧ CI C ∧ CX C σ ∧ CRm C k n ∧ CRX C Φ
theorem CtI.add {C : ZC} {own : String} {cc : ByteArray} {d k n k' n' : Nat} {σ σ' : ZS} {Φ : Option Value → ZS → Prop} (h : CtI C own cc d (k' + k) (n' + n) σ Φ) (hz : zN σ' = zN σ + k') : CtI (CA C k' n') own cc d k n σ' Φ := by
  obtain ⟨l, D, cA, b, p, e, R, s, m, args, below, meth, c, cells, slots, Q⟩ := C
  obtain ⟨⟨hx, hb, hml, hown, hts, hK, hbs, hfr, hlo, hce, hsl⟩, h2, h3, h4, h5⟩ := h
  have h3 : s.heap.size + cells = b.1 + zN σ + 1 := h3
  have h4 : cells + (k' + k) ≤ R.cells ∧ slots + (n' + n) ≤ R.slots := h4
  refine ⟨⟨hx, hb, hml, hown, hts, hK, hbs, hfr, hlo, ?_, ?_⟩, h2, ?_, ?_, h5⟩
  · show cells + k' ≤ R.cells; omega
  · show slots + n' ≤ R.slots; omega
  · show s.heap.size + (cells + k') = b.1 + zN σ' + 1; omega
  · show cells + k' + k ≤ R.cells ∧ slots + n' + n ≤ R.slots; omega
theorem CtI.rm {C : ZC} {own : String} {cc : ByteArray} {d k n k' n' : Nat} {σ : ZS} {Φ : Option Value → ZS → Prop} (h : CtI C own cc d k n σ Φ) (h1 : k' ≤ k) (h2 : n' ≤ n) : CRm C k' n' := by
  obtain ⟨l, D, cA, b, p, e, R, s, m, args, below, meth, c, cells, slots, Q⟩ := C
  have h4 : cells + k ≤ R.cells ∧ slots + n ≤ R.slots := h.2.2.2.1
  show cells + k' ≤ R.cells ∧ slots + n' ≤ R.slots
  omega
theorem CtI.r {C : ZC} {own : String} {cc : ByteArray} {d k n : Nat} {σ : ZS} {Φ : Option Value → ZS → Prop} (h : CtI C own cc d k n σ Φ) : CR C none Φ := by
  obtain ⟨l, D, cA, b, p, e, R, s, m, args, below, meth, c, cells, slots, Q⟩ := C
  obtain ⟨⟨hx, hb, hml, hown, hts, hK, hbs, hfr, hlo, hce, hsl⟩, h2, h3, h4, h5, h6, h7⟩ := h
  exact ⟨h5, h6, R.cells, R.slots, h7, hce, hsl⟩
theorem MeetsI.mk {y : MethodName} {cc : ByteArray} {d mc ms ci : Nat} {r : ZS → Nat → ZS} (hy : plainName y.cls = true) (hn : y.name = "<init>")
    (hb : ∀ (C : ZC) (i : Nat) (σ : ZS) (Φ : Option Value → ZS → Prop), zd σ i = some (0, ci) → Φ none (r σ i) → CtI C y.cls cc d mc ms σ Φ → WW C 0 [some (.ref i)] [] σ) : MeetsI y cc d mc ms ci r := by
  intro l D cA b i σ Φ hz hW
  refine Met.ofW (cc := cc) (maxL := 1) (ret := none) hy rfl ?_
  intro p e s m args' below meth c s₁ B hml hv
  obtain ⟨rfl, hsz, hbs, hP, hK, hN⟩ := hv
  have hts0 := atoms_spec (ws := Cond.code y cc 1 none :: lw_G) B.pre
  have hts : ∀ w ∈ lw_T, w.before ([Value.ref i].map (tv b)).toArray s = true := zT_of (fun w hw => hts0 w (List.mem_cons_of_mem _ hw)) hN
  have hin : meth.name = "<init>" := by rw [(name_of_methodNamed B.named B.method).1]; exact hn
  have h1 := hb (l, D, cA, b, p, e, zrm d mc ms, s, m, ([Value.ref i].map (tv b)).toArray, below, meth, c, 0, 0, MQ below (MPost D cA b Φ) ([Value.ref i].map (tv b)).toArray s mc ms (fun q => b.1 < q)) i σ Φ hz hW
    ⟨⟨B.exec, B.bytes, hml, findClass_of_methodNamed B.named, hts, hK, hbs, Nat.le_refl _, Nat.le_refl _, Nat.zero_le _, Nat.zero_le _⟩, hin, by show s.heap.size + 0 = b.1 + zN σ + 1; omega, by show 0 + mc ≤ mc ∧ 0 + ms ≤ ms; omega, B.returns, B.notSynchronized, rfl⟩
  rw [lg_entry_eq]
  refine h1 s.heap [] _ hP va_S.rf ?_
  have hl := lv_entry ([Value.ref i].map (tv b)) (n := 1) (by rw [zent_len]; exact Nat.le_of_ble_eq_true rfl)
  rw [hml]
  exact hl
def CalleeI (y : MethodName) (cc : ByteArray) : Prop := Cond.instanceMethod y ∈ lw_T ∧ Cond.initialized y.cls ∈ lw_T ∧ Cond.code y cc 1 none ∈ lw_T ∧ (y.cls ≠ "java/lang/invoke/MethodHandle" ∧ y.cls ≠ "java/lang/invoke/VarHandle") ∧ (parseMethodDescriptor y.desc).map (fun d => d.parameters.length) = some 0 ∧ y.name = "<init>"
theorem zblindX (D : va_G) (cA : Nat → ClassId) (b : Nat × Nat) (args : List Value) (σ : ZS) : FrameBlind (MPreX D cA b args σ) := fun a U g mk q => by
  obtain ⟨q0, qs, q1, qP, qK, qN⟩ := q
  exact ⟨q0, qs, q1, qP, va_K.moved (u := U) (U := U.calling g mk a) (Vm.Alike.refl U.vm) qK, fun w hw hz => va_Nw.same (u := U) (U := U.calling g mk a) (zNest_on hz) rfl (qN w hw hz)⟩
theorem w_callIN {C : ZC} {own host : String} {cc cy : ByteArray} {nL d pc idx i dy mc ms ci : Nat} {y : MethodName} {r : ZS → Nat → ZS} {L : List (Option Value)} {st : List Value} {σ : ZS} (hC : CF C own cc nL d) (hX : CX C σ) (hr : CRm C mc ms) (hd : decode cc pc = .ok (.invokespecial idx, 3)) (hM : MeetsI y cy dy mc ms ci r) (hdy : dy + 1 ≤ d) (hk : CalleeI y cy) (hl : Cond.methodLinkNest own idx y host ∈ lw_T) (hz : zd σ i = some (0, ci)) (hcat : (st.map fun v => v.category).sum ≤ 8) (h : WW (CA C mc ms) (pc + 3) L st (r σ i)) : WW C pc L (.ref i :: st) σ := by
  obtain ⟨l, D, cA, b, p, e, R, s, m, args, below, meth, c, cells, slots, Q⟩ := C
  obtain ⟨hx, hb, hml, hown, hts, hK, hbs, hfr, hlo, hce, hsl⟩ := hC
  obtain ⟨k1, k3, k4, k5, k6, k7⟩ := hk
  intro H locs ls hP hS hl2
  refine z_size fun hsz => ?_
  have hX : s.heap.size + cells = b.1 + zN σ + 1 := hX
  have hr : cells + mc ≤ R.cells ∧ slots + ms ≤ R.slots := hr
  have hlow := z_low hP (Nat.lt_of_lt_of_le hbs hS.1)
  have hH : H.size = b.1 + (zN σ + 1) := by omega
  refine z_call (D := D) (cA := cA) (b := b) (Φ := fun v σ' => v = none ∧ σ' = r σ i) (va_runIN (host := host) (maxL := 1) (n := 0) (b := b.1 + i) (As := []) (rest := st.map (tv b)) ⟨hx, hb, hml, hown, hts⟩ (hM l D cA b i σ _ hz ⟨rfl, rfl⟩) ⟨va_cnB (own := own) (host := host) 0 hts (good_cons k4 rfl) rfl rfl rfl (va_tabs rfl rfl (hts _ hl)) (hts _ k3) ⟨k5.1, k5.2, k6⟩ ⟨by show dy + 1 ≤ R.frames; omega, by show 8 + (1 + 11) + 80 * dy ≤ R.locals; omega⟩, k7, hts _ k1⟩
    ⟨zblindX D cA b _ σ, fun U hU hW => ⟨rfl, by rw [hU]; exact hH, by rw [hU]; exact Nat.lt_of_lt_of_le hbs hS.1, by rw [hU]; exact hP, va_K.moved hW.alike hK, zN_at hts hW⟩⟩ rfl rfl (hl2.1.trans hml) rfl (lv_room (by rw [zcat]; exact hcat)) hd hr) hS (fun _ h => h) (fun v σ' H1 locs1 hk2 hP1 hS1 => ?_)
  obtain ⟨rfl, rfl⟩ := hk2
  exact h H1 locs1 ls hP1 hS1 hl2
theorem w_callI {C : ZC} {own : String} {cc cy : ByteArray} {nL d pc idx i dy mc ms ci : Nat} {y : MethodName} {r : ZS → Nat → ZS} {L : List (Option Value)} {st : List Value} {σ : ZS} (hC : CF C own cc nL d) (hX : CX C σ) (hr : CRm C mc ms) (hd : decode cc pc = .ok (.invokespecial idx, 3)) (hM : MeetsI y cy dy mc ms ci r) (hdy : dy + 1 ≤ d) (hk : CalleeI y cy) (hl : Cond.methodLink own idx y ∈ lw_T) (hz : zd σ i = some (0, ci)) (hcat : (st.map fun v => v.category).sum ≤ 8) (h : WW (CA C mc ms) (pc + 3) L st (r σ i)) : WW C pc L (.ref i :: st) σ := by
  obtain ⟨l, D, cA, b, p, e, R, s, m, args, below, meth, c, cells, slots, Q⟩ := C
  obtain ⟨hx, hb, hml, hown, hts, hK, hbs, hfr, hlo, hce, hsl⟩ := hC
  obtain ⟨k1, k3, k4, k5, k6, k7⟩ := hk
  intro H locs ls hP hS hl2
  refine z_size fun hsz => ?_
  have hX : s.heap.size + cells = b.1 + zN σ + 1 := hX
  have hr : cells + mc ≤ R.cells ∧ slots + ms ≤ R.slots := hr
  have hlow := z_low hP (Nat.lt_of_lt_of_le hbs hS.1)
  have hH : H.size = b.1 + (zN σ + 1) := by omega
  refine z_call (D := D) (cA := cA) (b := b) (Φ := fun v σ' => v = none ∧ σ' = r σ i) (va_runI (maxL := 1) (n := 0) (b := b.1 + i) (As := []) (rest := st.map (tv b)) ⟨hx, hb, hml, hown, hts⟩ (hM l D cA b i σ _ hz ⟨rfl, rfl⟩) ⟨⟨rfl, rfl, by show dy + 1 ≤ R.frames; omega, by show 8 + (1 + 11) + 80 * dy ≤ R.locals; omega, pay_in hts (good_cons k4 rfl), List.mem_cons_self, hts _ k4, hts _ k3, k5, zlen k6, hts _ hl⟩, k7, hts _ k1⟩
    ⟨zblindX D cA b _ σ, fun U hU hW => ⟨rfl, by rw [hU]; exact hH, by rw [hU]; exact Nat.lt_of_lt_of_le hbs hS.1, by rw [hU]; exact hP, va_K.moved hW.alike hK, zN_at hts hW⟩⟩ rfl rfl (hl2.1.trans hml) rfl (lv_room (by rw [zcat]; exact hcat)) hd hr) hS (fun _ h => h) (fun v σ' H1 locs1 hk2 hP1 hS1 => ?_)
  obtain ⟨rfl, rfl⟩ := hk2
  exact h H1 locs1 ls hP1 hS1 hl2
