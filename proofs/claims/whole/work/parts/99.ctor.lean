/-! what a constructor makes -/
def Gr (σ σ' : ZS) : Prop := ∀ (i : Nat) (k : Nat × Nat), zd σ i = some k → zd σ' i = some k
theorem Gr.refl (σ : ZS) : Gr σ σ := fun _ _ h => h
theorem Gr.trans {σ σ1 σ2 : ZS} (h : Gr σ σ1) (g : Gr σ1 σ2) : Gr σ σ2 := fun i k q => g i k (h i k q)
theorem zg_new (σ : ZS) (k : Nat × Nat) : Gr σ (sNew σ k) := by
  intro i q h
  unfold zd at h ⊢
  split at h
  next hc =>
    rw [if_pos ⟨hc.1, by show i ≤ zN σ + 1; omega⟩, zK_old σ k (by omega)]
    exact h
  next => cases h
theorem zg_R (σ : ZS) (i j v : Nat) : Gr σ (sR σ i j v) := fun _ _ h => h
theorem zd_new (σ : ZS) (k : Nat × Nat) : zd (sNew σ k) (zN σ + 1) = some k := by
  unfold zd
  rw [if_pos ⟨by omega, Nat.le_refl _⟩, zK_new]
def arrF (σ : ZS) (i j kd n : Nat) : ZS := sR (sNew σ (kd, n)) i j (zN σ + 1)
theorem zg_arr (σ : ZS) (i j kd n : Nat) : Gr σ (arrF σ i j kd n) := (zg_new σ _).trans (zg_R _ _ _ _)
theorem zN_arr (σ : ZS) (i j kd n : Nat) : zN (arrF σ i j kd n) = zN σ + 1 := rfl
def objF (r : ZS → Nat → ZS) (ci j : Nat) (σ : ZS) (i : Nat) : ZS := sR (r (sNew σ (0, ci)) (zN σ + 1)) i j (zN σ + 1)
theorem CtI.z {C : ZC} {own : String} {cc : ByteArray} {d k n : Nat} {σ σ' : ZS} {Φ : Option Value → ZS → Prop} (h : CtI C own cc d k n σ Φ) (hz : zN σ' = zN σ) : CtI C own cc d k n σ' Φ := by
  obtain ⟨l, D, cA, b, p, e, R, s, m, args, below, meth, c, cells, slots, Q⟩ := C
  obtain ⟨h1, h2, h3, h4, h5⟩ := h
  have h3 : s.heap.size + cells = b.1 + zN σ + 1 := h3
  refine ⟨h1, h2, ?_, h4, h5⟩
  show s.heap.size + cells = b.1 + zN σ' + 1
  omega
theorem w_arr {C : ZC} {own : String} {cc : ByteArray} {d k n N kd j i ci pc pn : Nat} {atype : ArrayType} {σ : ZS} {Φ : Option Value → ZS → Prop} (h : CtI C own cc d (1 + k) (N + n) σ Φ) (hz : zd σ i = some (0, ci)) (d0 : decode cc pc = .ok (.aload_n 0, 1)) (hpush : ∀ C' : ZC, CF C' own cc 1 d → Sound C' (pc + 1) (x_psh (.int (nI N)) (WW C' pn))) (dn : decode cc pn = .ok (.newarray atype, 2)) (hty : newarray.typeOf atype = ztk kd) (hkd : 1 ≤ kd ∧ kd ≤ 4) (ha : Cond.arrayClass (ztk kd) ∈ lw_T) (hN : N < 2 ^ 31) (hby : N * componentBytes (newarray.typeOf atype) ≤ 536870912) (hput : ∀ C' : ZC, CF C' own cc 1 d → CI C' → Sound C' (pn + 2) (x_putR ci j (WW C' (pn + 5)))) (cont : ∀ C' : ZC, CtI C' own cc d k n (arrF σ i j kd N) Φ → WW C' (pn + 5) [some (.ref i)] [] (arrF σ i j kd N)) : WW C pc [some (.ref i)] [] σ := by
  refine s_aload_n h.1 d0 rfl (s_here C (pc + 1)) _ _ _ ?_
  show WW C (pc + 1) [some (.ref i)] [.ref i] σ
  refine hpush C h.1 _ _ _ ?_
  show WW C pn [some (.ref i)] [.int (nI N), .ref i] σ
  refine w_newa h.1 h.2.2.1 (h.rm (by omega) (by omega)) dn hty hkd ha hN hby ?_
  have h' : CtI (CA C 1 N) own cc d k n (sNew σ (kd, N)) Φ := h.add rfl
  refine hput _ h'.1 h'.2.1 _ _ _ ?_
  exact ⟨zg_new σ _ i _ hz, Nat.succ_ne_zero _, cont _ (h'.z rfl)⟩
theorem w_obj {C : ZC} {own host Cn : String} {cc cy : ByteArray} {d k n N j i ci c2 pc idx idx2 dy mc ms : Nat} {T : u_T} {ty : Nat → FieldType} {y : MethodName} {r : ZS → Nat → ZS} {σ : ZS} {Φ : Option Value → ZS → Prop} (h : CtI C own cc d (1 + (mc + k)) (N + (ms + n)) σ Φ) (hz : zd σ i = some (0, ci)) (d0 : decode cc pc = .ok (.aload_n 0, 1)) (dn : decode cc (pc + 1) = .ok (.new idx, 3)) (hk : ClsOk c2 Cn T N ty) (hcl : Cond.classLink own idx Cn ∈ lw_T) (hin : Cond.instantiable Cn N ∈ lw_T) (hini : Cond.initialized Cn ∈ lw_T) (hdef : ∀ j, j < N → defaultValue (ty j) = vp_V ((zfk c2).map (fun f => if f then Value.null else .int 0)) j) (dd : decode cc (pc + 4) = .ok (.dup, 1)) (di : decode cc (pc + 5) = .ok (.invokespecial idx2, 3)) (hM : MeetsI y cy dy mc ms c2 r) (hdy : dy + 1 ≤ d) (hke : CalleeI y cy) (hl : Cond.methodLinkNest own idx2 y host ∈ lw_T) (hg : ∀ σ i, Gr σ (r σ i) ∧ zN (r σ i) = zN σ + mc) (hput : ∀ C' : ZC, CF C' own cc 1 d → CI C' → Sound C' (pc + 8) (x_putR ci j (WW C' (pc + 11)))) (cont : ∀ C' : ZC, CtI C' own cc d k n (objF r c2 j σ i) Φ → WW C' (pc + 11) [some (.ref i)] [] (objF r c2 j σ i)) : WW C pc [some (.ref i)] [] σ := by
  refine s_aload_n h.1 d0 rfl (s_here C (pc + 1)) _ _ _ ?_
  show WW C (pc + 1) [some (.ref i)] [.ref i] σ
  refine w_new h.1 h.2.2.1 (h.rm (by omega) (by omega)) dn hk hcl hin hini hdef ?_
  have h' : CtI (CA C 1 N) own cc d (mc + k) (ms + n) (sNew σ (0, c2)) Φ := h.add rfl
  refine s_dup h'.1 dd (s_here _ (pc + 5)) _ _ _ ?_
  refine ⟨rfl, ?_⟩
  refine w_callIN h'.1 h'.2.2.1 (h'.rm (by omega) (by omega)) di hM hdy hke hl (zd_new σ _) (by simp [Value.category]) ?_
  have h2 : CtI (CA (CA C 1 N) mc ms) own cc d k n (r (sNew σ (0, c2)) (zN σ + 1)) Φ := h'.add (hg _ _).2
  refine hput _ h2.1 h2.2.1 _ _ _ ?_
  exact ⟨(hg _ _).1 i _ (zg_new σ _ i _ hz), Nat.succ_ne_zero _, cont _ (h2.z rfl)⟩
theorem zg_obj {r : ZS → Nat → ZS} {mc : Nat} (hg : ∀ σ i, Gr σ (r σ i) ∧ zN (r σ i) = zN σ + mc) (ci j : Nat) (σ : ZS) (i : Nat) : Gr σ (objF r ci j σ i) ∧ zN (objF r ci j σ i) = zN σ + (1 + mc) := ⟨((zg_new σ _).trans (hg _ _).1).trans (zg_R _ _ _ _), by show zN (r (sNew σ (0, ci)) (zN σ + 1)) = _; rw [(hg _ _).2]; show zN σ + 1 + mc = _; omega⟩
/-! a constructor whose end is told by what holds there -/
abbrev WPi : Type := Nat → ZS → (ZS → Prop) → Prop
def MeetsJ (y : MethodName) (cc : ByteArray) (d mc ms : Nat) (w : WPi) : Prop :=
  ∀ (l : Launch) (D : va_G) (cA : Nat → ClassId) (b : Nat × Nat) (i : Nat) (σ : ZS) (K : ZS → Prop), w i σ K → Met l y (Cond.code y cc 1 none :: lw_G) (zrm d mc ms) (MPreX D cA b [.ref i] σ) (MPost D cA b (fun v σ' => v = none ∧ K σ')) mc ms (fun q => b.1 < q)
theorem MeetsJ.mk {y : MethodName} {cc : ByteArray} {d mc ms : Nat} {w : WPi} (hy : plainName y.cls = true) (hn : y.name = "<init>")
    (hb : ∀ (C : ZC) (i : Nat) (σ : ZS) (K : ZS → Prop), w i σ K → CtI C y.cls cc d mc ms σ (fun v σ' => v = none ∧ K σ') → WW C 0 [some (.ref i)] [] σ) : MeetsJ y cc d mc ms w := by
  intro l D cA b i σ K hW
  refine Met.ofW (cc := cc) (maxL := 1) (ret := none) hy rfl ?_
  intro p e s m args' below meth c s₁ B hml hv
  obtain ⟨rfl, hsz, hbs, hP, hK, hN⟩ := hv
  have hts0 := atoms_spec (ws := Cond.code y cc 1 none :: lw_G) B.pre
  have hts : ∀ w ∈ lw_T, w.before ([Value.ref i].map (tv b)).toArray s = true := zT_of (fun w hw => hts0 w (List.mem_cons_of_mem _ hw)) hN
  have hin : meth.name = "<init>" := by rw [(name_of_methodNamed B.named B.method).1]; exact hn
  have h1 := hb (l, D, cA, b, p, e, zrm d mc ms, s, m, ([Value.ref i].map (tv b)).toArray, below, meth, c, 0, 0, MQ below (MPost D cA b (fun v σ' => v = none ∧ K σ')) ([Value.ref i].map (tv b)).toArray s mc ms (fun q => b.1 < q)) i σ K hW
    ⟨⟨B.exec, B.bytes, hml, findClass_of_methodNamed B.named, hts, hK, hbs, Nat.le_refl _, Nat.le_refl _, Nat.zero_le _, Nat.zero_le _⟩, hin, by show s.heap.size + 0 = b.1 + zN σ + 1; omega, by show 0 + mc ≤ mc ∧ 0 + ms ≤ ms; omega, B.returns, B.notSynchronized, rfl⟩
  rw [lg_entry_eq]
  refine h1 s.heap [] _ hP va_S.rf ?_
  have hl := lv_entry ([Value.ref i].map (tv b)) (n := 1) (by rw [zent_len]; exact Nat.le_of_ble_eq_true rfl)
  rw [hml]
  exact hl
theorem w_callJ {C : ZC} {own : String} {cc cy : ByteArray} {nL d pc idx i dy mc ms : Nat} {y : MethodName} {w : WPi} {L : List (Option Value)} {st : List Value} {σ : ZS} (hC : CF C own cc nL d) (hX : CX C σ) (hr : CRm C mc ms) (hd : decode cc pc = .ok (.invokespecial idx, 3)) (hM : MeetsJ y cy dy mc ms w) (hdy : dy + 1 ≤ d) (hk : CalleeI y cy) (hl : Cond.methodLink own idx y ∈ lw_T) (hcat : (st.map fun v => v.category).sum ≤ 8) (h : w i σ (fun σ' => WW (CA C mc ms) (pc + 3) L st σ')) : WW C pc L (.ref i :: st) σ := by
  obtain ⟨l, D, cA, b, p, e, R, s, m, args, below, meth, c, cells, slots, Q⟩ := C
  obtain ⟨hx, hb, hml, hown, hts, hK, hbs, hfr, hlo, hce, hsl⟩ := hC
  obtain ⟨k1, k3, k4, k5, k6, k7⟩ := hk
  intro H locs ls hP hS hl2
  refine z_size fun hsz => ?_
  have hX : s.heap.size + cells = b.1 + zN σ + 1 := hX
  have hr : cells + mc ≤ R.cells ∧ slots + ms ≤ R.slots := hr
  have hlow := z_low hP (Nat.lt_of_lt_of_le hbs hS.1)
  have hH : H.size = b.1 + (zN σ + 1) := by omega
  refine z_call (D := D) (cA := cA) (b := b) (va_runI (maxL := 1) (n := 0) (b := b.1 + i) (As := []) (rest := st.map (tv b)) ⟨hx, hb, hml, hown, hts⟩ (hM l D cA b i σ _ h) ⟨⟨rfl, rfl, by show dy + 1 ≤ R.frames; omega, by show 8 + (1 + 11) + 80 * dy ≤ R.locals; omega, pay_in hts (good_cons k4 rfl), List.mem_cons_self, hts _ k4, hts _ k3, k5, zlen k6, hts _ hl⟩, k7, hts _ k1⟩
    ⟨zblindX D cA b _ σ, fun U hU hW => ⟨rfl, by rw [hU]; exact hH, by rw [hU]; exact Nat.lt_of_lt_of_le hbs hS.1, by rw [hU]; exact hP, va_K.moved hW.alike hK, zN_at hts hW⟩⟩ rfl rfl (hl2.1.trans hml) rfl (lv_room (by rw [zcat]; exact hcat)) hd hr) hS (fun _ h => h) (fun v σ' H1 locs1 hk2 hP1 hS1 => ?_)
  obtain ⟨rfl, hk2⟩ := hk2
  exact hk2 H1 locs1 ls hP1 hS1 hl2
theorem zd_N {σ σ' : ZS} (h : zd σ' = zd σ) : zN σ' = zN σ := by
  have key : ∀ a b : ZS, zd a = zd b → zN a ≤ zN b := by
    intro a b hab
    refine Classical.byContradiction fun hc => ?_
    have := congrFun hab (zN a)
    unfold zd at this
    rw [if_pos (by omega), if_neg (by omega)] at this
    cases this
  exact Nat.le_antisymm (key _ _ h) (key _ _ h.symm)
