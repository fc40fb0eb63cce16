/-! CONTRACTS AND CALLS -/
def MPre (D : va_G) (cA : Nat → ClassId) (b : Nat × Nat) (args : List Value) (σ : ZS) : Array Value → State → Prop := va_Pc (args.map (tv b)) (fun U => b.1 < U.heap.size ∧ va_P D vwCl (ztw b cA σ) U.heap ∧ va_K D vwCl (zty cA) U ∧ ∀ w ∈ lw_T, zNest w = true → va_Nw w U)
def MPost (D : va_G) (cA : Nat → ClassId) (b : Nat × Nat) (Φ : Option Value → ZS → Prop) : Array Value → State → Outcome → State → Prop := fun _ st o t => (∃ (v : Option Value) (σ' : ZS), o = .returned (v.map (tv b)) ∧ Φ v σ' ∧ va_P D vwCl (ztw b cA σ') t.heap) ∧ va_F (fun q => b.1 < q) st t
abbrev zrm (d mc ms : Nat) : Room := { frames := d, cells := mc, slots := ms, locals := 80 * d }
def Meets (y : MethodName) (cc : ByteArray) (nL : Nat) (ret : Option FieldType) (d : Nat) (WP : WPt) : Prop :=
  ∀ (l : Launch) (D : va_G) (cA : Nat → ClassId) (b : Nat × Nat) (args : List Value) (σ : ZS) (Φ : Option Value → ZS → Prop), WP args σ Φ → Met l y (Cond.code y cc nL ret :: lw_G) (zrm d 0 0) (MPre D cA b args σ) (MPost D cA b Φ) 0 0 (fun q => b.1 < q)
/-- what the end of a method needs -/
def CR (C : ZC) (ret : Option FieldType) (Φ : Option Value → ZS → Prop) : Prop := match C with
  | (l, D, cA, b, p, e, R, s, m, args, below, meth, c, cells, slots, Q) => meth.sig.returnType = ret ∧ meth.locks = false ∧ ∃ mc ms, Q = MQ below (MPost D cA b Φ) args s mc ms (fun q => b.1 < q) ∧ cells ≤ mc ∧ slots ≤ ms
def zentL : List Value → List (Option Value)
  | [] => []
  | .long x :: r => some (.long x) :: none :: zentL r
  | .double x :: r => some (.double x) :: none :: zentL r
  | v :: r => some v :: zentL r
def zent (nL : Nat) (args : List Value) : List (Option Value) := zentL args ++ List.replicate (nL - (zentL args).length) none
theorem zas_rep (b : Nat × Nat) : ∀ (n k : Nat), zas b k (List.replicate n none) = []
  | 0, k => rfl
  | n + 1, k => by rw [List.replicate_succ, zas, zas_rep b n]
theorem zas_app (b : Nat × Nat) : ∀ (L M : List (Option Value)) (k : Nat), zas b k (L ++ M) = zas b k L ++ zas b (k + L.length) M
  | [], M, k => by simp [zas]
  | none :: r, M, k => by
    rw [List.cons_append, zas, zas, zas_app b r M (k + 1), List.length_cons, show k + 1 + r.length = k + (r.length + 1) by omega]
  | some v :: r, M, k => by
    rw [List.cons_append, zas, zas, zas_app b r M (k + 1), List.length_cons, show k + 1 + r.length = k + (r.length + 1) by omega, List.cons_append]
theorem zas_ent (b : Nat × Nat) : ∀ (args : List Value) (k : Nat), zas b k (zentL args) = lv_args k (args.map (tv b))
  | [], k => rfl
  | .long x :: r, k => by rw [zentL, zas, zas, zas_ent b r]; rfl
  | .double x :: r, k => by rw [zentL, zas, zas, zas_ent b r]; rfl
  | .int x :: r, k => by rw [zentL, zas, zas_ent b r]; rfl; all_goals (intro a h; cases h)
  | .float x :: r, k => by rw [zentL, zas, zas_ent b r]; rfl; all_goals (intro a h; cases h)
  | .null :: r, k => by rw [zentL, zas, zas_ent b r]; rfl; all_goals (intro a h; cases h)
  | .ref x :: r, k => by rw [zentL, zas, zas_ent b r]; rfl; all_goals (intro a h; cases h)
  | .retAddr x :: r, k => by rw [zentL, zas, zas_ent b r]; rfl; all_goals (intro a h; cases h)
theorem zent_len (b : Nat × Nat) : ∀ (args : List Value), (lg_sl (args.map (tv b))).length = (zentL args).length
  | [] => rfl
  | .long x :: r => by have := zent_len b r; simp [lg_sl, tv, zentL, Value.category] at this ⊢; omega
  | .double x :: r => by have := zent_len b r; simp [lg_sl, tv, zentL, Value.category] at this ⊢; omega
  | .int x :: r => by have := zent_len b r; simp [lg_sl, tv, zentL, Value.category] at this ⊢; omega
  | .float x :: r => by have := zent_len b r; simp [lg_sl, tv, zentL, Value.category] at this ⊢; omega
  | .null :: r => by have := zent_len b r; simp [lg_sl, tv, zentL, Value.category] at this ⊢; omega
  | .ref x :: r => by have := zent_len b r; simp [lg_sl, tv, zentL, Value.category] at this ⊢; omega
  | .retAddr x :: r => by have := zent_len b r; simp [lg_sl, tv, zentL, Value.category] at this ⊢; omega
theorem zT_of {args : Array Value} {s : State} (h : ∀ w ∈ lw_G, w.before args s = true) (hN : ∀ w ∈ lw_T, zNest w = true → va_Nw w s) : ∀ w ∈ lw_T, w.before args s = true := by
  intro w hw
  obtain ⟨h1, h2⟩ := List.mem_filter.mp hw
  by_cases hg : goodWord w = true
  · exact h w (List.mem_filter.mpr ⟨h1, hg⟩)
  · have hz : zNest w = true := by
      cases hz : zNest w with
      | true => rfl
      | false => simp [hg, hz] at h2
    have hon : w.onTables = true := by
      cases w <;> first | rfl | (simp [zNest] at hz; done)
    exact va_Nw.use hon (hN w hw hz)
/-- a contract out of the walk from the entry -/
theorem Meets.mk {y : MethodName} {cc : ByteArray} {nL : Nat} {ret : Option FieldType} {d : Nat} {WP : WPt} (hy : plainName y.cls = true)
    (hb : ∀ (args : List Value) (σ : ZS) (Φ : Option Value → ZS → Prop), WP args σ Φ → (zentL args).length ≤ nL ∧ ∀ C : ZC, CF C y.cls cc nL d → CR C ret Φ → WW C 0 (zent nL args) [] σ) : Meets y cc nL ret d WP := by
  intro l D cA b args σ Φ hW
  obtain ⟨hlen, hb⟩ := hb args σ Φ hW
  refine Met.ofW (cc := cc) (maxL := nL) (ret := ret) hy rfl ?_
  intro p e s m args' below meth c s₁ B hml hv
  obtain ⟨rfl, hbs, hP, hK, hN⟩ := hv
  have hts0 := atoms_spec (ws := Cond.code y cc nL ret :: lw_G) B.pre
  have hts : ∀ w ∈ lw_T, w.before (args.map (tv b)).toArray s = true := zT_of (fun w hw => hts0 w (List.mem_cons_of_mem _ hw)) hN
  have h1 := hb (l, D, cA, b, p, e, zrm d 0 0, s, m, (args.map (tv b)).toArray, below, meth, c, 0, 0, MQ below (MPost D cA b Φ) (args.map (tv b)).toArray s 0 0 (fun q => b.1 < q))
    ⟨B.exec, B.bytes, hml, findClass_of_methodNamed B.named, hts, hK, hbs, Nat.le_refl _, Nat.le_refl _, Nat.le_refl _, Nat.le_refl _⟩
    ⟨B.returns, B.notSynchronized, 0, 0, rfl, Nat.le_refl _, Nat.le_refl _⟩
  rw [lg_entry_eq]
  refine h1 s.heap [] _ hP va_S.rf ?_
  have hl := lv_entry (args.map (tv b)) (n := nL) (by rw [zent_len]; exact hlen)
  unfold zhas zent
  rw [hml, zas_app, zas_rep, List.append_nil, zas_ent]
  exact hl
theorem good_cons {w : Cond} (h : w ∈ lw_T) (hg : goodWord w = true) : GoodIn lw_T (w :: lw_G) := fun v hv => (List.mem_cons.mp hv).elim (fun e => e ▸ ⟨h, good_of_word hg⟩) (fun hv => by
  obtain ⟨h1, h2⟩ := List.mem_filter.mp hv
  exact ⟨List.mem_filter.mpr ⟨h1, by rw [h2]; rfl⟩, good_of_word h2⟩)
theorem zNest_warm {s U : State} (hW : s.WarmedH U.vm) : ∀ {w : Cond}, zNest w = true → va_Nw w s → va_Nw w U := by
  intro w h hZ
  cases w <;> first | exact va_Nw.warmF hW hZ | exact va_Nw.warmM hW hZ | (simp [zNest] at h; done)
theorem zNest_on {w : Cond} (h : zNest w = true) : w.onTables = true := by
  cases w <;> first | rfl | (simp [zNest] at h; done)
theorem zN_at {args : Array Value} {s U : State} (hts : ∀ w ∈ lw_T, w.before args s = true) (hW : s.WarmedH U.vm) : ∀ w ∈ lw_T, zNest w = true → va_Nw w U := fun w hw hz => zNest_warm hW hz (va_Nw.of (zNest_on hz) (hts w hw))
section CALLS
variable {p : Program} {l : Launch} {e : Env} {R : Room} {s : State} {m : MethodId} {args : Array Value} {below : List Frame} {meth : Method} {c : Code} {H : Heap} {locs : List Loc} {cells slots : Nat} {Q : State → Prop}
variable {pc mc ms : Nat} {ls : Array Slot} {rest st0 : List Value} {a : Array Value} {D : va_G} {cA : Nat → ClassId} {b : Nat × Nat} {Φ : Option Value → ZS → Prop} {free : Addr → Prop}
theorem z_call (hr : va_Run p l e R s m args below meth c H locs cells slots mc ms (F0 m pc ls st0) rest (MPost D cA b Φ a) free) (hS : va_S (fun q => b.1 < q) s.heap H locs) (hf : ∀ q, free q → b.1 < q)
    (kk : ∀ (v : Option Value) (σ' : ZS) (H1 : Heap) (locs1 : List Loc), Φ v σ' → va_P D vwCl (ztw b cA σ') H1 → va_S (fun q => b.1 < q) s.heap H1 locs1 → W p l e R s m args below meth c H1 locs1 (cells + mc) (slots + ms) Q (F0 m (pc + 3) ls ((v.map (tv b)).toList ++ rest))) : W p l e R s m args below meth c H locs cells slots Q (F0 m pc ls st0) := by
  intro T hT X
  obtain ⟨v, st₀, t, T', L, h0, X', hL, e1, e2, ⟨⟨r, u, hv, hp, hb⟩, hz, hk⟩, st⟩ := hr T hT X
  cases hv
  rw [h0] at hz hk
  obtain ⟨t2, a1, b1⟩ := kk r u T'.heap (locs ++ L) hp (by rw [e1]; exact hb)
    ⟨Nat.le_trans hS.1 (by rw [e1]; exact hz), fun q h1 h2 => by rw [e1, hk q (Nat.lt_of_lt_of_le h1 hS.1) h2]; exact hS.2.1 q h1 h2, fun q hq => by
      rcases List.mem_append.mp hq with h | h
      · exact hS.2.2 q h
      · exact hf _ (hL q h)⟩ T' rfl X'
  exact ⟨t2, st t2 a1, b1⟩
end CALLS
def CalleeV (y : MethodName) (cc : ByteArray) (nL : Nat) (ret : Option FieldType) (n : Nat) : Prop := Cond.instanceMethod y ∈ lw_T ∧ Cond.selects y.cls y y ∈ lw_T ∧ Cond.initialized y.cls ∈ lw_T ∧ Cond.code y cc nL ret ∈ lw_T ∧ (y.cls ≠ "java/lang/invoke/MethodHandle" ∧ y.cls ≠ "java/lang/invoke/VarHandle") ∧ (parseMethodDescriptor y.desc).map (fun d => d.parameters.length) = some n ∧ nL ≤ 60
def CalleeS (y : MethodName) (cc : ByteArray) (nL : Nat) (ret : Option FieldType) (n : Nat) : Prop := Cond.static y ∈ lw_T ∧ Cond.initialized y.cls ∈ lw_T ∧ Cond.code y cc nL ret ∈ lw_T ∧ (y.cls ≠ "java/lang/invoke/MethodHandle" ∧ y.cls ≠ "java/lang/invoke/VarHandle") ∧ (parseMethodDescriptor y.desc).map (fun d => d.parameters.length) = some n ∧ nL ≤ 60
theorem zblind (D : va_G) (cA : Nat → ClassId) (b : Nat × Nat) (args : List Value) (σ : ZS) : FrameBlind (MPre D cA b args σ) := fun a U g mk q => by
  obtain ⟨q0, q1, qP, qK, qN⟩ := q
  exact ⟨q0, q1, qP, va_K.moved (u := U) (U := U.calling g mk a) (Vm.Alike.refl U.vm) qK, fun w hw hz => va_Nw.same (u := U) (U := U.calling g mk a) (zNest_on hz) rfl (qN w hw hz)⟩
theorem zcat (b : Nat × Nat) (r : List Value) : ((r.map (tv b)).map fun v => v.category).sum = (r.map fun v => v.category).sum := by
  rw [List.map_map]; congr 1; apply List.map_congr_left; intro v _; exact tv_cat b v
theorem zlen {y : MethodName} {n : Nat} (h : (parseMethodDescriptor y.desc).map (fun d => d.parameters.length) = some n) : ∀ sig, parseMethodDescriptor y.desc = some sig → n = sig.parameters.length := fun sig h1 => by
  rw [h1] at h
  exact (Option.some.inj h).symm
section CALL2
variable {C : ZC} {own : String} {cc : ByteArray} {nL d pc : Nat} {k kt kf : PT}
/-- the arguments below the top, n of them: the last is the top -/
def zsplit : Nat → List Value → List Value → Option (List Value × List Value)
  | 0, acc, st => some (acc, st)
  | _ + 1, _, [] => none
  | n + 1, acc, v :: r => zsplit n (v :: acc) r
theorem zsplit_eq : ∀ (n : Nat) (acc st As rest : List Value), zsplit n acc st = some (As, rest) → As.reverse ++ rest = acc.reverse ++ st ∧ As.length = acc.length + n
  | 0, acc, st, As, rest, h => by cases h; exact ⟨rfl, rfl⟩
  | n + 1, acc, [], As, rest, h => by cases h
  | n + 1, acc, v :: r, As, rest, h => by
    obtain ⟨h1, h2⟩ := zsplit_eq n (v :: acc) r As rest h
    exact ⟨by rw [h1]; simp, by rw [h2, List.length_cons]; omega⟩
def x_callV (n ci : Nat) (WP : WPt) (k : PT) : PT := fun L st σ => match zsplit (n + 1) [] st with
  | some (.ref i :: As, rest) => zd σ i = some (0, ci) ∧ (rest.map fun v => v.category).sum ≤ 8 ∧ WP (.ref i :: As) σ (fun r σ' => k L (r.toList ++ rest) σ')
  | _ => False
def x_callS (n : Nat) (WP : WPt) (k : PT) : PT := fun L st σ => match zsplit n [] st with
  | some (As, rest) => (rest.map fun v => v.category).sum ≤ 8 ∧ WP As σ (fun r σ' => k L (r.toList ++ rest) σ')
  | _ => False
theorem zopt (b : Nat × Nat) (v : Option Value) (rest : List Value) : (v.map (tv b)).toList ++ rest.map (tv b) = (v.toList ++ rest).map (tv b) := by cases v <;> rfl
theorem s_callV (hC : CF C own cc nL d) {idx n ci nly dy N : Nat} {y : MethodName} {cy : ByteArray} {ry : Option FieldType} {WP : WPt} {T : u_T} (hd : decode cc pc = .ok (.invokevirtual idx, 3)) (hM : Meets y cy nly ry dy WP) (hdy : dy + 1 ≤ d) (hk : CalleeV y cy nly ry n) (hl : Cond.methodLink own idx y ∈ lw_T) (hcl : vwCl[ci]? = some (y.cls, T, N)) (h : Sound C (pc + 3) k) : Sound C pc (x_callV n ci WP k) := by
  intro L st σ hk1
  unfold x_callV at hk1
  split at hk1
  next i As rest hsp =>
    obtain ⟨hz, hcat, hk1⟩ := hk1
    obtain ⟨e1, e2⟩ := zsplit_eq _ _ _ _ _ hsp
    obtain ⟨l, D, cA, b, p, e, R, s, m, args, below, meth, c, cells, slots, Q⟩ := C
    obtain ⟨hx, hb, hml, hown, hts, hK, hbs, hfr, hlo, hce, hsl⟩ := hC
    obtain ⟨k1, k2, k3, k4, k5, k6, k7⟩ := hk
    obtain ⟨g1, g2, g3, g4⟩ := ztw_at (b := b) (cA := cA) hz
    rw [zce_obj g2] at g1
    intro H locs ls hP hS hl2
    have hst : st.map (tv b) = (As.map (tv b)).reverse ++ .ref (b.1 + i) :: rest.map (tv b) := by
      rw [show st = (Value.ref i :: As).reverse ++ rest by rw [e1]; rfl]
      simp [tv]
    rw [hst]
    refine z_call (D := D) (cA := cA) (b := b) (va_runV (C := y.cls) (ret := ry) (maxL := nly) (n := n) (As := As.map (tv b)) (rest := rest.map (tv b)) ⟨hx, hb, hml, hown, hts⟩ (hM l D cA b _ σ _ hk1) ⟨⟨rfl, rfl, by show dy + 1 ≤ R.frames; omega, by show 8 + (nly + 11) + 80 * dy ≤ R.locals; omega, pay_in hts (good_cons k4 rfl), List.mem_cons_self, hts _ k4, hts _ k3, k5, zlen k6, hts _ hl⟩, hts _ k1, hts _ k2⟩
      ⟨zblind D cA b _ σ, va_recv hK hP hcl g1, fun U hU hW => ⟨rfl, by rw [hU]; exact Nat.lt_of_lt_of_le hbs hS.1, by rw [hU]; exact hP, va_K.moved hW.alike hK, zN_at hts hW⟩⟩ rfl (by rw [List.length_map]; simp at e2; exact e2) (hl2.1.trans hml) rfl (lv_room (by rw [zcat]; exact hcat)) hd ⟨hce, hsl⟩) hS (fun _ h => h) (fun v σ' H1 locs1 hk2 hP1 hS1 => ?_)
    rw [zopt]
    exact h _ _ _ hk2 H1 locs1 ls hP1 hS1 hl2
  next => exact hk1.elim
theorem s_callS (hC : CF C own cc nL d) {idx n nly dy : Nat} {y : MethodName} {cy : ByteArray} {ry : Option FieldType} {WP : WPt} (hd : decode cc pc = .ok (.invokestatic idx, 3)) (hM : Meets y cy nly ry dy WP) (hdy : dy + 1 ≤ d) (hk : CalleeS y cy nly ry n) (hl : Cond.methodLink own idx y ∈ lw_T) (h : Sound C (pc + 3) k) : Sound C pc (x_callS n WP k) := by
  intro L st σ hk1
  unfold x_callS at hk1
  split at hk1
  next As rest hsp =>
    obtain ⟨hcat, hk1⟩ := hk1
    obtain ⟨e1, e2⟩ := zsplit_eq _ _ _ _ _ hsp
    obtain ⟨l, D, cA, b, p, e, R, s, m, args, below, meth, c, cells, slots, Q⟩ := C
    obtain ⟨hx, hb, hml, hown, hts, hK, hbs, hfr, hlo, hce, hsl⟩ := hC
    obtain ⟨k1, k3, k4, k5, k6, k7⟩ := hk
    intro H locs ls hP hS hl2
    have hst : st.map (tv b) = (As.map (tv b)).reverse ++ rest.map (tv b) := by
      rw [show st = As.reverse ++ rest by rw [e1]; rfl]
      simp
    rw [hst]
    refine z_call (D := D) (cA := cA) (b := b) (va_runS (ret := ry) (maxL := nly) (n := n) (As := As.map (tv b)) (rest := rest.map (tv b)) ⟨hx, hb, hml, hown, hts⟩ (hM l D cA b _ σ _ hk1) ⟨⟨rfl, rfl, by show dy + 1 ≤ R.frames; omega, by show 8 + (nly + 11) + 80 * dy ≤ R.locals; omega, pay_in hts (good_cons k4 rfl), List.mem_cons_self, hts _ k4, hts _ k3, k5, zlen k6, hts _ hl⟩, hts _ k1⟩
      ⟨zblind D cA b _ σ, fun U hU hW => ⟨rfl, by rw [hU]; exact Nat.lt_of_lt_of_le hbs hS.1, by rw [hU]; exact hP, va_K.moved hW.alike hK, zN_at hts hW⟩⟩ rfl (by rw [List.length_map]; simp at e2; exact e2) (hl2.1.trans hml) rfl (lv_room (by rw [zcat]; exact hcat)) hd ⟨hce, hsl⟩) hS (fun _ h => h) (fun v σ' H1 locs1 hk2 hP1 hS1 => ?_)
    rw [zopt]
    exact h _ _ _ hk2 H1 locs1 ls hP1 hS1 hl2
  next => exact hk1.elim
theorem s_callSN (hC : CF C own cc nL d) {idx n nly dy : Nat} {y : MethodName} {host : String} {cy : ByteArray} {ry : Option FieldType} {WP : WPt} (hd : decode cc pc = .ok (.invokestatic idx, 3)) (hM : Meets y cy nly ry dy WP) (hdy : dy + 1 ≤ d) (hk : CalleeS y cy nly ry n) (hl : Cond.methodLinkNest own idx y host ∈ lw_T) (h : Sound C (pc + 3) k) : Sound C pc (x_callS n WP k) := by
  intro L st σ hk1
  unfold x_callS at hk1
  split at hk1
  next As rest hsp =>
    obtain ⟨hcat, hk1⟩ := hk1
    obtain ⟨e1, e2⟩ := zsplit_eq _ _ _ _ _ hsp
    obtain ⟨l, D, cA, b, p, e, R, s, m, args, below, meth, c, cells, slots, Q⟩ := C
    obtain ⟨hx, hb, hml, hown, hts, hK, hbs, hfr, hlo, hce, hsl⟩ := hC
    obtain ⟨k1, k3, k4, k5, k6, k7⟩ := hk
    intro H locs ls hP hS hl2
    have hst : st.map (tv b) = (As.map (tv b)).reverse ++ rest.map (tv b) := by
      rw [show st = As.reverse ++ rest by rw [e1]; rfl]
      simp
    rw [hst]
    refine z_call (D := D) (cA := cA) (b := b) (va_runSN (ret := ry) (maxL := nly) (n := n) (As := As.map (tv b)) (rest := rest.map (tv b)) ⟨hx, hb, hml, hown, hts⟩ (hM l D cA b _ σ _ hk1) ⟨va_cnB (own := own) (host := host) n hts (good_cons k4 rfl) rfl rfl rfl (va_tabs rfl rfl (hts _ hl)) (hts _ k3) ⟨k5.1, k5.2, k6⟩ ⟨by show dy + 1 ≤ R.frames; omega, by show 8 + (nly + 11) + 80 * dy ≤ R.locals; omega⟩, hts _ k1, trivial⟩
      ⟨zblind D cA b _ σ, fun U hU hW => ⟨rfl, by rw [hU]; exact Nat.lt_of_lt_of_le hbs hS.1, by rw [hU]; exact hP, va_K.moved hW.alike hK, zN_at hts hW⟩⟩ rfl (by rw [List.length_map]; simp at e2; exact e2) (hl2.1.trans hml) rfl (lv_room (by rw [zcat]; exact hcat)) hd ⟨hce, hsl⟩) hS (fun _ h => h) (fun v σ' H1 locs1 hk2 hP1 hS1 => ?_)
    rw [zopt]
    exact h _ _ _ hk2 H1 locs1 ls hP1 hS1 hl2
  next => exact hk1.elim
/-! ends -/
variable {Φ : Option Value → ZS → Prop}
def x_iret (Φ : Option Value → ZS → Prop) : PT := fun L st σ => match st with
  | [.int v] => Φ (some (.int v)) σ
  | _ => False
def x_zret (Φ : Option Value → ZS → Prop) : PT := fun L st σ => match st with
  | [.int v] => (v = 0 ∨ v = 1) ∧ Φ (some (.int v)) σ
  | _ => False
def x_lret (Φ : Option Value → ZS → Prop) : PT := fun L st σ => match st with
  | [.long v] => Φ (some (.long v)) σ
  | _ => False
def x_aret (Φ : Option Value → ZS → Prop) : PT := fun L st σ => match st with
  | [.ref v] => Φ (some (.ref v)) σ
  | _ => False
def x_vret (Φ : Option Value → ZS → Prop) : PT := fun L st σ => match st with
  | [] => Φ none σ
  | _ => False
theorem s_iret (hC : CF C own cc nL d) (hR : CR C (some .int) Φ) (hd : decode cc pc = .ok (.ireturn, 1)) : Sound C pc (x_iret Φ) := by
  intro L st σ hk
  unfold x_iret at hk
  split at hk
  next v =>
    obtain ⟨l, D, cA, b, p, e, R, s, m, args, below, meth, c, cells, slots, Q⟩ := C
    obtain ⟨hx, hb, -⟩ := hC
    obtain ⟨hr, hlk, mc, ms, rfl, h1, h2⟩ := hR
    intro H locs ls hP hS hl
    exact W.widen h1 h2 (W.iret hx hb hr (fun t ht hW => ⟨⟨some (.int v), σ, rfl, hk, by rw [ht]; exact hP⟩, hS.F ht⟩) hS.2.2 hd hlk)
  next => exact hk.elim
theorem s_zret (hC : CF C own cc nL d) (hR : CR C (some .boolean) Φ) (hd : decode cc pc = .ok (.ireturn, 1)) : Sound C pc (x_zret Φ) := by
  intro L st σ hk
  unfold x_zret at hk
  split at hk
  next v =>
    obtain ⟨hv, hk⟩ := hk
    obtain ⟨l, D, cA, b, p, e, R, s, m, args, below, meth, c, cells, slots, Q⟩ := C
    obtain ⟨hx, hb, -⟩ := hC
    obtain ⟨hr, hlk, mc, ms, rfl, h1, h2⟩ := hR
    intro H locs ls hP hS hl
    exact W.widen h1 h2 (W.zret (ty := .boolean) hx hb hr (by rcases hv with rfl | rfl <;> rfl) (fun t ht hW => ⟨⟨some (.int v), σ, rfl, hk, by rw [ht]; exact hP⟩, hS.F ht⟩) hS.2.2 hd hlk)
  next => exact hk.elim
theorem s_lret (hC : CF C own cc nL d) (hR : CR C (some .long) Φ) (hd : decode cc pc = .ok (.lreturn, 1)) : Sound C pc (x_lret Φ) := by
  intro L st σ hk
  unfold x_lret at hk
  split at hk
  next v =>
    obtain ⟨l, D, cA, b, p, e, R, s, m, args, below, meth, c, cells, slots, Q⟩ := C
    obtain ⟨hx, hb, -⟩ := hC
    obtain ⟨hr, hlk, mc, ms, rfl, h1, h2⟩ := hR
    intro H locs ls hP hS hl
    exact W.widen h1 h2 (W.lret hx hb hr (fun t ht hW => ⟨⟨some (.long v), σ, rfl, hk, by rw [ht]; exact hP⟩, hS.F ht⟩) hS.2.2 hd hlk)
  next => exact hk.elim
theorem s_aret (hC : CF C own cc nL d) {o : String} (hR : CR C (some (.object o)) Φ) (hd : decode cc pc = .ok (.areturn, 1)) : Sound C pc (x_aret Φ) := by
  intro L st σ hk
  unfold x_aret at hk
  split at hk
  next v =>
    obtain ⟨l, D, cA, b, p, e, R, s, m, args, below, meth, c, cells, slots, Q⟩ := C
    obtain ⟨hx, hb, -⟩ := hC
    obtain ⟨hr, hlk, mc, ms, rfl, h1, h2⟩ := hR
    intro H locs ls hP hS hl
    exact W.widen h1 h2 (W.aret (v := .ref (b.1 + v)) hx hb hr (Or.inl ⟨_, rfl⟩) (Or.inr ⟨_, rfl⟩) (fun t ht hW => ⟨⟨some (.ref v), σ, rfl, hk, by rw [ht]; exact hP⟩, hS.F ht⟩) hS.2.2 hd hlk)
  next => exact hk.elim
theorem s_vret (hC : CF C own cc nL d) (hR : CR C none Φ) (hd : decode cc pc = .ok (.return_, 1)) : Sound C pc (x_vret Φ) := by
  intro L st σ hk
  unfold x_vret at hk
  split at hk
  next =>
    obtain ⟨l, D, cA, b, p, e, R, s, m, args, below, meth, c, cells, slots, Q⟩ := C
    obtain ⟨hx, hb, -⟩ := hC
    obtain ⟨hr, hlk, mc, ms, rfl, h1, h2⟩ := hR
    intro H locs ls hP hS hl
    exact W.widen h1 h2 (W.vret hx hb hr (fun t ht hW => ⟨⟨none, σ, rfl, hk, by rw [ht]; exact hP⟩, hS.F ht⟩) hS.2.2 hd hlk)
  next => exact hk.elim
/-- tableswitch: the number is one of the cases, or none -/
def x_tsw (n : Nat) (ks : List PT) (kd : PT) : PT := fun L st σ => match st with
  | .int x :: r => (∀ (i : Nat) (k : PT), ks[i]? = some k → x = nI i → k L r σ) ∧ ((x.toInt < 0 ∨ (n : Int) ≤ x.toInt) → kd L r σ)
  | _ => False
theorem s_tsw (hC : CF C own cc nL d) {dflt hi : Int} {offs : Array Int} {len n : Nat} {ks : List PT} {kd : PT} {tgt : Nat} {tgts : List Nat} (hd : decode cc pc = .ok (.tableswitch dflt 0 hi offs, len)) (hn : hi = (n : Int) - 1) (hks : ks.length = n) (hts : offs.toList.map (fun o => (pc : Int) + o) = tgts.map Int.ofNat) (htl : tgts.length = n) (ht : (pc : Int) + dflt = (tgt : Int)) (hn31 : n < 2 ^ 31)
    (h : ∀ (i : Nat) (k : PT) (t : Nat), ks[i]? = some k → tgts[i]? = some t → Sound C t k) (h' : Sound C tgt kd) : Sound C pc (x_tsw n ks kd) := by
  intro L st σ hk
  unfold x_tsw at hk
  split at hk
  next x r =>
    obtain ⟨hk1, hk2⟩ := hk
    by_cases hin : x.toInt < 0 ∨ (n : Int) ≤ x.toInt
    · have h2 := h' _ _ _ (hk2 hin)
      obtain ⟨l, D, cA, b, p, e, R, s, m, args, below, meth, c, cells, slots, Q⟩ := C
      obtain ⟨hx, hb, hml, hown, -⟩ := hC
      intro H locs ls hP hS hl
      exact lv_tableOut hx hb hd (by rcases hin with h | h; exact Or.inl h; exact Or.inr (by omega)) ht (h2 H locs ls hP hS hl)
    · have h0 : 0 ≤ x.toInt := by omega
      have h1 : x.toInt < n := by omega
      obtain ⟨i, hi1, hi2⟩ : ∃ i : Nat, i < n ∧ x = nI i := by
        obtain ⟨j, hj, e⟩ := vp_in_of (x := x) (n := n) (vp_in_iff.mpr ⟨h0, h1⟩) hn31
        exact ⟨j, hj, e⟩
      have hit : x.toInt = (i : Int) := by rw [hi2]; exact nI_toInt (by omega)
      have hki : ks[i]? = some (ks[i]'(by omega)) := List.getElem?_eq_getElem _
      have hti : tgts[i]? = some (tgts[i]'(by omega)) := List.getElem?_eq_getElem _
      have h2 := h i _ _ hki hti _ _ _ (hk1 i _ hki hi2)
      have hoi : i < offs.toList.length := by
        have := congrArg List.length hts
        simp at this ⊢
        omega
      have hoff : offs.toList[i]? = some (offs.toList[i]) := List.getElem?_eq_getElem hoi
      have hte : (pc : Int) + offs.toList[i] = ((tgts[i]'(by omega) : Nat) : Int) := by
        have e1 := congrArg (fun l => l[i]?) hts
        simp only [List.getElem?_map, hoff, hti, Option.map_some, Option.some.injEq] at e1
        rw [e1]
        rfl
      obtain ⟨l, D, cA, b, p, e, R, s, m, args, below, meth, c, cells, slots, Q⟩ := C
      obtain ⟨hx, hb, hml, hown, -⟩ := hC
      intro H locs ls hP hS hl
      exact lv_tableIn hx hb hd (by omega) (by omega) (off := offs.toList[i]) (by rw [hit]; simpa using hoff) hte (h2 H locs ls hP hS hl)
  next => exact hk.elim
end CALL2
def zall (C : ZC) (ks : List PT) (ts : List Nat) : Prop := ∀ (i : Nat) (k : PT) (t : Nat), ks[i]? = some k → ts[i]? = some t → Sound C t k
theorem zall_nil {C : ZC} : zall C [] [] := fun i k t h => by simp at h
theorem zall_cons {C : ZC} {k : PT} {t : Nat} {ks : List PT} {ts : List Nat} (h : Sound C t k) (hs : zall C ks ts) : zall C (k :: ks) (t :: ts) := fun i k' t' h1 h2 => by
  cases i with
  | zero =>
    simp at h1 h2
    subst h1; subst h2
    exact h
  | succ i => exact hs i k' t' (by simpa using h1) (by simpa using h2)
/-- a loop: from the invariant at i to i + 1, up to the end -/
theorem zloop {P : Nat → Prop} (n : Nat) (hstep : ∀ i, i < n → P (i + 1) → P i) (hend : P n) : ∀ i, i ≤ n → P i := by
  intro i hi
  obtain ⟨k, rfl⟩ : ∃ k, n = i + k := ⟨n - i, by omega⟩
  induction k generalizing i with
  | zero => exact hend
  | succ k ih => exact hstep i (by omega) (ih (i + 1) (fun j hj => hstep j (by omega)) (by rw [show i + 1 + k = i + (k + 1) by omega]; exact hend) (by omega))
