/-! THE LAYER: a typed memory of ids over the kit's worlds -/
abbrev ZS : Type := (Nat × (Nat → Nat × Nat)) × (Nat → Nat → Int32) × (Nat → Nat → Int64) × (Nat → Nat → Nat)
def zN (σ : ZS) : Nat := σ.1.1
def zK (σ : ZS) : Nat → Nat × Nat := σ.1.2
def zI (σ : ZS) : Nat → Nat → Int32 := σ.2.1
def zJ (σ : ZS) : Nat → Nat → Int64 := σ.2.2.1
def zR (σ : ZS) : Nat → Nat → Nat := σ.2.2.2
/-- the kind of a cell that is there: (0, class), (1, n) ints, (2, n) bytes, (3, n) longs, (4, n) booleans -/
def zd (σ : ZS) (i : Nat) : Option (Nat × Nat) := if 1 ≤ i ∧ i ≤ zN σ then some (zK σ i) else none
def zrow {α : Type} (f : Nat → Nat → α) (i : Nat) (r : Nat → α) : Nat → Nat → α := fun a => if a = i then r else f a
def sI (σ : ZS) (i j : Nat) (v : Int32) : ZS := (σ.1, zrow σ.2.1 i (upd (σ.2.1 i) j v), σ.2.2)
def sJ (σ : ZS) (i j : Nat) (v : Int64) : ZS := (σ.1, σ.2.1, zrow σ.2.2.1 i (vp_updL (σ.2.2.1 i) j v), σ.2.2.2)
def sR (σ : ZS) (i j : Nat) (v : Nat) : ZS := (σ.1, σ.2.1, σ.2.2.1, zrow σ.2.2.2 i (va_up (σ.2.2.2 i) j v))
def sIr (σ : ZS) (i : Nat) (r : Nat → Int32) : ZS := (σ.1, zrow σ.2.1 i r, σ.2.2)
def sJr (σ : ZS) (i : Nat) (r : Nat → Int64) : ZS := (σ.1, σ.2.1, zrow σ.2.2.1 i r, σ.2.2.2)
/-- a new cell -/
def sNew (σ : ZS) (k : Nat × Nat) : ZS := ((σ.1.1 + 1, va_up σ.1.2 (σ.1.1 + 1) k), zrow σ.2.1 (σ.1.1 + 1) (fun _ => 0), zrow σ.2.2.1 (σ.1.1 + 1) (fun _ => 0), zrow σ.2.2.2 (σ.1.1 + 1) (fun _ => 0))
theorem zd_sI (σ : ZS) (i j : Nat) (v : Int32) : zd (sI σ i j v) = zd σ := rfl
theorem zd_sJ (σ : ZS) (i j : Nat) (v : Int64) : zd (sJ σ i j v) = zd σ := rfl
theorem zd_sR (σ : ZS) (i j : Nat) (v : Nat) : zd (sR σ i j v) = zd σ := rfl
theorem zd_sIr (σ : ZS) (i : Nat) (r : Nat → Int32) : zd (sIr σ i r) = zd σ := rfl
theorem zd_sJr (σ : ZS) (i : Nat) (r : Nat → Int64) : zd (sJr σ i r) = zd σ := rfl
theorem zR_sI (σ : ZS) (i j : Nat) (v : Int32) : zR (sI σ i j v) = zR σ := rfl
theorem zR_sJ (σ : ZS) (i j : Nat) (v : Int64) : zR (sJ σ i j v) = zR σ := rfl
theorem zR_sIr (σ : ZS) (i : Nat) (r : Nat → Int32) : zR (sIr σ i r) = zR σ := rfl
theorem zR_sJr (σ : ZS) (i : Nat) (r : Nat → Int64) : zR (sJr σ i r) = zR σ := rfl
theorem zI_sJ (σ : ZS) (i j : Nat) (v : Int64) : zI (sJ σ i j v) = zI σ := rfl
theorem zI_sR (σ : ZS) (i j : Nat) (v : Nat) : zI (sR σ i j v) = zI σ := rfl
theorem zI_sJr (σ : ZS) (i : Nat) (r : Nat → Int64) : zI (sJr σ i r) = zI σ := rfl
theorem zJ_sI (σ : ZS) (i j : Nat) (v : Int32) : zJ (sI σ i j v) = zJ σ := rfl
theorem zJ_sR (σ : ZS) (i j : Nat) (v : Nat) : zJ (sR σ i j v) = zJ σ := rfl
theorem zJ_sIr (σ : ZS) (i : Nat) (r : Nat → Int32) : zJ (sIr σ i r) = zJ σ := rfl
theorem zN_sI (σ : ZS) (i j : Nat) (v : Int32) : zN (sI σ i j v) = zN σ := rfl
theorem zN_sJ (σ : ZS) (i j : Nat) (v : Int64) : zN (sJ σ i j v) = zN σ := rfl
theorem zN_sR (σ : ZS) (i j : Nat) (v : Nat) : zN (sR σ i j v) = zN σ := rfl
theorem zI_sI (σ : ZS) (i j : Nat) (v : Int32) (a : Nat) : zI (sI σ i j v) a = if a = i then upd (zI σ i) j v else zI σ a := rfl
theorem zI_sIr (σ : ZS) (i : Nat) (r : Nat → Int32) (a : Nat) : zI (sIr σ i r) a = if a = i then r else zI σ a := rfl
theorem zJ_sJ (σ : ZS) (i j : Nat) (v : Int64) (a : Nat) : zJ (sJ σ i j v) a = if a = i then vp_updL (zJ σ i) j v else zJ σ a := rfl
theorem zJ_sJr (σ : ZS) (i : Nat) (r : Nat → Int64) (a : Nat) : zJ (sJr σ i r) a = if a = i then r else zJ σ a := rfl
theorem zR_sR (σ : ZS) (i j : Nat) (v : Nat) (a : Nat) : zR (sR σ i j v) a = if a = i then va_up (zR σ i) j v else zR σ a := rfl
/-! values: ids for references (0 is null in a field); a float stands for the law's script -/
def tv (b : Nat × Nat) : Value → Value
  | .ref i => .ref (b.1 + i)
  | .float _ => .ref b.2
  | v => v
def rvb (b : Nat × Nat) (r : Nat) : Value := if r = 0 then .null else .ref (b.1 + r)
def zfv (b : Nat × Nat) (σ : ZS) (i : Nat) : Nat → List Bool → List Value
  | _, [] => []
  | j, false :: r => .int (zI σ i j) :: zfv b σ i (j + 1) r
  | j, true :: r => rvb b (zR σ i j) :: zfv b σ i (j + 1) r
def zce (b : Nat × Nat) (cA : Nat → ClassId) (σ : ZS) (i : Nat) : va_E := match zK σ i with
  | (0, c) => .inr (c, zfv b σ i 0 (zfk c))
  | (1, n) => .inl (cA 0, n, .inl (zI σ i))
  | (2, n) => .inl (cA 1, n, .inl (zI σ i))
  | (3, n) => .inl (cA 2, n, .inr (.inl (zJ σ i)))
  | (_, n) => .inl (cA 3, n, .inl (zI σ i))
def ztw (b : Nat × Nat) (cA : Nat → ClassId) (σ : ZS) : va_W := (List.range (zN σ)).map (fun i => (b.1 + (i + 1), zce b cA σ (i + 1)))
abbrev zty (cA : Nat → ClassId) : List (ClassId × FieldType) := [(cA 0, .int), (cA 1, .byte), (cA 2, .long), (cA 3, .boolean)]
theorem ztw_at {b : Nat × Nat} {cA : Nat → ClassId} {σ : ZS} {i : Nat} {k : Nat × Nat} (h : zd σ i = some k) : (ztw b cA σ)[i - 1]? = some (b.1 + i, zce b cA σ i) ∧ zK σ i = k ∧ 1 ≤ i ∧ i ≤ zN σ := by
  unfold zd at h
  split at h
  next hc =>
    obtain ⟨h1, h2⟩ := hc
    have e : i - 1 + 1 = i := by omega
    refine ⟨?_, Option.some.inj h, h1, h2⟩
    unfold ztw
    rw [List.getElem?_map, List.getElem?_range (by omega)]
    simp [e]
  next => cases h
theorem ztw_D (b : Nat × Nat) (cA : Nat → ClassId) (σ : ZS) : va_D (fun q => b.1 < q) (ztw b cA σ) := by
  have key : ∀ (k : Nat) (q : Nat × va_E), (ztw b cA σ)[k]? = some q → q.1 = b.1 + (k + 1) := by
    intro k q h
    unfold ztw at h
    rw [List.getElem?_map] at h
    cases hr : (List.range (zN σ))[k]? with
    | none => rw [hr] at h; cases h
    | some v =>
      rw [hr] at h
      have e : v = k := by
        obtain ⟨h1, h2⟩ := List.getElem?_eq_some_iff.mp hr
        rw [List.getElem_range] at h2
        exact h2.symm
      subst e
      cases h
      rfl
  refine ⟨fun i j p q h1 h2 e => ?_, fun k q h => ?_⟩
  · have e1 := key i p h1
    have e2 := key j q h2
    omega
  · have e1 := key k q h
    show b.1 < q.1
    omega
/-- one cell is made anew, the others are as they were -/
theorem ztw_set {b : Nat × Nat} {cA : Nat → ClassId} {σ σ' : ZS} {i : Nat} {e : va_E} (h1 : 1 ≤ i) (hn : zN σ' = zN σ) (hi : zce b cA σ' i = e) (ho : ∀ a, a ≠ i → zce b cA σ' a = zce b cA σ a) : (ztw b cA σ).set (i - 1) (b.1 + i, e) = ztw b cA σ' := by
  apply List.ext_getElem?
  intro k
  have ei : i - 1 + 1 = i := by omega
  by_cases hk : i - 1 = k
  · subst hk
    by_cases hl : i - 1 < zN σ
    · rw [List.getElem?_set_self (by unfold ztw; simpa using hl)]
      unfold ztw
      rw [List.getElem?_map, List.getElem?_range (by rw [hn]; exact hl)]
      simp [ei, hi]
    · rw [List.getElem?_eq_none (by unfold ztw; simp; omega), List.getElem?_eq_none (by unfold ztw; simp [hn]; omega)]
  · rw [List.getElem?_set_ne hk]
    unfold ztw
    rw [List.getElem?_map, List.getElem?_map, hn]
    cases hr : (List.range (zN σ))[k]? with
    | none => rfl
    | some v =>
      have e : v = k := by
        obtain ⟨h1, h2⟩ := List.getElem?_eq_some_iff.mp hr
        rw [List.getElem_range] at h2
        exact h2.symm
      subst e
      simp only [Option.map_some]
      rw [ho (v + 1) (by omega)]
theorem zfv_congr {b : Nat × Nat} {σ σ' : ZS} {i : Nat} (hI : zI σ' i = zI σ i) (hR : zR σ' i = zR σ i) : ∀ (l : List Bool) (j : Nat), zfv b σ' i j l = zfv b σ i j l
  | [], _ => rfl
  | false :: r, j => by rw [zfv, zfv, hI, zfv_congr hI hR r]
  | true :: r, j => by rw [zfv, zfv, hR, zfv_congr hI hR r]
theorem zce_congr {b : Nat × Nat} {cA : Nat → ClassId} {σ σ' : ZS} {i : Nat} (hK : zK σ' i = zK σ i) (hI : zI σ' i = zI σ i) (hJ : zJ σ' i = zJ σ i) (hR : zR σ' i = zR σ i) : zce b cA σ' i = zce b cA σ i := by
  unfold zce
  rw [hK, hI, hJ]
  split <;> first | rfl | rw [zfv_congr hI hR]
theorem zfv_len {b : Nat × Nat} {σ : ZS} {i : Nat} : ∀ (l : List Bool) (j : Nat), (zfv b σ i j l).length = l.length
  | [], _ => rfl
  | false :: r, j => by rw [zfv, List.length_cons, List.length_cons, zfv_len r]
  | true :: r, j => by rw [zfv, List.length_cons, List.length_cons, zfv_len r]
theorem zfv_at {b : Nat × Nat} {σ : ZS} {i : Nat} : ∀ (l : List Bool) (j k : Nat), (zfv b σ i j l)[k]? = (l[k]?).map (fun f => if f then rvb b (zR σ i (j + k)) else .int (zI σ i (j + k)))
  | [], _, k => by simp [zfv]
  | f :: r, j, 0 => by cases f <;> simp [zfv]
  | f :: r, j, k + 1 => by
    have e : j + 1 + k = j + (k + 1) := by omega
    cases f <;> simp [zfv, zfv_at r (j + 1) k, e]
/-! locals -/
def zas (b : Nat × Nat) : Nat → List (Option Value) → List (Nat × Value)
  | _, [] => []
  | k, none :: r => zas b (k + 1) r
  | k, some v :: r => (k, tv b v) :: zas b (k + 1) r
theorem zas_mem {b : Nat × Nat} : ∀ (L : List (Option Value)) (k : Nat) (q : Nat × Value), q ∈ zas b k L ↔ ∃ (j : Nat) (v : Value), L[j]? = some (some v) ∧ q = (k + j, tv b v)
  | [], k, q => by simp [zas]
  | none :: r, k, q => by
    rw [zas, zas_mem r (k + 1) q]
    constructor
    · rintro ⟨j, v, h1, h2⟩
      exact ⟨j + 1, v, by simpa using h1, by rw [h2]; congr 1; omega⟩
    · rintro ⟨j, v, h1, h2⟩
      cases j with
      | zero => simp at h1
      | succ j => exact ⟨j, v, by simpa using h1, by rw [h2]; congr 1; omega⟩
  | some v :: r, k, q => by
    rw [zas, List.mem_cons, zas_mem r (k + 1) q]
    constructor
    · rintro (rfl | ⟨j, w, h1, h2⟩)
      · exact ⟨0, v, by simp, by simp⟩
      · exact ⟨j + 1, w, by simpa using h1, by rw [h2]; congr 1; omega⟩
    · rintro ⟨j, w, h1, h2⟩
      cases j with
      | zero =>
        left
        simp at h1
        rw [h2, h1]
        rfl
      | succ j => exact Or.inr ⟨j, w, by simpa using h1, by rw [h2]; congr 1; omega⟩
def zhas (b : Nat × Nat) (ls : Array Slot) (nL : Nat) (L : List (Option Value)) : Prop := lv_has ls nL (zas b 0 L)
theorem zhas_at {b : Nat × Nat} {ls : Array Slot} {nL : Nat} {L : List (Option Value)} (h : zhas b ls nL L) {i : Nat} {v : Value} (hi : L[i]? = some (some v)) : ls[i]? = some (.val (tv b v)) :=
  h.2.2 (i, tv b v) ((zas_mem L 0 _).mpr ⟨i, v, hi, by simp⟩)
theorem zhas_sub {b : Nat × Nat} {ls : Array Slot} {nL : Nat} {L L' : List (Option Value)} (h : zhas b ls nL L) (hs : ∀ (i : Nat) (v : Value), L'[i]? = some (some v) → L[i]? = some (some v)) : zhas b ls nL L' := by
  refine ⟨h.1, h.2.1, fun q hq => ?_⟩
  obtain ⟨j, v, h1, h2⟩ := (zas_mem L' 0 q).mp hq
  exact h.2.2 q ((zas_mem L 0 q).mpr ⟨j, v, hs j v h1, h2⟩)
/-- a long that stands one below is lost -/
def zkl : Option (Option Value) → Bool
  | some (some (.long _)) => true
  | some (some (.double _)) => true
  | _ => false
def zkill (L : List (Option Value)) : Nat → List (Option Value)
  | 0 => L
  | j + 1 => if zkl L[j]? = true then L.set j none else L
def zst1 (L : List (Option Value)) (i : Nat) (v : Value) : List (Option Value) := (zkill L i).set i (some v)
def zst2 (L : List (Option Value)) (i : Nat) (v : Value) : List (Option Value) := ((zkill L i).set i (some v)).set (i + 1) none
theorem tv_cat (b : Nat × Nat) (v : Value) : (tv b v).category = v.category := by cases v <;> rfl
theorem zkill_at {L : List (Option Value)} {i j : Nat} {v : Value} (h : (zkill L i)[j]? = some (some v)) : L[j]? = some (some v) ∧ ¬ (j + 1 = i ∧ v.category = 2) := by
  cases i with
  | zero => exact ⟨h, fun q => by omega⟩
  | succ i =>
    rw [zkill] at h
    by_cases hz : zkl L[i]? = true
    · rw [if_pos hz] at h
      by_cases hj : i = j
      · subst hj
        rw [List.getElem?_set] at h
        simp at h
      · rw [List.getElem?_set_ne hj] at h
        exact ⟨h, fun q => hj (by omega)⟩
    · rw [if_neg hz] at h
      refine ⟨h, fun q => ?_⟩
      have : j = i := by omega
      subst this
      rw [h] at hz
      cases v with
      | long x => exact hz rfl
      | double x => exact hz rfl
      | _ => simp [Value.category] at q
theorem zhas_st1 {b : Nat × Nat} {ls : Array Slot} {nL : Nat} {L : List (Option Value)} {i : Nat} {v : Value} (hL : i < L.length) {ls' : Array Slot} (h : lv_has ls' nL ((i, tv b v) :: (zas b 0 L).filter (fun q => !(q.1 == i) && !(q.1 + 1 == i && q.2.category == 2)))) : zhas b ls' nL (zst1 L i v) := by
  refine ⟨h.1, h.2.1, fun q hq => ?_⟩
  obtain ⟨j, w, h1, h2⟩ := (zas_mem _ 0 q).mp hq
  apply h.2.2 q
  unfold zst1 at h1
  by_cases hj : i = j
  · subst hj
    rw [List.getElem?_set] at h1
    simp only [if_pos] at h1
    split at h1
    · have e : v = w := by simpa using h1
      rw [h2, e, Nat.zero_add]
      exact List.mem_cons_self
    · cases h1
  · rw [List.getElem?_set_ne hj] at h1
    obtain ⟨h3, h4⟩ := zkill_at h1
    apply List.mem_cons_of_mem
    rw [List.mem_filter]
    refine ⟨(zas_mem L 0 q).mpr ⟨j, w, h3, h2⟩, ?_⟩
    have hc := tv_cat b w
    rw [h2]
    simp only [Nat.zero_add, Bool.and_eq_true, Bool.not_eq_true', beq_eq_false_iff_ne, ne_eq, Bool.and_eq_false_iff, hc]
    refine ⟨fun q => hj q.symm, ?_⟩
    by_cases q : j + 1 = i
    · exact Or.inr fun c => h4 ⟨q, c⟩
    · exact Or.inl q
theorem zhas_st2 {b : Nat × Nat} {ls : Array Slot} {nL : Nat} {L : List (Option Value)} {i : Nat} {v : Value} {ls' : Array Slot} (h : lv_has ls' nL ((i, tv b v) :: (zas b 0 L).filter (fun q => !(q.1 == i) && (!(q.1 == i + 1) && !(q.1 + 1 == i && q.2.category == 2))))) : zhas b ls' nL (zst2 L i v) := by
  refine ⟨h.1, h.2.1, fun q hq => ?_⟩
  obtain ⟨j, w, h1, h2⟩ := (zas_mem _ 0 q).mp hq
  apply h.2.2 q
  unfold zst2 at h1
  by_cases hj1 : i + 1 = j
  · subst hj1
    rw [List.getElem?_set] at h1
    simp at h1
  · rw [List.getElem?_set_ne hj1] at h1
    by_cases hj : i = j
    · subst hj
      rw [List.getElem?_set] at h1
      simp only [if_pos] at h1
      split at h1
      · have e : v = w := by simpa using h1
        rw [h2, e, Nat.zero_add]
        exact List.mem_cons_self
      · cases h1
    · rw [List.getElem?_set_ne hj] at h1
      obtain ⟨h3, h4⟩ := zkill_at h1
      apply List.mem_cons_of_mem
      rw [List.mem_filter]
      refine ⟨(zas_mem L 0 q).mpr ⟨j, w, h3, h2⟩, ?_⟩
      have hc := tv_cat b w
      rw [h2]
      simp only [Nat.zero_add, Bool.and_eq_true, Bool.not_eq_true', beq_eq_false_iff_ne, ne_eq, Bool.and_eq_false_iff, hc]
      refine ⟨fun q => hj q.symm, fun q => hj1 q.symm, ?_⟩
      by_cases q : j + 1 = i
      · exact Or.inr fun c => h4 ⟨q, c⟩
      · exact Or.inl q
