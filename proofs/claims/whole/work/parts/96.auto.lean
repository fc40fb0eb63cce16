/-! PURE: what has sounded, told by states -/
def arN (T : TD) (k : Nat) (w : Nat → Nat) : Nat → Nat
  | 0 => 0
  | n + 1 => soN T k (arN T k w n) (w n)
theorem tk_sF {T : TD} {k i d : Nat} (hd : d < tD T) : tkB T k (tN T d) i = (sF T k i).testBit d := by
  unfold sF sndS tkB sgS
  rw [stS_bit]
  simp [hd]
theorem so_eq {T : TD} {k s d : Nat} (h32 : s ≠ 32) : soN T k s d = if (goS T k s d).testBit (tL T k - 1) then 32 else goS T k s d := by
  unfold soN beN
  rw [if_neg h32]
  split
  · rfl
  · omega
theorem aut_ok {T : TD} {k : Nat} (h1 : 1 ≤ tL T k) (h6 : tL T k ≤ 6) (w : Nat → Nat) : ∀ n, (∀ i, i < n → w i < tD T) → (arN T k w n = 32 ∧ occP (sF T k) (tL T k) w n) ∨ (arN T k w n < 32 ∧ ¬ occP (sF T k) (tL T k) w n ∧ ∀ b, (arN T k w n).testBit b = true ↔ (b < tL T k ∧ b + 1 ≤ n ∧ ∀ t, t ≤ b → (sF T k t).testBit (w (n - 1 - b + t)) = true))
  | 0, _ => by
    refine Or.inr ⟨by rw [arN]; decide, ?_, fun b => ?_⟩
    · rintro ⟨i, hi, -⟩
      omega
    · rw [arN, Nat.zero_testBit]
      constructor
      · intro h; cases h
      · rintro ⟨-, h, -⟩; omega
  | n + 1, hw => by
    have ih := aut_ok h1 h6 w n (fun i hi => hw i (by omega))
    have hwn := hw n (by omega)
    rw [arN]
    rcases ih with ⟨a1, i, a2, a3⟩ | ⟨a1, a2, a3⟩
    · refine Or.inl ⟨?_, i, by omega, a3⟩
      rw [a1]
      rfl
    · have hg : ∀ b, (goS T k (arN T k w n) (w n)).testBit b = true ↔ (b < tL T k ∧ b + 1 ≤ n + 1 ∧ ∀ t, t ≤ b → (sF T k t).testBit (w (n + 1 - 1 - b + t)) = true) := by
        intro b
        rw [goS_bit, tk_sF hwn, Bool.and_eq_true, Bool.and_eq_true, decide_eq_true_eq, Bool.or_eq_true, decide_eq_true_eq]
        cases b with
        | zero =>
          constructor
          · rintro ⟨-, c1, c2⟩
            refine ⟨c1, by omega, fun t ht => ?_⟩
            rw [show t = 0 by omega, show n + 1 - 1 - 0 + 0 = n by omega]
            exact c2
          · rintro ⟨c1, -, c2⟩
            refine ⟨Or.inl rfl, c1, ?_⟩
            have := c2 0 (Nat.le_refl _)
            rw [show n + 1 - 1 - 0 + 0 = n by omega] at this
            exact this
        | succ b =>
          rw [show b + 1 - 1 = b by omega, a3 b]
          constructor
          · rintro ⟨c0, c1, c2⟩
            obtain ⟨d1, d2, d3⟩ := c0.resolve_left (by omega)
            refine ⟨c1, by omega, fun t ht => ?_⟩
            by_cases e : t = b + 1
            · rw [e, show n + 1 - 1 - (b + 1) + (b + 1) = n by omega]; exact c2
            · have := d3 t (by omega)
              rw [show n + 1 - 1 - (b + 1) + t = n - 1 - b + t by omega]
              exact this
          · rintro ⟨c1, c2, c3⟩
            refine ⟨Or.inr ⟨by omega, by omega, fun t ht => ?_⟩, c1, ?_⟩
            · have := c3 t (by omega)
              rw [show n + 1 - 1 - (b + 1) + t = n - 1 - b + t by omega] at this
              exact this
            · have := c3 (b + 1) (Nat.le_refl _)
              rw [show n + 1 - 1 - (b + 1) + (b + 1) = n by omega] at this
              exact this
      rw [so_eq (by omega)]
      by_cases hb : (goS T k (arN T k w n) (w n)).testBit (tL T k - 1) = true
      · rw [if_pos hb]
        obtain ⟨b1, b2, b3⟩ := (hg _).mp hb
        refine Or.inl ⟨rfl, n + 1 - tL T k, by omega, fun j hj => ?_⟩
        have := b3 j (by omega)
        rw [show n + 1 - 1 - (tL T k - 1) + j = n + 1 - tL T k + j by omega] at this
        exact this
      · rw [if_neg hb]
        refine Or.inr ⟨goS_safe h1 h6 (by simpa using hb), ?_, hg⟩
        rintro ⟨i, hi, hF⟩
        by_cases e : i + tL T k ≤ n
        · exact a2 ⟨i, e, hF⟩
        · refine hb ((hg _).mpr ⟨by omega, by omega, fun t ht => ?_⟩)
          have := hF t (by omega)
          rw [show n + 1 - 1 - (tL T k - 1) + t = i + t by omega]
          exact this
theorem so_le {T : TD} {k s d : Nat} (h1 : 1 ≤ tL T k) (h6 : tL T k ≤ 6) : soN T k s d ≤ 32 := by
  have := beN_le (T := T) (k := k) (s := s) (d := d) h1 h6
  unfold soN
  split <;> omega
def inQ (T : TD) (k j d : Nat) : Nat := 1089 * d + 33 * soN T k 0 d + soN T j 0 d
def stQ (T : TD) (k j q o : Nat) : Nat := 1089 * o + 33 * soN T k (q % 1089 / 33) o + soN T j (q % 33) o
def rwQ (T : TD) (k j : Nat) : Nat → Nat → Prop
  | 0, q => ∃ d, d < tD T ∧ q = inQ T k j d
  | n + 1, q => ∃ p o, o < tD T ∧ rwQ T k j n p ∧ (tE T (p / 1089)).testBit o = true ∧ q = stQ T k j p o
theorem rw_lt {T : TD} {k j : Nat} (h1 : 1 ≤ tL T k) (h6 : tL T k ≤ 6) (g1 : 1 ≤ tL T j) (g6 : tL T j ≤ 6) : ∀ n q, rwQ T k j n q → q < 1089 * tD T
  | 0, q, ⟨d, hd, e⟩ => by
    have a := so_le (T := T) (k := k) (s := 0) (d := d) h1 h6
    have b := so_le (T := T) (k := j) (s := 0) (d := d) g1 g6
    unfold inQ at e
    omega
  | n + 1, q, ⟨p, o, ho, _, _, e⟩ => by
    have a := so_le (T := T) (k := k) (s := p % 1089 / 33) (d := o) h1 h6
    have b := so_le (T := T) (k := j) (s := p % 33) (d := o) g1 g6
    unfold stQ at e
    omega
theorem rw_way {T : TD} {k j : Nat} (h1 : 1 ≤ tL T k) (h6 : tL T k ≤ 6) (g1 : 1 ≤ tL T j) (g6 : tL T j ≤ 6) : ∀ n q, rwQ T k j n q ↔ ∃ w, WyN T w (n + 1) ∧ q = 1089 * w n + 33 * arN T k w (n + 1) + arN T j w (n + 1)
  | 0, q => by
    constructor
    · rintro ⟨d, hd, e⟩
      exact ⟨fun _ => d, ⟨fun _ _ => hd, fun i hi => by omega⟩, e⟩
    · rintro ⟨w, hw, e⟩
      exact ⟨w 0, hw.1 0 (by omega), e⟩
  | n + 1, q => by
    have ih := rw_way (T := T) (k := k) (j := j) h1 h6 g1 g6 n
    have hle : ∀ (i : Nat) (w : Nat → Nat) m, 1 ≤ tL T i → tL T i ≤ 6 → arN T i w (m + 1) ≤ 32 := fun i w m a b => by rw [arN]; exact so_le a b
    constructor
    · rintro ⟨p, o, ho, hp, hb, e⟩
      obtain ⟨w, hw, e2⟩ := (ih p).mp hp
      have l1 := hle k w n h1 h6
      have l2 := hle j w n g1 g6
      have cg : ∀ i m, m ≤ n + 1 → arN T i (va_up w (n + 1) o) m = arN T i w m := by
        intro i m
        induction m with
        | zero => intro _; rfl
        | succ m ihm =>
          intro hm
          rw [arN, arN, ihm (by omega), up_off _ _ (by omega)]
      refine ⟨va_up w (n + 1) o, ⟨fun i hi => ?_, fun i hi => ?_⟩, ?_⟩
      · by_cases c : i = n + 1
        · rw [c, up_at]; exact ho
        · rw [up_off _ _ c]; exact hw.1 i (by omega)
      · by_cases c : i = n
        · rw [c, up_at, up_off _ _ (by omega)]
          rw [show p / 1089 = w n by omega] at hb
          exact hb
        · rw [up_off _ _ (by omega), up_off _ _ (by omega)]; exact hw.2 i (by omega)
      · have ar1 : ∀ i, arN T i (va_up w (n + 1) o) (n + 1 + 1) = soN T i (arN T i (va_up w (n + 1) o) (n + 1)) (va_up w (n + 1) o (n + 1)) := fun i => rfl
        rw [ar1, ar1, cg k _ (Nat.le_refl _), cg j _ (Nat.le_refl _), up_at, e]
        unfold stQ
        rw [show p % 1089 / 33 = arN T k w (n + 1) by omega, show p % 33 = arN T j w (n + 1) by omega]
    · rintro ⟨w, hw, e⟩
      have l1 := hle k w n h1 h6
      have l2 := hle j w n g1 g6
      refine ⟨1089 * w n + 33 * arN T k w (n + 1) + arN T j w (n + 1), w (n + 1), hw.1 _ (by omega), (ih _).mpr ⟨w, ⟨fun i hi => hw.1 i (by omega), fun i hi => hw.2 i (by omega)⟩, rfl⟩, ?_, ?_⟩
      · rw [show (1089 * w n + 33 * arN T k w (n + 1) + arN T j w (n + 1)) / 1089 = w n by omega]
        exact hw.2 n (by omega)
      · rw [e]
        unfold stQ
        rw [show (1089 * w n + 33 * arN T k w (n + 1) + arN T j w (n + 1)) % 1089 / 33 = arN T k w (n + 1) by omega, show (1089 * w n + 33 * arN T k w (n + 1) + arN T j w (n + 1)) % 33 = arN T j w (n + 1) by omega]
        rfl
/-- both have sounded just at the last states -/
theorem rw_bt {T : TD} {k j : Nat} (h1 : 1 ≤ tL T k) (h6 : tL T k ≤ 6) (g1 : 1 ≤ tL T j) (g6 : tL T j ≤ 6) (n : Nat) : (∃ q, rwQ T k j n q ∧ q % 1089 = 1088) ↔ btP T (sF T k) (sF T j) (tL T k) (tL T j) (n + 1) := by
  constructor
  · rintro ⟨q, hq, ha⟩
    obtain ⟨w, hw, e⟩ := (rw_way h1 h6 g1 g6 n q).mp hq
    have c1 := aut_ok h1 h6 w (n + 1) hw.1
    have c2 := aut_ok g1 g6 w (n + 1) hw.1
    refine ⟨w, hw, ?_, ?_⟩
    · rcases c1 with c | c
      · exact c.2
      · rcases c2 with c' | c' <;> omega
    · rcases c2 with c | c
      · exact c.2
      · rcases c1 with c' | c' <;> omega
  · rintro ⟨w, hw, o1, o2⟩
    have c1 := aut_ok h1 h6 w (n + 1) hw.1
    have c2 := aut_ok g1 g6 w (n + 1) hw.1
    have e1 : arN T k w (n + 1) = 32 := by
      rcases c1 with c | c
      · exact c.1
      · exact absurd o1 c.2.1
    have e2 : arN T j w (n + 1) = 32 := by
      rcases c2 with c | c
      · exact c.1
      · exact absurd o2 c.2.1
    exact ⟨_, (rw_way h1 h6 g1 g6 n _).mpr ⟨w, hw, rfl⟩, by omega⟩
/-- the answer, when it is found, and when there is none -/
theorem bt_found {T : TD} (hT : TdOk T) {k j : Nat} (h1 : 1 ≤ tL T k) (h6 : tL T k ≤ 6) (g1 : 1 ≤ tL T j) (g6 : tL T j ≤ 6) {n q : Nat} (hq : rwQ T k j n q) (ha : q % 1089 = 1088) (hno : ∀ m, m < n → ∀ q, rwQ T k j m q → q % 1089 ≠ 1088) : mtS T (sF T k) (sF T j) (tL T k) (tL T j) (tL T k + tL T j + 25) = some (n + 1) := by
  obtain ⟨l, e, hl⟩ := bt_mt hT h1 g1 (n + 2) (n + 1) (by omega) ((rw_bt h1 h6 g1 g6 n).mp ⟨q, hq, ha⟩)
  have hb := mt_bt hT h1 e
  have hl1 : 1 ≤ l := by
    obtain ⟨w, -, ⟨i, hi, -⟩, -⟩ := hb
    omega
  rw [e]
  congr 1
  refine Classical.byContradiction fun hc => ?_
  have hb2 : btP T (sF T k) (sF T j) (tL T k) (tL T j) (l - 1 + 1) := by rw [show l - 1 + 1 = l by omega]; exact hb
  obtain ⟨q', a1, a2⟩ := (rw_bt h1 h6 g1 g6 (l - 1)).mpr hb2
  exact hno (l - 1) (by omega) q' a1 a2
theorem bt_none {T : TD} (hT : TdOk T) {k j : Nat} (h1 : 1 ≤ tL T k) (h6 : tL T k ≤ 6) (g1 : 1 ≤ tL T j) (g6 : tL T j ≤ 6) (hno : ∀ m q, rwQ T k j m q → q % 1089 ≠ 1088) : mtS T (sF T k) (sF T j) (tL T k) (tL T j) (tL T k + tL T j + 25) = none := by
  cases e : mtS T (sF T k) (sF T j) (tL T k) (tL T j) (tL T k + tL T j + 25) with
  | none => rfl
  | some l =>
    have hb := mt_bt hT h1 e
    have hl1 : 1 ≤ l := by
      obtain ⟨w, -, ⟨i, hi, -⟩, -⟩ := hb
      omega
    have hb2 : btP T (sF T k) (sF T j) (tL T k) (tL T j) (l - 1 + 1) := by rw [show l - 1 + 1 = l by omega]; exact hb
    obtain ⟨q', a1, a2⟩ := (rw_bt h1 h6 g1 g6 (l - 1)).mpr hb2
    exact absurd a2 (hno (l - 1) q' a1)
/-- on from a state to the doors around it -/
def boS (T : TD) (k j q n : Nat) (rc : Nat → Nat) : Nat → Nat → Nat
  | 0 => rc
  | o + 1 => if (tE T (q / 1089)).testBit o ∧ boS T k j q n rc o (stQ T k j q o) = 0 then va_up (boS T k j q n rc o) (stQ T k j q o) n else boS T k j q n rc o
theorem bo_ok {T : TD} {k j q n : Nat} {rc : Nat → Nat} (hn : n ≠ 0) : ∀ o, (∀ p, rc p ≠ 0 → boS T k j q n rc o p = rc p) ∧ (∀ p, rc p = 0 → boS T k j q n rc o p = 0 ∨ (boS T k j q n rc o p = n ∧ ∃ o', o' < o ∧ (tE T (q / 1089)).testBit o' = true ∧ p = stQ T k j q o')) ∧ (∀ o', o' < o → (tE T (q / 1089)).testBit o' = true → boS T k j q n rc o (stQ T k j q o') ≠ 0)
  | 0 => ⟨fun p _ => rfl, fun p h => Or.inl h, fun o' h => absurd h (Nat.not_lt_zero o')⟩
  | o + 1 => by
    obtain ⟨a1, a2, a3⟩ := bo_ok (T := T) (k := k) (j := j) (q := q) (rc := rc) hn o
    rw [boS]
    by_cases hc : (tE T (q / 1089)).testBit o ∧ boS T k j q n rc o (stQ T k j q o) = 0
    · rw [if_pos hc]
      have h0 : rc (stQ T k j q o) = 0 := by
        refine Classical.byContradiction fun h => ?_
        have := a1 _ h
        rw [hc.2] at this
        exact h this.symm
      refine ⟨fun p hp => ?_, fun p hp => ?_, fun o' ho' hb => ?_⟩
      · rw [up_off _ _ (fun e => by rw [e] at hp; exact hp h0)]
        exact a1 p hp
      · by_cases e : p = stQ T k j q o
        · rw [e, up_at]
          exact Or.inr ⟨rfl, o, by omega, hc.1, rfl⟩
        · rw [up_off _ _ e]
          rcases a2 p hp with h | ⟨h, o', ho', hb, he⟩
          · exact Or.inl h
          · exact Or.inr ⟨h, o', by omega, hb, he⟩
      · by_cases e : stQ T k j q o' = stQ T k j q o
        · rw [e, up_at]; exact hn
        · rw [up_off _ _ e]
          refine a3 o' ?_ hb
          have : o' ≠ o := fun h => e (by rw [h])
          omega
    · rw [if_neg hc]
      refine ⟨a1, fun p hp => ?_, fun o' ho' hb => ?_⟩
      · rcases a2 p hp with h | ⟨h, o', ho', hb, he⟩
        · exact Or.inl h
        · exact Or.inr ⟨h, o', by omega, hb, he⟩
      · by_cases e : o' = o
        · rw [e] at hb ⊢
          exact fun h => hc ⟨hb, h⟩
        · exact a3 o' (by omega) hb
/-- what "reached" says while the n-th states are gone through, those ahead of p being done -/
def rcI (T : TD) (k j n p : Nat) (rc : Nat → Nat) : Prop := (∀ q, rc q ≤ n + 2) ∧ (∀ q m, rc q = m + 1 → rwQ T k j m q ∧ ∀ m', m' < m → ¬ rwQ T k j m' q) ∧ (∀ m q, m ≤ n → rwQ T k j m q → rc q ≠ 0) ∧ (∀ m q, m < n → rwQ T k j m q → q % 1089 ≠ 1088) ∧ (∀ q, q < p → rc q = n + 1 → q % 1089 ≠ 1088 ∧ ∀ o, o < tD T → (tE T (q / 1089)).testBit o = true → rc (stQ T k j q o) ≠ 0) ∧ (∀ m, m < n → ∃ q, q < 13068 ∧ rc q = m + 1)
theorem rc_on {T : TD} {k j n p : Nat} {rc : Nat → Nat} (hI : rcI T k j n p rc) (hp : rc p = n + 1) (ha : p % 1089 ≠ 1088) : rcI T k j n (p + 1) (boS T k j p (n + 2) rc (tD T)) ∧ boS T k j p (n + 2) rc (tD T) p = n + 1 := by
  obtain ⟨i1, i2, i3, i4, i5, i6⟩ := hI
  obtain ⟨a1, a2, a3⟩ := bo_ok (T := T) (k := k) (j := j) (q := p) (n := n + 2) (rc := rc) (by omega) (tD T)
  have hkeep : ∀ q, rc q ≠ 0 → boS T k j p (n + 2) rc (tD T) q ≠ 0 := fun q h => by rw [a1 q h]; exact h
  have hlow : ∀ q m, m ≤ n → boS T k j p (n + 2) rc (tD T) q = m + 1 → rc q = m + 1 := by
    intro q m hm h
    by_cases h0 : rc q = 0
    · rcases a2 q h0 with h' | ⟨h', -⟩ <;> omega
    · rw [← a1 q h0]; exact h
  have hrp := (i2 p n hp).1
  refine ⟨⟨fun q => ?_, fun q m h => ?_, fun m q hm hr => hkeep q (i3 m q hm hr), i4, fun q hq h => ?_, fun m hm => ?_⟩, by rw [a1 p (by omega)]; exact hp⟩
  · by_cases h0 : rc q = 0
    · rcases a2 q h0 with h' | ⟨h', -⟩ <;> omega
    · rw [a1 q h0]; exact i1 q
  · by_cases h0 : rc q = 0
    · rcases a2 q h0 with h' | ⟨h', o, ho, hb, he⟩
      · omega
      · have em : m = n + 1 := by omega
        subst em
        exact ⟨⟨p, o, ho, hrp, hb, he⟩, fun m' hm' hr => i3 m' q (by omega) hr h0⟩
    · rw [a1 q h0] at h
      exact i2 q m h
  · have h' := hlow q n (Nat.le_refl _) h
    by_cases e : q = p
    · rw [e]
      exact ⟨ha, fun o ho hb => a3 o ho hb⟩
    · obtain ⟨c1, c2⟩ := i5 q (by omega) h'
      exact ⟨c1, fun o ho hb => hkeep _ (c2 o ho hb)⟩
  · obtain ⟨q, h1, h2⟩ := i6 m hm
    exact ⟨q, h1, by rw [a1 q (by omega)]; exact h2⟩
theorem rc_skip {T : TD} {k j n p : Nat} {rc : Nat → Nat} (hI : rcI T k j n p rc) (hp : rc p ≠ n + 1) : rcI T k j n (p + 1) rc := by
  obtain ⟨i1, i2, i3, i4, i5, i6⟩ := hI
  refine ⟨i1, i2, i3, i4, fun q hq h => ?_, i6⟩
  by_cases e : q = p
  · rw [e] at h; exact absurd h hp
  · exact i5 q (by omega) h
theorem rc_next {T : TD} {k j n : Nat} {rc : Nat → Nat} (hD : tD T ≤ 12) (h1 : 1 ≤ tL T k) (h6 : tL T k ≤ 6) (g1 : 1 ≤ tL T j) (g6 : tL T j ≤ 6) (hI : rcI T k j n 13068 rc) (hm : ∃ q, q < 13068 ∧ rc q = n + 1) : rcI T k j (n + 1) 0 rc := by
  obtain ⟨i1, i2, i3, i4, i5, i6⟩ := hI
  have hlt : ∀ m q, rwQ T k j m q → q < 13068 := fun m q h => by have := rw_lt h1 h6 g1 g6 m q h; omega
  refine ⟨fun q => by have := i1 q; omega, i2, fun m q hm hr => ?_, fun m q hm hr => ?_, fun q hq => absurd hq (Nat.not_lt_zero q), fun m hm' => ?_⟩
  · by_cases e : m = n + 1
    · subst e
      obtain ⟨p, o, ho, hp, hb, he⟩ := hr
      have hp0 := i3 n p (Nat.le_refl _) hp
      by_cases e2 : rc p = n + 1
      · rw [he]
        exact (i5 p (hlt n p hp) e2).2 o ho hb
      · have hm1 := i1 p
        obtain ⟨c1, c2⟩ := i2 p (rc p - 1) (by omega)
        have hle : rc p - 1 ≤ n := by
          refine Classical.byContradiction fun hc => ?_
          exact c2 n (by omega) hp
        exact i3 (rc p - 1 + 1) q (by omega) ⟨p, o, ho, c1, hb, he⟩
    · exact i3 m q (by omega) hr
  · by_cases e : m = n
    · subst e
      have h0 := i3 m q (Nat.le_refl _) hr
      by_cases e2 : rc q = m + 1
      · exact (i5 q (hlt m q hr) e2).1
      · obtain ⟨c1, c2⟩ := i2 q (rc q - 1) (by omega)
        have hle : rc q - 1 < m := by
          refine Classical.byContradiction fun hc => ?_
          exact c2 m (by omega) hr
        exact i4 _ q hle c1
    · exact i4 m q (by omega) hr
  · by_cases e : m = n
    · subst e; exact hm
    · exact i6 m (by omega)
theorem rc_end {T : TD} {k j n : Nat} {rc : Nat → Nat} (hD : tD T ≤ 12) (h1 : 1 ≤ tL T k) (h6 : tL T k ≤ 6) (g1 : 1 ≤ tL T j) (g6 : tL T j ≤ 6) (hI : rcI T k j n 13068 rc) (hm : ∀ q, q < 13068 → rc q ≠ n + 1) : ∀ m q, rwQ T k j m q → q % 1089 ≠ 1088 := by
  obtain ⟨i1, i2, i3, i4, i5, i6⟩ := hI
  have hlt : ∀ m q, rwQ T k j m q → q < 13068 := fun m q h => by have := rw_lt h1 h6 g1 g6 m q h; omega
  have base : ∀ q, rwQ T k j n q → ∃ m, m < n ∧ rwQ T k j m q := by
    intro q hr
    have h0 := i3 n q (Nat.le_refl _) hr
    have h2 := hm q (hlt n q hr)
    obtain ⟨c1, c2⟩ := i2 q (rc q - 1) (by omega)
    refine ⟨rc q - 1, ?_, c1⟩
    refine Classical.byContradiction fun hc => ?_
    exact c2 n (by omega) hr
  have all : ∀ d q, rwQ T k j (n + d) q → ∃ m, m < n ∧ rwQ T k j m q := by
    intro d
    induction d with
    | zero => exact base
    | succ d ih =>
      intro q hr
      obtain ⟨p, o, ho, hp, hb, he⟩ := hr
      obtain ⟨m, hm1, hm2⟩ := ih p hp
      have hr2 : rwQ T k j (m + 1) q := ⟨p, o, ho, hm2, hb, he⟩
      by_cases e : m + 1 = n
      · rw [e] at hr2; exact base q hr2
      · exact ⟨m + 1, by omega, hr2⟩
  intro m q hr
  by_cases e : m < n
  · exact i4 m q e hr
  · obtain ⟨m', a, b⟩ := all (m - n) q (by rw [show n + (m - n) = m by omega]; exact hr)
    exact i4 m' q a b
theorem rc_bound {T : TD} {k j n p : Nat} {rc : Nat → Nat} (hI : rcI T k j n p rc) : n ≤ 13068 := by
  have h : ∀ m : Nat, ∃ q : Nat, m < n → q < 13068 ∧ rc q = m + 1 := by
    intro m
    by_cases hm : m < n
    · obtain ⟨q, a⟩ := hI.2.2.2.2.2 m hm
      exact ⟨q, fun _ => a⟩
    · exact ⟨0, fun h => absurd h hm⟩
  have := pg_le 13068 n (fun m => Classical.choose (h m)) (fun a ha => (Classical.choose_spec (h a) ha).1) (fun a b ha hb q => by
    have e1 := (Classical.choose_spec (h a) ha).2
    have e2 := (Classical.choose_spec (h b) hb).2
    have q : Classical.choose (h a) = Classical.choose (h b) := q
    rw [q] at e1
    omega)
  exact this
