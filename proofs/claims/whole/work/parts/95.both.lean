/-! PURE: ways that sound two songs -/
def WyN (T : TD) (w : Nat → Nat) (n : Nat) : Prop := (∀ i, i < n → w i < tD T) ∧ ∀ i, i + 1 < n → (tE T (w i)).testBit (w (i + 1)) = true
def occP (F : Nat → Nat) (L : Nat) (w : Nat → Nat) (n : Nat) : Prop := ∃ i, i + L ≤ n ∧ ∀ j, j < L → (F j).testBit (w (i + j)) = true
def btP (T : TD) (F G : Nat → Nat) (L M n : Nat) : Prop := ∃ w, WyN T w n ∧ occP F L w n ∧ occP G M w n
theorem fwd_way {T : TD} (hT : TdOk T) (X : Nat → Nat) : ∀ j d, (fwd T X (2 ^ tD T - 1) j).testBit d = true ↔ ∃ w, WyN T w (j + 1) ∧ w j = d ∧ ∀ i, i ≤ j → (X i).testBit (w i) = true
  | 0, d => by
    rw [fwd, Nat.testBit_and, Bool.and_eq_true, Nat.testBit_two_pow_sub_one, decide_eq_true_eq]
    constructor
    · rintro ⟨h1, h2⟩
      exact ⟨fun _ => d, ⟨fun _ _ => h1, fun i hi => by omega⟩, rfl, fun i hi => by rw [show i = 0 by omega]; exact h2⟩
    · rintro ⟨w, h1, h2, h3⟩
      rw [← h2]
      exact ⟨h1.1 0 (by omega), h3 0 (Nat.le_refl _)⟩
  | j + 1, d => by
    rw [fwd, Nat.testBit_and, Bool.and_eq_true, arS_bit]
    constructor
    · rintro ⟨⟨e, he, h1, h2⟩, h3⟩
      obtain ⟨w, w1, w2, w3⟩ := (fwd_way hT X j e).mp h1
      have hd : d < tD T := by
        refine Classical.byContradiction fun hc => ?_
        rw [hT.out (by omega)] at h2
        cases h2
      refine ⟨va_up w (j + 1) d, ⟨fun i hi => ?_, fun i hi => ?_⟩, up_at _ _ _, fun i hi => ?_⟩
      · by_cases e1 : i = j + 1
        · rw [e1, up_at]; exact hd
        · rw [up_off _ _ e1]; exact w1.1 i (by omega)
      · by_cases e1 : i = j
        · rw [e1, up_at, up_off _ _ (by omega), w2]; exact h2
        · rw [up_off _ _ (by omega), up_off _ _ (by omega)]; exact w1.2 i (by omega)
      · by_cases e1 : i = j + 1
        · rw [e1, up_at]; exact h3
        · rw [up_off _ _ e1]; exact w3 i (by omega)
    · rintro ⟨w, w1, w2, w3⟩
      refine ⟨⟨w j, w1.1 j (by omega), (fwd_way hT X j (w j)).mpr ⟨w, ⟨fun i hi => w1.1 i (by omega), fun i hi => w1.2 i (by omega)⟩, rfl, fun i hi => w3 i (by omega)⟩, ?_⟩, ?_⟩
      · rw [← w2]; exact w1.2 j (by omega)
      · rw [← w2]; exact w3 (j + 1) (Nat.le_refl _)
def msX (T : TD) (F G : Nat → Nat) (n m : Nat) (s : Int) (j : Nat) : Nat := foS T F n (mFr s + j) &&& foS T G m (mFr s + j - s)
theorem ms_fwd (T : TD) (F G : Nat → Nat) (n m : Nat) (s : Int) : ∀ j, msS T F G n m s j = fwd T (msX T F G n m s) (2 ^ tD T - 1) j
  | 0 => by
    rw [msS, fwd]
    unfold msX
    rw [show mFr s + ((0 : Nat) : Int) = mFr s by omega]
  | j + 1 => by
    rw [msS, fwd, ms_fwd T F G n m s j]
    rfl
theorem msL_pos {n m : Nat} {s : Int} (hn : 1 ≤ n) : 1 ≤ msL n m s := by
  unfold msL mTo mFr
  split <;> split <;> omega
theorem ms_way {T : TD} (hT : TdOk T) (F G : Nat → Nat) {n m : Nat} (s : Int) (hn : 1 ≤ n) : msB T F G n m s = true ↔ ∃ w, WyN T w (msL n m s) ∧ ∀ i, i < msL n m s → (msX T F G n m s i).testBit (w i) = true := by
  unfold msB
  rw [decide_eq_true_eq, ms_fwd]
  have hp := msL_pos (m := m) (s := s) hn
  constructor
  · intro h
    obtain ⟨d, hd⟩ := ex_bit h
    obtain ⟨w, w1, w2, w3⟩ := (fwd_way hT _ _ d).mp hd
    rw [show msL n m s - 1 + 1 = msL n m s by omega] at w1
    exact ⟨w, w1, fun i hi => w3 i (by omega)⟩
  · rintro ⟨w, w1, w2⟩ h
    have := (fwd_way hT (msX T F G n m s) (msL n m s - 1) (w (msL n m s - 1))).mpr ⟨w, by rw [show msL n m s - 1 + 1 = msL n m s by omega]; exact w1, rfl, fun i hi => w2 i (by omega)⟩
    rw [h, Nat.zero_testBit] at this
    cases this
theorem ms_bt {T : TD} (hT : TdOk T) {F G : Nat → Nat} {n m : Nat} {s : Int} (hn : 1 ≤ n) (h : msB T F G n m s = true) : btP T F G n m (msL n m s) := by
  obtain ⟨w, w1, w2⟩ := (ms_way hT F G s hn).mp h
  have hF : mFr s ≤ 0 ∧ mFr s ≤ s := by unfold mFr; split <;> omega
  have hL1 : (n : Int) ≤ mTo n m s ∧ s + m ≤ mTo n m s := by unfold mTo; split <;> omega
  have hL : ((msL n m s : Nat) : Int) = mTo n m s - mFr s := by unfold msL; omega
  refine ⟨w, w1, ⟨(-mFr s).toNat, by omega, fun j hj => ?_⟩, ⟨(s - mFr s).toNat, by omega, fun j hj => ?_⟩⟩
  · have h1 := w2 ((-mFr s).toNat + j) (by omega)
    unfold msX at h1
    rw [Nat.testBit_and, Bool.and_eq_true] at h1
    have e : mFr s + (((-mFr s).toNat + j : Nat) : Int) = (j : Int) := by omega
    have h2 := h1.1
    unfold foS at h2
    rw [e, if_pos (by omega)] at h2
    exact h2
  · have h1 := w2 ((s - mFr s).toNat + j) (by omega)
    unfold msX at h1
    rw [Nat.testBit_and, Bool.and_eq_true] at h1
    have e : mFr s + (((s - mFr s).toNat + j : Nat) : Int) - s = (j : Int) := by omega
    have h2 := h1.2
    unfold foS at h2
    rw [e, if_pos (by omega)] at h2
    exact h2
/-- a way with both songs, cut to what they need -/
theorem bt_ms {T : TD} (hT : TdOk T) {F G : Nat → Nat} {n m N i i' : Nat} {w : Nat → Nat} (hn : 1 ≤ n) (hw : WyN T w N) (h1 : i + n ≤ N) (h2 : i' + m ≤ N) (hF : ∀ j, j < n → (F j).testBit (w (i + j)) = true) (hG : ∀ j, j < m → (G j).testBit (w (i' + j)) = true) : msB T F G n m ((i' : Int) - i) = true ∧ msL n m ((i' : Int) - i) ≤ N := by
  generalize hs : (i' : Int) - i = s
  have hFr : mFr s ≤ 0 ∧ mFr s ≤ s ∧ (mFr s = 0 ∨ mFr s = s) := by unfold mFr; split <;> omega
  have hL1 : mTo n m s = n ∨ mTo n m s = s + m := by unfold mTo; split <;> omega
  have hL2 : (n : Int) ≤ mTo n m s ∧ s + m ≤ mTo n m s := by unfold mTo; split <;> omega
  have hL : ((msL n m s : Nat) : Int) = mTo n m s - mFr s := by unfold msL; omega
  refine ⟨(ms_way hT F G s hn).mpr ⟨fun t => w (((i : Int) + mFr s).toNat + t), ⟨fun t ht => hw.1 _ (by omega), fun t ht => hw.2 (((i : Int) + mFr s).toNat + t) (by omega)⟩, fun t ht => ?_⟩, by omega⟩
  have hwD := hw.1 (((i : Int) + mFr s).toNat + t) (by omega)
  have hall : (2 ^ tD T - 1).testBit (w (((i : Int) + mFr s).toNat + t)) = true := by
    rw [Nat.testBit_two_pow_sub_one]
    simp [hwD]
  unfold msX
  rw [Nat.testBit_and, Bool.and_eq_true]
  constructor
  · unfold foS
    split
    next hc =>
      have := hF (mFr s + t).toNat (by omega)
      rw [show i + (mFr s + (t : Int)).toNat = ((i : Int) + mFr s).toNat + t by omega] at this
      exact this
    · exact hall
  · unfold foS
    split
    next hc =>
      have := hG (mFr s + t - s).toNat (by omega)
      rw [show i' + (mFr s + (t : Int) - s).toNat = ((i : Int) + mFr s).toNat + t by omega] at this
      exact this
    · exact hall
/-- between two songs far apart a loop can be cut out -/
theorem bt_cut {T : TD} (hD : tD T ≤ 12) {F G : Nat → Nat} {n m N i i' : Nat} {w : Nat → Nat} (hw : WyN T w N) (h2 : i' + m ≤ N) (hF : ∀ j, j < n → (F j).testBit (w (i + j)) = true) (hG : ∀ j, j < m → (G j).testBit (w (i' + j)) = true) (hm : 1 ≤ m) (hgap : i + n + 13 ≤ i') : ∃ N' v, N' < N ∧ WyN T v N' ∧ occP F n v N' ∧ occP G m v N' := by
  have hrep : ∃ a b, a < b ∧ b < 13 ∧ w (i + n + a) = w (i + n + b) := by
    refine Classical.byContradiction fun hc => ?_
    have := pg_le 12 13 (fun t => w (i + n + t)) (fun a ha => by have := hw.1 (i + n + a) (by omega); show w (i + n + a) < 12; omega) (fun a b ha hb q => by
      have q : w (i + n + a) = w (i + n + b) := q
      rcases Nat.lt_trichotomy a b with h | h | h
      · exact absurd ⟨a, b, h, hb, q⟩ hc
      · exact h
      · exact absurd ⟨b, a, h, ha, q.symm⟩ hc)
    omega
  obtain ⟨a, b, hab, hb, he⟩ := hrep
  refine ⟨N - (b - a), fun t => if t ≤ i + n + a then w t else w (t + (b - a)), by omega, ⟨fun t ht => ?_, fun t ht => ?_⟩, ⟨i, by omega, fun j hj => ?_⟩, ⟨i' - (b - a), by omega, fun j hj => ?_⟩⟩
  · dsimp only
    split
    · exact hw.1 _ (by omega)
    · exact hw.1 _ (by omega)
  · dsimp only
    by_cases c1 : t + 1 ≤ i + n + a
    · rw [if_pos (by omega), if_pos c1]
      exact hw.2 t (by omega)
    · rw [if_neg c1]
      by_cases c2 : t ≤ i + n + a
      · rw [if_pos c2, show t = i + n + a by omega, he, show i + n + a + 1 + (b - a) = i + n + b + 1 by omega]
        exact hw.2 _ (by omega)
      · rw [if_neg c2, show t + 1 + (b - a) = t + (b - a) + 1 by omega]
        exact hw.2 _ (by omega)
  · dsimp only
    rw [if_pos (by omega)]
    exact hF j hj
  · dsimp only
    rw [if_neg (by omega), show i' - (b - a) + j + (b - a) = i' + j by omega]
    exact hG j hj
theorem mt_some {T : TD} {F G : Nat → Nat} {n m : Nat} : ∀ K l, mtS T F G n m K = some l → ∃ k : Nat, k < K ∧ msB T F G n m ((k : Int) - m - 12) = true ∧ l = msL n m ((k : Int) - m - 12)
  | 0, l, h => by cases h
  | K + 1, l, h => by
    rw [mtS] at h
    split at h
    next hc =>
      rw [Bool.and_eq_true] at hc
      exact ⟨K, by omega, hc.2, (Option.some.inj h).symm⟩
    · obtain ⟨k, h1, h2⟩ := mt_some K l h
      exact ⟨k, by omega, h2⟩
theorem mt_least {T : TD} {F G : Nat → Nat} {n m : Nat} : ∀ K k : Nat, k < K → msB T F G n m ((k : Int) - m - 12) = true → ∃ l, mtS T F G n m K = some l ∧ l ≤ msL n m ((k : Int) - m - 12)
  | 0, k, h, _ => absurd h (Nat.not_lt_zero k)
  | K + 1, k, h, hb => by
    rw [mtS]
    by_cases e : k = K
    · subst e
      split
      · exact ⟨_, rfl, Nat.le_refl _⟩
      next hc =>
        rw [hb, Bool.and_true] at hc
        cases hm : mtS T F G n m k with
        | none => rw [hm] at hc; exact absurd rfl hc
        | some l =>
          rw [hm] at hc
          have hc : ¬ decide (msL n m ((k : Int) - m - 12) < l) = true := hc
          rw [decide_eq_true_eq] at hc
          exact ⟨l, rfl, by omega⟩
    · obtain ⟨l, h1, h2⟩ := mt_least K k (by omega) hb
      split
      next hc =>
        rw [Bool.and_eq_true, h1] at hc
        have hc1 : decide (msL n m ((K : Int) - m - 12) < l) = true := hc.1
        rw [decide_eq_true_eq] at hc1
        exact ⟨_, rfl, by omega⟩
      · exact ⟨l, h1, h2⟩
theorem mt_bt {T : TD} (hT : TdOk T) {F G : Nat → Nat} {n m : Nat} (hn : 1 ≤ n) {l : Nat} (h : mtS T F G n m (n + m + 25) = some l) : btP T F G n m l := by
  obtain ⟨k, -, h2, h3⟩ := mt_some _ _ h
  rw [h3]
  exact ms_bt hT hn h2
theorem bt_mt {T : TD} (hT : TdOk T) {F G : Nat → Nat} {n m : Nat} (hn : 1 ≤ n) (hm : 1 ≤ m) : ∀ f N, N < f → btP T F G n m N → ∃ l, mtS T F G n m (n + m + 25) = some l ∧ l ≤ N
  | 0, N, hN, _ => absurd hN (Nat.not_lt_zero N)
  | f + 1, N, hN, hb => by
    obtain ⟨w, hw, ⟨i, hi, hF⟩, ⟨i', hi', hG⟩⟩ := hb
    by_cases c1 : i + n + 13 ≤ i'
    · obtain ⟨N', v, v1, v2, v3, v4⟩ := bt_cut hT.2.1 hw hi' hF hG hm c1
      obtain ⟨l, h1, h2⟩ := bt_mt hT hn hm f N' (by omega) ⟨v, v2, v3, v4⟩
      exact ⟨l, h1, by omega⟩
    · by_cases c2 : i' + m + 13 ≤ i
      · obtain ⟨N', v, v1, v2, v3, v4⟩ := bt_cut hT.2.1 hw hi hG hF hn c2
        obtain ⟨l, h1, h2⟩ := bt_mt hT hn hm f N' (by omega) ⟨v, v2, v4, v3⟩
        exact ⟨l, h1, by omega⟩
      · obtain ⟨b1, b2⟩ := bt_ms hT hn hw hi hi' hF hG
        obtain ⟨l, h1, h2⟩ := mt_least (T := T) (F := F) (G := G) (n := n) (m := m) (n + m + 25) ((i' : Int) - i + m + 12).toNat (by omega) (by
          rw [show (((((i' : Int) - i + m + 12).toNat : Nat) : Int) - m - 12) = (i' : Int) - i by omega]
          exact b1)
        rw [show (((((i' : Int) - i + m + 12).toNat : Nat) : Int) - m - 12) = (i' : Int) - i by omega] at h2
        exact ⟨l, h1, by omega⟩
