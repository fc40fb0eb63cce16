/-! PURE: ways that shun a song, counted in numbers -/
def caN (T : TD) (k v s : Nat) (p : Nat → Nat) : Nat → Nat → Nat
  | 0 => p
  | d + 1 => if (tE T (s / 32)).testBit d then (match stO T k (s % 32) d with
      | none => caN T k v s p d
      | some r => va_up (caN T k v s p d) r (caN T k v s p d r + v)) else caN T k v s p d
def csN (T : TD) (k : Nat) (c : Nat → Nat) : Nat → Nat → Nat
  | 0 => fun _ => 0
  | s + 1 => caN T k (c s) s (csN T k c s) (tD T)
def cnN (T : TD) (k a : Nat) : Nat → Nat → Nat
  | 0 => fun r => if r = a then 1 else 0
  | n + 1 => csN T k (cnN T k a n) 384
theorem caN_0 (T : TD) (k s : Nat) (p : Nat → Nat) : ∀ d, caN T k 0 s p d = p
  | 0 => rfl
  | d + 1 => by
    rw [caN]
    split
    · cases stO T k (s % 32) d with
      | none => exact caN_0 T k s p d
      | some r =>
        rw [caN_0 T k s p d]
        funext j
        show va_up p r (p r + 0) j = p j
        unfold va_up
        split
        next e => rw [e]; rfl
        · rfl
    · exact caN_0 T k s p d
theorem caI_N (T : TD) (k v s : Nat) (p : Nat → Nat) : ∀ d, caI T k (lN v) s (fun r => lN (p r)) d = fun r => lN (caN T k v s p d r)
  | 0 => rfl
  | d + 1 => by
    rw [caI, caN, caI_N T k v s p d]
    split
    · cases stO T k (s % 32) d with
      | none => rfl
      | some r =>
        funext j
        show vp_updL (fun r => lN (caN T k v s p d r)) r (lN (caN T k v s p d r) + lN v) j = lN (va_up (caN T k v s p d) r (caN T k v s p d r + v) j)
        unfold vp_updL va_up
        split
        · rw [lN_add]
        · rfl
    · rfl
theorem caI_v0 (T : TD) (k s : Nat) (p : Nat → Int64) : ∀ d, caI T k 0 s p d = p
  | 0 => rfl
  | d + 1 => by
    rw [caI]
    split
    · cases stO T k (s % 32) d with
      | none => exact caI_v0 T k s p d
      | some r =>
        rw [caI_v0 T k s p d]
        funext j
        show vp_updL p r (p r + 0) j = p j
        unfold vp_updL
        split
        next e => rw [e]; exact Int64.add_zero _
        · rfl
    · exact caI_v0 T k s p d
theorem csI_N (T : TD) (k : Nat) (c : Nat → Nat) : ∀ s, csI T k (fun r => lN (c r)) s = fun r => lN (csN T k c s r)
  | 0 => rfl
  | s + 1 => by
    have h : csI T k (fun r => lN (c r)) (s + 1) = caI T k (lN (c s)) s (csI T k (fun r => lN (c r)) s) (tD T) := by
      rw [csI]
      split
      next e =>
        have e : lN (c s) = 0 := e
        rw [e, caI_v0]
      · rfl
    rw [h, csI_N T k c s, caI_N]
    rfl
theorem cnI_N (T : TD) (k a : Nat) : ∀ n, cnI T k a n = fun r => lN (cnN T k a n r)
  | 0 => by
    funext r
    show (if r = a then (1 : Int64) else 0) = lN (if r = a then 1 else 0)
    split <;> rfl
  | n + 1 => by
    rw [cnI, cnI_N T k a n, csI_N]
    rfl
theorem sumN_up (p : Nat → Nat) (r v : Nat) : ∀ n, sumN (va_up p r (p r + v)) n ≤ sumN p n + v ∧ (n ≤ r → sumN (va_up p r (p r + v)) n = sumN p n)
  | 0 => ⟨Nat.zero_le _, fun _ => rfl⟩
  | n + 1 => by
    have ih := sumN_up p r v n
    rw [sumN, sumN]
    have hu : va_up p r (p r + v) n = if n = r then p r + v else p n := rfl
    rw [hu]
    by_cases e : n = r
    · rw [if_pos e]
      have := ih.2 (by omega)
      subst e
      exact ⟨by omega, fun h => by omega⟩
    · rw [if_neg e]
      exact ⟨by omega, fun h => by have := ih.2 (by omega); omega⟩
theorem caN_sum (T : TD) (k v s : Nat) (p : Nat → Nat) (n : Nat) : ∀ d, sumN (caN T k v s p d) n ≤ sumN p n + d * v
  | 0 => by rw [caN]; omega
  | d + 1 => by
    have ih := caN_sum T k v s p n d
    have e : (d + 1) * v = d * v + v := Nat.succ_mul d v
    rw [caN]
    split
    · cases stO T k (s % 32) d with
      | none => show sumN (caN T k v s p d) n ≤ _; omega
      | some r =>
        have := (sumN_up (caN T k v s p d) r v n).1
        show sumN (va_up (caN T k v s p d) r (caN T k v s p d r + v)) n ≤ _
        omega
    · omega
theorem csN_sum {T : TD} (hD : tD T ≤ 12) (k : Nat) (c : Nat → Nat) (n : Nat) : ∀ s, sumN (csN T k c s) n ≤ 12 * sumN c s
  | 0 => by
    rw [csN]
    have : ∀ m, sumN (fun _ => 0) m = 0 := by
      intro m
      induction m with
      | zero => rfl
      | succ m ih => rw [sumN, ih]
    rw [this]
    exact Nat.zero_le _
  | s + 1 => by
    have ih := csN_sum hD k c n s
    have h := caN_sum T k (c s) s (csN T k c s) n (tD T)
    have h2 : tD T * c s ≤ 12 * c s := Nat.mul_le_mul_right _ hD
    rw [csN, sumN]
    omega
theorem sumN_one (a : Nat) : ∀ n, sumN (fun r => if r = a then 1 else 0) n ≤ 1 ∧ (n ≤ a → sumN (fun r => if r = a then 1 else 0) n = 0)
  | 0 => ⟨Nat.zero_le _, fun _ => rfl⟩
  | n + 1 => by
    have ih := sumN_one a n
    rw [sumN]
    by_cases e : n = a
    · rw [if_pos e]
      have := ih.2 (by omega)
      exact ⟨by omega, fun h => by omega⟩
    · rw [if_neg e]
      exact ⟨by omega, fun h => by have := ih.2 (by omega); omega⟩
theorem cnN_sum {T : TD} (hD : tD T ≤ 12) (k a : Nat) : ∀ n, sumN (cnN T k a n) 384 ≤ 12 ^ n
  | 0 => (sumN_one a 384).1
  | n + 1 => by
    have ih := cnN_sum hD k a n
    have h := csN_sum hD k (cnN T k a n) 384 384
    rw [cnN, Nat.pow_succ]
    omega
theorem sumN_mem {f : Nat → Nat} {k : Nat} : ∀ n, k < n → f k ≤ sumN f n
  | 0, h => absurd h (Nat.not_lt_zero k)
  | n + 1, h => by
    rw [sumN]
    by_cases e : k = n
    · subst e; omega
    · have := sumN_mem (f := f) (k := k) n (by omega)
      omega
theorem cnN_lt {T : TD} (hD : tD T ≤ 12) (k a : Nat) {n r : Nat} (hn : n ≤ 12) (hr : r < 384) : cnN T k a n r < 2 ^ 63 := by
  have h1 := cnN_sum hD k a n
  have h2 := sumN_mem (f := cnN T k a n) 384 hr
  have h3 : 12 ^ n ≤ 12 ^ 12 := Nat.pow_le_pow_right (by decide) hn
  have h4 : 12 ^ 12 < 2 ^ 63 := by decide
  omega
/-- the same counts at twice the places -/
def xpN (c : Nat → Nat) (j : Nat) : Nat := if j % 2 = 0 then c (j / 2) else 0
theorem be_st {T : TD} {k s d : Nat} (h1 : 1 ≤ tL T k) (h6 : tL T k ≤ 6) : (stO T k s d = none ∧ beN T k s d = 64) ∨ (∃ r, stO T k s d = some r ∧ beN T k s d < 64 ∧ 64 * d + beN T k s d = 2 * r) := by
  unfold stO beN
  by_cases hb : (goS T k s d).testBit (tL T k - 1) = true
  · rw [if_pos hb, if_pos hb]
    exact Or.inl ⟨rfl, rfl⟩
  · rw [if_neg hb, if_neg hb]
    have := goS_safe h1 h6 (by simpa using hb : (goS T k s d).testBit (tL T k - 1) = false)
    exact Or.inr ⟨_, rfl, by omega, by omega⟩
theorem xp_up (c : Nat → Nat) (r v j : Nat) : xpN (va_up c r (c r + v)) j = if j = 2 * r then xpN c j + v else xpN c j := by
  unfold xpN va_up
  by_cases h0 : j % 2 = 0
  · rw [if_pos h0, if_pos h0]
    by_cases e : j / 2 = r
    · rw [if_pos e, if_pos (by omega), e]
    · rw [if_neg e, if_neg (by omega)]
  · rw [if_neg h0, if_neg h0, if_neg (by omega)]
theorem csN_stop {T : TD} {k : Nat} {c : Nat → Nat} {s : Nat} (h : ∀ r, s ≤ r → c r = 0) : ∀ n, csN T k c (s + n) = csN T k c s
  | 0 => rfl
  | n + 1 => by
    rw [← Nat.add_assoc, csN, h (s + n) (by omega), caN_0, csN_stop h n]
theorem caN_out {T : TD} {k v s : Nat} {p : Nat → Nat} (h1 : 1 ≤ tL T k) (h6 : tL T k ≤ 6) (hp : ∀ r, tD T ≤ r / 32 → p r = 0) : ∀ d, d ≤ tD T → ∀ r, tD T ≤ r / 32 → caN T k v s p d r = 0
  | 0, _, r, hr => hp r hr
  | d + 1, hd, r, hr => by
    have ih := caN_out (v := v) (s := s) h1 h6 hp d (by omega)
    rw [caN]
    split
    · cases hq : stO T k (s % 32) d with
      | none => exact ih r hr
      | some q =>
        show va_up (caN T k v s p d) q _ r = 0
        unfold va_up
        rw [if_neg]
        · exact ih r hr
        · intro e
          subst e
          have := (stO_div h1 h6 hq).1
          omega
    · exact ih r hr
theorem csN_out {T : TD} {k : Nat} {c : Nat → Nat} (h1 : 1 ≤ tL T k) (h6 : tL T k ≤ 6) : ∀ s, ∀ r, tD T ≤ r / 32 → csN T k c s r = 0
  | 0, _, _ => rfl
  | s + 1, r, hr => by
    rw [csN]
    exact caN_out h1 h6 (csN_out h1 h6 s) _ (Nat.le_refl _) r hr
theorem cnN_out {T : TD} {k a : Nat} (h1 : 1 ≤ tL T k) (h6 : tL T k ≤ 6) (ha : a / 32 < tD T) : ∀ n r, tD T ≤ r / 32 → cnN T k a n r = 0
  | 0, r, hr => by
    rw [cnN]
    show (if r = a then 1 else 0) = 0
    rw [if_neg (by intro e; subst e; omega)]
  | n + 1, r, hr => csN_out h1 h6 384 r hr
theorem sum_xp (c : Nat → Nat) (o : Nat) : ∀ n, sumN (fun j => xpN c (64 * o + j)) (2 * n) = sumN (fun j => c (32 * o + j)) n
  | 0 => rfl
  | n + 1 => by
    rw [show 2 * (n + 1) = 2 * n + 1 + 1 by omega, sumN, sumN, sum_xp c o n, sumN]
    have e1 : xpN c (64 * o + (2 * n)) = c (32 * o + n) := by
      unfold xpN
      rw [if_pos (by omega), show (64 * o + 2 * n) / 2 = 32 * o + n by omega]
    have e2 : xpN c (64 * o + (2 * n + 1)) = 0 := by
      unfold xpN
      rw [if_neg (by omega)]
    rw [e1, e2, Nat.add_zero]
theorem sumL_N (f : Nat → Nat) : ∀ n, sumL (fun j => lN (f j)) n = lN (sumN f n)
  | 0 => rfl
  | n + 1 => by rw [sumL, sumL_N f n, lN_add]; rfl
