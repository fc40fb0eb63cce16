/-! every call keeps what always holds -/
theorem AOk.sT {A : AD} {T : TD} (h : AOk A) (hT : TdOk T) (hd : tD T = tD (aT A)) : AOk (setT A T) := by
  obtain ⟨h1, h2, ⟨h3, h4, h5, h6, h7⟩, h8, h9⟩ := h
  refine ⟨h1, h2, ⟨hT, h4, h5, fun k hk => ?_, h7⟩, h8, h9⟩
  show xF (aX A) k < tD T
  rw [hd]
  exact h6 k hk
theorem AOk.sW {A : AD} {n : Nat} {f : Nat → Nat} (h : AOk A) (hn : n ≤ 24) (hf : ∀ k, k < n → f k < tD (aT A)) : AOk (setW A n f) := by
  obtain ⟨h1, h2, ⟨h3, h4, h5, h6, h7⟩, h8, h9⟩ := h
  exact ⟨h1, h2, ⟨h3, hn, h5, hf, h7⟩, h8, h9⟩
theorem AOk.sE {A : AD} {n : Nat} {g : Nat → Nat} (h : AOk A) (hn : n ≤ 12) (hg : ∀ k, k < n → g k ≤ 8) : AOk (setE A n g) := by
  obtain ⟨h1, h2, ⟨h3, h4, h5, h6, h7⟩, h8, h9⟩ := h
  exact ⟨h1, h2, ⟨h3, h4, hn, h6, hg⟩, h8, h9⟩
theorem AOk.sB {A : AD} {n : Nat} {f : Nat → Nat} (h : AOk A) (hn : n ≤ 96) (hf : ∀ k, k < n → f k < 256) : AOk (setB A n f) := by
  obtain ⟨h1, h2, h3, h8, h9⟩ := h
  exact ⟨hn, hf, h3, h8, h9⟩
theorem ix_lt' {x : Int32} {n k : Nat} (hn : n < 2 ^ 31) (h : ix x n = some k) : k < n := by
  rcases ix_cases x hn with ⟨j, h1, -, h3⟩ | ⟨-, h2⟩
  · rw [h3] at h; cases h; exact h1
  · rw [h2] at h; cases h
theorem ok_write {A : AD} (h : AOk A) (x : Int32) (v : Int64) : AOk (q_write A x v).2 := by
  unfold q_write
  split
  · exact h
  next k hk =>
    split
    · exact h
    next hc =>
      refine h.sB (by omega) (fun i hi => ?_)
      unfold apB
      split
      next hl => exact h.2.1 i hl
      · unfold byN
        exact Nat.mod_lt _ (by decide)
theorem ok_wipe {A : AD} (h : AOk A) : AOk (q_wipe A).2 := h.sB (by omega) (fun k hk => absurd hk (Nat.not_lt_zero k))
theorem ok_town {A : AD} (h : AOk A) : AOk (q_town A).2 := by
  unfold q_town
  split
  · exact h
  next T hT =>
    have hk : TdOk T := by
      have := pRd_ok (n := aN A) (bt := aB A) (by rw [hT])
      rw [hT] at this
      exact this
    obtain ⟨h1, h2, ⟨h3, h4, h5, h6, h7⟩, h8, h9⟩ := h
    exact ⟨h1, h2, ⟨hk, Nat.zero_le _, Nat.zero_le _, fun k hk => absurd hk (Nat.not_lt_zero k), fun k hk => absurd hk (Nat.not_lt_zero k)⟩, h8, h9⟩
theorem ok_let {A : AD} (h : AOk A) (x y : Int32) : AOk (q_let A x y).2 := by
  unfold q_let
  have hD := h.t.2.1
  split
  · exact h
  next k hk =>
    split
    · exact h
    next v hv =>
      have hv8 := ix_lt' (by decide) hv
      obtain ⟨t1, t2, t3, t4, t5, t6, t7⟩ := h.t
      refine h.sT ⟨t1, t2, t3, fun i hi => ⟨?_, (t4 i hi).2⟩, t5, t6, t7⟩ rfl
      show va_up (tN (aT A)) k v i ≤ 7
      unfold va_up
      split
      · omega
      · exact (t4 i hi).1
theorem ok_road {A : AD} (h : AOk A) (x y z : Int32) : AOk (q_road A x y z).2 := by
  unfold q_road
  have hD := h.t.2.1
  split
  · exact h
  next a ha =>
    split
    · exact h
    next b hb =>
      split
      · exact h
      next hab =>
        obtain ⟨t1, t2, t3, t4, t5, t6, t7⟩ := h.t
        have hw : TdW (aT A) := ⟨t2, t3, t4, t5, fun k hk => ⟨by have := (t6 k hk).1; omega, (t6 k hk).2⟩, t7⟩
        have hj := join_e (c := !decide (z = 0)) hw (ix_lt' (by omega) ha) (ix_lt' (by omega) hb) hab
        have hT : TdOk (tD (aT A), tS (aT A), tN (aT A), jnE (aT A) a b (!decide (z = 0)), tL (aT A), tG (aT A)) := ⟨t1, t2, t3, hj.2.2.1, hj.2.2.2.1, t6, hj.2.2.2.2.2⟩
        exact (h.sT hT rfl).sW (Nat.zero_le _) (fun k hk => absurd hk (Nat.not_lt_zero k))
theorem ok_spring {A : AD} (h : AOk A) : AOk (q_spring A).2 := by
  obtain ⟨t1, t2, t3, t4, t5, t6, t7⟩ := h.t
  refine h.sT ⟨t1, t2, t3, fun i hi => ⟨?_, (t4 i hi).2⟩, t5, t6, t7⟩ rfl
  show trnN (aT A) i ≤ 7
  have hi : i < tD (aT A) := hi
  unfold trnN
  split
  · exact (t4 _ (by omega)).1
  · exact (t4 _ (by omega)).1
theorem ok_go {A : AD} (h : AOk A) (x : Int32) : AOk (q_go A x).2 := by
  unfold q_go
  have hD := h.t.2.1
  have hW := h.2.2.1.2.1
  have hF := h.2.2.1.2.2.2.1
  split
  · exact h
  next d hd =>
    split
    · exact h
    · split
      · exact h
      next hc =>
        refine h.sW (by omega) (fun k hk => ?_)
        unfold va_up
        split
        · exact ix_lt' (by omega) hd
        · exact hF k (by omega)
theorem ok_home {A : AD} (h : AOk A) : AOk (q_home A).2 := h.sW (Nat.zero_le _) (fun k hk => absurd hk (Nat.not_lt_zero k))
theorem ok_hear {A : AD} (h : AOk A) (x : Int32) : AOk (q_hear A x).2 := by
  unfold q_hear
  have hE := h.2.2.1.2.2.1
  have hG := h.2.2.1.2.2.2.2
  split
  · exact h
  next v hv =>
    split
    · exact h
    next hc =>
      refine h.sE (by omega) (fun k hk => ?_)
      have hv9 := ix_lt' (by decide) hv
      unfold va_up
      split
      · omega
      · exact hG k (by omega)
theorem ok_deaf {A : AD} (h : AOk A) : AOk (q_deaf A).2 := h.sE (Nat.zero_le _) (fun k hk => absurd hk (Nat.not_lt_zero k))
theorem ok_keep {A : AD} (h : AOk A) (x : Int32) : AOk (q_keep A x).2 := by
  unfold q_keep
  split
  · exact h
  · obtain ⟨h1, h2, h3, h8, h9⟩ := h
    dsimp only
    split
    · exact ⟨h1, h2, h3, fun X e => (by cases e; exact h3), h9⟩
    · exact ⟨h1, h2, h3, h8, fun X e => by cases e; exact h3⟩
theorem ok_again {A : AD} (h : AOk A) (x : Int32) : AOk (q_again A x).2 := by
  unfold q_again
  split
  · exact h
  next k hk =>
    obtain ⟨h1, h2, h3, h8, h9⟩ := h
    split
    · exact ⟨h1, h2, h3, h8, h9⟩
    next X hX =>
      have hk : SdOk X := by
        split at hX
        · exact h8 X hX
        · exact h9 X hX
      exact ⟨h1, h2, hk, h8, h9⟩
theorem ok_fault {A : AD} (h : AOk A) : AOk (q_fault A).2 := h
theorem ok_note {A : AD} (h : AOk A) (x : Int32) : AOk (q_note A x).2 := by unfold q_note; split <;> exact h
theorem ok_street {A : AD} (h : AOk A) (x y : Int32) : AOk (q_street A x y).2 := by unfold q_street; (repeat' split) <;> exact h
theorem ok_song {A : AD} (h : AOk A) (x y : Int32) : AOk (q_song A x y).2 := by unfold q_song; (repeat' split) <;> exact h
theorem ok_at {A : AD} (h : AOk A) (x : Int32) : AOk (q_at A x).2 := by unfold q_at; (repeat' split) <;> exact h
theorem ok_heard {A : AD} (h : AOk A) (x y : Int32) : AOk (q_heard A x y).2 := by unfold q_heard; (repeat' split) <;> exact h
theorem ok_ways {A : AD} (h : AOk A) (x y z : Int32) : AOk (q_ways A x y z).2 := by unfold q_ways; (repeat' split) <;> exact h
theorem ok_first {A : AD} (h : AOk A) (x y : Int32) : AOk (q_first A x y).2 := by unfold q_first; (repeat' split) <;> exact h
theorem ok_begun {A : AD} (h : AOk A) (x : Int32) : AOk (q_begun A x).2 := by unfold q_begun; (repeat' split) <;> exact h
theorem ok_round {A : AD} (h : AOk A) (x y z : Int32) : AOk (q_round A x y z).2 := by unfold q_round; (repeat' split) <;> exact h
theorem ok_roundAt {A : AD} (h : AOk A) (x y z i : Int32) : AOk (q_roundAt A x y z i).2 := by unfold q_roundAt; split <;> exact h
theorem ok_safe {A : AD} (h : AOk A) (x y z i : Int32) : AOk (q_safe A x y z i).2 := by unfold q_safe; (repeat' split) <;> exact h
theorem ok_both {A : AD} (h : AOk A) (x y : Int32) : AOk (q_both A x y).2 := by unfold q_both; (repeat' split) <;> exact h
theorem ok_mayBe {A : AD} (h : AOk A) (x : Int32) : AOk (q_mayBe A x).2 := by unfold q_mayBe; (repeat' split) <;> exact h
theorem ok_fitting {A : AD} (h : AOk A) : AOk (q_fitting A).2 := h
theorem ok_parted {A : AD} (h : AOk A) (z : Int32) : AOk (q_parted A z).2 := h
theorem ok_best {A : AD} (h : AOk A) (x y : Int32) : AOk (q_best A x y).2 := by unfold q_best; (repeat' split) <;> exact h
theorem ok_bestAt {A : AD} (h : AOk A) (x y z : Int32) : AOk (q_bestAt A x y z).2 := by unfold q_bestAt; (repeat' split) <;> exact h
theorem ok_hush {A : AD} (h : AOk A) (x y : Int32) : AOk (q_hush A x y).2 := by unfold q_hush; (repeat' split) <;> exact h
theorem ok_count {A : AD} (h : AOk A) (x : Int32) : AOk (q_count A x).2 := by unfold q_count; (repeat' split) <;> exact h
