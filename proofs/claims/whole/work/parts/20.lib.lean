/-! SMALL LAWS over the calls -/
theorem b_ok {n j : Nat} (h : j < n) (hn : n < 2 ^ 31) (k : Nat → am_Z) : am_b n (nI j) k = k j := by
  have hj : j < 2 ^ 31 := by omega
  unfold am_b
  rw [nI_clamp hj, if_neg]
  intro q
  rcases q with q | q
  · exact nI_pos hj q
  · omega
theorem r1_ok (h : am_H) (x : Int32) (k : am_H → Int32 → am_Z) : am_r1 (some (h, some x)) k = k h x := rfl
theorem r0_ok (h : am_H) (k : am_H → am_Z) : am_r0 (some (h, none)) k = k h := rfl
theorem up_c (h : am_H) (c i : Nat) (x : Int32) : am_up h c i x c = upd (h c) i x := by simp [am_up, va_up]
theorem up_n {h : am_H} {c i : Nat} {x : Int32} {c' : Nat} (hc : c' ≠ c) : am_up h c i x c' = h c' := by simp [am_up, va_up, hc]
theorem up_s (h : am_H) (c i : Nat) (x : Int32) : am_up h c i x c i = x := by simp [am_up, va_up, upd]
theorem up_d {h : am_H} {c i j : Nat} {x : Int32} (hj : j ≠ i) : am_up h c i x c j = h c j := by simp [am_up, va_up, upd, hj]
theorem up_a (h : am_H) (c i : Nat) (x : Int32) (c' j : Nat) : am_up h c i x c' j = if c' = c ∧ j = i then x else h c' j := by
  unfold am_up va_up upd
  by_cases e : c' = c
  · subst e
    by_cases f : j = i <;> simp [f]
  · simp [e]
/-- an answer of yes or no -/
def yn (c : Prop) [Decidable c] : Int32 := if c then 1 else 0
theorem yn_0 {c : Prop} [Decidable c] : (yn c = 0) ↔ ¬ c := by
  unfold yn
  split
  · simp [*]
  · simp [*]
theorem yn_1 {c : Prop} [Decidable c] : (yn c = 1) ↔ c := by
  unfold yn
  split
  · simp [*]
  · simp [*]
theorem yn_b {c : Prop} [Decidable c] : yn c &&& 1 = yn c := by
  unfold yn
  split <;> rfl
theorem cmp_lt (x y : Int64) : (lg_cmp x y < 0) ↔ x < y := by
  unfold lg_cmp
  by_cases h1 : x > y
  · rw [if_pos h1]
    constructor
    · intro h; exact absurd h (by decide)
    · intro h; exact absurd (Int64.lt_trans h h1) (Int64.lt_irrefl)
  · rw [if_neg h1]
    by_cases h2 : x = y
    · rw [if_pos h2]
      constructor
      · intro h; exact absurd h (by decide)
      · intro h; rw [h2] at h; exact absurd h (Int64.lt_irrefl)
    · rw [if_neg h2]
      constructor
      · intro _
        rcases Int64.lt_or_lt_of_ne h2 with q | q
        · exact q
        · exact absurd q h1
      · intro _; decide
theorem cmp_gt (x y : Int64) : (0 < lg_cmp x y) ↔ y < x := by
  unfold lg_cmp
  by_cases h1 : x > y
  · rw [if_pos h1]
    constructor
    · intro _; exact h1
    · intro _; decide
  · rw [if_neg h1]
    constructor
    · intro h
      by_cases h2 : x = y
      · rw [if_pos h2] at h; exact absurd h (by decide)
      · rw [if_neg h2] at h; exact absurd h (by decide)
    · intro h; exact absurd h h1
theorem l_lt (a b : Int32) : (a.toInt64 < b.toInt64) ↔ a < b := by
  rw [Int64.lt_iff_toInt_lt, Int32.lt_iff_toInt_lt, Int32.toInt_toInt64, Int32.toInt_toInt64]
/-- the reference's question whether a number lies between two -/
theorem gM_in_ok (d : Nat) (a b c : Int32) (h : am_H) : am_g (d + 1) 95 [vl a.toInt64, vl b.toInt64, vl c.toInt64] h = some (h, some (yn (¬ a < b ∧ ¬ c < a))) := by
  rw [gM_in]
  simp only [cmp_lt, cmp_gt, l_lt, yn]
  by_cases h1 : a < b
  · simp [h1]
  · by_cases h2 : c < a
    · simp [h1, h2]
    · simp [h1, h2]
/-- an index: outside, or a place -/
theorem ix_c {x : Int32} {n : Nat} (hn : n < 2 ^ 31) : (¬ (¬ x < 0 ∧ x < nI n)) ∨ ∃ j, j < n ∧ x = nI j := by
  rcases pk_ix x hn with h | h | ⟨j, h1, h2⟩
  · exact Or.inl fun q => q.1 h
  · exact Or.inl fun q => absurd q.2 (Int32.not_lt.mpr h)
  · exact Or.inr ⟨j, h1, h2⟩
theorem ix_t {j n : Nat} (h : j < n) (hn : n < 2 ^ 31) : ¬ nI j < 0 ∧ nI j < nI n := ⟨nI_pos (by omega), nI_lt h hn⟩
