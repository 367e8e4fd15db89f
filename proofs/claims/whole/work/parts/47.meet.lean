/-! MEET: the visits in their order -/
/-- how many of the b oldest visits are of w -/
def cn (w : Nat) (l : List K_V) (b : Nat) : Nat := cV w (l.drop (l.length - b))
theorem cn_0 (w : Nat) (l : List K_V) : cn w l 0 = 0 := by
  unfold cn
  rw [Nat.sub_zero, List.drop_length]
  rfl
theorem cn_n (w : Nat) (l : List K_V) : cn w l l.length = cV w l := by
  unfold cn
  rw [Nat.sub_self, List.drop_zero]
theorem cn_t (w : Nat) (x : K_V) (t : List K_V) {b : Nat} (h : b ≤ t.length) : cn w (x :: t) b = cn w t b := by
  unfold cn
  rw [show (x :: t).length - b = t.length - b + 1 by simp; omega, List.drop_succ_cons]
theorem vis_at {k : Nat} {h S : am_H} : ∀ {l : List K_V}, vC k h l → vM S l → ∀ {b : Nat}, b < l.length → ∃ v : K_V, v ∈ l ∧ (∀ w, cn w l (b + 1) = (if v.1 = w then 1 else 0) + cn w l b) ∧ (h (k + 9) b = nI v.1 ∧ h (k + 10) b = v.2.1 ∧ h (k + 11) b = v.2.2.1 ∧ h (k + 12) b = v.2.2.2) ∧ S 116 (41 * v.1 + cn v.1 l b) = v.2.1 ∧ S 117 (41 * v.1 + cn v.1 l b) = v.2.2.1 ∧ S 118 (41 * v.1 + cn v.1 l b) = v.2.2.2 := by
  intro l
  induction l with
  | nil => intro _ _ b hb; exact absurd hb (by simp)
  | cons x t ih =>
    intro hc hm b hb
    obtain ⟨w, r, a, e⟩ := x
    obtain ⟨c1, c2, c3, c4, c5⟩ := hc
    obtain ⟨m1, m2, m3, m4⟩ := hm
    by_cases q : b = t.length
    · subst q
      have z : cn w ((w, r, a, e) :: t) t.length = cV w t := by rw [cn_t _ _ _ (Nat.le_refl _), cn_n]
      refine ⟨(w, r, a, e), List.mem_cons_self, fun w' => ?_, ⟨c1, c2, c3, c4⟩, ?_, ?_, ?_⟩
      · rw [cn_t _ _ _ (Nat.le_refl _), cn_n, show t.length + 1 = ((w, r, a, e) :: t).length from rfl, cn_n]
        rfl
      · show S 116 (41 * w + cn w _ _) = _
        rw [z]; exact m1
      · show S 117 (41 * w + cn w _ _) = _
        rw [z]; exact m2
      · show S 118 (41 * w + cn w _ _) = _
        rw [z]; exact m3
    · have hb : b < t.length + 1 := hb
      obtain ⟨v, h1, h2, h3, h4⟩ := ih c5 m4 (b := b) (by omega)
      refine ⟨v, List.mem_cons_of_mem _ h1, fun w' => ?_, h3, ?_⟩
      · rw [cn_t _ _ _ (by omega), cn_t _ _ _ (by omega)]
        exact h2 w'
      · rw [cn_t _ _ _ (by omega)]
        exact h4
theorem cn_mono {k : Nat} {h S : am_H} {l : List K_V} (hc : vC k h l) (hm : vM S l) (w : Nat) : ∀ (j a : Nat), a + j ≤ l.length → cn w l a ≤ cn w l (a + j) := by
  intro j
  induction j with
  | zero => intro a _; exact Nat.le_refl _
  | succ j ih =>
    intro a ha
    have := ih a (by omega)
    obtain ⟨v, -, h2, -⟩ := vis_at hc hm (b := a + j) (by omega)
    have := h2 w
    rw [show a + (j + 1) = a + j + 1 by omega]
    omega
theorem cV_le (w : Nat) (l : List K_V) : cV w l ≤ l.length := by
  induction l with
  | nil => exact Nat.le_refl _
  | cons v t ih =>
    obtain ⟨w', z⟩ := v
    simp only [cV, List.length_cons]
    split <;> omega
