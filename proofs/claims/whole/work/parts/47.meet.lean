/-! MEET: the visits in their order -/
/-- how many of the b oldest visits are of w -/
def cn (w : Nat) (l : List K_V) (b : Nat) : Nat := cV w (l.drop (l.length - b))
theorem cn_0 (w : Nat) (l : List K_V) : cn w l 0 = 0 := by
  unfold cn
  rw [Nat.sub_zero, List.drop_length]
  rfl
theorem cn_n (w : Nat) (l : List K_V) : cn w l l.length = cV w l := by
  unfold cn
  rw [Nat.sub_self, List.drop_zero]
theorem cn_t (w : Nat) (x : K_V) (t : List K_V) {b : Nat} (h : b ≤ t.length) : cn w (x :: t) b = cn w t b := by
  unfold cn
  rw [show (x :: t).length - b = t.length - b + 1 by simp; omega, List.drop_succ_cons]
theorem vis_at {k : Nat} {h S : am_H} : ∀ {l : List K_V}, vC k h l → vM S l → ∀ {b : Nat}, b < l.length → ∃ v : K_V, v ∈ l ∧ (∀ w, cn w l (b + 1) = (if v.1 = w then 1 else 0) + cn w l b) ∧ (h (k + 9) b = nI v.1 ∧ h (k + 10) b = v.2.1 ∧ h (k + 11) b = v.2.2.1 ∧ h (k + 12) b = v.2.2.2) ∧ S 116 (41 * v.1 + cn v.1 l b) = v.2.1 ∧ S 117 (41 * v.1 + cn v.1 l b) = v.2.2.1 ∧ S 118 (41 * v.1 + cn v.1 l b) = v.2.2.2 := by
  intro l
  induction l with
  | nil => intro _ _ b hb; exact absurd hb (by simp)
  | cons x t ih =>
    intro hc hm b hb
    obtain ⟨w, r, a, e⟩ := x
    obtain ⟨c1, c2, c3, c4, c5⟩ := hc
    obtain ⟨m1, m2, m3, m4⟩ := hm
    by_cases q : b = t.length
    · subst q
      have z : cn w ((w, r, a, e) :: t) t.length = cV w t := by rw [cn_t _ _ _ (Nat.le_refl _), cn_n]
      refine ⟨(w, r, a, e), List.mem_cons_self, fun w' => ?_, ⟨c1, c2, c3, c4⟩, ?_, ?_, ?_⟩
      · rw [cn_t _ _ _ (Nat.le_refl _), cn_n, show t.length + 1 = ((w, r, a, e) :: t).length from rfl, cn_n]
        rfl
      · show S 116 (41 * w + cn w _ _) = _
        rw [z]; exact m1
      · show S 117 (41 * w + cn w _ _) = _
        rw [z]; exact m2
      · show S 118 (41 * w + cn w _ _) = _
        rw [z]; exact m3
    · have hb : b < t.length + 1 := hb
      obtain ⟨v, h1, h2, h3, h4⟩ := ih c5 m4 (b := b) (by omega)
      refine ⟨v, List.mem_cons_of_mem _ h1, fun w' => ?_, h3, ?_⟩
      · rw [cn_t _ _ _ (by omega), cn_t _ _ _ (by omega)]
        exact h2 w'
      · rw [cn_t _ _ _ (by omega)]
        exact h4
theorem cn_mono {k : Nat} {h S : am_H} {l : List K_V} (hc : vC k h l) (hm : vM S l) (w : Nat) : ∀ (j a : Nat), a + j ≤ l.length → cn w l a ≤ cn w l (a + j) := by
  intro j
  induction j with
  | zero => intro a _; exact Nat.le_refl _
  | succ j ih =>
    intro a ha
    have := ih a (by omega)
    obtain ⟨v, -, h2, -⟩ := vis_at hc hm (b := a + j) (by omega)
    have := h2 w
    rw [show a + (j + 1) = a + j + 1 by omega]
    omega
theorem cV_le (w : Nat) (l : List K_V) : cV w l ≤ l.length := by
  induction l with
  | nil => exact Nat.le_refl _
  | cons v t ih =>
    obtain ⟨w', z⟩ := v
    simp only [cV, List.length_cons]
    split <;> omega
/-- the later of the two beginnings -/
def T2 (u v : K_V) : Int32 := if v.2.2.1 < u.2.2.1 then u.2.2.1 else v.2.2.1
abbrev tog (u v : K_V) : Prop := u.2.1 = v.2.1 ∧ ¬ u.2.2.2 < T2 u v ∧ ¬ v.2.2.2 < T2 u v
def fsC (u v : K_V) : Int32 := if tog u v then T2 u v else 536870912
theorem T2_alt (u v : K_V) : (if u.2.2.1 < v.2.2.1 then v.2.2.1 else u.2.2.1) = T2 u v := by
  unfold T2
  by_cases h1 : u.2.2.1 < v.2.2.1
  · rw [if_pos h1, if_neg (fun h2 => by rw [Int32.lt_iff_toInt_lt] at h1 h2; omega)]
  · rw [if_neg h1]
    by_cases h2 : v.2.2.1 < u.2.2.1
    · rw [if_pos h2]
    · rw [if_neg h2]
      rw [Int32.lt_iff_toInt_lt] at h1 h2
      exact Int32.toInt.inj (by omega)
theorem firstShared_ok (d : Nat) {h : am_H} {a b : Nat} {u v : K_V} (ha : a < 44) (hb : b < 44) (hu : h 42 a = u.2.1 ∧ h 43 a = u.2.2.1 ∧ h 44 a = u.2.2.2) (hv : h 42 b = v.2.1 ∧ h 43 b = v.2.2.1 ∧ h 44 b = v.2.2.2) : am_g (d + 2) 17 [vr 1 32, vi (nI a), vi (nI b)] h = some (h, some (fsC u v)) := by
  rw [gK_firstShared, b_ok ha (by omega), b_ok hb (by omega), max_ok, r1_ok, b_ok ha (by omega), b_ok hb (by omega), b_ok ha (by omega), b_ok hb (by omega), hu.1, hu.2.1, hu.2.2, hv.1, hv.2.1, hv.2.2, T2_alt, gJ_min]
  unfold fsC
  by_cases e1 : u.2.1 = v.2.1
  · rw [if_pos e1]
    by_cases e2 : v.2.2.2 < u.2.2.2
    · rw [if_pos e2, r1_ok]
      by_cases e3 : v.2.2.2 < T2 u v
      · rw [if_pos e3, if_neg (fun z => z.2.2 e3)]
      · have e4 : ¬ u.2.2.2 < T2 u v := by rw [Int32.lt_iff_toInt_lt] at *; omega
        rw [if_neg e3, if_pos ⟨e1, e4, e3⟩]
    · rw [if_neg e2, r1_ok]
      by_cases e3 : u.2.2.2 < T2 u v
      · rw [if_pos e3, if_neg (fun z => z.2.1 e3)]
      · have e4 : ¬ v.2.2.2 < T2 u v := by rw [Int32.lt_iff_toInt_lt] at *; omega
        rw [if_neg e3, if_pos ⟨e1, e3, e4⟩]
  · rw [if_neg e1, if_neg (fun z => e1 z.1)]
theorem meetC_step (d n : Nat) {h : am_H} {a b N : Nat} {u v : K_V} (x3 sc wc : Int32) (u8 u9 : Option am_V) (hN : h 32 14 = nI N) (hN4 : N ≤ 44) (ha : a < N) (hb : b < N) (hab : a ≠ b) (hu : h 41 a = nI u.1 ∧ h 42 a = u.2.1 ∧ h 43 a = u.2.2.1 ∧ h 44 a = u.2.2.2) (hv : h 41 b = nI v.1 ∧ h 42 b = v.2.1 ∧ h 43 b = v.2.2.1 ∧ h 44 b = v.2.2.2) :
    ∃ s s', rC_meet (d + 2) (n + 1) 29 [some (vr 6 0), some (vi (nI u.1)), some (vi (nI v.1)), some (vi x3), some (vi sc), some (vi wc), some (vi (nI a)), some (vi (nI b)), u8, u9] h =
      rC_meet (d + 2) n 29 [some (vr 6 0), some (vi (nI u.1)), some (vi (nI v.1)), some (vi x3), some (vi (if fsC u v < sc ∨ fsC u v = sc ∧ ¬ fsC u v = 536870912 ∧ u.2.1 < wc then fsC u v else sc)), some (vi (if fsC u v < sc ∨ fsC u v = sc ∧ ¬ fsC u v = 536870912 ∧ u.2.1 < wc then u.2.1 else wc)), some (vi (nI a)), some (vi (nI (b + 1))), s, s'] h := by
  rw [tC_meet_29, hN, if_pos (nI_lt hb (by omega)), if_neg (nI_ne hab (by omega) (by omega)), b_ok (by omega) (by omega), hu.1, if_pos rfl, b_ok (by omega) (by omega), hv.1, if_pos rfl, firstShared_ok d (by omega) (by omega) hu.2 hv.2, r1_ok, b_ok (by omega) (by omega), hu.2.1, nI_1]
  by_cases e1 : fsC u v < sc
  · rw [if_pos e1, if_pos (Or.inl e1), if_pos (Or.inl e1)]
    exact ⟨_, _, rfl⟩
  · rw [if_neg e1]
    by_cases e2 : fsC u v = sc
    · rw [if_pos e2]
      by_cases e3 : fsC u v = 536870912
      · rw [if_pos e3, if_neg (fun z => z.elim e1 (fun z => z.2.1 e3)), if_neg (fun z => z.elim e1 (fun z => z.2.1 e3))]
        exact ⟨_, _, rfl⟩
      · rw [if_neg e3]
        by_cases e4 : u.2.1 < wc
        · rw [if_pos e4, if_pos (Or.inr ⟨e2, e3, e4⟩), if_pos (Or.inr ⟨e2, e3, e4⟩)]
          exact ⟨_, _, rfl⟩
        · rw [if_neg e4, if_neg (fun z => z.elim e1 (fun z => e4 z.2.2)), if_neg (fun z => z.elim e1 (fun z => e4 z.2.2))]
          exact ⟨_, _, rfl⟩
    · rw [if_neg e2, if_neg (fun z => z.elim e1 (fun z => e2 z.1)), if_neg (fun z => z.elim e1 (fun z => e2 z.1))]
      exact ⟨_, _, rfl⟩
theorem meetM_step (d n : Nat) {S : am_H} {i j p q N : Nat} {u v : K_V} (x3 sm wm : Int32) (u8 u9 : Option am_V) (hj : j < 4) (hN : S 115 j = nI N) (hN4 : N ≤ 41) (hp : p < 164) (hq : q < 41 * j + N) (hu : S 116 p = u.2.1 ∧ S 117 p = u.2.2.1 ∧ S 118 p = u.2.2.2) (hv : S 116 q = v.2.1 ∧ S 117 q = v.2.2.1 ∧ S 118 q = v.2.2.2) :
    ∃ s s', rM_meet d (n + 1) 40 [some (vr 7 82), some (vi (nI i)), some (vi (nI j)), some (vi x3), some (vi sm), some (vi wm), some (vi (nI p)), some (vi (nI q)), u8, u9] S =
      rM_meet d n 40 [some (vr 7 82), some (vi (nI i)), some (vi (nI j)), some (vi x3), some (vi (if p ≠ q ∧ tog u v ∧ (T2 u v < sm ∨ T2 u v = sm ∧ u.2.1 < wm) then T2 u v else sm)), some (vi (if p ≠ q ∧ tog u v ∧ (T2 u v < sm ∨ T2 u v = sm ∧ u.2.1 < wm) then u.2.1 else wm)), some (vi (nI p)), some (vi (nI (q + 1))), s, s'] S := by
  have hb : (41 : Int32) * nI j + nI N = nI (41 * j + N) := by rw [show (41 : Int32) = nI 41 from rfl, pk_mul, nI_add]
  have b1 : ∀ k, am_b 164 (nI p) k = k p := fun k => b_ok hp (by omega) k
  have b2 : ∀ k, am_b 164 (nI q) k = k q := fun k => b_ok (by omega) (by omega) k
  rw [tM_meet_40, b_ok hj (by omega), hN, hb, if_pos (nI_lt hq (by omega))]
  simp only [b1, b2, hu.1, hu.2.1, hu.2.2, hv.1, hv.2.1, hv.2.2, nI_1]
  have key : ∀ X : Int32, X = T2 u v → ∃ s s', (if nI p = nI q then rM_meet d n 40 [some (vr 7 82), some (vi (nI i)), some (vi (nI j)), some (vi x3), some (vi sm), some (vi wm), some (vi (nI p)), some (vi (nI (q + 1))), some (vi X), some (vi 0)] S
      else if u.2.1 = v.2.1 then
        (if u.2.2.2 < X then rM_meet d n 40 [some (vr 7 82), some (vi (nI i)), some (vi (nI j)), some (vi x3), some (vi sm), some (vi wm), some (vi (nI p)), some (vi (nI (q + 1))), some (vi X), some (vi 0)] S
         else if v.2.2.2 < X then rM_meet d n 40 [some (vr 7 82), some (vi (nI i)), some (vi (nI j)), some (vi x3), some (vi sm), some (vi wm), some (vi (nI p)), some (vi (nI (q + 1))), some (vi X), some (vi 0)] S
         else if X < sm then rM_meet d n 40 [some (vr 7 82), some (vi (nI i)), some (vi (nI j)), some (vi x3), some (vi X), some (vi u.2.1), some (vi (nI p)), some (vi (nI (q + 1))), some (vi X), some (vi 1)] S
         else if X = sm then
           (if u.2.1 < wm then rM_meet d n 40 [some (vr 7 82), some (vi (nI i)), some (vi (nI j)), some (vi x3), some (vi X), some (vi u.2.1), some (vi (nI p)), some (vi (nI (q + 1))), some (vi X), some (vi 1)] S
            else rM_meet d n 40 [some (vr 7 82), some (vi (nI i)), some (vi (nI j)), some (vi x3), some (vi sm), some (vi wm), some (vi (nI p)), some (vi (nI (q + 1))), some (vi X), some (vi 1)] S)
         else rM_meet d n 40 [some (vr 7 82), some (vi (nI i)), some (vi (nI j)), some (vi x3), some (vi sm), some (vi wm), some (vi (nI p)), some (vi (nI (q + 1))), some (vi X), some (vi 1)] S)
      else rM_meet d n 40 [some (vr 7 82), some (vi (nI i)), some (vi (nI j)), some (vi x3), some (vi sm), some (vi wm), some (vi (nI p)), some (vi (nI (q + 1))), some (vi X), some (vi 0)] S) =
      rM_meet d n 40 [some (vr 7 82), some (vi (nI i)), some (vi (nI j)), some (vi x3), some (vi (if p ≠ q ∧ tog u v ∧ (T2 u v < sm ∨ T2 u v = sm ∧ u.2.1 < wm) then T2 u v else sm)), some (vi (if p ≠ q ∧ tog u v ∧ (T2 u v < sm ∨ T2 u v = sm ∧ u.2.1 < wm) then u.2.1 else wm)), some (vi (nI p)), some (vi (nI (q + 1))), s, s'] S := by
    rintro X rfl
    have no : ∀ (C : Prop) [Decidable C] (w w' : Option am_V), ¬ C → ∃ s s', rM_meet d n 40 [some (vr 7 82), some (vi (nI i)), some (vi (nI j)), some (vi x3), some (vi sm), some (vi wm), some (vi (nI p)), some (vi (nI (q + 1))), w, w'] S = rM_meet d n 40 [some (vr 7 82), some (vi (nI i)), some (vi (nI j)), some (vi x3), some (vi (if C then T2 u v else sm)), some (vi (if C then u.2.1 else wm)), some (vi (nI p)), some (vi (nI (q + 1))), s, s'] S := by
      intro C _ w w' hC
      rw [if_neg hC, if_neg hC]
      exact ⟨_, _, rfl⟩
    by_cases e0 : p = q
    · rw [if_pos (by rw [e0])]
      exact no _ _ _ (fun z => z.1 e0)
    · rw [if_neg (nI_ne e0 (by omega) (by omega))]
      by_cases e1 : u.2.1 = v.2.1
      · rw [if_pos e1]
        by_cases e2 : u.2.2.2 < T2 u v
        · rw [if_pos e2]
          exact no _ _ _ (fun z => z.2.1.2.1 e2)
        · rw [if_neg e2]
          by_cases e3 : v.2.2.2 < T2 u v
          · rw [if_pos e3]
            exact no _ _ _ (fun z => z.2.1.2.2 e3)
          · rw [if_neg e3]
            have ht : tog u v := ⟨e1, e2, e3⟩
            by_cases e4 : T2 u v < sm
            · rw [if_pos e4, if_pos ⟨e0, ht, Or.inl e4⟩, if_pos ⟨e0, ht, Or.inl e4⟩]
              exact ⟨_, _, rfl⟩
            · rw [if_neg e4]
              by_cases e5 : T2 u v = sm
              · rw [if_pos e5]
                by_cases e6 : u.2.1 < wm
                · rw [if_pos e6, if_pos ⟨e0, ht, Or.inr ⟨e5, e6⟩⟩, if_pos ⟨e0, ht, Or.inr ⟨e5, e6⟩⟩]
                  exact ⟨_, _, rfl⟩
                · rw [if_neg e6]
                  exact no _ _ _ (fun z => z.2.2.elim e4 (fun z => e6 z.2))
              · rw [if_neg e5]
                exact no _ _ _ (fun z => z.2.2.elim e4 (fun z => e5 z.1))
      · rw [if_neg e1]
        exact no _ _ _ (fun z => e1 z.2.1.1)
  by_cases e : v.2.2.1 < u.2.2.1
  · rw [if_pos e]
    exact key _ (by unfold T2; rw [if_pos e])
  · rw [if_neg e]
    exact key _ (by unfold T2; rw [if_neg e])
