/-! THE READ HOUSE IS MOVED INTO -/
theorem lay_54 (d : Nat) : ∀ (k n r : Nat) (M : am_H), r + k = 6 → k < n → ∃ M', rM_lay d n 54 [some (vr 7 82), some (vi (nI r))] M = rM_lay d (n - k) 54 [some (vr 7 82), some (vi (nI 6))] M' ∧ (∀ c, c ≠ 85 → c ≠ 86 → c ≠ 87 → M' c = M c) ∧ (∀ j, j < r → M' 85 j = M 85 j ∧ M' 86 j = M 86 j ∧ M' 87 j = M 87 j) ∧ ∀ j, r ≤ j → j < 6 → M' 85 j = M 85 (6 + j) ∧ M' 86 j = M 86 (6 + j) ∧ M' 87 j = M 87 (6 + j) := by
  intro k
  induction k with
  | zero =>
    intro n i M hi hn
    have : i = 6 := by omega
    subst this
    exact ⟨M, rfl, fun _ _ _ _ => rfl, fun _ _ => ⟨rfl, rfl, rfl⟩, fun j h1 h2 => by omega⟩
  | succ k ih =>
    intro n r M hi hn
    obtain ⟨n, rfl⟩ : ∃ z, n = z + 1 := ⟨n - 1, by omega⟩
    have hlt : nI r < 6 := nI_lt (b := 6) (by omega) (by omega)
    have i1 : (6 : Int32) + nI r = nI (6 + r) := by rw [show (6 : Int32) = nI 6 from rfl, nI_add]
    obtain ⟨M', g1, g2, g3, g4⟩ := ih n (r + 1) (am_up (am_up (am_up M 85 r (M 85 (6 + r))) 86 r (M 86 (6 + r))) 87 r (M 87 (6 + r))) (by omega) (by omega)
    refine ⟨M', ?_, fun c q0 q1 q2 => by rw [g2 c q0 q1 q2, up_n q2, up_n q1, up_n q0], fun j hj => ?_, fun j h1 h2 => ?_⟩
    · rw [tM_lay_54, if_pos hlt, i1]
      simp (disch := omega) only [b_ok]
      rw [nI_1, g1, show n + 1 - (k + 1) = n - k by omega]
    · obtain ⟨b0, b1, b2⟩ := g3 j (by omega)
      rw [b0, b1, b2]
      simp only [up_a]
      simp (disch := omega) only [if_neg]
      repeat (first | trivial | constructor)
    · by_cases e : j = r
      · subst e
        obtain ⟨b0, b1, b2⟩ := g3 j (by omega)
        rw [b0, b1, b2]
        refine ⟨?_, ?_, ?_⟩ <;> simp [up_a]
      · obtain ⟨b0, b1, b2⟩ := g4 j (by omega) h2
        rw [b0, b1, b2]
        simp only [up_a]
        simp (disch := omega) only [if_neg]
        repeat (first | trivial | constructor)
theorem lay_92 (d : Nat) : ∀ (k n r : Nat) (M : am_H), r + k = 8 → k < n → ∃ M', rM_lay d n 92 [some (vr 7 82), some (vi (nI r))] M = rM_lay d (n - k) 92 [some (vr 7 82), some (vi (nI 8))] M' ∧ (∀ c, c ≠ 89 → c ≠ 90 → c ≠ 91 → M' c = M c) ∧ (∀ j, j < r → M' 89 j = M 89 j ∧ M' 90 j = M 90 j ∧ M' 91 j = M 91 j) ∧ ∀ j, r ≤ j → j < 8 → M' 89 j = M 89 (8 + j) ∧ M' 90 j = M 90 (8 + j) ∧ M' 91 j = M 91 (8 + j) := by
  intro k
  induction k with
  | zero =>
    intro n i M hi hn
    have : i = 8 := by omega
    subst this
    exact ⟨M, rfl, fun _ _ _ _ => rfl, fun _ _ => ⟨rfl, rfl, rfl⟩, fun j h1 h2 => by omega⟩
  | succ k ih =>
    intro n r M hi hn
    obtain ⟨n, rfl⟩ : ∃ z, n = z + 1 := ⟨n - 1, by omega⟩
    have hlt : nI r < 8 := nI_lt (b := 8) (by omega) (by omega)
    have i1 : (8 : Int32) + nI r = nI (8 + r) := by rw [show (8 : Int32) = nI 8 from rfl, nI_add]
    obtain ⟨M', g1, g2, g3, g4⟩ := ih n (r + 1) (am_up (am_up (am_up M 89 r (M 89 (8 + r))) 90 r (M 90 (8 + r))) 91 r (M 91 (8 + r))) (by omega) (by omega)
    refine ⟨M', ?_, fun c q0 q1 q2 => by rw [g2 c q0 q1 q2, up_n q2, up_n q1, up_n q0], fun j hj => ?_, fun j h1 h2 => ?_⟩
    · rw [tM_lay_92, if_pos hlt, i1]
      simp (disch := omega) only [b_ok]
      rw [nI_1, g1, show n + 1 - (k + 1) = n - k by omega]
    · obtain ⟨b0, b1, b2⟩ := g3 j (by omega)
      rw [b0, b1, b2]
      simp only [up_a]
      simp (disch := omega) only [if_neg]
      repeat (first | trivial | constructor)
    · by_cases e : j = r
      · subst e
        obtain ⟨b0, b1, b2⟩ := g3 j (by omega)
        rw [b0, b1, b2]
        refine ⟨?_, ?_, ?_⟩ <;> simp [up_a]
      · obtain ⟨b0, b1, b2⟩ := g4 j (by omega) h2
        rw [b0, b1, b2]
        simp only [up_a]
        simp (disch := omega) only [if_neg]
        repeat (first | trivial | constructor)
theorem lay_130 (d : Nat) : ∀ (k n r : Nat) (M : am_H), r + k = 4 → k < n → ∃ M', rM_lay d n 130 [some (vr 7 82), some (vi (nI r))] M = rM_lay d (n - k) 130 [some (vr 7 82), some (vi (nI 4))] M' ∧ (∀ c, c ≠ 93 → c ≠ 94 → M' c = M c) ∧ (∀ j, j < r → M' 93 j = M 93 j ∧ M' 94 j = M 94 j) ∧ ∀ j, r ≤ j → j < 4 → M' 93 j = M 93 (4 + j) ∧ M' 94 j = M 94 (4 + j) := by
  intro k
  induction k with
  | zero =>
    intro n i M hi hn
    have : i = 4 := by omega
    subst this
    exact ⟨M, rfl, fun _ _ _ => rfl, fun _ _ => ⟨rfl, rfl⟩, fun j h1 h2 => by omega⟩
  | succ k ih =>
    intro n r M hi hn
    obtain ⟨n, rfl⟩ : ∃ z, n = z + 1 := ⟨n - 1, by omega⟩
    have hlt : nI r < 4 := nI_lt (b := 4) (by omega) (by omega)
    have i1 : (4 : Int32) + nI r = nI (4 + r) := by rw [show (4 : Int32) = nI 4 from rfl, nI_add]
    obtain ⟨M', g1, g2, g3, g4⟩ := ih n (r + 1) (am_up (am_up M 93 r (M 93 (4 + r))) 94 r (M 94 (4 + r))) (by omega) (by omega)
    refine ⟨M', ?_, fun c q0 q1 => by rw [g2 c q0 q1, up_n q1, up_n q0], fun j hj => ?_, fun j h1 h2 => ?_⟩
    · rw [tM_lay_130, if_pos hlt, i1]
      simp (disch := omega) only [b_ok]
      rw [nI_1, g1, show n + 1 - (k + 1) = n - k by omega]
    · obtain ⟨b0, b1⟩ := g3 j (by omega)
      rw [b0, b1]
      simp only [up_a]
      simp (disch := omega) only [if_neg]
      repeat (first | trivial | constructor)
    · by_cases e : j = r
      · subst e
        obtain ⟨b0, b1⟩ := g3 j (by omega)
        rw [b0, b1]
        refine ⟨?_, ?_⟩ <;> simp [up_a]
      · obtain ⟨b0, b1⟩ := g4 j (by omega) h2
        rw [b0, b1]
        simp only [up_a]
        simp (disch := omega) only [if_neg]
        repeat (first | trivial | constructor)
theorem lay_158 (d : Nat) : ∀ (k n r : Nat) (M : am_H), r + k = 5 → k < n → ∃ M', rM_lay d n 158 [some (vr 7 82), some (vi (nI r))] M = rM_lay d (n - k) 158 [some (vr 7 82), some (vi (nI 5))] M' ∧ (∀ c, c ≠ 96 → c ≠ 97 → c ≠ 98 → M' c = M c) ∧ (∀ j, j < r → M' 96 j = M 96 j ∧ M' 97 j = M 97 j ∧ M' 98 j = M 98 j) ∧ ∀ j, r ≤ j → j < 5 → M' 96 j = M 96 (5 + j) ∧ M' 97 j = M 97 (5 + j) ∧ M' 98 j = M 98 (5 + j) := by
  intro k
  induction k with
  | zero =>
    intro n i M hi hn
    have : i = 5 := by omega
    subst this
    exact ⟨M, rfl, fun _ _ _ _ => rfl, fun _ _ => ⟨rfl, rfl, rfl⟩, fun j h1 h2 => by omega⟩
  | succ k ih =>
    intro n r M hi hn
    obtain ⟨n, rfl⟩ : ∃ z, n = z + 1 := ⟨n - 1, by omega⟩
    have hlt : nI r < 5 := nI_lt (b := 5) (by omega) (by omega)
    have i1 : (5 : Int32) + nI r = nI (5 + r) := by rw [show (5 : Int32) = nI 5 from rfl, nI_add]
    obtain ⟨M', g1, g2, g3, g4⟩ := ih n (r + 1) (am_up (am_up (am_up M 96 r (M 96 (5 + r))) 97 r (M 97 (5 + r))) 98 r (M 98 (5 + r))) (by omega) (by omega)
    refine ⟨M', ?_, fun c q0 q1 q2 => by rw [g2 c q0 q1 q2, up_n q2, up_n q1, up_n q0], fun j hj => ?_, fun j h1 h2 => ?_⟩
    · rw [tM_lay_158, if_pos hlt, i1]
      simp (disch := omega) only [b_ok]
      rw [nI_1, g1, show n + 1 - (k + 1) = n - k by omega]
    · obtain ⟨b0, b1, b2⟩ := g3 j (by omega)
      rw [b0, b1, b2]
      simp only [up_a]
      simp (disch := omega) only [if_neg]
      repeat (first | trivial | constructor)
    · by_cases e : j = r
      · subst e
        obtain ⟨b0, b1, b2⟩ := g3 j (by omega)
        rw [b0, b1, b2]
        refine ⟨?_, ?_, ?_⟩ <;> simp [up_a]
      · obtain ⟨b0, b1, b2⟩ := g4 j (by omega) h2
        rw [b0, b1, b2]
        simp only [up_a]
        simp (disch := omega) only [if_neg]
        repeat (first | trivial | constructor)
theorem layM (d : Nat) (M : am_H) : ∃ M', rM_lay d 999999 54 [some (vr 7 82), some (vi 0)] M = (am_r0 (am_g d 123 [vr 7 82] (am_up (am_up (am_up M' 100 0 0) 82 22 0) 82 23 0)) fun h7 => some (h7, some (h7 84 0))) ∧ (∀ c, (c < 85 ∨ 98 < c ∨ c = 88 ∨ c = 92 ∨ c = 95) → M' c = M c) ∧
    (∀ j, j < 6 → M' 85 j = M 85 (6 + j) ∧ M' 86 j = M 86 (6 + j) ∧ M' 87 j = M 87 (6 + j)) ∧ (∀ j, j < 8 → M' 89 j = M 89 (8 + j) ∧ M' 90 j = M 90 (8 + j) ∧ M' 91 j = M 91 (8 + j)) ∧
    (∀ j, j < 4 → M' 93 j = M 93 (4 + j) ∧ M' 94 j = M 94 (4 + j)) ∧ ∀ j, j < 5 → M' 96 j = M 96 (5 + j) ∧ M' 97 j = M 97 (5 + j) ∧ M' 98 j = M 98 (5 + j) := by
  obtain ⟨A, a1, a2, -, a4⟩ := lay_54 d 6 999999 0 M (by omega) (by omega)
  obtain ⟨B, b1, b2, -, b4⟩ := lay_92 d 8 999992 0 A (by omega) (by omega)
  obtain ⟨C, c1, c2, -, c4⟩ := lay_130 d 4 999983 0 B (by omega) (by omega)
  obtain ⟨D, d1, d2, -, d4⟩ := lay_158 d 5 999978 0 C (by omega) (by omega)
  refine ⟨D, ?_, fun c hc => by rw [d2 c (by omega) (by omega) (by omega), c2 c (by omega) (by omega), b2 c (by omega) (by omega) (by omega), a2 c (by omega) (by omega) (by omega)], fun j hj => ?_, fun j hj => ?_, fun j hj => ?_, fun j hj => ?_⟩
  · have s1 : ∀ x, rM_lay d (999992 + 1) 54 [some (vr 7 82), some (vi (nI 6))] x = rM_lay d 999992 92 [some (vr 7 82), some (vi 0)] x := fun x => by rw [tM_lay_54, if_neg (by decide)]
    have s2 : ∀ x, rM_lay d (999983 + 1) 92 [some (vr 7 82), some (vi (nI 8))] x = rM_lay d 999983 130 [some (vr 7 82), some (vi 0)] x := fun x => by rw [tM_lay_92, if_neg (by decide)]
    have s3 : ∀ x, rM_lay d (999978 + 1) 130 [some (vr 7 82), some (vi (nI 4))] x = rM_lay d 999978 158 [some (vr 7 82), some (vi 0)] x := fun x => by rw [tM_lay_130, if_neg (by decide)]
    have s4 : ∀ x, rM_lay d (999972 + 1) 158 [some (vr 7 82), some (vi (nI 5))] x = (am_r0 (am_g d 123 [vr 7 82] (am_up (am_up (am_up x 100 0 0) 82 22 0) 82 23 0)) fun h7 => some (h7, some (h7 84 0))) := fun x => by rw [tM_lay_158, if_neg (by decide)]
    rw [show (999999 : Nat) - 6 = 999992 + 1 by omega, s1, nI_0] at a1
    rw [show (999992 : Nat) - 8 = 999983 + 1 by omega, s2, nI_0] at b1
    rw [show (999983 : Nat) - 4 = 999978 + 1 by omega, s3, nI_0] at c1
    rw [show (999978 : Nat) - 5 = 999972 + 1 by omega, s4, nI_0] at d1
    rw [a1, b1, c1, d1]
  · rw [d2 85 (by omega) (by omega) (by omega), d2 86 (by omega) (by omega) (by omega), d2 87 (by omega) (by omega) (by omega), c2 85 (by omega) (by omega), c2 86 (by omega) (by omega), c2 87 (by omega) (by omega), b2 85 (by omega) (by omega) (by omega), b2 86 (by omega) (by omega) (by omega), b2 87 (by omega) (by omega) (by omega)]
    exact a4 j (by omega) hj
  · rw [d2 89 (by omega) (by omega) (by omega), d2 90 (by omega) (by omega) (by omega), d2 91 (by omega) (by omega) (by omega), c2 89 (by omega) (by omega), c2 90 (by omega) (by omega), c2 91 (by omega) (by omega), ← a2 89 (by omega) (by omega) (by omega), ← a2 90 (by omega) (by omega) (by omega), ← a2 91 (by omega) (by omega) (by omega)]
    exact b4 j (by omega) hj
  · rw [d2 93 (by omega) (by omega) (by omega), d2 94 (by omega) (by omega) (by omega), ← a2 93 (by omega) (by omega) (by omega), ← a2 94 (by omega) (by omega) (by omega), ← b2 93 (by omega) (by omega) (by omega), ← b2 94 (by omega) (by omega) (by omega)]
    exact c4 j (by omega) hj
  · rw [← a2 96 (by omega) (by omega) (by omega), ← a2 97 (by omega) (by omega) (by omega), ← a2 98 (by omega) (by omega) (by omega), ← b2 96 (by omega) (by omega) (by omega), ← b2 97 (by omega) (by omega) (by omega), ← b2 98 (by omega) (by omega) (by omega), ← c2 96 (by omega) (by omega), ← c2 97 (by omega) (by omega), ← c2 98 (by omega) (by omega)]
    exact d4 j (by omega) hj
theorem pAll_b {tx : List Nat} : ∀ (f p : Nat) (B : am_H) (q : Nat), (pAll tx f p B).1 = some q → q < tx.length := by
  intro f
  induction f with
  | zero => intro p B q h; unfold pAll at h; cases h
  | succ f ih =>
    intro p B q h
    unfold pAll at h
    by_cases hp : p < tx.length
    · rw [if_pos hp] at h
      cases z : pItem tx p B with
      | none => rw [z] at h; cases h; exact hp
      | some w => rw [z] at h; exact ih _ _ _ h
    · rw [if_neg hp] at h
      cases h
theorem VB.vh {B : am_H} (v : VB B) (h : ¬ B 92 0 = 0) : VH B := by
  obtain ⟨v1, v2, v3, v4, v5, v6, v7, v8, v9⟩ := v
  have hp : 1 ≤ nP B := by
    rcases Nat.eq_zero_or_pos (nP B) with z | z
    · rw [z] at v3; exact absurd v3.1 h
    · exact z
  obtain ⟨r, a, hr, -⟩ := v8 0 hp
  exact ⟨⟨v1.1, by omega, v1.2⟩, v2, ⟨v3.1, hp, v3.2⟩, v4, v5, v6, v7, v8, v9⟩
theorem EH_of {o : Nat} {h S : am_H} (r : RH o h S) (hv : VH S) (h0 : h 32 0 = nI o) (h1 : h 32 1 = -4) (ho : o ≤ 17) : EH 32 o h S := by
  obtain ⟨r1, r2, r3, r4, r5⟩ := r
  refine ⟨⟨h0, by omega, by omega⟩, ⟨r1.2.1.trans hv.2.1.1, r1.2.2.1.trans hv.2.2.1.1, r1.2.2.2.1.trans hv.2.2.2.1.1, r1.2.2.2.2⟩, fun r hr => ?_, r3, r4, fun t ht => (r5 t ht).1⟩
  have hR := hv.1.2.2
  rw [h1, if_neg (m4_ne (by omega)), if_neg (m4_ne (by omega))]
  exact ⟨(r2 r hr).2.2.2.1, (r2 r hr).2.2.2.2⟩
theorem nil_get {α : Type} {j : Nat} {x : α} {p : Prop} (h : ([] : List α)[j]? = some x) : p := by simp at h
/-- a house that was read on both sides is moved into: the states with nothing done, hA and SA -/
theorem new_pair {hA SA : am_H} {o o' : Nat} {tx : List Nat} (hv : VH SA) (ho : o = 2 ∧ o' = 17 ∨ o = 17 ∧ o' = 2) (h2 : hA 0 2 = nI o) (h3 : hA 0 3 = nI o') (htx : hA 0 1 = nI tx.length ∧ ∀ (j x : Nat), tx[j]? = some x → hA 1 j = nI x) (rh : RH o hA SA)
    (h58 : hA 58 3 = 0) (h70 : hA 70 3 = 0) (h9 : hA 0 9 = 0) (h79 : hA 79 0 = nI 80 ∧ hA 79 1 = nI 81 ∨ hA 79 0 = nI 81 ∧ hA 79 1 = nI 80)
    (stx : SA 82 0 = nI tx.length ∧ ∀ (j x : Nat), tx[j]? = some x → SA 83 j = nI x) (s100 : SA 100 0 = 0) (s22 : SA 82 22 = 0) (s23 : SA 82 23 = 0) (hT : tx.length ≤ 200 ∧ ∀ x ∈ tx, 32 ≤ x ∧ x ≤ 126) :
    ∃ h1 S1, am_g 5 2 [vr 1 32, vr 2 o, vi (-4)] hA = some (h1, none) ∧ am_g 6 123 [vr 7 82] SA = some (S1, none) ∧ (∀ c, ¬ (32 ≤ c ∧ c ≤ 44) → h1 c = hA c) ∧ (∀ c, ¬ (108 ≤ c ∧ c ≤ 118) → S1 c = SA c) ∧ CI h1 S1 o o' tx [] [] [] ∧ MI S1 tx [] [] [] ∧ VI S1 tx [] [] [] := by
  obtain ⟨hB, hHB⟩ : ∃ hB, am_up (am_up (am_up hA 32 0 (nI o)) 32 1 (-4)) 32 14 0 = hB := ⟨_, rfl⟩
  have hBo : ∀ c, c ≠ 32 → hB c = hA c := fun c hc => by rw [← hHB, up_n hc, up_n hc, up_n hc]
  have b0 : hB 32 0 = nI o := by rw [← hHB]; simp [up_a]
  have b1 : hB 32 1 = -4 := by rw [← hHB]; simp [up_a]
  have rB : RH o hB SA := RH_c (fun c q1 q2 => hBo c (by omega)) (fun _ _ _ => rfl) rh
  have eB := EH_of rB hv b0 b1 (by omega)
  obtain ⟨h1, g1, g2, g3⟩ := gK_begin_ok 3 hv hHB eB
  have rA : RAm SA 0 [] := ⟨by rw [s100]; rfl, fun j a h => nil_get h⟩
  obtain ⟨S1, f1, f2, f3⟩ := gM_goAll_ok 1 hv rA (fun a ha => by cases ha) (by simp)
  have sS : sH SA S1 := fun c q1 q2 => f2 c (by omega)
  have hall : ∀ c, ¬ (32 ≤ c ∧ c ≤ 44) → h1 c = hA c := fun c hc => by rw [g3.1 c (by omega)]; exact hBo c (by omega)
  refine ⟨h1, S1, g1, f1, hall, f2, ?_, ?_, ?_⟩
  · refine ⟨⟨ho, by rw [hall 0 (by omega)]; exact h2, by rw [hall 0 (by omega)]; exact h3⟩, by rw [hall 0 (by omega), hall 1 (by omega)]; exact htx, RH_c (fun c q1 q2 => hall c (by omega)) sS rh, ⟨by rw [g3.2 0 (by omega)]; exact b0, by rw [g3.2 1 (by omega)]; exact b1, ?_⟩, ⟨by rw [hall 58 (by omega), h58]; rfl, fun j a h => nil_get h⟩, ⟨by rw [hall 0 (by omega), h9]; rfl, fun l h => nil_get h, fun l h => nil_get h⟩, ⟨by rw [hall 70 (by omega), h70]; rfl, fun j a h => nil_get h⟩, by rw [hall 79 (by omega)]; exact h79⟩
    rw [sS.ka]
    exact RC_c (fun _ _ _ => rfl) sS.eP sS.eT g2
  · refine ⟨VH_congr sS hv, by rw [f2 82 (by omega), f2 83 (by omega)]; exact stx, by rw [sS.ka]; exact f3, ⟨by rw [f2 100 (by omega), s100]; rfl, fun j a h => nil_get h⟩, ⟨by rw [f2 82 (by omega), s22]; rfl, fun b l h => nil_get h⟩, ⟨by rw [f2 82 (by omega), s23]; rfl, fun j a h => nil_get h⟩⟩
  · exact ⟨hT, ⟨by simp, fun a ha => by cases ha⟩, ⟨by simp, fun a ha => by cases ha⟩, ⟨by simp, fun a ha => by cases ha⟩⟩
theorem P_lay : Pr 52 107 [] := by
  intro h S o o' tx as ks ss c m v
  have ho := c.1.1
  obtain ⟨h', g1, g2, g3⟩ := gH_readText_ok 2 (o := o') (by omega) (c.tok v)
  obtain ⟨S', f1, f2, f3⟩ := gM_readAll_ok 2 (m.tok v) m.2.1.1
  obtain ⟨i1, i2, i3⟩ := read_inv c m v g2 f2
  rw [gC_lay, gM_lay, c.o'', c.2.1.1, g1, f1, r1_ok, r1_ok]
  have hno : ∀ x, ∃ (h1 S1 : am_H) (v : Int32), some (h', some (x : Int32)) = some (h1, some v) ∧ some (S', some x) = some (S1, some v) ∧ (∀ c, 82 ≤ c → h1 c = h c) ∧ (∀ c, c < 82 → S1 c = S c) ∧
      ∃ (o1 o1' : Nat) (tx1 : List Nat) (as1 : List K_A) (ks1 : List (List K_A)) (ss1 : List K_A), CI h1 S1 o1 o1' tx1 as1 ks1 ss1 ∧ MI S1 tx1 as1 ks1 ss1 ∧ VI S1 tx1 as1 ks1 ss1 := fun x =>
    ⟨h', S', _, rfl, rfl, fun c hc => g2 c (by omega), fun c hc => f2.cell (by omega) (by omega) (by omega), o, o', tx, as, ks, ss, i1, i2, i3⟩
  cases q : (pAll tx (tx.length + 1) 0 B00).1 with
  | some p =>
    have hp := pAll_b _ _ _ _ q
    have hl := v.1.1
    have hne : ¬ aN (some p) = -4 := m4_n2 (by omega)
    rw [if_neg hne, if_neg hne]
    exact hno _
  | none =>
    obtain ⟨rh, vb⟩ := g3 q
    obtain ⟨m1, -⟩ := f3 q
    have hn4 : aN none = -4 := rfl
    rw [if_pos hn4, if_pos hn4, i1.o'', rh.1.2.2.1, m1.1.2.2.1]
    generalize (pAll tx (tx.length + 1) 0 B00).2 = B at rh vb m1 ⊢
    by_cases e : B 92 0 = 0
    · rw [if_pos e, if_pos e]
      exact hno _
    · rw [if_neg e, if_neg e]
      obtain ⟨M', e1, e2, e3, e4, e5, e6⟩ := layM 6 (am_up (am_up (am_up (am_up (am_up S' 84 0 (S' 84 1)) 88 0 (S' 88 1)) 92 0 (B 92 0)) 95 0 (S' 95 1)) 99 0 (S' 99 1))
      rw [e1]
      obtain ⟨SA, hSA⟩ : ∃ SA, am_up (am_up (am_up M' 100 0 0) 82 22 0) 82 23 0 = SA := ⟨_, rfl⟩
      rw [hSA]
      have k : ∀ c, c ≠ 100 → c ≠ 82 → SA c = M' c := fun c q1 q2 => by rw [← hSA, up_n q2, up_n q2, up_n q1]
      have b1 := vb.1.2
      have b2 := vb.2.1.2
      have b3 := vb.2.2.1.2
      have b4 := vb.2.2.2.1.2
      have s : sB B SA := by
        refine ⟨⟨?_, ?_, ?_, ?_, ?_⟩, fun r hr => ?_, fun r hr => ?_, fun r hr => ?_, fun r hr => ?_⟩
        · rw [k 84 (by omega) (by omega), e2 84 (by omega)]; simp [up_a, m1.1.1]
        · rw [k 88 (by omega) (by omega), e2 88 (by omega)]; simp [up_a, m1.1.2.1]
        · rw [k 92 (by omega) (by omega), e2 92 (by omega)]; simp [up_a]
        · rw [k 95 (by omega) (by omega), e2 95 (by omega)]; simp [up_a, m1.1.2.2.2.1]
        · rw [k 99 (by omega) (by omega), e2 99 (by omega)]; simp [up_a, m1.1.2.2.2.2]
        · obtain ⟨w1, w2, w3⟩ := e3 r (by omega)
          obtain ⟨y1, y2, y3⟩ := m1.2.1 r hr
          rw [k 85 (by omega) (by omega), k 86 (by omega) (by omega), k 87 (by omega) (by omega), w1, w2, w3]
          simp [up_a, y1, y2, y3]
        · obtain ⟨w1, w2, w3⟩ := e4 r (by omega)
          obtain ⟨y1, y2, y3⟩ := m1.2.2.1 r hr
          rw [k 89 (by omega) (by omega), k 90 (by omega) (by omega), k 91 (by omega) (by omega), w1, w2, w3]
          simp [up_a, y1, y2, y3]
        · obtain ⟨w1, w2⟩ := e5 r (by omega)
          obtain ⟨y1, y2⟩ := m1.2.2.2.1 r hr
          rw [k 93 (by omega) (by omega), k 94 (by omega) (by omega), w1, w2]
          simp [up_a, y1, y2]
        · obtain ⟨w1, w2, w3⟩ := e6 r (by omega)
          obtain ⟨y1, y2, y3⟩ := m1.2.2.2.2 r hr
          rw [k 96 (by omega) (by omega), k 97 (by omega) (by omega), k 98 (by omega) (by omega), w1, w2, w3]
          simp [up_a, y1, y2, y3]
      obtain ⟨hA, hhA⟩ : ∃ hA, am_up (am_up (am_up (am_up (am_up h' 0 2 (nI o')) 0 3 (nI o)) 58 3 0) 70 3 0) 0 9 0 = hA := ⟨_, rfl⟩
      have kh : ∀ c, c ≠ 0 → c ≠ 58 → c ≠ 70 → hA c = h' c := fun c q1 q2 q3 => by rw [← hhA, up_n q1, up_n q3, up_n q2, up_n q1, up_n q1]
      obtain ⟨h1, S1, r1, r2, r3, r4, r5, r6, r7⟩ := new_pair (hA := hA) (SA := SA) (o := o') (o' := o) (tx := tx) (s.vh (vb.vh e)) (by omega) (by rw [← hhA]; simp [up_a]) (by rw [← hhA]; simp [up_a])
        ⟨by rw [← hhA]; simp [up_a, i1.2.1.1], by rw [kh 1 (by omega) (by omega) (by omega)]; exact i1.2.1.2⟩ (s.rh (fun c q1 q2 => kh c (by omega) (by omega) (by omega)) rh) (by rw [← hhA]; simp [up_a]) (by rw [← hhA]; simp [up_a]) (by rw [← hhA]; simp [up_a])
        (by rw [kh 79 (by omega) (by omega) (by omega)]; exact i1.2.2.2.2.2.2.2)
        ⟨by rw [← hSA]; simp [up_a]; rw [e2 82 (by omega)]; simp [up_a, i2.2.1.1], by rw [k 83 (by omega) (by omega), e2 83 (by omega), up_n (by omega), up_n (by omega), up_n (by omega), up_n (by omega), up_n (by omega)]; exact i2.2.1.2⟩
        (by rw [← hSA]; simp [up_a]) (by rw [← hSA]; simp [up_a]) (by rw [← hSA]; simp [up_a]) v.1
      rw [gC_moveIn, i1.o'', i1.oo, nI_clamp (by omega), hhA, r1, r0_ok, r0_ok, r2, r0_ok, r5.oo, r5.rh.1.1]
      refine ⟨h1, S1, _, rfl, rfl, fun c hc => by rw [r3 c (by omega), kh c (by omega) (by omega) (by omega)]; exact g2 c (by omega), fun c hc => ?_, o', o, tx, [], [], [], r5, r6, r7⟩
      rw [r4 c (by omega), k c (by omega) (by omega), e2 c (by omega), up_n (by omega), up_n (by omega), up_n (by omega), up_n (by omega), up_n (by omega)]
      exact f2.cell (by omega) (by omega) (by omega)
