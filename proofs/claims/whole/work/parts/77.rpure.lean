/-! THE CLASS IS MADE: its contract -/
def B0 : am_H := (pAll tx0 76 0 B00).2
theorem B0_ok : (pAll tx0 76 0 B00).1 = none := by decide +kernel
/-- the class's state when the first house is moved into, before the course begins -/
def RA (hA : am_H) : Prop := hA 0 2 = nI 17 ∧ hA 0 3 = nI 2 ∧ hA 0 1 = 0 ∧ RH 17 hA B0 ∧ hA 58 3 = 0 ∧ hA 70 3 = 0 ∧ hA 0 9 = 0 ∧ (hA 79 0 = nI 80 ∧ hA 79 1 = nI 81)
def RP (h1 : am_H) : Prop := ∃ hA, RA hA ∧ am_g 5 2 [vr 1 32, vr 2 17, vi (-4)] hA = some (h1, none)
theorem txh_n {c : Nat} (hc : c ≠ 1) (k : Nat) : txh k c = rh0 c := by unfold txh va_up; rw [if_neg hc]
theorem txh_T : tOK tx0 (txh 75 1) := by
  have hl : tx0.length = 75 := by decide +kernel
  refine ⟨fun j x hx => ?_, by omega, fun x hx => ?_⟩
  · have hj : j < 75 := by
      have := (List.getElem?_eq_some_iff.mp hx).1
      omega
    have e : txh 75 1 j = sx_B.getD j 0 := by
      unfold txh va_up
      rw [if_pos rfl, if_pos hj]
    rw [e, (tx0_ok j hj).2.1]
    congr 1
    rw [List.getD_eq_getElem?_getD, hx]
    rfl
  · obtain ⟨j, hj⟩ := List.getElem?_of_mem hx
    have hj75 : j < 75 := by
      have := (List.getElem?_eq_some_iff.mp hj).1
      omega
    have := (tx0_ok j hj75).2.2
    rw [List.getD_eq_getElem?_getD, hj] at this
    exact this
theorem VB0 : VB B0 ∧ ¬ B0 92 0 = 0 := by
  obtain ⟨h', -, -, g⟩ := gH_readText_ok 2 (o := 17) (by omega) txh_T
  have hl : tx0.length + 1 = 76 := by decide +kernel
  rw [hl] at g
  exact ⟨(g B0_ok).2, by decide +kernel⟩
set_option maxRecDepth 100000 in
theorem qC_tail (G : Nat → List am_V → am_H → am_Z) (n : Nat) (x : Int32) (u2 : Option am_V) (h : am_H) : am_run 0 (fun _ => 0) cC_tail G (n + 1) 0 [some (vr 6 0), some (vi x), u2] h = am_r1 (G 18 [vr 2 (h 0 3).toNatClampNeg, vr 9 1, vi x] h) fun h1 _ => am_r0 (G 81 [vr 6 0] h1) fun h2 => some (h2, none) := rfl
/-- the tail of the constructor, purely -/
theorem root_pure (u2 : Option am_V) : ∃ h1, am_run 0 (fun _ => 0) cC_tail (am_g 6) (0 + 1) 0 [some (vr 6 0), some (vi (nI 75)), u2] (txh 75) = some (h1, none) ∧ RP h1 := by
  have hl : tx0.length = 75 := by decide +kernel
  obtain ⟨h', g1, g2, g3⟩ := gH_readText_ok 2 (o := 17) (by omega) txh_T
  rw [hl] at g1 g3
  have g3 := g3 B0_ok
  have e3 : (txh 75 0 3).toNatClampNeg = 17 := by rw [txh_n (by omega)]; decide +kernel
  have k : ∀ c, ¬ (17 ≤ c ∧ c ≤ 31) → c ≠ 1 → h' c = rh0 c := fun c q1 q2 => by rw [g2 c (by omega), txh_n q2]
  have k0 := k 0 (by omega) (by omega)
  have f3 : (h' 0 3).toNatClampNeg = 17 := by rw [k0]; decide +kernel
  have f2 : (h' 0 2).toNatClampNeg = 2 := by rw [k0]; decide +kernel
  obtain ⟨hA, hhA⟩ : ∃ hA, am_up (am_up (am_up (am_up (am_up h' 0 2 (nI 17)) 0 3 (nI 2)) 58 3 0) 70 3 0) 0 9 0 = hA := ⟨_, rfl⟩
  have kh : ∀ c, c ≠ 0 → c ≠ 58 → c ≠ 70 → hA c = h' c := fun c q1 q2 q3 => by rw [← hhA, up_n q1, up_n q3, up_n q2, up_n q1, up_n q1]
  have r79 : hA 79 = rh0 79 := by rw [kh 79 (by omega) (by omega) (by omega), k 79 (by omega) (by omega)]
  have ra : RA hA := by
    refine ⟨by rw [← hhA]; simp [up_a], by rw [← hhA]; simp [up_a], ?_, RH_c (fun c q1 q2 => kh c (by omega) (by omega) (by omega)) (fun _ _ _ => rfl) g3.1, by rw [← hhA]; simp [up_a], by rw [← hhA]; simp [up_a], by rw [← hhA]; simp [up_a], by rw [r79]; exact ⟨rfl, rfl⟩⟩
    rw [← hhA]
    simp only [up_a]
    simp (disch := omega) only [if_neg]
    rw [k0]
    rfl
  have vh := VB0.1.vh VB0.2
  obtain ⟨h1, S1, r1, -⟩ := new_pair (hA := hA) (SA := B0) (o := 17) (o' := 2) (tx := []) vh (by omega) ra.1 ra.2.1 ⟨by rw [ra.2.2.1]; rfl, fun j x h => nil_get h⟩ ra.2.2.2.1 ra.2.2.2.2.1 ra.2.2.2.2.2.1 ra.2.2.2.2.2.2.1 (Or.inl ra.2.2.2.2.2.2.2) ⟨by decide +kernel, fun j x h => nil_get h⟩ (by decide +kernel) (by decide +kernel) (by decide +kernel) ⟨by simp, fun x hx => by cases hx⟩
  refine ⟨h1, ?_, hA, ra, r1⟩
  rw [qC_tail, e3, g1, r1_ok, gC_moveIn, f3, f2, nI_clamp (by omega), hhA, r1, r0_ok, r0_ok]
