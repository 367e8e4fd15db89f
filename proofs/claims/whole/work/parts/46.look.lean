/-! LOOK: the two loops side by side -/
theorem look_loop (x1 x2 x : Int32) (hx : x ≠ 0) (h S : am_H) : ∀ (k nc nm s b f : Nat) (u7 v7 v8 v9 v10 : Option am_V), s + k = 25 → k < nc → 400 * k + 5 < nm → b < s → 1 ≤ b → f ≤ 16 → ∃ v, rC_look 6 nc 26 [some (vr 6 0), some (vi x1), some (vi x2), some (vi x), some (vi (nI b)), some (vi (nI f)), some (vi (nI s)), u7] h = some (h, some v) ∧ rM_look 6 nm 23 [some (vr 7 82), some (vi x1), some (vi x2), some (vi x), some (vi (nI b)), some (vi (nI f)), some (vi (nI s)), v7, v8, v9, v10] S = some (S, some v) := by
  intro k
  induction k with
  | zero =>
    intro nc nm s b f u7 v7 v8 v9 v10 hs hc hm hb hb1 hf
    obtain ⟨nc, rfl⟩ : ∃ z, nc = z + 1 := ⟨nc - 1, by omega⟩
    obtain ⟨nm, rfl⟩ : ∃ z, nm = z + 1 := ⟨nm - 1, by omega⟩
    have : s = 25 := by omega
    subst this
    rw [tC_look_26, tM_look_23, if_pos (show (24:Int32) < nI 25 by decide), if_pos (show (24:Int32) < nI 25 by decide), if_neg (nI_pos (by omega))]
    split
    · exact ⟨_, rfl, rfl⟩
    · exact ⟨_, rfl, rfl⟩
  | succ k ih =>
    intro nc nm s b f u7 v7 v8 v9 v10 hs hc hm hb hb1 hf
    obtain ⟨nc, rfl⟩ : ∃ z, nc = z + 1 := ⟨nc - 1, by omega⟩
    obtain ⟨nm, rfl⟩ : ∃ z, nm = z + 1 := ⟨nm - 1, by omega⟩
    have h24 : ¬ (24 : Int32) < nI s := nI_nlt (a := 24) (by omega) (by omega)
    obtain ⟨n2, u, w, g1, g2⟩ := maM_loop 5 S x1 x2 x (nI b) (nI f) (nI s) 16 nm 0 0 v9 v10 (by omega) (by omega) (by omega)
    rw [nI_0] at g2
    obtain ⟨n2, rfl⟩ : ∃ z, n2 = z + 1 := ⟨n2 - 1, by omega⟩
    have hA := mA_le x (nI s) 16 0 0 (by omega)
    rw [tC_look_26, tM_look_23, if_neg h24, if_neg h24, if_neg hx, gS_mostAlike_ok 3, r1_ok, g2, tM_look_33, if_neg (show ¬ nI 16 < 16 by decide), if_neg (nI_pos (by omega)), nI_1]
    by_cases e : mA x (nI s) 0 16 0 < f
    · rw [if_pos (nI_lt e (by omega)), if_pos (nI_lt e (by omega)), if_pos rfl]
      exact ih nc n2 (s + 1) s _ _ _ _ _ _ (by omega) (by omega) (by omega) (by omega) (by omega) hA
    · rw [if_neg (nI_nlt (by omega) (by omega)), if_neg (nI_nlt (by omega) (by omega)), if_neg (nI_ne (by omega) (by omega) (by omega))]
      exact ih nc n2 (s + 1) b f _ _ _ _ _ (by omega) (by omega) (by omega) (by omega) (by omega) hf
theorem P_look (x y : Int32) : Pr 75 157 [vi x, vi y] := by
  refine Pr_q fun h S o o' tx as ks ss c m v => ?_
  have hv := m.1
  have hR := hv.1.2.2
  have q1 : (¬ y < 0 ∧ y < 2) ↔ (¬ y < 0 ∧ ¬ 1 < y) := lt_in (n := 2) (by omega) (by omega)
  rw [gC_look, gM_look, gC_isRoom_ok 4 hv c, gM_isRoom_ok 4 hv, r1_ok, r1_ok]
  rcases ix_c (x := x) (n := nR S) (by omega) with hx | ⟨r, hr, rfl⟩
  · rw [if_pos (ix_no hx), if_pos (ix_no hx)]
    exact ⟨_, rfl, rfl⟩
  · rw [if_neg (ix_yes hr (by omega)), if_neg (ix_yes hr (by omega)), gC_isOneOf_ok, gM_in_ok, r1_ok, r1_ok, yn_congr q1]
    by_cases hy : ¬ y < 0 ∧ ¬ 1 < y
    · rw [if_neg (fun q => yn_0.mp q hy), if_neg (fun q => yn_0.mp q hy), gS_pacesOf_ok 2 c v.2.2.2.1, gM_pacesOf_ok 4 m v.2.2.2.1, r1_ok, r1_ok]
      generalize pcs (nI r) ss 0 16 0 = X
      by_cases hX : X = 0
      · rw [if_pos hX, show (999999 : Nat) = 999998 + 1 from rfl, tM_look_23, if_neg (by decide), if_pos hX, if_pos (by decide)]
        exact ⟨_, rfl, rfl⟩
      · obtain ⟨n2, u, w, g1, g2⟩ := maM_loop 5 S (nI r) y X (-4) 0 1 16 999998 0 0 none none (by omega) (by omega) (by omega)
        rw [nI_0] at g2
        obtain ⟨n2, rfl⟩ : ∃ z, n2 = z + 1 := ⟨n2 - 1, by omega⟩
        have hA := mA_le X 1 16 0 0 (by omega)
        rw [if_neg hX, show (999999 : Nat) = 999998 + 1 from rfl, tC_look_26, tM_look_23, if_neg (by decide), if_neg (by decide), if_neg hX, gS_mostAlike_ok 3, r1_ok, g2, tM_look_33, if_neg (show ¬ nI 16 < 16 by decide), if_pos (show (-4 : Int32) < 0 by decide), if_pos rfl, if_pos (show nI (mA X 1 0 16 0) < 536870912 from nI_lt (b := 536870912) (by omega) (by omega))]
        exact look_loop (nI r) y X hX h S 23 999998 n2 2 1 _ _ _ _ _ _ (by omega) (by omega) (by omega) (by omega) (by omega) hA
    · rw [if_pos (yn_0.mpr hy), if_pos (yn_0.mpr hy)]
      exact ⟨_, rfl, rfl⟩
