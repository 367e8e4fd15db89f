theorem P_clock (x y z : Int32) : Pr 54 127 [vi x, vi y, vi z] := by
  refine Pr_q fun h S o o' tx as ks ss c m v => ?_
  have hv := m.1
  have hR := hv.1.2.2
  rw [gC_clock, gM_clock, gC_isRoom_ok 4 hv c, gM_isRoom_ok 4 hv, r1_ok, r1_ok]
  rcases ix_c (x := x) (n := nR S) (by omega) with hx | ⟨r, hr, rfl⟩
  · rw [if_pos (ix_no hx), if_pos (ix_no hx)]
    exact ⟨_, rfl, rfl⟩
  · rw [if_neg (ix_yes hr (by omega)), if_neg (ix_yes hr (by omega)), gM_in_ok, r1_ok, gC_isTickToTell]
    by_cases hy1 : y < -9999
    · rw [if_pos hy1, r1_ok, if_pos rfl, if_pos (yn_0.mpr fun q => q.1 hy1)]
      exact ⟨_, rfl, rfl⟩
    · rw [if_neg hy1]
      by_cases hy2 : 9999 < y
      · rw [if_pos hy2, r1_ok, if_pos rfl, if_pos (yn_0.mpr fun q => q.2 hy2)]
        exact ⟨_, rfl, rfl⟩
      · rw [if_neg hy2, r1_ok, if_neg (by decide), if_neg (fun q => yn_0.mp q ⟨hy1, hy2⟩), gM_in_ok, r1_ok, gC_isOneOf_ok, r1_ok]
        have hz : (¬ z < 0 ∧ z < 2) ↔ (¬ z < 0 ∧ ¬ 1 < z) := by
          rw [Int32.lt_iff_toInt_lt, Int32.lt_iff_toInt_lt, Int32.lt_iff_toInt_lt]
          have e0 : ((0 : Int32)).toInt = 0 := rfl
          have e1 : ((1 : Int32)).toInt = 1 := rfl
          have e2 : ((2 : Int32)).toInt = 2 := rfl
          rw [e0, e1, e2]
          omega
        rw [yn_congr hz]
        by_cases hz2 : ¬ z < 0 ∧ ¬ 1 < z
        · rw [if_neg (fun q => yn_0.mp q hz2), if_neg (fun q => yn_0.mp q hz2), c.oo]
          obtain ⟨b1, b2, b3, b4, -⟩ := c.rh.2.1 r hr
          obtain ⟨p, q, w, hp, hq, hw, s1, s2, s3⟩ := hv.2.2.2.2.2.1 r hr
          simp (disch := omega) only [b_ok]
          rw [b1, b2, b3, s1, s2, s3, show (12 : Int32) = nI 12 from rfl, show (24 : Int32) = nI 24 from rfl, pk_mul, pk_mul, pk_mul, floorMod_ok 5 _ (by omega) (by omega), modulo_ok 5 _ (by omega) (by omega), r1_ok, r1_ok]
          generalize hg : nI (w * (12 * q)) + y * nI p = g
          obtain ⟨a, ha, hfa⟩ : ∃ a, a < 24 * (12 * q) ∧ fm g (24 * (12 * q)) = nI a := by
            have e1 := Int.emod_nonneg g.toInt (show ((24 * (12 * q) : Nat) : Int) ≠ 0 by omega)
            have e2 := Int.emod_lt_of_pos g.toInt (show (0 : Int) < ((24 * (12 * q) : Nat) : Int) by omega)
            refine ⟨(g.toInt % ((24 * (12 * q) : Nat) : Int)).toNat, by omega, ?_⟩
            unfold fm
            rw [nI_ofInt]
            congr 1
            omega
          rw [hfa, gC_commonDivisor, gM_common, ← nI_0]
          have hc := commonC_ok 4 h (nI a) (nI (12 * q)) (12 * q) a 999999 0 none (by omega) (by omega) (by omega) (by omega)
          have hm := common_ok 5 S (nI a) (nI (12 * q)) (12 * q) a 999999 none (by omega) (by omega) (by omega)
          rw [hc, hm, r1_ok, r1_ok]
          have hg0 : 0 < Nat.gcd a (12 * q) := Nat.gcd_pos_of_pos_right _ (by omega)
          have hg1 : Nat.gcd a (12 * q) ≤ 12 * q := Nat.gcd_le_right _ (by omega)
          have hne : ¬ nI (Nat.gcd a (12 * q)) = nI 0 := nI_ne (by omega) (by omega) (by omega)
          rw [if_neg hne, if_neg hne, if_neg hne, if_neg hne]
          by_cases z0 : z = nI 0
          · rw [if_pos z0, if_pos z0]; exact ⟨_, rfl, rfl⟩
          · rw [if_neg z0, if_neg z0]; exact ⟨_, rfl, rfl⟩
        · rw [if_pos (yn_0.mpr hz2), if_pos (yn_0.mpr hz2)]
          exact ⟨_, rfl, rfl⟩
