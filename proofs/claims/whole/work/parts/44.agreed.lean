theorem agreed_loop {h S : am_H} (x1 x2 x3 x4 : Int32) {a b : Nat} (ha1 : 3 ≤ a) (ha2 : a ≤ 48) (hb1 : 3 ≤ b) (hb2 : b ≤ 48) (y6 : Int32) : ∀ (f n n' : Nat) (x7 : Int32), (10000 - x7.toInt).toNat ≤ f → x7.toInt ≤ 100000 → f < n → f < n' →
    ∃ v, rC_agreed 6 n 60 [some (vr 6 0), some (vi x1), some (vi x2), some (vi x3), some (vi x4), some (vi (nI (24 * a))), some (vi (nI (24 * b))), some (vi x7)] h = some (h, some v) ∧ rM_agreed 6 n' 82 [some (vr 7 82), some (vi x1), some (vi x2), some (vi x3), some (vi (nI (24 * a))), some (vi (nI (24 * b))), some (vi y6), some (vi x4), some (vi x7)] S = some (S, some v) := by
  have e9 : ((9999 : Int32)).toInt = 9999 := rfl
  have hne : ¬ nI (24 * b) = 0 := nI_ne0 (by omega) (by omega)
  intro f
  induction f with
  | zero =>
    intro n n' x7 h1 h2 h3 h4
    obtain ⟨n, rfl⟩ : ∃ z, n = z + 1 := ⟨n - 1, by omega⟩
    obtain ⟨n', rfl⟩ : ∃ z, n' = z + 1 := ⟨n' - 1, by omega⟩
    have hlt : (9999 : Int32) < x7 := by rw [Int32.lt_iff_toInt_lt, e9]; omega
    rw [tC_agreed_60, tM_agreed_82, if_pos hlt, if_pos hlt]
    exact ⟨_, rfl, rfl⟩
  | succ f ih =>
    intro n n' x7 h1 h2 h3 h4
    obtain ⟨n, rfl⟩ : ∃ z, n = z + 1 := ⟨n - 1, by omega⟩
    obtain ⟨n', rfl⟩ : ∃ z, n' = z + 1 := ⟨n' - 1, by omega⟩
    rw [tC_agreed_60, tM_agreed_82]
    by_cases hlt : (9999 : Int32) < x7
    · rw [if_pos hlt, if_pos hlt]
      exact ⟨_, rfl, rfl⟩
    · have hx : x7.toInt ≤ 9999 := by rw [Int32.lt_iff_toInt_lt, e9] at hlt; omega
      have hx0 := Int32.le_toInt x7
      have hs : (x7 + nI (24 * a)).toInt = x7.toInt + (24 * a : Nat) := by
        rw [ti_add, nI_toInt (by omega)] <;> rw [nI_toInt (by omega)] <;> omega
      obtain ⟨v, g1, g2⟩ := ih n n' (x7 + nI (24 * a)) (by rw [hs]; omega) (by rw [hs]; omega) (by omega) (by omega)
      rw [if_neg hlt, if_neg hlt]
      by_cases q1 : x7 < x4
      · rw [if_pos q1, if_pos q1]
        exact ⟨v, g1, g2⟩
      · rw [if_neg q1, if_neg q1, if_neg hne, if_neg hne]
        by_cases q2 : am_rem (x7 - x4) (nI (24 * b)) = 0
        · rw [if_pos q2, if_pos q2, gC_told, r1_ok]
          exact ⟨_, rfl, rfl⟩
        · rw [if_neg q2, if_neg q2]
          exact ⟨v, g1, g2⟩
theorem P_agreed (x y z : Int32) : Pr 70 150 [vi x, vi y, vi z] := by
  refine Pr_q fun h S o o' tx as ks ss c m v => ?_
  have hv := m.1
  have hP := hv.2.2.1.2.2
  have hR := hv.1.2.2
  have hK := v.vk hv
  have hal := v.2.1.1
  have q1 : (¬ z < 0 ∧ z < 24) ↔ (¬ z < 0 ∧ ¬ 23 < z) := lt_in (n := 24) (by omega) (by omega)
  rw [gC_agreed, gM_agreed, gC_isPerson_ok 4 hv c, gM_isPerson_ok 4 hv, r1_ok, r1_ok]
  rcases ix_c (x := x) (n := nP S) (by omega) with hx | ⟨i, hi, rfl⟩
  · rw [if_pos (ix_no hx), if_pos (ix_no hx)]
    exact ⟨_, rfl, rfl⟩
  · rw [if_neg (ix_yes hi (by omega)), if_neg (ix_yes hi (by omega)), gC_isPerson_ok 4 hv c, gM_isPerson_ok 4 hv, r1_ok, r1_ok]
    rcases ix_c (x := y) (n := nP S) (by omega) with hy | ⟨j, hj, rfl⟩
    · rw [if_pos (ix_no hy), if_pos (ix_no hy)]
      exact ⟨_, rfl, rfl⟩
    · rw [if_neg (ix_yes hj (by omega)), if_neg (ix_yes hj (by omega))]
      by_cases hij : nI i = nI j
      · rw [if_pos hij, if_pos hij]
        exact ⟨_, rfl, rfl⟩
      · rw [if_neg hij, if_neg hij, gC_isOneOf_ok, gM_in_ok, r1_ok, r1_ok, yn_congr q1]
        by_cases hz : ¬ z < 0 ∧ ¬ 23 < z
        · rw [if_neg (fun q => yn_0.mp q hz), if_neg (fun q => yn_0.mp q hz)]
          obtain ⟨n, hn, rfl⟩ := (in_c (n := 23) (by omega)).mp hz
          obtain ⟨⟨r, hr, hrr⟩, hti, -⟩ := hK.1 i hi
          obtain ⟨⟨s, hs, hss⟩, -⟩ := hK.1 j hj
          obtain ⟨a, ha1, ha2, ha⟩ := hOf_nI hv hr
          obtain ⟨b, hb1, hb2, hb⟩ := hOf_nI hv hs
          obtain ⟨c1, c2, c3, -⟩ := c.rc.1 i hi
          obtain ⟨d1, d2, d3, -⟩ := c.rc.1 j hj
          obtain ⟨e1, e2, e3, -⟩ := m.2.2.1.1 i hi
          obtain ⟨f1, f2, f3, -⟩ := m.2.2.1.1 j hj
          have hrm : rmOf (kAll S as) i = r := by unfold rmOf; rw [hrr, nI_rm (by omega)]
          have hsm : rmOf (kAll S as) j = s := by unfold rmOf; rw [hss, nI_rm (by omega)]
          have e24a : (24 : Int32) * nI a = nI (24 * a) := by rw [show (24 : Int32) = nI 24 from rfl, pk_mul]
          have e24b : (24 : Int32) * nI b = nI (24 * b) := by rw [show (24 : Int32) = nI 24 from rfl, pk_mul]
          have m1 := modulo_ok 5 (nI n - (kAll S as).1 2 i) (b := 24) (by omega) (by omega) S
          have m2 := modulo_ok 5 (nI n - (kAll S as).1 2 j) (b := 24) (by omega) (by omega) S
          rw [show nI 24 = (24 : Int32) from rfl] at m1 m2
          have n1 : ¬ nI (24 * a) < 1 := nI_nlt (b := 1) (by omega) (by omega)
          have n2 : ¬ nI (24 * b) < 1 := nI_nlt (b := 1) (by omega) (by omega)
          have ho1 : (kAll S as).1 1 i + fm (nI n - (kAll S as).1 2 i) 24 * nI a = own S (kAll S as) i (nI n) := by unfold own; rw [hrm, ha]
          have ho2 : (kAll S as).1 1 j + fm (nI n - (kAll S as).1 2 j) 24 * nI b = own S (kAll S as) j (nI n) := by unfold own; rw [hsm, hb]
          rw [gC_nextOwnHour_ok 3 c v hv hj hn, r1_ok]
          simp (disch := omega) only [b_ok]
          rw [c1, d1, hrr, hss]
          simp (disch := omega) only [b_ok]
          rw [c.oo, (c.rh.2.1 r hr).2.2.2.1, (c.rh.2.1 s hs).2.2.2.1, ha, hb, e24a, e24b, if_neg n1, if_neg n2, gC_nextOwnHour_ok 3 c v hv hi hn, r1_ok]
          rw [e1, hrr, gM_hourOf_ok 5 hv hr, r1_ok, f1, hss, gM_hourOf_ok 5 hv hs, r1_ok, e3, m1, r1_ok, e1, hrr, gM_hourOf_ok 5 hv hr, r1_ok, f3, m2, r1_ok, f1, hss, gM_hourOf_ok 5 hv hs, r1_ok, ha, hb, e24a, e24b, e2, f2, ho1, ho2]
          have hb0 : (own S (kAll S as) i (nI n)).toInt ≤ 100000 ∧ -100000 ≤ (own S (kAll S as) i (nI n)).toInt := by
            have g1 := Int.emod_nonneg (nI n - (kAll S as).1 2 i).toInt (show ((24 : Nat) : Int) ≠ 0 by omega)
            have g2 := Int.emod_lt_of_pos (nI n - (kAll S as).1 2 i).toInt (show (0 : Int) < ((24 : Nat) : Int) by omega)
            obtain ⟨q, hq, hqq⟩ : ∃ q : Nat, q < 24 ∧ fm (nI n - (kAll S as).1 2 i) 24 = nI q := by
              refine ⟨((nI n - (kAll S as).1 2 i).toInt % ((24 : Nat) : Int)).toNat, by omega, ?_⟩
              rw [nI_ofInt (((nI n - (kAll S as).1 2 i).toInt % ((24 : Nat) : Int)).toNat), Int.toNat_of_nonneg g1]
              rfl
            have hqa : q * a ≤ 24 * 48 := Nat.mul_le_mul (by omega) ha2
            have hsum : ((kAll S as).1 1 i + nI (q * a)).toInt = ((kAll S as).1 1 i).toInt + ((q * a : Nat) : Int) := by
              rw [ti_add, nI_toInt (by omega)] <;> rw [nI_toInt (by omega)] <;> omega
            rw [← ho1, hqq, pk_mul, hsum]
            omega
          exact agreed_loop _ _ _ _ ha1 ha2 hb1 hb2 _ 200000 999999 999999 _ (by omega) hb0.1 (by omega) (by omega)
        · rw [if_pos (yn_0.mpr hz), if_pos (yn_0.mpr hz)]
          exact ⟨_, rfl, rfl⟩
