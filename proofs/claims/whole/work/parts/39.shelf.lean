theorem wOf_nn {S : am_H} (hv : VH S) {t : Nat} (ht : t < nT S) (x : Int32) : ¬ wOf S t x < 0 := by
  obtain ⟨r, k, n, -, -, hn, -, -, s3⟩ := hv.2.2.2.2.2.2.2.2 t ht
  unfold wOf
  rw [s3]
  split
  · exact nI_pos (by omega)
  · split
    · split
      · rename_i q
        have hd := div144 x
        have hn' : (nI n).toInt = n := nI_toInt (by omega)
        rw [Int32.lt_iff_toInt_lt, hn'] at q
        have hs : (nI n - x / 144).toInt = n - (x / 144).toInt := by
          rw [ti_sub] <;> rw [hn'] <;> omega
        have z : ((0 : Int32)).toInt = 0 := rfl
        rw [Int32.lt_iff_toInt_lt, hs, z]
        omega
      · decide
    · split
      · split <;> decide
      · split <;> decide
section SHELF
variable {h S : am_H} {o o' : Nat} {tx : List Nat} {as : List K_A} {ks : List (List K_A)} {ss : List K_A}
theorem shelf_loop (c : CI h S o o' tx as ks ss) (m : MI S tx as ks ss) {t : Nat} (ht : t < nT S) (y : Int32) : ∀ (k n n' r : Nat) (b w : Int32) (u6 u7 u6' : Option am_V), r + k = nR S → k < n → k < n' →
    ∃ v, rC_shelf 6 n 19 [some (vr 6 0), some (vi (nI t)), some (vi y), some (vi b), some (vi w), some (vi (nI r)), u6, u7] h = some (h, some v) ∧ rM_shelf 6 n' 19 [some (vr 7 82), some (vi (nI t)), some (vi y), some (vi b), some (vi w), some (vi (nI r)), u6'] S = some (S, some v) := by
  have hv := m.1
  have hR := hv.1
  have hT := hv.2.2.2.1.2
  intro k
  induction k with
  | zero =>
    intro n n' r b w u6 u7 u6' hr hn hn'
    obtain ⟨n, rfl⟩ : ∃ q, n = q + 1 := ⟨n - 1, by omega⟩
    obtain ⟨n', rfl⟩ : ∃ q, n' = q + 1 := ⟨n' - 1, by omega⟩
    have hlt : ¬ nI r < nI (nR S) := nI_nlt (by omega) (by omega)
    rw [tC_shelf_19, tM_shelf_19, c.oo, c.rh.1.1, hR.1, if_neg hlt, if_neg hlt]
    exact ⟨_, rfl, rfl⟩
  | succ k ih =>
    intro n n' r b w u6 u7 u6' hr hn hn'
    obtain ⟨n, rfl⟩ : ∃ q, n = q + 1 := ⟨n - 1, by omega⟩
    obtain ⟨n', rfl⟩ : ∃ q, n' = q + 1 := ⟨n' - 1, by omega⟩
    have hrr : r < nR S := by omega
    have hlt : nI r < nI (nR S) := nI_lt hrr (by omega)
    obtain ⟨-, -, -, -, b5⟩ := c.rh.2.1 r hrr
    rw [tC_shelf_19, tM_shelf_19, c.oo, c.rh.1.1, hR.1, if_pos hlt, if_pos hlt, b_ok (by omega) (by omega), b_ok (by omega) (by omega), b_ok (by omega) (by omega), b5, (c.rc.2.1 t ht).2.2.2, (m.2.2.1.2.1 t ht).2.2.2, gH_worthOf_ok 4 hv c.rh.2.2.2.2 ht, r1_ok, gM_oldBy_ok 5 hv hrr, r1_ok, gM_worthOf_ok 5 hv ht, r1_ok, old_eq hv hrr, Int32.mul_comm y 12, nI_1]
    by_cases q : w < wOf S t ((kAll S as).1 6 t + oBy S r (12 * y))
    · rw [if_pos q, if_pos q, if_pos q]
      exact ih n n' (r + 1) _ _ _ _ _ (by omega) (by omega) (by omega)
    · rw [if_neg q, if_neg q, if_neg q]
      exact ih n n' (r + 1) _ _ _ _ _ (by omega) (by omega) (by omega)
end SHELF
theorem P_shelf (x y : Int32) : Pr 71 151 [vi x, vi y] := by
  refine Pr_q fun h S o o' tx as ks ss c m v => ?_
  have hv := m.1
  have hT := hv.2.2.2.1.2
  have hR := hv.1
  rw [gC_shelf, gM_shelf, gC_isThing_ok 4 hv c, gM_isThing_ok 4 hv, r1_ok, r1_ok]
  rcases ix_c (x := x) (n := nT S) (by omega) with hx | ⟨t, ht, rfl⟩
  · rw [if_pos (ix_no hx), if_pos (ix_no hx)]
    exact ⟨_, rfl, rfl⟩
  · rw [if_neg (ix_yes ht (by omega)), if_neg (ix_yes ht (by omega)), gM_in_ok, r1_ok]
    by_cases hy : ¬ y < 1 ∧ ¬ 99 < y
    · rw [if_neg (fun q => yn_0.mp q hy), if_neg hy.1, if_neg hy.2]
      have h0 : (0 : Nat) < nR S := by omega
      have hlt : (0 : Int32) < nI (nR S) := by rw [← nI_0]; exact nI_lt h0 (by omega)
      obtain ⟨-, -, -, -, b5⟩ := c.rh.2.1 0 h0
      have e1 := tC_shelf_19 6 999998 (nI t) y (-4) (-1) 0 none none h
      have e2 := tM_shelf_19 6 999998 (nI t) y 0 (-4) 0 none S
      have hz : (0 : Int32) = nI 0 := rfl
      rw [c.oo, c.rh.1.1, hR.1, if_pos hlt, b_ok (by omega) (by omega), hz, b_ok (by omega) (by omega), b5, (c.rc.2.1 t ht).2.2.2, gH_worthOf_ok 4 hv c.rh.2.2.2.2 ht, r1_ok, old_eq hv h0, Int32.mul_comm y 12, nI_1] at e1
      rw [hR.1, if_pos hlt, b_ok (by omega) (by omega), hz, (m.2.2.1.2.1 t ht).2.2.2, gM_oldBy_ok 5 hv h0, r1_ok, gM_worthOf_ok 5 hv ht, r1_ok, nI_1] at e2
      have hw := wOf_nn hv ht ((kAll S as).1 6 t + oBy S 0 (12 * y))
      have z0 : ((0 : Int32)).toInt = 0 := rfl
      have z1 : ((-1 : Int32)).toInt = -1 := rfl
      have z4 : ((-4 : Int32)).toInt = -4 := rfl
      have w1 : (-1 : Int32) < wOf S t ((kAll S as).1 6 t + oBy S 0 (12 * y)) := by
        rw [Int32.lt_iff_toInt_lt, z0] at hw
        rw [Int32.lt_iff_toInt_lt, z1]; omega
      have w4 : (-4 : Int32) < wOf S t ((kAll S as).1 6 t + oBy S 0 (12 * y)) := by
        rw [Int32.lt_iff_toInt_lt, z0] at hw
        rw [Int32.lt_iff_toInt_lt, z4]; omega
      rw [if_pos w1] at e1
      rw [if_pos w4, if_pos w4] at e2
      obtain ⟨vv, k1, k2⟩ := shelf_loop c m ht y (nR S - 1) 999998 999998 1 (nI 0) (wOf S t ((kAll S as).1 6 t + oBy S 0 (12 * y))) (some (vi ((kAll S as).1 6 t + oBy S 0 (12 * y)))) (some (vi (wOf S t ((kAll S as).1 6 t + oBy S 0 (12 * y))))) (some (vi (wOf S t ((kAll S as).1 6 t + oBy S 0 (12 * y))))) (by omega) (by omega) (by omega)
      exact ⟨vv, e1.trans k1, e2.trans k2⟩
    · rw [if_pos (yn_0.mpr hy)]
      by_cases q1 : y < 1
      · rw [if_pos q1]; exact ⟨_, rfl, rfl⟩
      · rw [if_neg q1, if_pos (Decidable.byContradiction fun q => hy ⟨q1, q⟩)]; exact ⟨_, rfl, rfl⟩
