/-! THE LAW: every call is answered alike -/
theorem law_pair {z z' : Nat} {al : List am_V} (P : Pr z z' al) {h : am_H} (hL : LI h) : ∃ (h1 h2 : am_H) (v : Int32), am_g 7 z (vr 6 0 :: al) h = some (h1, some v) ∧ am_g 7 z' (vr 7 82 :: al) h1 = some (h2, some v) ∧ LI h2 := by
  obtain ⟨o, o', tx, as, ks, ss, c, m, v⟩ := hL
  obtain ⟨h1, S1, w, a1, a2, a3, a4, -⟩ := P h h o o' tx as ks ss c m v
  obtain ⟨h1', S1', w', b1, b2, b3, b4, o1, o1', tx1, as1, ks1, ss1, c1, m1, v1⟩ := P h h1 o o' tx as ks ss (CI_r a3 c) (MI_r a3 m) (VI_r a3 v)
  rw [a1] at b1
  cases b1
  exact ⟨h1, S1', w, a1, b2, o1, o1', tx1, as1, ks1, ss1, CI_l b4 c1, m1, v1⟩
set_option maxHeartbeats 4000000 in
theorem law_run {L : Nat} (hL : L ≤ 320) (xs : Nat → Int32) : ∀ (f i : Nat) (h : am_H), i ≤ L + 5 → L ≤ i + 5 * f → LI h → ∃ h', am_run L xs cL_law (am_g 7) (f + 1) 3 [some (vr 8 0), some (vr 6 0), some (vr 7 82), some (vi (nI i))] h = some (h', some 1) := by
  have e5 : (nI L - 5).toInt = (L : Int) - 5 := by
    rw [ti_sub] <;> rw [nI_toInt (by omega)] <;> show _ <;> simp <;> omega
  intro f
  induction f with
  | zero =>
    intro i h hi hf hLI
    rw [qL_law_3, if_pos (by rw [Int32.lt_iff_toInt_lt, e5, nI_toInt (by omega)]; omega)]
    exact ⟨h, rfl⟩
  | succ f ih =>
    intro i h hi hf hLI
    rw [qL_law_3]
    by_cases hend : L < i + 5
    · rw [if_pos (by rw [Int32.lt_iff_toInt_lt, e5, nI_toInt (by omega)]; omega)]
      exact ⟨h, rfl⟩
    · rw [if_neg (by rw [Int32.lt_iff_toInt_lt, e5, nI_toInt (by omega)]; omega)]
      have b0 : ∀ g, am_b L (nI i) g = g i := fun g => b_ok (by omega) (by omega) g
      have b1 : ∀ g, am_b L (nI i + 1) g = g (i + 1) := fun g => by rw [nI_1]; exact b_ok (by omega) (by omega) g
      have b2 : ∀ g, am_b L (nI i + 2) g = g (i + 2) := fun g => by rw [show (2 : Int32) = nI 2 from rfl, nI_add]; exact b_ok (by omega) (by omega) g
      have b3 : ∀ g, am_b L (nI i + 3) g = g (i + 3) := fun g => by rw [show (3 : Int32) = nI 3 from rfl, nI_add]; exact b_ok (by omega) (by omega) g
      have b4 : ∀ g, am_b L (nI i + 4) g = g (i + 4) := fun g => by rw [show (4 : Int32) = nI 4 from rfl, nI_add]; exact b_ok (by omega) (by omega) g
      have a5 : nI i + 5 = nI (i + 5) := by rw [show (5 : Int32) = nI 5 from rfl, nI_add]
      have go : ∀ h2, LI h2 → ∃ h', am_run L xs cL_law (am_g 7) (f + 1) 3 [some (vr 8 0), some (vr 6 0), some (vr 7 82), some (vi (nI (i + 5)))] h2 = some (h', some 1) := fun h2 hq => ih (i + 5) h2 (by omega) (by omega) hq
      simp only [b0, b1, b2, b3, b4, a5]
      by_cases c0 : (xs i) &&& 31 = nI 0
      · rw [if_pos c0]
        obtain ⟨h1, h2, v, q1, q2, q3⟩ := law_pair (P_write (xs (i + 1))) hLI
        rw [q1, r1_ok, q2, r1_ok, if_pos rfl]
        exact go h2 q3
      rw [if_neg c0]
      by_cases c1 : (xs i) &&& 31 = nI 1
      · rw [if_pos c1]
        obtain ⟨h1, h2, v, q1, q2, q3⟩ := law_pair (P_wipe) hLI
        rw [q1, r1_ok, q2, r1_ok, if_pos rfl]
        exact go h2 q3
      rw [if_neg c1]
      by_cases c2 : (xs i) &&& 31 = nI 2
      · rw [if_pos c2]
        obtain ⟨h1, h2, v, q1, q2, q3⟩ := law_pair (P_fault) hLI
        rw [q1, r1_ok, q2, r1_ok, if_pos rfl]
        exact go h2 q3
      rw [if_neg c2]
      by_cases c3 : (xs i) &&& 31 = nI 3
      · rw [if_pos c3]
        obtain ⟨h1, h2, v, q1, q2, q3⟩ := law_pair (P_lay) hLI
        rw [q1, r1_ok, q2, r1_ok, if_pos rfl]
        exact go h2 q3
      rw [if_neg c3]
      by_cases c4 : (xs i) &&& 31 = nI 4
      · rw [if_pos c4]
        obtain ⟨h1, h2, v, q1, q2, q3⟩ := law_pair (P_room (xs (i + 1)) (xs (i + 2))) hLI
        rw [q1, r1_ok, q2, r1_ok, if_pos rfl]
        exact go h2 q3
      rw [if_neg c4]
      by_cases c5 : (xs i) &&& 31 = nI 5
      · rw [if_pos c5]
        obtain ⟨h1, h2, v, q1, q2, q3⟩ := law_pair (P_clock (xs (i + 1)) (xs (i + 2)) (xs (i + 3))) hLI
        rw [q1, r1_ok, q2, r1_ok, if_pos rfl]
        exact go h2 q3
      rw [if_neg c5]
      by_cases c6 : (xs i) &&& 31 = nI 6
      · rw [if_pos c6]
        obtain ⟨h1, h2, v, q1, q2, q3⟩ := law_pair (P_door (xs (i + 1)) (xs (i + 2))) hLI
        rw [q1, r1_ok, q2, r1_ok, if_pos rfl]
        exact go h2 q3
      rw [if_neg c6]
      by_cases c7 : (xs i) &&& 31 = nI 7
      · rw [if_pos c7]
        obtain ⟨h1, h2, v, q1, q2, q3⟩ := law_pair (P_person (xs (i + 1)) (xs (i + 2))) hLI
        rw [q1, r1_ok, q2, r1_ok, if_pos rfl]
        exact go h2 q3
      rw [if_neg c7]
      by_cases c8 : (xs i) &&& 31 = nI 8
      · rw [if_pos c8]
        obtain ⟨h1, h2, v, q1, q2, q3⟩ := law_pair (P_thing (xs (i + 1)) (xs (i + 2))) hLI
        rw [q1, r1_ok, q2, r1_ok, if_pos rfl]
        exact go h2 q3
      rw [if_neg c8]
      by_cases c9 : (xs i) &&& 31 = nI 9
      · rw [if_pos c9]
        obtain ⟨h1, h2, v, q1, q2, q3⟩ := law_pair (P_worth (xs (i + 1)) (xs (i + 2))) hLI
        rw [q1, r1_ok, q2, r1_ok, if_pos rfl]
        exact go h2 q3
      rw [if_neg c9]
      by_cases c10 : (xs i) &&& 31 = nI 10
      · rw [if_pos c10]
        obtain ⟨h1, h2, v, q1, q2, q3⟩ := law_pair (P_stay (xs (i + 1)) (xs (i + 2))) hLI
        rw [q1, r1_ok, q2, r1_ok, if_pos rfl]
        exact go h2 q3
      rw [if_neg c10]
      by_cases c11 : (xs i) &&& 31 = nI 11
      · rw [if_pos c11]
        obtain ⟨h1, h2, v, q1, q2, q3⟩ := law_pair (P_go (xs (i + 1)) (xs (i + 2))) hLI
        rw [q1, r1_ok, q2, r1_ok, if_pos rfl]
        exact go h2 q3
      rw [if_neg c11]
      by_cases c12 : (xs i) &&& 31 = nI 12
      · rw [if_pos c12]
        obtain ⟨h1, h2, v, q1, q2, q3⟩ := law_pair (P_take (xs (i + 1)) (xs (i + 2))) hLI
        rw [q1, r1_ok, q2, r1_ok, if_pos rfl]
        exact go h2 q3
      rw [if_neg c12]
      by_cases c13 : (xs i) &&& 31 = nI 13
      · rw [if_pos c13]
        obtain ⟨h1, h2, v, q1, q2, q3⟩ := law_pair (P_put (xs (i + 1)) (xs (i + 2))) hLI
        rw [q1, r1_ok, q2, r1_ok, if_pos rfl]
        exact go h2 q3
      rw [if_neg c13]
      by_cases c14 : (xs i) &&& 31 = nI 14
      · rw [if_pos c14]
        obtain ⟨h1, h2, v, q1, q2, q3⟩ := law_pair (P_undo) hLI
        rw [q1, r1_ok, q2, r1_ok, if_pos rfl]
        exact go h2 q3
      rw [if_neg c14]
      by_cases c15 : (xs i) &&& 31 = nI 15
      · rw [if_pos c15]
        obtain ⟨h1, h2, v, q1, q2, q3⟩ := law_pair (P_meet (xs (i + 1)) (xs (i + 2)) (xs (i + 3))) hLI
        rw [q1, r1_ok, q2, r1_ok, if_pos rfl]
        exact go h2 q3
      rw [if_neg c15]
      by_cases c16 : (xs i) &&& 31 = nI 16
      · rw [if_pos c16]
        obtain ⟨h1, h2, v, q1, q2, q3⟩ := law_pair (P_early (xs (i + 1)) (xs (i + 2)) (xs (i + 3)) (xs (i + 4))) hLI
        rw [q1, r1_ok, q2, r1_ok, if_pos rfl]
        exact go h2 q3
      rw [if_neg c16]
      by_cases c17 : (xs i) &&& 31 = nI 17
      · rw [if_pos c17]
        obtain ⟨h1, h2, v, q1, q2, q3⟩ := law_pair (P_ring (xs (i + 1))) hLI
        rw [q1, r1_ok, q2, r1_ok, if_pos rfl]
        exact go h2 q3
      rw [if_neg c17]
      by_cases c18 : (xs i) &&& 31 = nI 18
      · rw [if_pos c18]
        obtain ⟨h1, h2, v, q1, q2, q3⟩ := law_pair (P_even) hLI
        rw [q1, r1_ok, q2, r1_ok, if_pos rfl]
        exact go h2 q3
      rw [if_neg c18]
      by_cases c19 : (xs i) &&& 31 = nI 19
      · rw [if_pos c19]
        obtain ⟨h1, h2, v, q1, q2, q3⟩ := law_pair (P_round (xs (i + 1)) (xs (i + 2)) (xs (i + 3))) hLI
        rw [q1, r1_ok, q2, r1_ok, if_pos rfl]
        exact go h2 q3
      rw [if_neg c19]
      by_cases c20 : (xs i) &&& 31 = nI 20
      · rw [if_pos c20]
        obtain ⟨h1, h2, v, q1, q2, q3⟩ := law_pair (P_hour (xs (i + 1)) (xs (i + 2)) (xs (i + 3))) hLI
        rw [q1, r1_ok, q2, r1_ok, if_pos rfl]
        exact go h2 q3
      rw [if_neg c20]
      by_cases c21 : (xs i) &&& 31 = nI 21
      · rw [if_pos c21]
        obtain ⟨h1, h2, v, q1, q2, q3⟩ := law_pair (P_agreed (xs (i + 1)) (xs (i + 2)) (xs (i + 3))) hLI
        rw [q1, r1_ok, q2, r1_ok, if_pos rfl]
        exact go h2 q3
      rw [if_neg c21]
      by_cases c22 : (xs i) &&& 31 = nI 22
      · rw [if_pos c22]
        obtain ⟨h1, h2, v, q1, q2, q3⟩ := law_pair (P_shelf (xs (i + 1)) (xs (i + 2))) hLI
        rw [q1, r1_ok, q2, r1_ok, if_pos rfl]
        exact go h2 q3
      rw [if_neg c22]
      by_cases c23 : (xs i) &&& 31 = nI 23
      · rw [if_pos c23]
        obtain ⟨h1, h2, v, q1, q2, q3⟩ := law_pair (P_seen (xs (i + 1)) (xs (i + 2)) (xs (i + 3))) hLI
        rw [q1, r1_ok, q2, r1_ok, if_pos rfl]
        exact go h2 q3
      rw [if_neg c23]
      by_cases c24 : (xs i) &&& 31 = nI 24
      · rw [if_pos c24]
        obtain ⟨h1, h2, v, q1, q2, q3⟩ := law_pair (P_forget) hLI
        rw [q1, r1_ok, q2, r1_ok, if_pos rfl]
        exact go h2 q3
      rw [if_neg c24]
      by_cases c25 : (xs i) &&& 31 = nI 25
      · rw [if_pos c25]
        obtain ⟨h1, h2, v, q1, q2, q3⟩ := law_pair (P_paces (xs (i + 1))) hLI
        rw [q1, r1_ok, q2, r1_ok, if_pos rfl]
        exact go h2 q3
      rw [if_neg c25]
      by_cases c26 : (xs i) &&& 31 = nI 26
      · rw [if_pos c26]
        obtain ⟨h1, h2, v, q1, q2, q3⟩ := law_pair (P_look (xs (i + 1)) (xs (i + 2))) hLI
        rw [q1, r1_ok, q2, r1_ok, if_pos rfl]
        exact go h2 q3
      rw [if_neg c26]
      by_cases c27 : (xs i) &&& 31 = nI 27
      · rw [if_pos c27]
        obtain ⟨h1, h2, v, q1, q2, q3⟩ := law_pair (P_mended (xs (i + 1))) hLI
        rw [q1, r1_ok, q2, r1_ok, if_pos rfl]
        exact go h2 q3
      rw [if_neg c27]
      by_cases c28 : (xs i) &&& 31 = nI 28
      · rw [if_pos c28]
        obtain ⟨h1, h2, v, q1, q2, q3⟩ := law_pair (P_day (xs (i + 1)) (xs (i + 2)) (xs (i + 3))) hLI
        rw [q1, r1_ok, q2, r1_ok, if_pos rfl]
        exact go h2 q3
      rw [if_neg c28]
      by_cases c29 : (xs i) &&& 31 = nI 29
      · rw [if_pos c29]
        obtain ⟨h1, h2, v, q1, q2, q3⟩ := law_pair (P_keep) hLI
        rw [q1, r1_ok, q2, r1_ok, if_pos rfl]
        exact go h2 q3
      rw [if_neg c29]
      by_cases c30 : (xs i) &&& 31 = nI 30
      · rw [if_pos c30]
        obtain ⟨h1, h2, v, q1, q2, q3⟩ := law_pair (P_back) hLI
        rw [q1, r1_ok, q2, r1_ok, if_pos rfl]
        exact go h2 q3
      rw [if_neg c30]
      by_cases c31 : (xs i) &&& 31 = nI 31
      · rw [if_pos c31]
        obtain ⟨h1, h2, v, q1, q2, q3⟩ := law_pair (P_count (xs (i + 1))) hLI
        rw [q1, r1_ok, q2, r1_ok, if_pos rfl]
        exact go h2 q3
      rw [if_neg c31]
      exact go h hLI
