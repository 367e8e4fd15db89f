/-! A CLOCK THAT IS MENDED -/
def mdS (S : am_H) (r : Nat) : am_H := am_up (am_up S 85 r 1) 86 r 1
theorem mdS_n {S : am_H} {r c : Nat} (h1 : c ≠ 85) (h2 : c ≠ 86) : mdS S r c = S c := by unfold mdS; rw [up_n h2, up_n h1]
theorem mdS_85 (S : am_H) (r j : Nat) : mdS S r 85 j = if j = r then 1 else S 85 j := by unfold mdS; simp [up_a]
theorem mdS_86 (S : am_H) (r j : Nat) : mdS S r 86 j = if j = r then 1 else S 86 j := by unfold mdS; simp [up_a]
theorem mdS_VH {S : am_H} (hv : VH S) (r : Nat) : VH (mdS S r) := by
  have eR : nR (mdS S r) = nR S := by unfold nR; rw [mdS_n (by omega) (by omega)]
  have eD : nD (mdS S r) = nD S := by unfold nD; rw [mdS_n (by omega) (by omega)]
  have eP : nP (mdS S r) = nP S := by unfold nP; rw [mdS_n (by omega) (by omega)]
  have eT : nT (mdS S r) = nT S := by unfold nT; rw [mdS_n (by omega) (by omega)]
  obtain ⟨a1, a2, a3, a4, a5, a6, a7, a8, a9⟩ := hv
  unfold VH
  rw [eR, eD, eP, eT, mdS_n (c := 84) (by omega) (by omega), mdS_n (c := 88) (by omega) (by omega), mdS_n (c := 92) (by omega) (by omega), mdS_n (c := 95) (by omega) (by omega), mdS_n (c := 99) (by omega) (by omega), mdS_n (c := 87) (by omega) (by omega), mdS_n (c := 89) (by omega) (by omega), mdS_n (c := 90) (by omega) (by omega), mdS_n (c := 91) (by omega) (by omega), mdS_n (c := 93) (by omega) (by omega), mdS_n (c := 94) (by omega) (by omega), mdS_n (c := 96) (by omega) (by omega), mdS_n (c := 97) (by omega) (by omega), mdS_n (c := 98) (by omega) (by omega)]
  refine ⟨a1, a2, a3, a4, a5, fun r' hr' => ?_, a7, a8, a9⟩
  obtain ⟨p, q, w, hp, hq, hw, s1, s2, s3⟩ := a6 r' hr'
  rw [mdS_85, mdS_86]
  by_cases e : r' = r
  · rw [if_pos e, if_pos e]
    exact ⟨1, 1, w, by omega, by omega, hw, rfl, rfl, s3⟩
  · rw [if_neg e, if_neg e]
    exact ⟨p, q, w, hp, hq, hw, s1, s2, s3⟩
theorem mdS_ok {S : am_H} {r : Nat} {a : K_A} (ha : okA S a) : okA (mdS S r) a := by
  have eD : nD (mdS S r) = nD S := by unfold nD; rw [mdS_n (by omega) (by omega)]
  have eP : nP (mdS S r) = nP S := by unfold nP; rw [mdS_n (by omega) (by omega)]
  have eT : nT (mdS S r) = nT S := by unfold nT; rw [mdS_n (by omega) (by omega)]
  unfold okA at *
  rw [eD, eP, eT]
  exact ha
/-- whose ticks differ, as bits -/
def mB (K K' : K_T) : Nat → Nat → Int32 → Int32
  | _, 0, x => x
  | i, k + 1, x => mB K K' (i + 1) k (if K'.1 1 i = K.1 1 i then x else x ||| ((1 : Int32) <<< (nI i &&& 31)))
theorem mendC_loop (d : Nat) {h S : am_H} {o : Nat} {K K' : K_T} {r : Int32} (hP : nP S ≤ 4) (ho : (h 0 2).toNatClampNeg = o) (h16 : h o 16 = nI (nP S)) (h1 : ∀ i, i < nP S → h 34 i = K.1 1 i) (h2 : ∀ i, i < nP S → h 47 i = K'.1 1 i) : ∀ (k n i : Nat) (x : Int32), i + k = nP S → k < n → rC_mended d n 16 [some (vr 6 0), some (vi r), some (vi x), some (vi (nI i))] h = some (h, some (mB K K' i k x)) := by
  intro k
  induction k with
  | zero =>
    intro n i x hi hn
    obtain ⟨n, rfl⟩ : ∃ z, n = z + 1 := ⟨n - 1, by omega⟩
    rw [tC_mended_16, ho, h16, if_neg (nI_nlt (by omega) (by omega))]
    rfl
  | succ k ih =>
    intro n i x hi hn
    obtain ⟨n, rfl⟩ : ∃ z, n = z + 1 := ⟨n - 1, by omega⟩
    rw [tC_mended_16, ho, h16, if_pos (nI_lt (by omega) (by omega)), b_ok (by omega) (by omega), b_ok (by omega) (by omega), h1 i (by omega), h2 i (by omega), nI_1]
    unfold mB
    by_cases e : K'.1 1 i = K.1 1 i
    · rw [if_pos e, if_pos e, ih n (i + 1) _ (by omega) (by omega)]
    · rw [if_neg e, if_neg e, ih n (i + 1) _ (by omega) (by omega)]
theorem mendM_cmp (d : Nat) {S M : am_H} {K K' : K_T} {r p q : Int32} (hP : nP S ≤ 4) (h92 : M 92 0 = nI (nP S)) (h1 : ∀ i, i < nP S → M 123 i = K.1 1 i) (h2 : ∀ i, i < nP S → M 109 i = K'.1 1 i) : ∀ (k n i : Nat) (x : Int32), i + k = nP S → k < n → rM_mended d n 49 [some (vr 7 82), some (vi r), some (vi p), some (vi q), some (vi x), some (vi (nI i))] M = rM_mended d (n - k) 49 [some (vr 7 82), some (vi r), some (vi p), some (vi q), some (vi (mB K K' i k x)), some (vi (nI (nP S)))] M := by
  intro k
  induction k with
  | zero =>
    intro n i x hi hn
    have : i = nP S := by omega
    subst this
    rfl
  | succ k ih =>
    intro n i x hi hn
    obtain ⟨n, rfl⟩ : ∃ z, n = z + 1 := ⟨n - 1, by omega⟩
    rw [tM_mended_49, h92, if_pos (nI_lt (by omega) (by omega)), b_ok (by omega) (by omega), b_ok (by omega) (by omega), h1 i (by omega), h2 i (by omega), nI_1, show n + 1 - (k + 1) = n - k by omega]
    conv => rhs; unfold mB
    by_cases e : K'.1 1 i = K.1 1 i
    · rw [if_pos e, if_pos e, Int32.or_zero, ih n (i + 1) _ (by omega) (by omega)]
    · rw [if_neg e, if_neg e, ih n (i + 1) _ (by omega) (by omega)]
theorem mendM_cp (d : Nat) {r : Int32} {u3 u4 u5 : Option am_V} : ∀ (k n i : Nat) (M : am_H), i + k = 4 → k < n → ∃ M', rM_mended d n 9 [some (vr 7 82), some (vi r), some (vi (nI i)), u3, u4, u5] M = rM_mended d (n - k) 9 [some (vr 7 82), some (vi r), some (vi (nI 4)), u3, u4, u5] M' ∧ (∀ c, c ≠ 123 → M' c = M c) ∧ (∀ j, j < i → M' 123 j = M 123 j) ∧ ∀ j, i ≤ j → j < 4 → M' 123 j = M 109 j := by
  intro k
  induction k with
  | zero =>
    intro n i M hi hn
    have : i = 4 := by omega
    subst this
    exact ⟨M, rfl, fun _ _ => rfl, fun _ _ => rfl, fun j h1 h2 => by omega⟩
  | succ k ih =>
    intro n i M hi hn
    obtain ⟨n, rfl⟩ : ∃ z, n = z + 1 := ⟨n - 1, by omega⟩
    have hlt : nI i < 4 := nI_lt (b := 4) (by omega) (by omega)
    obtain ⟨M', g1, g2, g3, g4⟩ := ih n (i + 1) (am_up M 123 i (M 109 i)) (by omega) (by omega)
    refine ⟨M', ?_, fun c hc => by rw [g2 c hc, up_n hc], fun j hj => by rw [g3 j (by omega), up_d (by omega)], fun j h1 h2 => ?_⟩
    · rw [tM_mended_9, if_pos hlt, b_ok (by omega) (by omega), b_ok (by omega) (by omega), nI_1, g1, show n + 1 - (k + 1) = n - k by omega]
    · by_cases e : j = i
      · subst e; rw [g3 j (by omega), up_s]
      · rw [g4 j (by omega) h2, up_n (by omega)]
theorem P_mended (x : Int32) : Pr 76 158 [vi x] := by
  intro h S o o' tx as ks ss c m v
  have hv := m.1
  have hR := hv.1.2.2
  have hP := hv.2.2.1.2.2
  have ho := c.1.1
  have hal := v.2.1.1
  rw [gC_mended, gM_mended, gC_isRoom_ok 4 hv c, gM_isRoom_ok 4 hv, r1_ok, r1_ok]
  rcases ix_c (x := x) (n := nR S) (by omega) with hx | ⟨r, hr, rfl⟩
  · rw [if_pos (ix_no hx), if_pos (ix_no hx)]
    exact ⟨h, S, _, rfl, rfl, fun _ _ => rfl, fun _ _ => rfl, o, o', tx, as, ks, ss, c, m, v⟩
  · rw [if_neg (ix_yes hr (by omega)), if_neg (ix_yes hr (by omega))]
    have hvm := mdS_VH hv r
    have eP : nP (mdS S r) = nP S := by unfold nP; rw [mdS_n (by omega) (by omega)]
    have eT : nT (mdS S r) = nT S := by unfold nT; rw [mdS_n (by omega) (by omega)]
    have eR : nR (mdS S r) = nR S := by unfold nR; rw [mdS_n (by omega) (by omega)]
    have eD : nD (mdS S r) = nD S := by unfold nD; rw [mdS_n (by omega) (by omega)]
    -- the class
    obtain ⟨hB, hHB⟩ : ∃ hB, am_up (am_up (am_up h 45 0 (nI o)) 45 1 (nI r)) 45 14 0 = hB := ⟨_, rfl⟩
    have hBo : ∀ c, c ≠ 45 → hB c = h c := fun c hc => by rw [← hHB, up_n hc, up_n hc, up_n hc]
    have eB : EH 45 o hB (mdS S r) := by
      have e0 := c.eh hv
      obtain ⟨-, ⟨d1, d2, d3, d4⟩, -, d6, d7, d8⟩ := e0
      refine ⟨⟨by rw [← hHB]; simp [up_a], by omega, by omega⟩, ?_, fun r' hr' => ?_, ?_, ?_, ?_⟩
      · rw [eD, eP, eT, hBo o (by omega), mdS_n (by omega) (by omega)]
        exact ⟨d1, d2, d3, d4⟩
      · rw [eR] at hr'
        have h451 : hB 45 1 = nI r := by rw [← hHB]; simp [up_a]
        rw [h451, hBo (o + 4) (by omega), hBo (o + 5) (by omega)]
        obtain ⟨-, -, -, b4, b5⟩ := c.rh.2.1 r' hr'
        unfold hOf
        rw [mdS_85, mdS_86]
        by_cases e : r' = r
        · subst e
          simp only [if_true]
          exact ⟨by decide, by decide⟩
        · rw [if_neg (nI_ne e (by omega) (by omega)), if_neg (nI_ne e (by omega) (by omega)), if_neg e, if_neg e]
          exact ⟨b4, b5⟩
      · rw [eD, hBo (o + 6) (by omega), hBo (o + 7) (by omega), hBo (o + 8) (by omega), mdS_n (c := 89) (by omega) (by omega), mdS_n (c := 90) (by omega) (by omega), mdS_n (c := 91) (by omega) (by omega)]
        exact d6
      · rw [eP, hBo (o + 9) (by omega), hBo (o + 10) (by omega), mdS_n (c := 93) (by omega) (by omega), mdS_n (c := 94) (by omega) (by omega)]
        exact d7
      · rw [eT, hBo (o + 11) (by omega), mdS_n (c := 96) (by omega) (by omega)]
        exact d8
    obtain ⟨h2, g1, g2, g3⟩ := gC_doAgain_ok 1 hvm c.oo hHB eB (RAc_c (fun c q1 q2 => hBo c (by omega)) c.2.2.2.2.1) (fun a ha => mdS_ok (v.2.1.2 a ha)) hal
    have hall : ∀ c, ¬ (45 ≤ c ∧ c ≤ 57) → h2 c = h c := fun c hc => by rw [g3.1 c hc]; exact hBo c (by omega)
    have hloopC := mendC_loop 6 (K := kAll S as) (K' := kAll (mdS S r) as) (r := nI r) (h := h2) (S := S) (o := o) hP (by rw [hall 0 (by omega)]; exact c.oo) (by rw [hall o (by omega)]; exact c.rh.1.2.2.1.trans hv.2.2.1.1) (fun i hi => by rw [hall 34 (by omega)]; exact (c.rc.1 i hi).2.1) (fun i hi => (g2.1 i (by rw [eP]; exact hi)).2.1) (nP S) 999999 0 0 (by omega) (by omega)
    rw [nI_0] at hloopC
    rw [g1, r0_ok, hloopC]
    -- the reference
    obtain ⟨M1, f1, f2, -, f4⟩ := mendM_cp 6 (r := nI r) (u3 := none) (u4 := none) (u5 := none) 4 999999 0 S (by omega) (by omega)
    rw [nI_0] at f1
    have sM1 : sH (mdS S r) (am_up (am_up M1 85 r 1) 86 r 1) := fun c q1 q2 => by
      funext j
      unfold mdS
      simp only [up_a, f2 c (by omega), f2 85 (by omega), f2 86 (by omega)]
    have hv1 : VH (am_up (am_up M1 85 r 1) 86 r 1) := VH_congr sM1 hvm
    have hA1 : RAm (am_up (am_up M1 85 r 1) 86 r 1) 0 as := RAm_congr (fun c q1 q2 => by rw [up_n (by omega), up_n (by omega), f2 c (by omega)]) m.2.2.2.1
    obtain ⟨S3, k1, k2, k3⟩ := gM_goAll_ok 1 hv1 hA1 (fun a ha => sM1.ok (mdS_ok (v.2.1.2 a ha))) hal
    rw [sM1.ka] at k3
    have e3 : ∀ c, ¬ (108 ≤ c ∧ c ≤ 118) → c ≠ 85 → c ≠ 86 → c ≠ 123 → S3 c = S c := fun c q1 q2 q3 q4 => by rw [k2 c q1, up_n q3, up_n q2, f2 c q4]
    have e123 : ∀ i, i < nP S → S3 123 i = (kAll S as).1 1 i := fun i hi => by
      rw [k2 123 (by omega), up_n (by omega), up_n (by omega), f4 i (by omega) (by omega)]
      exact (m.2.2.1.1 i hi).2.1
    have eP1 : nP S3 = nP S := by unfold nP; rw [e3 92 (by omega) (by omega) (by omega) (by omega)]
    have hcmp := mendM_cmp 6 (S := S) (M := S3) (K := kAll S as) (K' := kAll (mdS S r) as) (r := nI r) (p := S 85 r) (q := S 86 r) hP (by rw [e3 92 (by omega) (by omega) (by omega) (by omega)]; exact hv.2.2.1.1) e123 (fun i hi => (k3.1 i (by rw [eP1]; exact hi)).2.1) (nP S) 999994 0 0 (by omega) (by omega)
    rw [nI_0] at hcmp
    have s4 : sH S (am_up (am_up S3 85 r (S 85 r)) 86 r (S 86 r)) := fun c q1 q2 => by
      funext j
      simp only [up_a]
      by_cases z1 : c = 86
      · subst z1
        by_cases z2 : j = r
        · simp [z2]
        · simp only [z2]
          rw [k2 86 (by omega), up_d z2, up_n (by omega), f2 86 (by omega)]
          simp
      · by_cases z3 : c = 85
        · subst z3
          by_cases z2 : j = r
          · simp [z2]
          · simp only [z2]
            rw [k2 85 (by omega), up_n (by omega), up_d z2, f2 85 (by omega)]
            simp
        · simp only [z1, z3]
          rw [e3 c (by omega) z3 z1 (by omega)]
          simp
    have hv4 := VH_congr s4 hv
    have hA4 : RAm (am_up (am_up S3 85 r (S 85 r)) 86 r (S 86 r)) 0 as := RAm_congr (fun c q1 q2 => by rw [up_n (by omega), up_n (by omega), e3 c (by omega) (by omega) (by omega) (by omega)]) m.2.2.2.1
    obtain ⟨S5, l1, l2, l3⟩ := gM_goAll_ok 1 hv4 hA4 (fun a ha => s4.ok (v.2.1.2 a ha)) hal
    have s5 : sH S S5 := fun c q1 q2 => by rw [l2 c (by omega)]; exact s4 c q1 q2
    have e5 : ∀ c, ¬ (108 ≤ c ∧ c ≤ 118) → c ≠ 85 → c ≠ 86 → c ≠ 123 → S5 c = S c := fun c q1 q2 q3 q4 => by rw [l2 c q1, up_n q3, up_n q2, e3 c q1 q2 q3 q4]
    refine ⟨h2, S5, mB (kAll S as) (kAll (mdS S r) as) 0 (nP S) 0, rfl, ?_, fun c hc => hall c (by omega), fun c hc => e5 c (by omega) (by omega) (by omega) (by omega), o, o', tx, as, ks, ss, ?_, ?_, s5.vi v⟩
    · have n4 : ¬ nI 4 < 4 := by decide
      rw [f1, show 999999 - 4 = 999994 + 1 from rfl, tM_mended_9, if_neg n4, b_ok (by omega) (by omega), b_ok (by omega) (by omega), b_ok (by omega) (by omega), b_ok (by omega) (by omega), f2 85 (by omega), f2 86 (by omega), k1, r0_ok, hcmp]
      obtain ⟨n, hn⟩ : ∃ n, 999994 - nP S = n + 1 := ⟨999994 - nP S - 1, by omega⟩
      rw [hn, tM_mended_49, e3 92 (by omega) (by omega) (by omega) (by omega), hv.2.2.1.1, if_neg (nI_nlt (Nat.le_refl _) (by omega)), b_ok (by omega) (by omega), b_ok (by omega) (by omega), l1, r0_ok]
    · refine CI_c c s5 (fun j _ => by rw [hall 0 (by omega)]) (fun c q1 q2 q3 => hall c (by omega)) ?_ ?_ ?_
      · rw [hall 0 (by omega), hall 1 (by omega)]; exact c.2.1
      · rw [hall 70 (by omega), hall 71 (by omega), hall 72 (by omega), hall 73 (by omega)]; exact c.2.2.2.2.2.2.1
      · rw [hall 79 (by omega)]; exact c.2.2.2.2.2.2.2
    · obtain ⟨m1, m2, m3, m4, ⟨m5, m6⟩, m7⟩ := m
      have q82 := e5 82 (by omega) (by omega) (by omega) (by omega)
      refine ⟨VH_congr s5 m1, by rw [q82, e5 83 (by omega) (by omega) (by omega) (by omega)]; exact m2, ?_, RAm_congr (fun c q1 q2 => e5 c (by omega) (by omega) (by omega) (by omega)) m4, ⟨by rw [q82]; exact m5, fun b l hl => RAm_congr (fun c q1 q2 => e5 c (by omega) (by omega) (by omega) (by omega)) (m6 b l hl)⟩, by rw [q82, e5 104 (by omega) (by omega) (by omega) (by omega), e5 105 (by omega) (by omega) (by omega) (by omega), e5 106 (by omega) (by omega) (by omega) (by omega)]; exact m7⟩
      rw [s5.ka, ← s4.ka]
      exact l3
