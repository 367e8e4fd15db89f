/-! AN ACT MORE -/
theorem kAll_app (S : am_H) (as : List K_A) (a : K_A) : kAll S (as ++ [a]) = kAct S a (kAll S as) := by
  unfold kAll
  rw [List.foldl_append]
  rfl
section ACT
variable {h S : am_H} {o o' : Nat} {tx : List Nat} {as : List K_A} {ks : List (List K_A)} {ss : List K_A}
theorem act_full (c : CI h S o o' tx as ks ss) (hl : as.length = 40) (x y z : Int32) : am_g 6 83 [vr 6 0, vi x, vi y, vi z] h = some (h, some 0) := by
  have q1 : ¬ nI as.length < 40 := by rw [hl]; decide
  rw [gC_act, gA_add, c.2.2.2.2.1.1, if_neg q1, r1_ok, if_pos rfl]
theorem act_ok (c : CI h S o o' tx as ks ss) (m : MI S tx as ks ss) (v : VI S tx as ks ss) (hl : as.length < 40) {a : K_A} (ha : okA S a) :
    ∃ h1 S1 S2 b, am_g 6 83 [vr 6 0, vi (nI a.1), vi (nI a.2.1), vi (nI a.2.2)] h = some (h1, some 1) ∧ am_g 6 134 [vr 7 82, vi (nI a.1), vi (nI a.2.1), vi (nI a.2.2)] S = some (S1, none) ∧ am_g 6 122 [vr 7 82, vi (nI a.1), vi (nI a.2.1), vi (nI a.2.2)] S1 = some (S2, some b) ∧
      (∀ c, 82 ≤ c → h1 c = h c) ∧ (∀ c, c < 82 → S2 c = S c) ∧ sH S S2 ∧ CI h1 S2 o o' tx (as ++ [a]) ks ss ∧ MI S2 tx (as ++ [a]) ks ss ∧ VI S2 tx (as ++ [a]) ks ss := by
  have hv := m.1
  have hK := v.vk hv
  have ho := c.1.1
  -- the class
  have q1 : nI as.length < 40 := nI_lt (b := 40) hl (by omega)
  obtain ⟨hA, hH⟩ : ∃ hA, hA = am_up (am_up (am_up (am_up h 59 as.length (nI a.1)) 60 as.length (nI a.2.1)) 61 as.length (nI a.2.2)) 58 3 (nI (as.length + 1)) := ⟨_, rfl⟩
  have hadd : am_g 5 0 [vr 0 58, vi (nI a.1), vi (nI a.2.1), vi (nI a.2.2)] h = some (hA, some 1) := by
    rw [gA_add, c.2.2.2.2.1.1, if_pos q1]
    simp (disch := omega) only [up_n, b_ok, c.2.2.2.2.1.1, nI_1]
    rw [hH]
  have hoA : ∀ c, ¬ (58 ≤ c ∧ c ≤ 61) → hA c = h c := fun c hc => by rw [hH, up_n (by omega), up_n (by omega), up_n (by omega), up_n (by omega)]
  have eA : EH 32 o hA S := by
    have e0 := c.eh hv
    unfold EH at e0 ⊢
    rw [hoA 32 (by omega), hoA o (by omega), hoA (o + 4) (by omega), hoA (o + 5) (by omega), hoA (o + 6) (by omega), hoA (o + 7) (by omega), hoA (o + 8) (by omega), hoA (o + 9) (by omega), hoA (o + 10) (by omega), hoA (o + 11) (by omega)]
    exact e0
  have rA : RC 32 hA S (kAll S as) := RC_c (fun c q1 q2 => hoA c (by omega)) rfl rfl c.rc
  obtain ⟨h1, g1, g2, g3⟩ := gK_perform_ok 1 hv eA rA hK (by omega) ha
  -- the reference
  obtain ⟨S1, hS1⟩ : ∃ S1, S1 = am_up (am_up (am_up (am_up S 101 as.length (nI a.1)) 102 as.length (nI a.2.1)) 103 as.length (nI a.2.2)) 100 0 (nI (as.length + 1)) := ⟨_, rfl⟩
  have hnote : am_g 6 134 [vr 7 82, vi (nI a.1), vi (nI a.2.1), vi (nI a.2.2)] S = some (S1, none) := by
    rw [gM_note, m.2.2.2.1.1]
    simp (disch := omega) only [b_ok, nI_1]
    rw [hS1]
  have hoS : ∀ c, ¬ (100 ≤ c ∧ c ≤ 103) → S1 c = S c := fun c hc => by rw [hS1, up_n (by omega), up_n (by omega), up_n (by omega), up_n (by omega)]
  have sS1 : sH S S1 := fun c q1 q2 => hoS c (by omega)
  have hv1 : VH S1 := VH_congr sS1 hv
  have hR1 : RM S1 (kAll S as) := RM_c (fun c q1 q2 => hoS c (by omega)) sS1.eP sS1.eT m.2.2.1
  obtain ⟨S2, b, f1, f2, f3⟩ := gM_doAct_ok 2 hv1 hR1 (VKg_congr sS1.eP sS1.eR sS1.eT hK) (by omega) (sS1.ok ha)
  rw [kAct_congr sS1] at f2
  have sS2 : sH S S2 := fun c q1 q2 => by rw [f3 c (by omega)]; exact sS1 c q1 q2
  have hkey : kAll S2 (as ++ [a]) = kAct S a (kAll S as) := by rw [sS2.ka, kAll_app]
  refine ⟨h1, S1, S2, b, ?_, hnote, f1, fun c hc => by rw [g3.1 c (by omega)]; exact hoA c (by omega), fun c hc => by rw [f3 c (by omega)]; exact hoS c (by omega), sS2, ?_, ?_, ?_⟩
  · rw [gC_act, hadd, r1_ok, if_neg (by decide), g1, r0_ok]
  · have hall : ∀ c, ¬ (32 ≤ c ∧ c ≤ 44) → ¬ (58 ≤ c ∧ c ≤ 61) → h1 c = h c := fun c q1 q2 => by rw [g3.1 c (by omega)]; exact hoA c q2
    obtain ⟨c1, c2, c3, ⟨c4, c5, c6⟩, c7, ⟨c8, c9, c10⟩, c11, c12⟩ := c
    have c0 := hall 0 (by omega) (by omega)
    refine ⟨⟨c1.1, by rw [c0]; exact c1.2.1, by rw [c0]; exact c1.2.2⟩, by rw [c0, hall 1 (by omega) (by omega)]; exact c2, RH_c (fun c q1 q2 => hall c (by omega) (by omega)) sS2 c3, ⟨by rw [g3.2 0 (by omega), hoA 32 (by omega)]; exact c4, by rw [g3.2 1 (by omega), hoA 32 (by omega)]; exact c5, by rw [hkey]; exact RC_c (fun _ _ _ => rfl) sS2.eP sS2.eT g2⟩, ⟨?_, ?_⟩, ⟨by rw [c0]; exact c8, fun l hl => RAc_c (fun c q1 q2 => hall c (by omega) (by omega)) (c9 l hl), fun l hl => RAc_c (fun c q1 q2 => hall c (by omega) (by omega)) (c10 l hl)⟩, by rw [hall 70 (by omega) (by omega), hall 71 (by omega) (by omega), hall 72 (by omega) (by omega), hall 73 (by omega) (by omega)]; exact c11, by rw [hall 79 (by omega) (by omega)]; exact c12⟩
    · rw [g3.1 58 (by omega), hH, up_s]; simp
    · intro j x hx
      rw [g3.1 (58 + 1) (by omega), g3.1 (58 + 2) (by omega), g3.1 (58 + 3) (by omega), hH]
      rcases app_get hx with ⟨w1, w2⟩ | ⟨rfl, rfl⟩
      · have := c7.2 j x w2
        have hj : ¬ j = as.length := by omega
        simpa [up_a, hj] using this
      · simp [up_a]
  · obtain ⟨m1, m2, m3, m4, ⟨m5, m6⟩, m7⟩ := m
    have hall : ∀ c, ¬ (100 ≤ c ∧ c ≤ 103) → ¬ (108 ≤ c ∧ c ≤ 118) → S2 c = S c := fun c q1 q2 => by rw [f3 c q2]; exact hoS c q1
    refine ⟨VH_congr sS2 m1, by rw [hall 82 (by omega) (by omega), hall 83 (by omega) (by omega)]; exact m2, by rw [hkey]; exact f2, ⟨?_, ?_⟩, ⟨by rw [hall 82 (by omega) (by omega)]; exact m5, fun b' l hl' => ?_⟩, by rw [hall 82 (by omega) (by omega), hall 104 (by omega) (by omega), hall 105 (by omega) (by omega), hall 106 (by omega) (by omega)]; exact m7⟩
    · rw [f3 100 (by omega), hS1, up_s]; simp
    · intro j x hx
      rw [f3 101 (by omega), f3 102 (by omega), f3 103 (by omega), hS1]
      rcases app_get hx with ⟨w1, w2⟩ | ⟨rfl, rfl⟩
      · have := m4.2 j x w2
        have hj : ¬ j = as.length := by omega
        simpa [up_a, hj] using this
      · simp [up_a]
    · obtain ⟨k1, k2⟩ := m6 b' l hl'
      refine ⟨?_, fun j x hx => ?_⟩
      · rw [f3 100 (by omega), hS1, up_d (by omega), up_n (by omega), up_n (by omega), up_n (by omega)]
        exact k1
      · have := k2 j x hx
        have hj : ¬ 40 * (b' + 1) + j = as.length := by omega
        rw [f3 101 (by omega), f3 102 (by omega), f3 103 (by omega), hS1]
        simpa [up_a, hj] using this
  · obtain ⟨v1, ⟨v2, v3⟩, v4⟩ := sS2.vi v
    refine ⟨v1, ⟨by simp; omega, fun x hx => ?_⟩, v4⟩
    rcases List.mem_append.mp hx with g | g
    · exact v3 x g
    · have : x = a := by simpa using g
      rw [this]
      exact sS2.ok ha
end ACT
