theorem P_wipe : Pr 50 101 [] := by
  intro h S o o' tx as ks ss c m v
  rw [gC_wipe, gM_wipe, c.2.1.1, m.2.1.1]
  refine ⟨_, _, _, rfl, rfl, fun c hc => by rw [up_n (by omega)], fun c hc => by rw [up_n (by omega)], o, o', [], as, ks, ss, ?_, ?_, ?_⟩
  · refine CI_c c (fun c q1 q2 => by rw [up_n (by omega)]) (fun j hj => by rw [up_d hj]) (fun c q1 q2 q3 => by rw [up_n (by omega)]) ⟨by rw [up_s]; rfl, fun j y hy => by simp at hy⟩ ?_ ?_
    · simp only [up_a]
      simpa using c.2.2.2.2.2.2.1
    · simp only [up_a]
      simpa using c.2.2.2.2.2.2.2
  · refine MI_c m (fun c q1 q2 q3 => by rw [up_n (by omega)]) (by rw [up_d (by omega)]) ⟨by rw [up_s]; rfl, fun j y hy => by simp at hy⟩ ?_
    simp only [up_a]
    simpa using m.2.2.2.2.2
  · have hs : sH S (am_up S 82 0 0) := fun c q1 q2 => by rw [up_n (by omega)]
    obtain ⟨v1, v2⟩ := hs.vi v
    exact ⟨⟨by simp, fun y hy => by simp at hy⟩, v2⟩
theorem P_forget : Pr 73 153 [] := by
  intro h S o o' tx as ks ss c m v
  rw [gC_forget, gM_forget, c.2.2.2.2.2.2.1.1, m.2.2.2.2.2.1]
  refine ⟨_, _, _, rfl, rfl, fun c hc => by rw [up_n (by omega)], fun c hc => by rw [up_n (by omega)], o, o', tx, as, ks, [], ?_, ?_, ?_⟩
  · refine CI_c c (fun c q1 q2 => by rw [up_n (by omega)]) (fun j hj => by rw [up_n (by omega)]) (fun c q1 q2 q3 => by rw [up_n (by omega)]) ?_ ⟨by rw [up_s]; rfl, fun j y hy => by simp at hy⟩ ?_
    · simp only [up_a]
      simpa using c.2.1
    · simp only [up_a]
      simpa using c.2.2.2.2.2.2.2
  · refine MI_c m (fun c q1 q2 q3 => by rw [up_n (by omega)]) (by rw [up_d (by omega)]) ?_ ⟨by rw [up_s]; rfl, fun j y hy => by simp at hy⟩
    simp only [up_a]
    simpa using m.2.1
  · have hs : sH S (am_up S 82 23 0) := fun c q1 q2 => by rw [up_n (by omega)]
    obtain ⟨v1, v2, v3, v4⟩ := hs.vi v
    exact ⟨v1, v2, v3, by simp, fun y hy => by simp at hy⟩
/-- a number between two, as a number of things -/
theorem rng {x : Int32} {a b : Nat} (ha : a < 2 ^ 31) (hb : b < 2 ^ 31) : (¬ x < nI a ∧ ¬ nI b < x) ↔ ∃ n : Nat, a ≤ n ∧ n ≤ b ∧ x = nI n := by
  constructor
  · rintro ⟨h1, h2⟩
    rw [Int32.lt_iff_toInt_lt, nI_toInt ha] at h1
    rw [Int32.lt_iff_toInt_lt, nI_toInt hb] at h2
    refine ⟨x.toInt.toNat, by omega, by omega, ?_⟩
    rw [nI_ofInt, show ((x.toInt.toNat : Nat) : Int) = x.toInt by omega, of_ti]
  · rintro ⟨n, h1, h2, rfl⟩
    rw [nI_ltI (by omega) (by omega), nI_ltI (by omega) (by omega)]
    omega
theorem P_seen (x y z : Int32) : Pr 72 152 [vi x, vi y, vi z] := by
  intro h S o o' tx as ks ss c m v
  have hv := m.1
  have hR := hv.1.2.2
  have hl := v.2.2.2.1
  have stay : ∀ w : Int32, ∃ (h1 S1 : am_H) (v : Int32), some (h, some w) = some (h1, some v) ∧ some (S, some w) = some (S1, some v) ∧ (∀ c, 82 ≤ c → h1 c = h c) ∧ (∀ c, c < 82 → S1 c = S c) ∧
    ∃ (o1 o1' : Nat) (tx1 : List Nat) (as1 : List K_A) (ks1 : List (List K_A)) (ss1 : List K_A), CI h1 S1 o1 o1' tx1 as1 ks1 ss1 ∧ MI S1 tx1 as1 ks1 ss1 ∧ VI S1 tx1 as1 ks1 ss1 := fun w => ⟨h, S, w, rfl, rfl, fun _ _ => rfl, fun _ _ => rfl, o, o', tx, as, ks, ss, c, m, v⟩
  rw [gC_seen, gM_seen, gC_isRoom_ok 4 hv c, gM_isRoom_ok 4 hv, r1_ok, r1_ok]
  rcases ix_c (x := x) (n := nR S) (by omega) with hx | ⟨r, hr, rfl⟩
  · rw [if_pos (ix_no hx), if_pos (ix_no hx)]
    exact stay _
  · rw [if_neg (ix_yes hr (by omega)), if_neg (ix_yes hr (by omega)), gM_in_ok, r1_ok]
    by_cases hy : ¬ y < 1 ∧ ¬ 99 < y
    · rw [if_neg (fun q => yn_0.mp q hy), if_neg hy.1, if_neg hy.2, gM_in_ok, r1_ok]
      by_cases hz : ¬ z < 0 ∧ ¬ 400 < z
      · rw [if_neg (fun q => yn_0.mp q hz), if_neg hz.1, if_neg hz.2, gS_add, c.2.2.2.2.2.2.1.1, m.2.2.2.2.2.1]
        obtain ⟨t, ht1, ht2, rfl⟩ := (rng (a := 1) (b := 99) (by omega) (by omega)).mp hy
        obtain ⟨w, hw1, rfl⟩ := (in_c (n := 400) (by omega)).mp hz
        by_cases hf : ss.length = 8
        · have q1 : ¬ nI ss.length < 8 := by rw [hf]; decide
          have q2 : nI ss.length = 8 := by rw [hf]; rfl
          rw [if_neg q1, if_pos q2, r1_ok, if_pos rfl]
          exact stay _
        · have q1 : nI ss.length < 8 := nI_lt (b := 8) (by omega) (by omega)
          have q2 : ¬ nI ss.length = 8 := nI_ne (b := 8) hf (by omega) (by omega)
          rw [if_pos q1, if_neg q2]
          simp (disch := omega) only [b_ok, r1_ok, nI_1]
          rw [if_neg (by decide)]
          refine ⟨_, _, _, rfl, by rw [up_s], fun c hc => by rw [up_n (by omega), up_n (by omega), up_n (by omega), up_n (by omega)], fun c hc => by rw [up_n (by omega), up_n (by omega), up_n (by omega), up_n (by omega)], o, o', tx, as, ks, ss ++ [(r, t, w)], ?_, ?_, ?_⟩
          · refine CI_c c (fun c q1 q2 => by rw [up_n (by omega), up_n (by omega), up_n (by omega), up_n (by omega)]) (fun j hj => by rw [up_n (by omega), up_n (by omega), up_n (by omega), up_n (by omega)]) (fun c q1 q2 q3 => by rw [up_n (by omega), up_n (by omega), up_n (by omega), up_n (by omega)]) ?_ ⟨by rw [up_s]; simp, fun j y hy => ?_⟩ ?_
            · simp only [up_a]
              simpa using c.2.1
            · rcases app_get hy with ⟨g1, g2⟩ | ⟨rfl, rfl⟩
              · have := c.2.2.2.2.2.2.1.2 j y g2
                have hj : ¬ j = ss.length := by omega
                simpa [up_a, hj] using this
              · simp [up_a]
            · simp only [up_a]
              simpa using c.2.2.2.2.2.2.2
          · refine MI_c m (fun c q1 q2 q3 => by rw [up_n (by omega), up_n (by omega), up_n (by omega), up_n (by omega)]) (by rw [up_d (by omega), up_n (by omega), up_n (by omega), up_n (by omega)]) ?_ ⟨by rw [up_s]; simp, fun j y hy => ?_⟩
            · simp only [up_a]
              simpa using m.2.1
            · rcases app_get hy with ⟨g1, g2⟩ | ⟨rfl, rfl⟩
              · have := m.2.2.2.2.2.2 j y g2
                have hj : ¬ j = ss.length := by omega
                simpa [up_a, hj] using this
              · simp [up_a]
          · have hs : sH S (am_up (am_up (am_up (am_up S 104 ss.length (nI r)) 105 ss.length (nI t)) 106 ss.length (nI w)) 82 23 (nI (ss.length + 1))) := fun c q1 q2 => by rw [up_n (by omega), up_n (by omega), up_n (by omega), up_n (by omega)]
            obtain ⟨v1, v2, v3, v4⟩ := hs.vi v
            refine ⟨v1, v2, v3, by simp; omega, fun y hy => ?_⟩
            rcases List.mem_append.mp hy with g | g
            · exact v4.2 y g
            · have : y = (r, t, w) := by simpa using g
              rw [this, hs.eR]
              exact ⟨hr, ⟨ht1, ht2⟩, hw1⟩
      · rw [if_pos (yn_0.mpr hz)]
        by_cases q1 : z < 0
        · rw [if_pos q1]; exact stay _
        · rw [if_neg q1, if_pos (Decidable.byContradiction fun q => hz ⟨q1, q⟩)]; exact stay _
    · rw [if_pos (yn_0.mpr hy)]
      by_cases q1 : y < 1
      · rw [if_pos q1]; exact stay _
      · rw [if_neg q1, if_pos (Decidable.byContradiction fun q => hy ⟨q1, q⟩)]; exact stay _
