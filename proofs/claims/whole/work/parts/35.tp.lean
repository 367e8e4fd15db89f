theorem P_take (x y : Int32) : Pr 61 138 [vi x, vi y] := by
  intro h S o o' tx as ks ss c m v
  have hv := m.1
  have hP := hv.2.2.1.2.2
  have hT := hv.2.2.2.1.2
  have hal := v.2.1.1
  have stay : ∀ w : Int32, ∃ (h1 S1 : am_H) (v : Int32), some (h, some w) = some (h1, some v) ∧ some (S, some w) = some (S1, some v) ∧ (∀ c, 82 ≤ c → h1 c = h c) ∧ (∀ c, c < 82 → S1 c = S c) ∧
    ∃ (o1 o1' : Nat) (tx1 : List Nat) (as1 : List K_A) (ks1 : List (List K_A)) (ss1 : List K_A), CI h1 S1 o1 o1' tx1 as1 ks1 ss1 ∧ MI S1 tx1 as1 ks1 ss1 ∧ VI S1 tx1 as1 ks1 ss1 := fun w => ⟨h, S, w, rfl, rfl, fun _ _ => rfl, fun _ _ => rfl, o, o', tx, as, ks, ss, c, m, v⟩
  rw [gC_take, gM_take, gC_isPerson_ok 4 hv c, gM_isPerson_ok 4 hv, r1_ok, r1_ok]
  rcases ix_c (x := x) (n := nP S) (by omega) with hx | ⟨i, hi, rfl⟩
  · rw [if_pos (ix_no hx), if_pos (ix_no hx)]
    exact stay _
  · rw [if_neg (ix_yes hi (by omega)), if_neg (ix_yes hi (by omega)), gC_isThing_ok 4 hv c, gM_isThing_ok 4 hv, r1_ok, r1_ok]
    rcases ix_c (x := y) (n := nT S) (by omega) with hy | ⟨t, ht, rfl⟩
    · rw [if_pos (ix_no hy), if_pos (ix_no hy)]
      exact stay _
    · obtain ⟨a0, a1, -, -⟩ := m.2.2.1.1 i hi
      obtain ⟨b3, b4, b5, -⟩ := m.2.2.1.2.1 t ht
      rw [if_neg (ix_yes ht (by omega)), if_neg (ix_yes ht (by omega)), gK_canTake_ok 5 hv c.rc hi ht, r1_ok]
      simp (disch := omega) only [b_ok]
      rw [a0, a1, b3, b5]
      by_cases hb : (kAll S as).1 3 t = (kAll S as).1 0 i ∧ ¬ (kAll S as).1 1 i < (kAll S as).1 5 t
      · have hq : ¬ yn ((kAll S as).1 3 t = (kAll S as).1 0 i ∧ ¬ (kAll S as).1 1 i < (kAll S as).1 5 t) = 0 := fun q => yn_0.mp q hb
        rw [if_neg hq, if_pos hb.1, if_neg hb.2, m.2.2.2.1.1]
        by_cases hf : as.length = 40
        · have q2 : nI as.length = 40 := by rw [hf]; rfl
          rw [if_pos q2, act_full c hf, r1_ok, if_pos rfl]
          exact stay _
        · have q2 : ¬ nI as.length = 40 := nI_ne (b := 40) hf (by omega) (by omega)
          obtain ⟨h1, S1, S2, b, g1, g2, g3, g4, g5, gs, g6, g7, g8⟩ := act_ok c m v (by omega) (a := (2, i, t)) ⟨hi, Or.inr (Or.inr (Or.inl ⟨rfl, ht⟩))⟩
          dsimp only at g1 g2 g3
          rw [show nI 2 = (2 : Int32) from rfl] at g1 g2 g3
          have hv2 := g7.1
          have hT2 : nT S2 ≤ 5 := hv2.2.2.2.1.2
          obtain ⟨n, hn, hnn⟩ := tB_lt (kAll S2 (as ++ [(2, i, t)])) (nI i) (nT S2) 0 0 (by omega) (by omega)
          rw [nI_0] at hnn
          rw [if_neg q2, g1, r1_ok, if_neg (by decide), g2, r0_ok, g3, r1_ok, gK_thingsOf_ok 5 hv2 (g6.eh hv2) g6.rc, r1_ok, gM_thingsOf_ok 5 hv2 g7.2.2.1, r1_ok, hnn, bitCount_ok 5 h1 hn, r1_ok, bits_ok 5 S2 hn, r1_ok]
          exact ⟨h1, S2, _, rfl, rfl, g4, g5, o, o', tx, _, ks, ss, g6, g7, g8⟩
      · have hq : yn ((kAll S as).1 3 t = (kAll S as).1 0 i ∧ ¬ (kAll S as).1 1 i < (kAll S as).1 5 t) = 0 := yn_0.mpr hb
        rw [if_pos hq]
        by_cases q1 : (kAll S as).1 3 t = (kAll S as).1 0 i
        · rw [if_pos q1, if_pos (Decidable.byContradiction fun q => hb ⟨q1, q⟩)]; exact stay _
        · rw [if_neg q1]; exact stay _
theorem P_put (x y : Int32) : Pr 62 139 [vi x, vi y] := by
  intro h S o o' tx as ks ss c m v
  have hv := m.1
  have hP := hv.2.2.1.2.2
  have hT := hv.2.2.2.1.2
  have hal := v.2.1.1
  have stay : ∀ w : Int32, ∃ (h1 S1 : am_H) (v : Int32), some (h, some w) = some (h1, some v) ∧ some (S, some w) = some (S1, some v) ∧ (∀ c, 82 ≤ c → h1 c = h c) ∧ (∀ c, c < 82 → S1 c = S c) ∧
    ∃ (o1 o1' : Nat) (tx1 : List Nat) (as1 : List K_A) (ks1 : List (List K_A)) (ss1 : List K_A), CI h1 S1 o1 o1' tx1 as1 ks1 ss1 ∧ MI S1 tx1 as1 ks1 ss1 ∧ VI S1 tx1 as1 ks1 ss1 := fun w => ⟨h, S, w, rfl, rfl, fun _ _ => rfl, fun _ _ => rfl, o, o', tx, as, ks, ss, c, m, v⟩
  rw [gC_put, gM_put, gC_isPerson_ok 4 hv c, gM_isPerson_ok 4 hv, r1_ok, r1_ok]
  rcases ix_c (x := x) (n := nP S) (by omega) with hx | ⟨i, hi, rfl⟩
  · rw [if_pos (ix_no hx), if_pos (ix_no hx)]
    exact stay _
  · rw [if_neg (ix_yes hi (by omega)), if_neg (ix_yes hi (by omega)), gC_isThing_ok 4 hv c, gM_isThing_ok 4 hv, r1_ok, r1_ok]
    rcases ix_c (x := y) (n := nT S) (by omega) with hy | ⟨t, ht, rfl⟩
    · rw [if_pos (ix_no hy), if_pos (ix_no hy)]
      exact stay _
    · obtain ⟨a0, a1, -, -⟩ := m.2.2.1.1 i hi
      obtain ⟨b3, b4, b5, -⟩ := m.2.2.1.2.1 t ht
      rw [if_neg (ix_yes ht (by omega)), if_neg (ix_yes ht (by omega)), gK_canPut_ok 5 hv c.rc ht, r1_ok]
      simp (disch := omega) only [b_ok]
      rw [b4]
      by_cases hb : (kAll S as).1 4 t = nI i
      · have hq : ¬ yn ((kAll S as).1 4 t = nI i) = 0 := fun q => yn_0.mp q hb
        rw [if_neg hq, if_pos hb, m.2.2.2.1.1]
        by_cases hf : as.length = 40
        · have q2 : nI as.length = 40 := by rw [hf]; rfl
          rw [if_pos q2, act_full c hf, r1_ok, if_pos rfl]
          exact stay _
        · have q2 : ¬ nI as.length = 40 := nI_ne (b := 40) hf (by omega) (by omega)
          obtain ⟨h1, S1, S2, b, g1, g2, g3, g4, g5, gs, g6, g7, g8⟩ := act_ok c m v (by omega) (a := (3, i, t)) ⟨hi, Or.inr (Or.inr (Or.inr ⟨rfl, ht⟩))⟩
          dsimp only at g1 g2 g3
          rw [show nI 3 = (3 : Int32) from rfl] at g1 g2 g3
          have hv2 := g7.1
          have hT2 : nT S2 ≤ 5 := hv2.2.2.2.1.2
          obtain ⟨n, hn, hnn⟩ := tB_lt (kAll S2 (as ++ [(3, i, t)])) (nI i) (nT S2) 0 0 (by omega) (by omega)
          rw [nI_0] at hnn
          rw [if_neg q2, g1, r1_ok, if_neg (by decide), g2, r0_ok, g3, r1_ok, gK_thingsOf_ok 5 hv2 (g6.eh hv2) g6.rc, r1_ok, gM_thingsOf_ok 5 hv2 g7.2.2.1, r1_ok, hnn, bitCount_ok 5 h1 hn, r1_ok, bits_ok 5 S2 hn, r1_ok]
          exact ⟨h1, S2, _, rfl, rfl, g4, g5, o, o', tx, _, ks, ss, g6, g7, g8⟩
      · have hq : yn ((kAll S as).1 4 t = nI i) = 0 := yn_0.mpr hb
        rw [if_pos hq]
        rw [if_neg hb]; exact stay _
