theorem P_stay (x y : Int32) : Pr 59 136 [vi x, vi y] := by
  intro h S o o' tx as ks ss c m v
  have hv := m.1
  have hP := hv.2.2.1.2.2
  have hal := v.2.1.1
  have stay : ∀ w : Int32, ∃ (h1 S1 : am_H) (v : Int32), some (h, some w) = some (h1, some v) ∧ some (S, some w) = some (S1, some v) ∧ (∀ c, 82 ≤ c → h1 c = h c) ∧ (∀ c, c < 82 → S1 c = S c) ∧
    ∃ (o1 o1' : Nat) (tx1 : List Nat) (as1 : List K_A) (ks1 : List (List K_A)) (ss1 : List K_A), CI h1 S1 o1 o1' tx1 as1 ks1 ss1 ∧ MI S1 tx1 as1 ks1 ss1 ∧ VI S1 tx1 as1 ks1 ss1 := fun w => ⟨h, S, w, rfl, rfl, fun _ _ => rfl, fun _ _ => rfl, o, o', tx, as, ks, ss, c, m, v⟩
  rw [gC_stay, gM_stay, gC_isPerson_ok 4 hv c, gM_isPerson_ok 4 hv, r1_ok, r1_ok]
  rcases ix_c (x := x) (n := nP S) (by omega) with hx | ⟨i, hi, rfl⟩
  · rw [if_pos (ix_no hx), if_pos (ix_no hx)]
    exact stay _
  · rw [if_neg (ix_yes hi (by omega)), if_neg (ix_yes hi (by omega)), gM_in_ok, r1_ok]
    by_cases hy : ¬ y < 1 ∧ ¬ 24 < y
    · rw [if_neg (fun q => yn_0.mp q hy), if_neg hy.1, if_neg hy.2, m.2.2.2.1.1]
      obtain ⟨t, ht1, ht2, rfl⟩ := (rng (a := 1) (b := 24) (by omega) (by omega)).mp hy
      by_cases hf : as.length = 40
      · have q2 : nI as.length = 40 := by rw [hf]; rfl
        rw [if_pos q2, act_full c hf, r1_ok, if_pos rfl]
        exact stay _
      · have q2 : ¬ nI as.length = 40 := nI_ne (b := 40) hf (by omega) (by omega)
        obtain ⟨h1, S1, S2, b, g1, g2, g3, g4, g5, gs, g6, g7, g8⟩ := act_ok c m v (by omega) (a := (0, i, t)) ⟨hi, Or.inl ⟨rfl, ht1, ht2⟩⟩
        dsimp only at g1 g2 g3
        rw [nI_0] at g1 g2 g3
        have hP2 : nP S2 = nP S := gs.eP
        rw [if_neg q2, g1, r1_ok, if_neg (by decide), g2, r0_ok, g3, r1_ok, b_ok (by omega) (by omega), b_ok (by omega) (by omega), gC_told, r1_ok]
        have hi2 : i < nP S2 := by rw [hP2]; exact hi
        have e1 := (g6.rc.1 i hi2).2.1
        have e2 := (g7.2.2.1.1 i hi2).2.1
        refine ⟨h1, S2, _, rfl, ?_, g4, g5, o, o', tx, _, ks, ss, g6, g7, g8⟩
        rw [e2, ← e1]
    · rw [if_pos (yn_0.mpr hy)]
      by_cases q1 : y < 1
      · rw [if_pos q1]; exact stay _
      · rw [if_neg q1, if_pos (Decidable.byContradiction fun q => hy ⟨q1, q⟩)]; exact stay _
theorem P_go (x y : Int32) : Pr 60 137 [vi x, vi y] := by
  intro h S o o' tx as ks ss c m v
  have hv := m.1
  have hP := hv.2.2.1.2.2
  have hD := hv.2.1.2
  have hal := v.2.1.1
  have stay : ∀ w : Int32, ∃ (h1 S1 : am_H) (v : Int32), some (h, some w) = some (h1, some v) ∧ some (S, some w) = some (S1, some v) ∧ (∀ c, 82 ≤ c → h1 c = h c) ∧ (∀ c, c < 82 → S1 c = S c) ∧
    ∃ (o1 o1' : Nat) (tx1 : List Nat) (as1 : List K_A) (ks1 : List (List K_A)) (ss1 : List K_A), CI h1 S1 o1 o1' tx1 as1 ks1 ss1 ∧ MI S1 tx1 as1 ks1 ss1 ∧ VI S1 tx1 as1 ks1 ss1 := fun w => ⟨h, S, w, rfl, rfl, fun _ _ => rfl, fun _ _ => rfl, o, o', tx, as, ks, ss, c, m, v⟩
  rw [gC_go, gM_go, gC_isPerson_ok 4 hv c, gM_isPerson_ok 4 hv, r1_ok, r1_ok]
  rcases ix_c (x := x) (n := nP S) (by omega) with hx | ⟨i, hi, rfl⟩
  · rw [if_pos (ix_no hx), if_pos (ix_no hx)]
    exact stay _
  · rw [if_neg (ix_yes hi (by omega)), if_neg (ix_yes hi (by omega)), gC_isDoor_ok 4 hv c, gM_isDoor_ok 4 hv, r1_ok, r1_ok]
    rcases ix_c (x := y) (n := nD S) (by omega) with hy | ⟨t, ht, rfl⟩
    · rw [if_pos (ix_no hy), if_pos (ix_no hy)]
      exact stay _
    · rw [if_neg (ix_yes ht (by omega)), if_neg (ix_yes ht (by omega)), gK_canGo_ok 4 hv (c.eh hv) c.rc hi ht, r1_ok, b_ok (by omega) (by omega), (m.2.2.1.1 i hi).1, gM_isBeside_ok 5 hv ht, r1_ok]
      by_cases hb : bes S t ((kAll S as).1 0 i)
      · have hq : ¬ yn (bes S t ((kAll S as).1 0 i)) = 0 := fun q => yn_0.mp q hb
        rw [if_neg hq, if_neg hq, m.2.2.2.1.1]
        by_cases hf : as.length = 40
        · have q2 : nI as.length = 40 := by rw [hf]; rfl
          rw [if_pos q2, act_full c hf, r1_ok, if_pos rfl]
          exact stay _
        · have q2 : ¬ nI as.length = 40 := nI_ne (b := 40) hf (by omega) (by omega)
          obtain ⟨h1, S1, S2, b, g1, g2, g3, g4, g5, gs, g6, g7, g8⟩ := act_ok c m v (by omega) (a := (1, i, t)) ⟨hi, Or.inr (Or.inl ⟨rfl, ht⟩)⟩
          dsimp only at g1 g2 g3
          rw [show nI 1 = (1 : Int32) from rfl] at g1 g2 g3
          rw [if_neg q2, g1, r1_ok, if_neg (by decide), g2, r0_ok, g3, r1_ok, b_ok (by omega) (by omega), b_ok (by omega) (by omega), gC_told, r1_ok]
          have hi2 : i < nP S2 := by rw [gs.eP]; exact hi
          have e1 := (g6.rc.1 i hi2).2.1
          have e2 := (g7.2.2.1.1 i hi2).2.1
          refine ⟨h1, S2, _, rfl, ?_, g4, g5, o, o', tx, _, ks, ss, g6, g7, g8⟩
          rw [e2, ← e1]
      · have hq : yn (bes S t ((kAll S as).1 0 i)) = 0 := yn_0.mpr hb
        rw [if_pos hq, if_pos hq]
        exact stay _
/-! how many bits -/
def pcn : Nat → Nat → Nat
  | 0, _ => 0
  | f + 1, n => if n = 0 then 0 else 1 + pcn f (n &&& (n - 1))
theorem tB_lt (K : K_T) (i : Int32) : ∀ (k t x : Nat), t + k ≤ 5 → x < 32 → ∃ n, n < 32 ∧ tB K i t k (nI x) = nI n := by
  intro k
  induction k with
  | zero => intro t x _ hx; exact ⟨x, hx, rfl⟩
  | succ k ih =>
    intro t x ht hx
    unfold tB
    split
    · have key : ∀ t, t < 5 → ∀ x, x < 32 → nI x ||| ((1 : Int32) <<< (nI t &&& 31)) = nI (x ||| (1 <<< t)) ∧ (x ||| (1 <<< t)) < 32 := by decide +kernel
      obtain ⟨k1, k2⟩ := key t (by omega) x hx
      rw [k1]
      exact ih (t + 1) _ (by omega) k2
    · exact ih (t + 1) x (by omega) hx
theorem bits_step : ∀ n, n < 32 → 0 < n → nI n &&& (nI n - 1) = nI (n &&& (n - 1)) ∧ n &&& (n - 1) < n := by decide +kernel
theorem bits_loop (d : Nat) (S : am_H) (x0 : Int32) : ∀ (f m n k : Nat), n < 32 → n < f → f ≤ m → rM_bits d m 5 [some (vi x0), some (vi (nI k)), some (vi (nI n))] S = some (S, some (nI (k + pcn f n))) := by
  intro f
  induction f with
  | zero => intro m n k _ h; omega
  | succ f ih =>
    intro m n k hn hf hm
    obtain ⟨m, rfl⟩ : ∃ q, m = q + 1 := ⟨m - 1, by omega⟩
    rw [tM_bits_5]
    unfold pcn
    by_cases e : n = 0
    · subst e
      rw [nI_0, if_pos rfl, if_pos rfl]
      simp
    · obtain ⟨s1, s2⟩ := bits_step n hn (by omega)
      rw [if_neg (nI_ne0 (by omega) (by omega)), if_neg e, s1, nI_1, ih m _ (k + 1) (by omega) (by omega) (by omega)]
      congr 4
      omega
theorem bitCount_ok (d : Nat) (h : am_H) {n : Nat} (hn : n < 32) : am_g (d + 1) 164 [vi (nI n)] h = some (h, some (nI (pcn 32 n))) := by
  rw [gJ_bitCount]
  congr 3
  revert hn
  revert n
  decide +kernel
theorem bits_ok (d : Nat) (S : am_H) {n : Nat} (hn : n < 32) : am_g (d + 1) 135 [vi (nI n)] S = some (S, some (nI (pcn 32 n))) := by
  have := bits_loop d S (nI n) 32 999999 n 0 hn (by omega) (by omega)
  rw [gM_bits]
  rw [nI_0, Nat.zero_add] at this
  exact this
