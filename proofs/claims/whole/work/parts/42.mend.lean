/-! A CLOCK THAT IS MENDED -/
def mdS (S : am_H) (r : Nat) : am_H := am_up (am_up S 85 r 1) 86 r 1
theorem mdS_n {S : am_H} {r c : Nat} (h1 : c ≠ 85) (h2 : c ≠ 86) : mdS S r c = S c := by unfold mdS; rw [up_n h2, up_n h1]
theorem mdS_85 (S : am_H) (r j : Nat) : mdS S r 85 j = if j = r then 1 else S 85 j := by unfold mdS; simp [up_a]
theorem mdS_86 (S : am_H) (r j : Nat) : mdS S r 86 j = if j = r then 1 else S 86 j := by unfold mdS; simp [up_a]
theorem mdS_VH {S : am_H} (hv : VH S) (r : Nat) : VH (mdS S r) := by
  have eR : nR (mdS S r) = nR S := by unfold nR; rw [mdS_n (by omega) (by omega)]
  have eD : nD (mdS S r) = nD S := by unfold nD; rw [mdS_n (by omega) (by omega)]
  have eP : nP (mdS S r) = nP S := by unfold nP; rw [mdS_n (by omega) (by omega)]
  have eT : nT (mdS S r) = nT S := by unfold nT; rw [mdS_n (by omega) (by omega)]
  obtain ⟨a1, a2, a3, a4, a5, a6, a7, a8, a9⟩ := hv
  unfold VH
  rw [eR, eD, eP, eT, mdS_n (c := 84) (by omega) (by omega), mdS_n (c := 88) (by omega) (by omega), mdS_n (c := 92) (by omega) (by omega), mdS_n (c := 95) (by omega) (by omega), mdS_n (c := 99) (by omega) (by omega), mdS_n (c := 87) (by omega) (by omega), mdS_n (c := 89) (by omega) (by omega), mdS_n (c := 90) (by omega) (by omega), mdS_n (c := 91) (by omega) (by omega), mdS_n (c := 93) (by omega) (by omega), mdS_n (c := 94) (by omega) (by omega), mdS_n (c := 96) (by omega) (by omega), mdS_n (c := 97) (by omega) (by omega), mdS_n (c := 98) (by omega) (by omega)]
  refine ⟨a1, a2, a3, a4, a5, fun r' hr' => ?_, a7, a8, a9⟩
  obtain ⟨p, q, w, hp, hq, hw, s1, s2, s3⟩ := a6 r' hr'
  rw [mdS_85, mdS_86]
  by_cases e : r' = r
  · rw [if_pos e, if_pos e]
    exact ⟨1, 1, w, by omega, by omega, hw, rfl, rfl, s3⟩
  · rw [if_neg e, if_neg e]
    exact ⟨p, q, w, hp, hq, hw, s1, s2, s3⟩
theorem mdS_ok {S : am_H} {r : Nat} {a : K_A} (ha : okA S a) : okA (mdS S r) a := by
  have eD : nD (mdS S r) = nD S := by unfold nD; rw [mdS_n (by omega) (by omega)]
  have eP : nP (mdS S r) = nP S := by unfold nP; rw [mdS_n (by omega) (by omega)]
  have eT : nT (mdS S r) = nT S := by unfold nT; rw [mdS_n (by omega) (by omega)]
  unfold okA at *
  rw [eD, eP, eT]
  exact ha
/-- whose ticks differ, as bits -/
def mB (K K' : K_T) : Nat → Nat → Int32 → Int32
  | _, 0, x => x
  | i, k + 1, x => mB K K' (i + 1) k (if K'.1 1 i = K.1 1 i then x else x ||| ((1 : Int32) <<< (nI i &&& 31)))
theorem mendC_loop (d : Nat) {h S : am_H} {o : Nat} {K K' : K_T} {r : Int32} (hP : nP S ≤ 4) (ho : (h 0 2).toNatClampNeg = o) (h16 : h o 16 = nI (nP S)) (h1 : ∀ i, i < nP S → h 34 i = K.1 1 i) (h2 : ∀ i, i < nP S → h 47 i = K'.1 1 i) : ∀ (k n i : Nat) (x : Int32), i + k = nP S → k < n → rC_mended d n 16 [some (vr 6 0), some (vi r), some (vi x), some (vi (nI i))] h = some (h, some (mB K K' i k x)) := by
  intro k
  induction k with
  | zero =>
    intro n i x hi hn
    obtain ⟨n, rfl⟩ : ∃ z, n = z + 1 := ⟨n - 1, by omega⟩
    rw [tC_mended_16, ho, h16, if_neg (nI_nlt (by omega) (by omega))]
    rfl
  | succ k ih =>
    intro n i x hi hn
    obtain ⟨n, rfl⟩ : ∃ z, n = z + 1 := ⟨n - 1, by omega⟩
    rw [tC_mended_16, ho, h16, if_pos (nI_lt (by omega) (by omega)), b_ok (by omega) (by omega), b_ok (by omega) (by omega), h1 i (by omega), h2 i (by omega), nI_1]
    unfold mB
    by_cases e : K'.1 1 i = K.1 1 i
    · rw [if_pos e, if_pos e, ih n (i + 1) _ (by omega) (by omega)]
    · rw [if_neg e, if_neg e, ih n (i + 1) _ (by omega) (by omega)]
theorem mendM_cmp (d : Nat) {S M : am_H} {K K' : K_T} {r p q : Int32} (hP : nP S ≤ 4) (h92 : M 92 0 = nI (nP S)) (h1 : ∀ i, i < nP S → M 123 i = K.1 1 i) (h2 : ∀ i, i < nP S → M 109 i = K'.1 1 i) : ∀ (k n i : Nat) (x : Int32), i + k = nP S → k < n → rM_mended d n 49 [some (vr 7 82), some (vi r), some (vi p), some (vi q), some (vi x), some (vi (nI i))] M = rM_mended d (n - k) 49 [some (vr 7 82), some (vi r), some (vi p), some (vi q), some (vi (mB K K' i k x)), some (vi (nI (nP S)))] M := by
  intro k
  induction k with
  | zero =>
    intro n i x hi hn
    have : i = nP S := by omega
    subst this
    rfl
  | succ k ih =>
    intro n i x hi hn
    obtain ⟨n, rfl⟩ : ∃ z, n = z + 1 := ⟨n - 1, by omega⟩
    rw [tM_mended_49, h92, if_pos (nI_lt (by omega) (by omega)), b_ok (by omega) (by omega), b_ok (by omega) (by omega), h1 i (by omega), h2 i (by omega), nI_1, show n + 1 - (k + 1) = n - k by omega]
    conv => rhs; unfold mB
    by_cases e : K'.1 1 i = K.1 1 i
    · rw [if_pos e, if_pos e, Int32.or_zero, ih n (i + 1) _ (by omega) (by omega)]
    · rw [if_neg e, if_neg e, ih n (i + 1) _ (by omega) (by omega)]
theorem mendM_cp (d : Nat) {r : Int32} {u3 u4 u5 : Option am_V} : ∀ (k n i : Nat) (M : am_H), i + k = 4 → k < n → ∃ M', rM_mended d n 9 [some (vr 7 82), some (vi r), some (vi (nI i)), u3, u4, u5] M = rM_mended d (n - k) 9 [some (vr 7 82), some (vi r), some (vi (nI 4)), u3, u4, u5] M' ∧ (∀ c, c ≠ 123 → M' c = M c) ∧ (∀ j, j < i → M' 123 j = M 123 j) ∧ ∀ j, i ≤ j → j < 4 → M' 123 j = M 109 j := by
  intro k
  induction k with
  | zero =>
    intro n i M hi hn
    have : i = 4 := by omega
    subst this
    exact ⟨M, rfl, fun _ _ => rfl, fun _ _ => rfl, fun j h1 h2 => by omega⟩
  | succ k ih =>
    intro n i M hi hn
    obtain ⟨n, rfl⟩ : ∃ z, n = z + 1 := ⟨n - 1, by omega⟩
    have hlt : nI i < 4 := nI_lt (b := 4) (by omega) (by omega)
    obtain ⟨M', g1, g2, g3, g4⟩ := ih n (i + 1) (am_up M 123 i (M 109 i)) (by omega) (by omega)
    refine ⟨M', ?_, fun c hc => by rw [g2 c hc, up_n hc], fun j hj => by rw [g3 j (by omega), up_d (by omega)], fun j h1 h2 => ?_⟩
    · rw [tM_mended_9, if_pos hlt, b_ok (by omega) (by omega), b_ok (by omega) (by omega), nI_1, g1, show n + 1 - (k + 1) = n - k by omega]
    · by_cases e : j = i
      · subst e; rw [g3 j (by omega), up_s]
      · rw [g4 j (by omega) h2, up_n (by omega)]
