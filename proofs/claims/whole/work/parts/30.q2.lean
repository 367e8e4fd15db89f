/-- the worth of a thing that is so old -/
def wOf (S : am_H) (t : Nat) (x : Int32) : Int32 := if S 97 t = nI 0 then S 98 t else if S 97 t = nI 1 then (if x / 144 < S 98 t then S 98 t - x / 144 else 0) else if S 97 t = nI 2 then (if x / 144 < S 98 t then 0 else 1) else (if x / 144 < S 98 t then 1 else 0)
theorem gM_worthOf_ok (d : Nat) {S : am_H} (hv : VH S) {t : Nat} (ht : t < nT S) (x : Int32) : am_g (d + 1) 132 [vr 7 82, vi (nI t), vi x] S = some (S, some (wOf S t x)) := by
  have hT := hv.2.2.2.1.2
  rw [gM_worthOf]
  simp (disch := omega) only [b_ok]
  unfold wOf
  by_cases h0 : S 97 t = nI 0
  · rw [if_pos h0, if_pos h0]
  · rw [if_neg h0, if_neg h0]
    by_cases h1 : S 97 t = nI 1
    · rw [if_pos h1, if_pos h1]; split <;> rfl
    · rw [if_neg h1, if_neg h1]
      by_cases h2 : S 97 t = nI 2
      · rw [if_pos h2, if_pos h2]; split <;> rfl
      · rw [if_neg h2, if_neg h2]; split <;> rfl
theorem div144 (x : Int32) : -14913081 ≤ (x / 144).toInt ∧ (x / 144).toInt ≤ 14913081 := by
  have hx1 := Int32.le_toInt x
  have hx2 := Int32.toInt_lt x
  have hq := Int.tmod_add_mul_tdiv x.toInt 144
  have ht1 := Int.tmod_lt_of_pos x.toInt (show (0 : Int) < 144 by omega)
  have ht2 := Int.tmod_lt_of_pos (-x.toInt) (show (0 : Int) < 144 by omega)
  rw [Int.neg_tmod] at ht2
  have e : (x / 144).toInt = x.toInt.tdiv 144 := by
    rw [Int32.toInt_div]
    have : ((144 : Int32)).toInt = 144 := rfl
    rw [this]
    unfold Int.bmod
    dsimp only
    split <;> omega
  rw [e]
  omega
theorem gH_worthOf_ok (d : Nat) {o : Nat} {h S : am_H} (hv : VH S) (hR : ∀ t, t < nT S → h (o + 11) t = S 96 t ∧ h (o + 12) t = S 97 t ∧ h (o + 13) t = S 98 t) {t : Nat} (ht : t < nT S) (x : Int32) : am_g (d + 2) 33 [vr 2 o, vi (nI t), vi x] h = some (h, some (wOf S t x)) := by
  have hT := hv.2.2.2.1.2
  obtain ⟨-, e2, e3⟩ := hR t ht
  obtain ⟨r, k, n, -, -, hn, -, -, s3⟩ := hv.2.2.2.2.2.2.2.2 t ht
  rw [gH_worthOf]
  simp (disch := omega) only [b_ok]
  rw [e2, e3]
  unfold wOf
  by_cases h0 : S 97 t = nI 0
  · rw [if_pos h0, if_pos h0]
  · rw [if_neg h0, if_neg h0]
    by_cases h1 : S 97 t = nI 1
    · rw [if_pos h1, if_pos h1, max_ok, r1_ok]
      have hd := div144 x
      have hn' : (nI n).toInt = n := nI_toInt (by omega)
      have hs : (nI n - x / 144).toInt = n - (x / 144).toInt := by
        rw [ti_sub] <;> rw [hn'] <;> omega
      have z : ((0 : Int32)).toInt = 0 := rfl
      rw [s3]
      have key : (if nI n - x / 144 < 0 then (0 : Int32) else nI n - x / 144) = if x / 144 < nI n then nI n - x / 144 else 0 := by
        by_cases q : x / 144 < nI n
        · rw [if_pos q, if_neg]
          rw [Int32.lt_iff_toInt_lt, hn'] at q
          rw [Int32.lt_iff_toInt_lt, hs, z]
          omega
        · rw [if_neg q]
          rw [Int32.lt_iff_toInt_lt, hn'] at q
          split
          · rfl
          · rename_i q2
            rw [Int32.lt_iff_toInt_lt, hs, z] at q2
            apply Int32.toInt.inj
            rw [hs, z]
            omega
      rw [key]
    · rw [if_neg h1, if_neg h1]
      by_cases h2 : S 97 t = nI 2
      · rw [if_pos h2, if_pos h2]; split <;> rfl
      · rw [if_neg h2, if_neg h2]; split <;> rfl
theorem tick_q (d : Nat) (y : Int32) (h : am_H) : am_g (d + 1) 90 [vi y] h = some (h, some (yn (¬ y < -9999 ∧ ¬ 9999 < y))) := by
  rw [gC_isTickToTell]
  unfold yn
  by_cases h1 : y < -9999
  · simp [h1]
  · by_cases h2 : 9999 < y <;> simp [h1, h2]
theorem neg4 : ((-4 : Int32) < 0) := by decide
theorem P_worth (x y : Int32) : Pr 58 133 [vi x, vi y] := by
  refine Pr_q fun h S o o' tx as ks ss c m v => ?_
  have hv := m.1
  have hT := hv.2.2.2.1.2
  have hR6 := hv.1.2.2
  have hK := v.vk hv
  rw [gC_worth, gM_worth, gC_isThing_ok 4 hv c, gM_isThing_ok 4 hv, r1_ok, r1_ok]
  rcases ix_c (x := x) (n := nT S) (by omega) with hx | ⟨t, ht, rfl⟩
  · rw [if_pos (ix_no hx), if_pos (ix_no hx)]
    exact ⟨_, rfl, rfl⟩
  · rw [if_neg (ix_yes ht (by omega)), if_neg (ix_yes ht (by omega)), gM_in_ok, r1_ok, tick_q, r1_ok]
    by_cases hy : ¬ y < -9999 ∧ ¬ 9999 < y
    · rw [if_neg (fun q => yn_0.mp q hy), if_neg (fun q => yn_0.mp q hy), c.oo]
      obtain ⟨b5, b6, b7, b8⟩ := c.rc.2.1 t ht
      obtain ⟨a3, a4, a5, a6⟩ := m.2.2.1.2.1 t ht
      simp (disch := omega) only [b_ok]
      rw [b5, b7, a3, a5, a6]
      rcases (hK.2.1 t ht).1 with ⟨⟨r, hr, hl⟩, -⟩ | ⟨hl, -⟩
      · rw [hl, if_neg (m4_ne (by omega)), if_neg (nI_pos (by omega))]
        by_cases q : y < (kAll S as).1 5 t
        · rw [if_pos q, if_pos q]; exact ⟨_, rfl, rfl⟩
        · rw [if_neg q, if_neg q, gK_wornAt_ok 4 hv (c.eh hv) c.rc ht hr hl, r1_ok, gH_worthOf_ok 4 hv c.rh.2.2.2.2 ht, r1_ok, gM_oldBy_ok 5 hv hr, r1_ok, gM_worthOf_ok 5 hv ht, r1_ok]
          exact ⟨_, rfl, rfl⟩
      · rw [hl, if_pos rfl, if_pos neg4]; exact ⟨_, rfl, rfl⟩
    · rw [if_pos (yn_0.mpr hy), if_pos (yn_0.mpr hy)]
      exact ⟨_, rfl, rfl⟩
theorem P_thing (x y : Int32) : Pr 57 131 [vi x, vi y] := by
  refine Pr_q fun h S o o' tx as ks ss c m v => ?_
  have hv := m.1
  have hT := hv.2.2.2.1.2
  have hR6 := hv.1.2.2
  have hK := v.vk hv
  rw [gC_thing, gM_thing, gC_isThing_ok 4 hv c, gM_isThing_ok 4 hv, r1_ok, r1_ok]
  rcases ix_c (x := x) (n := nT S) (by omega) with hx | ⟨t, ht, rfl⟩
  · rw [if_pos (ix_no hx), if_pos (ix_no hx)]
    exact ⟨_, rfl, rfl⟩
  · rw [if_neg (ix_yes ht (by omega)), if_neg (ix_yes ht (by omega)), gM_in_ok, r1_ok, c.oo]
    obtain ⟨b5, b6, b7, b8⟩ := c.rc.2.1 t ht
    obtain ⟨a3, a4, a5, a6⟩ := m.2.2.1.2.1 t ht
    obtain ⟨-, e2, e3⟩ := c.rh.2.2.2.2 t ht
    simp (disch := omega) only [b_ok]
    rw [b5, b6, b7, b8, a3, a4, a5, a6, e2, e3, gC_told, r1_ok]
    by_cases hy : ¬ y < 0 ∧ ¬ 5 < y
    · rw [if_neg (fun q => yn_0.mp q hy)]
      obtain ⟨j, hj, rfl⟩ := (in_c (n := 5) (by omega)).mp hy
      have : j = 0 ∨ j = 1 ∨ j = 2 ∨ j = 3 ∨ j = 4 ∨ j = 5 := by omega
      rcases this with rfl | rfl | rfl | rfl | rfl | rfl
      · exact ⟨_, rfl, rfl⟩
      · exact ⟨_, rfl, rfl⟩
      · exact ⟨_, rfl, rfl⟩
      · exact ⟨_, rfl, rfl⟩
      · rcases (hK.2.1 t ht).1 with ⟨⟨r, hr, hl⟩, -⟩ | ⟨hl, -⟩
        · rw [hl, if_neg (m4_ne (by omega)), if_neg (nI_pos (by omega))]
          exact ⟨_, rfl, rfl⟩
        · rw [hl, if_pos rfl, if_pos neg4]
          exact ⟨_, rfl, rfl⟩
      · exact ⟨_, rfl, rfl⟩
    · rw [if_pos (yn_0.mpr hy)]
      have hne : ∀ j, j ≤ 5 → ¬ y = nI j := fun j hj q => hy ((in_c (n := 5) (by omega)).mpr ⟨j, hj, q⟩)
      rw [if_neg (hne 0 (by omega)), if_neg (hne 1 (by omega)), if_neg (hne 2 (by omega)), if_neg (hne 3 (by omega)), if_neg (hne 4 (by omega)), if_neg (hne 5 (by omega))]
      exact ⟨_, rfl, rfl⟩
/-- what one has, as bits: the loop -/
def tB (K : K_T) (i : Int32) : Nat → Nat → Int32 → Int32
  | _, 0, x => x
  | t, k + 1, x => tB K i (t + 1) k (if K.1 4 t = i then x ||| ((1 : Int32) <<< (nI t &&& 31)) else x)
theorem thingsC_ok (d : Nat) {k o : Nat} {h S : am_H} {K : K_T} (hv : VH S) (e : EH k o h S) (hR : RC k h S K) (i : Int32) : ∀ (m n t : Nat) (x : Int32), t + m = nT S → m < n → rK_thingsOf d n 5 [some (vr 1 k), some (vi i), some (vi x), some (vi (nI t))] h = some (h, some (tB K i t m x)) := by
  have hT := hv.2.2.2.1.2
  intro m
  induction m with
  | zero =>
    intro n t x ht hn
    obtain ⟨n, rfl⟩ : ∃ m, n = m + 1 := ⟨n - 1, by omega⟩
    rw [tK_thingsOf_5, e.o, e.2.1.2.2.1, if_neg (nI_nlt (by omega) (by omega))]
    rfl
  | succ m ih =>
    intro n t x ht hn
    obtain ⟨n, rfl⟩ : ∃ m, n = m + 1 := ⟨n - 1, by omega⟩
    obtain ⟨-, b6, -⟩ := hR.2.1 t (by omega)
    rw [tK_thingsOf_5, e.o, e.2.1.2.2.1, if_pos (nI_lt (by omega) (by omega)), b_ok (by omega) (by omega), b6, nI_1]
    unfold tB
    by_cases q : K.1 4 t = i
    · rw [if_pos q, if_pos q, ih n (t + 1) _ (by omega) (by omega)]
    · rw [if_neg q, if_neg q, ih n (t + 1) _ (by omega) (by omega)]
theorem thingsM_ok (d : Nat) {S : am_H} {K : K_T} (hv : VH S) (hR : RM S K) (i : Int32) : ∀ (m n t : Nat) (x : Int32), t + m = nT S → m < n → rM_thingsOf d n 5 [some (vr 7 82), some (vi i), some (vi x), some (vi (nI t))] S = some (S, some (tB K i t m x)) := by
  have hT := hv.2.2.2.1
  intro m
  induction m with
  | zero =>
    intro n t x ht hn
    obtain ⟨n, rfl⟩ : ∃ m, n = m + 1 := ⟨n - 1, by omega⟩
    rw [tM_thingsOf_5, hT.1, if_neg (nI_nlt (by omega) (by omega))]
    rfl
  | succ m ih =>
    intro n t x ht hn
    obtain ⟨n, rfl⟩ : ∃ m, n = m + 1 := ⟨n - 1, by omega⟩
    obtain ⟨-, b6, -⟩ := hR.2.1 t (by omega)
    rw [tM_thingsOf_5, hT.1, if_pos (nI_lt (by omega) (by omega)), b_ok (by omega) (by omega), b6, nI_1]
    unfold tB
    by_cases q : K.1 4 t = i
    · rw [if_pos q, if_pos q, ih n (t + 1) _ (by omega) (by omega)]
    · rw [if_neg q, if_neg q, Int32.or_zero, ih n (t + 1) _ (by omega) (by omega)]
theorem gK_thingsOf_ok (d : Nat) {k o : Nat} {h S : am_H} {K : K_T} (hv : VH S) (e : EH k o h S) (hR : RC k h S K) (i : Int32) : am_g (d + 1) 15 [vr 1 k, vi i] h = some (h, some (tB K i 0 (nT S) 0)) := by
  have hT := hv.2.2.2.1.2
  have := thingsC_ok d hv e hR i (nT S) 999999 0 0 (by omega) (by omega)
  rw [nI_0] at this
  rw [gK_thingsOf, this]
theorem gM_thingsOf_ok (d : Nat) {S : am_H} {K : K_T} (hv : VH S) (hR : RM S K) (i : Int32) : am_g (d + 1) 129 [vr 7 82, vi i] S = some (S, some (tB K i 0 (nT S) 0)) := by
  have hT := hv.2.2.2.1.2
  have := thingsM_ok d hv hR i (nT S) 999999 0 0 (by omega) (by omega)
  rw [nI_0] at this
  rw [gM_thingsOf, this]
/-- how many visits: counted along the list -/
theorem visC_ok (d : Nat) {k : Nat} {h S : am_H} {K : K_T} (hR : RC k h S K) (hl : K.2.length ≤ 44) (hw : ∀ v ∈ K.2, v.1 < 2 ^ 31) {i : Nat} (hi : i < 2 ^ 31) : ∀ (l2 l1 : List K_V) (n x : Nat), K.2 = l1 ++ l2 → l1.length < n → cV i l2 = x →
    rK_visitsOf d n 5 [some (vr 1 k), some (vi (nI i)), some (vi (nI x)), some (vi (nI l2.length))] h = some (h, some (nI (cV i K.2))) := by
  intro l2 l1
  generalize hm : l1.length = m
  induction m generalizing l1 l2 with
  | zero =>
    intro n x he hn hx
    obtain ⟨n, rfl⟩ : ∃ m, n = m + 1 := ⟨n - 1, by omega⟩
    have : l1 = [] := List.eq_nil_of_length_eq_zero hm
    subst this
    have he : K.2 = l2 := he
    have hl2 : l2.length ≤ 44 := by rw [← he]; exact hl
    rw [tK_visitsOf_5, hR.2.2.1, he, if_neg (nI_nlt (Nat.le_refl _) (by omega)), hx]
  | succ m ih =>
    intro n x he hn hx
    obtain ⟨n, rfl⟩ : ∃ m, n = m + 1 := ⟨n - 1, by omega⟩
    obtain ⟨l1', v, rfl⟩ : ∃ l1' v, l1 = l1' ++ [v] := by
      have hne : l1 ≠ [] := by intro q; rw [q] at hm; simp at hm
      exact ⟨l1.dropLast, l1.getLast hne, (List.dropLast_concat_getLast hne).symm⟩
    have hlen : l1'.length = m := by simpa using hm
    have he2 : K.2 = l1' ++ (v :: l2) := by rw [he]; simp
    have hlt : l2.length < K.2.length := by rw [he2]; simp; omega
    have hvis : ∀ (l : List K_V), vC k h (l ++ (v :: l2)) → h (k + 9) l2.length = nI v.1 := by
      intro l
      induction l with
      | nil => intro q; obtain ⟨w, r, a, b⟩ := v; exact q.1
      | cons y l ih2 => intro q; obtain ⟨w, r, a, b⟩ := y; exact ih2 q.2.2.2.2
    have h9 := hvis l1' (by rw [← he2]; exact hR.2.2.2)
    have hv1 : v.1 < 2 ^ 31 := hw v (by rw [he2]; simp)
    rw [tK_visitsOf_5, hR.2.2.1, if_pos (nI_lt hlt (by omega)), b_ok (by omega) (by omega), h9, nI_1, nI_1]
    obtain ⟨w, r, a, b⟩ := v
    by_cases q : w = i
    · rw [if_pos (by rw [q])]
      exact ih ((w, r, a, b) :: l2) l1' hlen n (x + 1) he2 (by omega) (by simp only [cV, q, if_true]; omega)
    · rw [if_neg (nI_ne q hv1 hi)]
      exact ih ((w, r, a, b) :: l2) l1' hlen n x he2 (by omega) (by simp only [cV, q, if_false]; omega)
theorem gK_visitsOf_ok (d : Nat) {k : Nat} {h S : am_H} {K : K_T} (hR : RC k h S K) (hl : K.2.length ≤ 44) (hw : ∀ v ∈ K.2, v.1 < 2 ^ 31) {i : Nat} (hi : i < 2 ^ 31) : am_g (d + 1) 16 [vr 1 k, vi (nI i)] h = some (h, some (nI (cV i K.2))) := by
  have := visC_ok d hR hl hw hi [] K.2 999999 0 (by simp) (by omega) rfl
  rw [gK_visitsOf]
  simp only [List.length_nil, nI_0] at this
  exact this
theorem P_person (x y : Int32) : Pr 56 130 [vi x, vi y] := by
  refine Pr_q fun h S o o' tx as ks ss c m v => ?_
  have hv := m.1
  have hP := hv.2.2.1.2.2
  have hK := v.vk hv
  have hal := v.2.1.1
  rw [gC_person, gM_person, gC_isPerson_ok 4 hv c, gM_isPerson_ok 4 hv, r1_ok, r1_ok]
  rcases ix_c (x := x) (n := nP S) (by omega) with hx | ⟨i, hi, rfl⟩
  · rw [if_pos (ix_no hx), if_pos (ix_no hx)]
    exact ⟨_, rfl, rfl⟩
  · rw [if_neg (ix_yes hi (by omega)), if_neg (ix_yes hi (by omega)), gM_in_ok, r1_ok]
    obtain ⟨b1, b2, b3, b4⟩ := c.rc.1 i hi
    obtain ⟨a0, a1, a2, a5⟩ := m.2.2.1.1 i hi
    simp (disch := omega) only [b_ok]
    have hlen := hK.2.2.1
    rw [b1, b2, b3, a0, a1, a2, a5, gC_told, r1_ok, gK_thingsOf_ok 5 hv (c.eh hv) c.rc, r1_ok, gM_thingsOf_ok 5 hv m.2.2.1, r1_ok, gK_visitsOf_ok 5 c.rc (by omega) (fun w hw => by have := (hK.2.2.2 w hw).1; omega) (by omega), r1_ok]
    by_cases hy : ¬ y < 0 ∧ ¬ 4 < y
    · rw [if_neg (fun q => yn_0.mp q hy)]
      obtain ⟨j, hj, rfl⟩ := (in_c (n := 4) (by omega)).mp hy
      have : j = 0 ∨ j = 1 ∨ j = 2 ∨ j = 3 ∨ j = 4 := by omega
      rcases this with rfl | rfl | rfl | rfl | rfl <;> exact ⟨_, rfl, rfl⟩
    · rw [if_pos (yn_0.mpr hy)]
      have hne : ∀ j, j ≤ 4 → ¬ y = nI j := fun j hj q => hy ((in_c (n := 4) (by omega)).mpr ⟨j, hj, q⟩)
      rw [if_neg (hne 0 (by omega)), if_neg (hne 1 (by omega)), if_neg (hne 2 (by omega)), if_neg (hne 3 (by omega)), if_neg (hne 4 (by omega))]
      exact ⟨_, rfl, rfl⟩
