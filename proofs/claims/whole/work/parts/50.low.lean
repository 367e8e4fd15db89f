/-! THE REFERENCE'S LOWEST TICKS -/
section LOW
variable {S : am_H}
theorem low_fill (d : Nat) (x1 x2 : Int32) (u4 u5 u6 u7 u8 : Option am_V) : ∀ (k n j : Nat) (M : am_H), j + k = 54 → k < n → (∀ i, i < j → M 119 i = 1000000) →
    ∃ M', rM_layLow d n 3 [some (vr 7 82), some (vi x1), some (vi x2), some (vi (nI j)), u4, u5, u6, u7, u8] M = rM_layLow d (n - k) 3 [some (vr 7 82), some (vi x1), some (vi x2), some (vi (nI 54)), u4, u5, u6, u7, u8] M' ∧ (∀ c, c ≠ 119 → M' c = M c) ∧ ∀ i, i < 54 → M' 119 i = 1000000 := by
  intro k
  induction k with
  | zero =>
    intro n j M hj hn hM
    have : j = 54 := by omega
    subst this
    exact ⟨M, rfl, fun _ _ => rfl, hM⟩
  | succ k ih =>
    intro n j M hj hn hM
    obtain ⟨n, rfl⟩ : ∃ z, n = z + 1 := ⟨n - 1, by omega⟩
    obtain ⟨M', h1, h2, h3⟩ := ih n (j + 1) (am_up M 119 j 1000000) (by omega) (by omega) (fun i hi => by
      by_cases q : i = j
      · rw [q, up_s]
      · rw [up_d q]; exact hM i (by omega))
    refine ⟨M', ?_, fun c hc => (h2 c hc).trans (up_n hc), h3⟩
    rw [tM_layLow_3, if_pos (show nI j < 54 from nI_lt (b := 54) (by omega) (by omega)), b_ok (by omega) (by omega), nI_1, h1, show n + 1 - (k + 1) = n - k by omega]
theorem low_side (d n : Nat) (hv : VH S) {k e g : Nat} (hk : k < 8) (he : e < nD S) (hg : g < 2) (x1 x2 : Int32) (u6 u7 u8 : Option am_V) {M : am_H} (fr : ∀ c, c ≠ 119 → M c = S c) :
    ∃ (w6 w7 w8 : Option am_V) (M' : am_H), rM_layLow (d + 2) (n + 1) 36 [some (vr 7 82), some (vi x1), some (vi x2), some (vi (nI k)), some (vi (nI e)), some (vi (nI g)), u6, u7, u8] M = rM_layLow (d + 2) n 36 [some (vr 7 82), some (vi x1), some (vi x2), some (vi (nI k)), some (vi (nI e)), some (vi (nI (g + 1))), w6, w7, w8] M' ∧ (∀ c, c ≠ 119 → M' c = M c) ∧
      ∀ j, M' 119 j = if j = 6 * (k + 1) + so S e g ∧ M 119 (6 * k + sd S e g) < 1000000 ∧ M 119 (6 * k + sd S e g) + cst S e (sd S e g) < M 119 j then M 119 (6 * k + sd S e g) + cst S e (sd S e g) else M 119 j := by
  have hR := hv.1.2.2
  have hD := hv.2.1.2
  have hS : sH S M := fun c q1 q2 => fr c (by omega)
  have hvM : VH M := VH_congr hS hv
  have heM : e < nD M := by rw [hS.eD]; exact he
  obtain ⟨a1, a2, a3, a4, a5⟩ := dAB hv he
  have l1 := sd_lt hv he g
  have l2 := so_lt hv he g
  have l1M : sd S e g < nR M := by rw [hS.eR]; exact l1
  have eb : byd M e (nI (sd S e g)) = nI (so S e g) := by
    rw [← byd_sd hv he g]
    unfold byd
    rw [fr 89 (by omega), fr 90 (by omega)]
  have ec : cst M e (sd S e g) = cst S e (sd S e g) := by
    unfold cst hOf led
    rw [fr 99 (by omega), fr 86 (by omega), fr 85 (by omega), fr 89 (by omega), fr 91 (by omega)]
  have i1 : (6 : Int32) * nI k + nI (sd S e g) = nI (6 * k + sd S e g) := by rw [show (6 : Int32) = nI 6 from rfl, pk_mul, nI_add]
  have i2 : (6 : Int32) * (nI k + 1) + nI (so S e g) = nI (6 * (k + 1) + so S e g) := by rw [nI_1, show (6 : Int32) = nI 6 from rfl, pk_mul, nI_add]
  have b1 : ∀ f, am_b 54 (nI (6 * k + sd S e g)) f = f (6 * k + sd S e g) := fun f => b_ok (by omega) (by omega) f
  have b2 : ∀ f, am_b 54 (nI (6 * (k + 1) + so S e g)) f = f (6 * (k + 1) + so S e g) := fun f => b_ok (by omega) (by omega) f
  have b3 : ∀ f, am_b 16 (nI e) f = f e := fun f => b_ok (by omega) (by omega) f
  have no : ∀ (w6 w7 w8 : Option am_V) (x : Int32), x = M 119 (6 * (k + 1) + so S e g) → ¬ (M 119 (6 * k + sd S e g) < 1000000 ∧ M 119 (6 * k + sd S e g) + cst S e (sd S e g) < M 119 (6 * (k + 1) + so S e g)) → ∃ (v6 v7 v8 : Option am_V) (M' : am_H), rM_layLow (d + 2) n 36 [some (vr 7 82), some (vi x1), some (vi x2), some (vi (nI k)), some (vi (nI e)), some (vi (nI (g + 1))), w6, w7, w8] (am_up M 119 (6 * (k + 1) + so S e g) x) = rM_layLow (d + 2) n 36 [some (vr 7 82), some (vi x1), some (vi x2), some (vi (nI k)), some (vi (nI e)), some (vi (nI (g + 1))), v6, v7, v8] M' ∧ (∀ c, c ≠ 119 → M' c = M c) ∧
      ∀ j, M' 119 j = if j = 6 * (k + 1) + so S e g ∧ M 119 (6 * k + sd S e g) < 1000000 ∧ M 119 (6 * k + sd S e g) + cst S e (sd S e g) < M 119 j then M 119 (6 * k + sd S e g) + cst S e (sd S e g) else M 119 j := by
    intro w6 w7 w8 x hx hn
    refine ⟨w6, w7, w8, _, rfl, fun c hc => up_n hc, fun j => ?_⟩
    by_cases q : j = 6 * (k + 1) + so S e g
    · rw [if_neg (fun z => hn (q ▸ z.2)), q, up_s, hx]
    · rw [if_neg (fun z => q z.1), up_d q]
  have ys : ∀ (w6 w7 w8 : Option am_V), (M 119 (6 * k + sd S e g) < 1000000 ∧ M 119 (6 * k + sd S e g) + cst S e (sd S e g) < M 119 (6 * (k + 1) + so S e g)) → ∃ (v6 v7 v8 : Option am_V) (M' : am_H), rM_layLow (d + 2) n 36 [some (vr 7 82), some (vi x1), some (vi x2), some (vi (nI k)), some (vi (nI e)), some (vi (nI (g + 1))), w6, w7, w8] (am_up M 119 (6 * (k + 1) + so S e g) (M 119 (6 * k + sd S e g) + cst S e (sd S e g))) = rM_layLow (d + 2) n 36 [some (vr 7 82), some (vi x1), some (vi x2), some (vi (nI k)), some (vi (nI e)), some (vi (nI (g + 1))), v6, v7, v8] M' ∧ (∀ c, c ≠ 119 → M' c = M c) ∧
      ∀ j, M' 119 j = if j = 6 * (k + 1) + so S e g ∧ M 119 (6 * k + sd S e g) < 1000000 ∧ M 119 (6 * k + sd S e g) + cst S e (sd S e g) < M 119 j then M 119 (6 * k + sd S e g) + cst S e (sd S e g) else M 119 j := by
    intro w6 w7 w8 hn
    refine ⟨w6, w7, w8, _, rfl, fun c hc => up_n hc, fun j => ?_⟩
    by_cases q : j = 6 * (k + 1) + so S e g
    · rw [if_pos ⟨q, q ▸ hn⟩, q, up_s]
    · rw [if_neg (fun z => q z.1), up_d q]
  have h2 : nI g < 2 := nI_lt (b := 2) hg (by omega)
  rw [tM_layLow_36, if_pos h2, nI_1 g]
  by_cases q : g = 0
  · have hsd : M 89 e = nI (sd S e g) := by rw [fr 89 (by omega), a1]; unfold sd; rw [if_pos q]
    rw [if_pos (by rw [q]; rfl)]
    simp only [b3]
    rw [hsd, gM_beyond_ok (d + 1) hvM heM, r1_ok, eb, i1, b1, gM_costOf_ok d hvM heM l1M, r1_ok, ec, i2]
    simp only [b1, b2]
    by_cases c1 : M 119 (6 * k + sd S e g) < 1000000
    · rw [if_pos c1]
      by_cases c2 : M 119 (6 * k + sd S e g) + cst S e (sd S e g) < M 119 (6 * (k + 1) + so S e g)
      · rw [if_pos c2]
        exact ys _ _ _ ⟨c1, c2⟩
      · rw [if_neg c2]
        exact no _ _ _ _ rfl (fun z => c2 z.2)
    · rw [if_neg c1]
      exact no _ _ _ _ rfl (fun z => c1 z.1)
  · have hsd : M 90 e = nI (sd S e g) := by rw [fr 90 (by omega), a2]; unfold sd; rw [if_neg q]
    rw [if_neg (nI_ne0 (by omega) (by omega))]
    simp only [b3]
    rw [hsd, gM_beyond_ok (d + 1) hvM heM, r1_ok, eb, i1, b1, gM_costOf_ok d hvM heM l1M, r1_ok, ec, i2]
    simp only [b1, b2]
    by_cases c1 : M 119 (6 * k + sd S e g) < 1000000
    · rw [if_pos c1]
      by_cases c2 : M 119 (6 * k + sd S e g) + cst S e (sd S e g) < M 119 (6 * (k + 1) + so S e g)
      · rw [if_pos c2]
        exact ys _ _ _ ⟨c1, c2⟩
      · rw [if_neg c2]
        exact no _ _ _ _ rfl (fun z => c2 z.2)
    · rw [if_neg c1]
      exact no _ _ _ _ rfl (fun z => c1 z.1)
/-- the row of the ways by k doors -/
def rwM (S : am_H) (k s : Nat) (t : Int) (L : Nat → Int32) : Prop := ∀ r, r < nR S → mn (Way S k s t r) 1000000 (L (6 * k + r))
theorem low_off (hv : VH S) {k s e g : Nat} {t : Int} (hs : s < nR S) (ht : -60000 ≤ t ∧ t ≤ 60000) (hk : k < 8) (he : e < nD S) (hg : g < 2) {L L' : Nat → Int32} (hr : rwM S k s t L) (ho : ∀ r, r < nR S → mn (Of S k s t e g r) 1000000 (L (6 * (k + 1) + r)))
    (hL : ∀ j, L' j = if j = 6 * (k + 1) + so S e g ∧ L (6 * k + sd S e g) < 1000000 ∧ L (6 * k + sd S e g) + cst S e (sd S e g) < L j then L (6 * k + sd S e g) + cst S e (sd S e g) else L j) :
    rwM S k s t L' ∧ (∀ r, r < nR S → mn (Of S k s t e (g + 1) r) 1000000 (L' (6 * (k + 1) + r))) ∧ ∀ j, j < 6 * (k + 1) ∨ 6 * (k + 2) ≤ j → L' j = L j := by
  have hR := hv.1.2.2
  have l1 := sd_lt hv he g
  have l2 := so_lt hv he g
  have hout : ∀ j, j < 6 * (k + 1) ∨ 6 * (k + 2) ≤ j → L' j = L j := fun j hj => by rw [hL, if_neg (fun z => by omega)]
  refine ⟨fun r hr' => by rw [hout _ (by omega)]; exact hr r hr', fun r hr' => ?_, hout⟩
  obtain ⟨m1, m2⟩ := mn_off (ho r hr') (hr _ l1) (fun v w => by have := way_b hv hs _ _ _ w; omega) (show (100000 : Int) ≤ ((1000000 : Int32)).toInt by decide) (c := cst S e (sd S e g)) (cst_b hv he l1)
  by_cases q : so S e g = r
  · rw [hL]
    refine mn_congr (P := fun v => Of S k s t e g r v ∨ Way S k s t (sd S e g) (v - (cst S e (sd S e g)).toInt)) (fun v => ?_) ?_
    · rw [← of_side he hg]
      exact ⟨fun z => z.elim Or.inl (fun z => Or.inr ⟨q, z⟩), fun z => z.elim Or.inl (fun z => Or.inr z.2)⟩
    · by_cases y : L (6 * k + sd S e g) = 1000000
      · rw [if_neg (fun z => by rw [y] at z; exact absurd z.2.1 (by decide))]
        exact m1 y
      · obtain ⟨n1, n2, n3, n4, n5, n6⟩ := m2 y
        by_cases z : L (6 * k + sd S e g) + cst S e (sd S e g) < L (6 * (k + 1) + r)
        · rw [if_pos z] at n6
          rw [if_pos ⟨by rw [q], n1, z⟩]
          exact n6
        · rw [if_neg z] at n6
          rw [if_neg (fun w => z w.2.2)]
          exact n6
  · rw [hL, if_neg (fun z => q (by omega))]
    refine mn_congr (fun v => ?_) (ho r hr')
    rw [← of_side he hg]
    exact ⟨Or.inl, fun z => z.elim id (fun z => absurd z.1 q)⟩
theorem low_doors (d : Nat) (hv : VH S) {k s : Nat} {t : Int} (hs : s < nR S) (ht : -60000 ≤ t ∧ t ≤ 60000) (hk : k < 8) (x1 x2 : Int32) : ∀ (q n e : Nat) (u5 u6 u7 u8 : Option am_V) (M : am_H), e + q = nD S → 4 * q < n → (∀ c, c ≠ 119 → M c = S c) → rwM S k s t (M 119) → (∀ r, r < nR S → mn (Of S k s t e 0 r) 1000000 (M 119 (6 * (k + 1) + r))) →
    ∃ (n' : Nat) (w5 w6 w7 w8 : Option am_V) (M' : am_H), n - 4 * q ≤ n' ∧ rM_layLow (d + 2) n 27 [some (vr 7 82), some (vi x1), some (vi x2), some (vi (nI k)), some (vi (nI e)), u5, u6, u7, u8] M = rM_layLow (d + 2) n' 27 [some (vr 7 82), some (vi x1), some (vi x2), some (vi (nI k)), some (vi (nI (nD S))), w5, w6, w7, w8] M' ∧ (∀ c, c ≠ 119 → M' c = S c) ∧ (∀ r, r < nR S → mn (Of S k s t (nD S) 0 r) 1000000 (M' 119 (6 * (k + 1) + r))) ∧ ∀ j, j < 6 * (k + 1) ∨ 6 * (k + 2) ≤ j → M' 119 j = M 119 j := by
  have hD := hv.2.1
  intro q
  induction q with
  | zero =>
    intro n e u5 u6 u7 u8 M he hn fr hr ho
    have : e = nD S := by omega
    subst this
    exact ⟨n, u5, u6, u7, u8, M, by omega, rfl, fr, ho, fun _ _ => rfl⟩
  | succ q ih =>
    intro n e u5 u6 u7 u8 M he hn fr hr ho
    obtain ⟨n, rfl⟩ : ∃ z, n = z + 4 := ⟨n - 4, by omega⟩
    obtain ⟨w6, w7, w8, M1, a1, a2, a3⟩ := low_side d (n + 2) hv hk (e := e) (g := 0) (by omega) (by omega) x1 x2 u6 u7 u8 fr
    obtain ⟨b1, b2, b3⟩ := low_off hv hs ht hk (e := e) (g := 0) (by omega) (by omega) hr ho a3
    have fr1 : ∀ c, c ≠ 119 → M1 c = S c := fun c hc => (a2 c hc).trans (fr c hc)
    obtain ⟨z6, z7, z8, M2, c1, c2, c3⟩ := low_side d (n + 1) hv hk (e := e) (g := 1) (by omega) (by omega) x1 x2 w6 w7 w8 fr1
    obtain ⟨d1, d2, d3⟩ := low_off hv hs ht hk (e := e) (g := 1) (by omega) (by omega) b1 b2 c3
    have fr2 : ∀ c, c ≠ 119 → M2 c = S c := fun c hc => (c2 c hc).trans (fr1 c hc)
    obtain ⟨n', y5, y6, y7, y8, M', e1, e2, e3, e4, e5⟩ := ih n (e + 1) (some (vi (nI 2))) z6 z7 z8 M2 (by omega) (by omega) fr2 d1 (fun r hr' => mn_congr (fun v => of_door) (d2 r hr'))
    refine ⟨n', y5, y6, y7, y8, M', by omega, ?_, e3, e4, fun j hj => (e5 j hj).trans ((d3 j hj).trans (b3 j hj))⟩
    rw [nI_0] at a1
    rw [tM_layLow_27, fr 88 (by omega), hD.1, if_pos (nI_lt (by omega) (by omega)), a1, c1, tM_layLow_36, if_neg (by decide), nI_1]
    exact e2
theorem low_rows (d : Nat) (hv : VH S) {s : Nat} {t : Int} (hs : s < nR S) (ht : -60000 ≤ t ∧ t ≤ 60000) (x1 x2 : Int32) : ∀ (q n k : Nat) (u4 u5 u6 u7 u8 : Option am_V) (M : am_H), k + q = 8 → 40 * q < n → (∀ c, c ≠ 119 → M c = S c) → (∀ j, j ≤ k → rwM S j s t (M 119)) → (∀ j, 6 * (k + 1) ≤ j → j < 54 → M 119 j = 1000000) →
    ∃ M', rM_layLow (d + 2) n 21 [some (vr 7 82), some (vi x1), some (vi x2), some (vi (nI k)), u4, u5, u6, u7, u8] M = some (M', none) ∧ (∀ c, c ≠ 119 → M' c = S c) ∧ ∀ j, j ≤ 8 → rwM S j s t (M' 119) := by
  have hR := hv.1.2.2
  have hD := hv.2.1
  intro q
  induction q with
  | zero =>
    intro n k u4 u5 u6 u7 u8 M hk hn fr hr hz
    obtain ⟨n, rfl⟩ : ∃ z, n = z + 1 := ⟨n - 1, by omega⟩
    have : k = 8 := by omega
    subst this
    rw [tM_layLow_21, if_neg (by decide)]
    exact ⟨M, rfl, fr, hr⟩
  | succ q ih =>
    intro n k u4 u5 u6 u7 u8 M hk hn fr hr hz
    obtain ⟨n, rfl⟩ : ∃ z, n = z + 1 := ⟨n - 1, by omega⟩
    obtain ⟨n', w5, w6, w7, w8, M1, a0, a1, a2, a3, a4⟩ := low_doors d hv hs ht (k := k) (by omega) x1 x2 (nD S) n 0 u5 u6 u7 u8 M (by omega) (by omega) fr (hr k (by omega)) (fun r hr' => Or.inl ⟨hz _ (by omega) (by omega), fun v => of_0⟩)
    obtain ⟨n', rfl⟩ : ∃ z, n' = z + 1 := ⟨n' - 1, by omega⟩
    obtain ⟨M', b1, b2, b3⟩ := ih n' (k + 1) (some (vi (nI (nD S)))) w5 w6 w7 w8 M1 (by omega) (by omega) a2 (fun j hj r hr' => by
      by_cases e : j = k + 1
      · rw [e]
        exact mn_congr (fun v => of_end) (a3 r hr')
      · rw [a4 _ (by omega)]
        exact hr j (by omega) r hr') (fun j h1 h2 => by rw [a4 _ (by omega)]; exact hz j (by omega) h2)
    refine ⟨M', ?_, b2, b3⟩
    rw [nI_0] at a1
    rw [tM_layLow_21, if_pos (show nI k < 8 from nI_lt (b := 8) (by omega) (by omega)), a1, tM_layLow_27, a2 88 (by omega), hD.1, if_neg (nI_nlt (by omega) (by omega)), nI_1]
    exact b1
theorem gM_layLow_ok (d : Nat) (hv : VH S) {s : Nat} {t : Int32} (hs : s < nR S) (ht : -60000 ≤ t.toInt ∧ t.toInt ≤ 60000) :
    ∃ M, am_g (d + 3) 143 [vr 7 82, vi (nI s), vi t] S = some (M, none) ∧ (∀ c, c ≠ 119 → M c = S c) ∧ ∀ j, j ≤ 8 → rwM S j s t.toInt (M 119) := by
  have hR := hv.1.2.2
  obtain ⟨M1, a1, a2, a3⟩ := low_fill (d + 2) (nI s) t none none none none none 54 999999 0 S (by omega) (by omega) (fun i hi => absurd hi (by omega))
  obtain ⟨M2, b1, b2, b3⟩ := low_rows d hv hs ht (nI s) t 8 999944 0 none none none none none (am_up M1 119 s t) (by omega) (by omega) (fun c hc => (up_n hc).trans (a2 c hc)) (fun j hj r hr => by
    have : j = 0 := by omega
    subst this
    by_cases q : r = s
    · subst q
      rw [show 6 * 0 + r = r by omega, up_s]
      exact Or.inr ⟨⟨rfl, rfl⟩, fun v hv => by rw [hv.2]; exact Int.le_refl _⟩
    · rw [show 6 * 0 + r = r by omega, up_d q]
      exact Or.inl ⟨a3 r (by omega), fun v hv => q hv.1⟩) (fun j h1 h2 => by rw [up_d (by omega)]; exact a3 j h2)
  refine ⟨M2, ?_, b2, b3⟩
  rw [nI_0] at a1 b1
  rw [gM_layLow, a1, show 999999 - 54 = 999944 + 1 from rfl, tM_layLow_3, if_neg (by decide), b_ok (by omega) (by omega)]
  exact b1
end LOW
