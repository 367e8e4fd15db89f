section EVEN2
variable {S : am_H}
/-- a round of the class over the doors -/
theorem spreadC_doors (d : Nat) (hv : VH S) {o : Nat} (ho : o ≤ 17) (x2 : Int32) : ∀ (q n e : Nat) (B : Int) (E : E_T) (h : am_H) (u4 u5 : Option am_V), e + q = nD S → q < n → 0 ≤ B → B + 24 * (q : Int) ≤ 100000 → RH o h S → rE 536870912 B E (h 75) →
    ∃ (w4 w5 : Option am_V) (h' : am_H), rW_spread d n 10 [some (vr 5 74), some (vr 2 o), some (vi x2), some (vi (nI e)), u4, u5] h = rW_spread d (n - q) 10 [some (vr 5 74), some (vr 2 o), some (vi x2), some (vi (nI (nD S))), w4, w5] h' ∧ (∀ c, c ≠ 75 → h' c = h c) ∧ rE 536870912 (B + 24 * (q : Int)) (eP S q e E) (h' 75) := by
  intro q
  induction q with
  | zero =>
    intro n e B E h u4 u5 he hn hB0 hB rh r
    have : e = nD S := by omega
    subst this
    exact ⟨u4, u5, h, rfl, fun _ _ => rfl, rE_mono (by omega) r⟩
  | succ q ih =>
    intro n e B E h u4 u5 he hn hB0 hB rh r
    obtain ⟨n, rfl⟩ : ∃ z, n = z + 1 := ⟨n - 1, by omega⟩
    obtain ⟨w4, w5, h1, g1, g2, g3⟩ := spreadC_step d n hv rh (by omega) r (e := e) (by omega) x2 u4 u5
    have f1 : frW h h1 := fun c hc => g2 c (by omega)
    obtain ⟨v4, v5, h', k1, k2, k3⟩ := ih n (e + 1) (B + 24) (eS S E e) h1 w4 w5 (by omega) (by omega) (by omega) (by omega) (RH_w ho f1 rh) g3
    refine ⟨v4, v5, h', ?_, fun c hc => (k2 c hc).trans (g2 c hc), ?_⟩
    · rw [g1, k1, show n + 1 - (q + 1) = n - q by omega]
    · exact rE_mono (by omega) k3
theorem spreadC_rounds (d : Nat) (hv : VH S) {o : Nat} (ho : o ≤ 17) : ∀ (q n k : Nat) (B : Int) (E : E_T) (h : am_H) (u3 u4 u5 : Option am_V), k + q = nR S → 20 * q < n → 0 ≤ B → B + 192 * (q : Int) ≤ 100000 → RH o h S → rE 536870912 B E (h 75) →
    ∃ h', rW_spread d n 3 [some (vr 5 74), some (vr 2 o), some (vi (nI k)), u3, u4, u5] h = some (h', none) ∧ (∀ c, c ≠ 75 → h' c = h c) ∧ rE 536870912 (B + 192 * (q : Int)) (eN S q E) (h' 75) := by
  have hR := hv.1
  have hD := hv.2.1
  intro q
  induction q with
  | zero =>
    intro n k B E h u3 u4 u5 hk hn hB0 hB rh r
    obtain ⟨n, rfl⟩ : ∃ z, n = z + 1 := ⟨n - 1, by omega⟩
    rw [tW_spread_3, rh.1.1, hR.1, if_neg (nI_nlt (by omega) (by omega))]
    exact ⟨h, rfl, fun _ _ => rfl, rE_mono (by omega) r⟩
  | succ q ih =>
    intro n k B E h u3 u4 u5 hk hn hB0 hB rh r
    obtain ⟨n, rfl⟩ : ∃ z, n = z + 1 := ⟨n - 1, by omega⟩
    obtain ⟨w4, w5, h1, g1, g2, g3⟩ := spreadC_doors d hv ho (nI k) (nD S) n 0 B E h u4 u5 (by omega) (by omega) hB0 (by omega) rh r
    have f1 : frW h h1 := fun c hc => g2 c (by omega)
    have rh1 := RH_w ho f1 rh
    obtain ⟨n2, hn2⟩ : ∃ z, n - nD S = z + 1 := ⟨n - nD S - 1, by omega⟩
    rw [hn2, nI_0] at g1
    obtain ⟨h', k1, k2, k3⟩ := ih n2 (k + 1) (B + 192) (eP S (nD S) 0 E) h1 (some (vi (nI (nD S)))) w4 w5 (by omega) (by omega) (by omega) (by omega) rh1 (rE_mono (by omega) g3)
    refine ⟨h', ?_, fun c hc => (k2 c hc).trans (g2 c hc), rE_mono (by omega) k3⟩
    rw [tW_spread_3, rh.1.1, hR.1, if_pos (nI_lt (by omega) (by omega)), g1, tW_spread_10, rh1.1.2.1, hD.1, if_neg (nI_nlt (by omega) (by omega)), nI_1, k1]
/-- a round of the reference over the doors -/
theorem evenM_doors (d : Nat) (hv : VH S) (x1 x2 x3 : Int32) : ∀ (q n e : Nat) (B : Int) (E : E_T) (M : am_H) (u5 u6 : Option am_V), e + q = nD S → q < n → 0 ≤ B → B + 24 * (q : Int) ≤ 100000 → (∀ c, c ≠ 120 → M c = S c) → rE 1000000 B E (M 120) →
    ∃ (w5 w6 : Option am_V) (M' : am_H), rM_even d n 44 [some (vr 7 82), some (vi x1), some (vi x2), some (vi x3), some (vi (nI e)), u5, u6] M = rM_even d (n - q) 44 [some (vr 7 82), some (vi x1), some (vi x2), some (vi x3), some (vi (nI (nD S))), w5, w6] M' ∧ (∀ c, c ≠ 120 → M' c = S c) ∧ rE 1000000 (B + 24 * (q : Int)) (eP S q e E) (M' 120) := by
  intro q
  induction q with
  | zero =>
    intro n e B E M u5 u6 he hn hB0 hB fr r
    have : e = nD S := by omega
    subst this
    exact ⟨u5, u6, M, rfl, fr, rE_mono (by omega) r⟩
  | succ q ih =>
    intro n e B E M u5 u6 he hn hB0 hB fr r
    obtain ⟨n, rfl⟩ : ∃ z, n = z + 1 := ⟨n - 1, by omega⟩
    obtain ⟨w5, w6, M1, g1, g2, g3⟩ := evenM_step d n hv fr (by omega) r (e := e) (by omega) x1 x2 x3 u5 u6
    obtain ⟨v5, v6, M', k1, k2, k3⟩ := ih n (e + 1) (B + 24) (eS S E e) M1 w5 w6 (by omega) (by omega) (by omega) (by omega) g2 g3
    refine ⟨v5, v6, M', ?_, k2, ?_⟩
    · rw [g1, k1, show n + 1 - (q + 1) = n - q by omega]
    · exact rE_mono (by omega) k3
theorem evenM_rounds (d : Nat) (hv : VH S) (x1 : Int32) (r0 : Nat) : ∀ (q n k : Nat) (B : Int) (E : E_T) (M : am_H) (u4 u5 u6 : Option am_V), k + q = 6 → 20 * q < n → 0 ≤ B → B + 192 * (q : Int) ≤ 100000 → (∀ c, c ≠ 120 → M c = S c) → rE 1000000 B E (M 120) →
    ∃ (n' : Nat) (w3 w4 w5 w6 : Option am_V) (M' : am_H), n - (20 * q + 1) ≤ n' ∧ rM_even d n 38 [some (vr 7 82), some (vi x1), some (vi (nI r0)), some (vi (nI k)), u4, u5, u6] M = rM_even d n' 18 [some (vr 7 82), some (vi x1), some (vi (nI (r0 + 1))), w3, w4, w5, w6] M' ∧ (∀ c, c ≠ 120 → M' c = S c) ∧ rE 1000000 (B + 192 * (q : Int)) (eN S q E) (M' 120) := by
  have hD := hv.2.1
  intro q
  induction q with
  | zero =>
    intro n k B E M u4 u5 u6 hk hn hB0 hB fr r
    obtain ⟨n, rfl⟩ : ∃ z, n = z + 1 := ⟨n - 1, by omega⟩
    have : k = 6 := by omega
    subst this
    rw [tM_even_38, if_neg (by decide), nI_1]
    exact ⟨n, _, _, _, _, M, by omega, rfl, fr, rE_mono (by omega) r⟩
  | succ q ih =>
    intro n k B E M u4 u5 u6 hk hn hB0 hB fr r
    obtain ⟨n, rfl⟩ : ∃ z, n = z + 1 := ⟨n - 1, by omega⟩
    obtain ⟨w5, w6, M1, g1, g2, g3⟩ := evenM_doors d hv x1 (nI r0) (nI k) (nD S) n 0 B E M u5 u6 (by omega) (by omega) hB0 (by omega) fr r
    obtain ⟨n2, hn2⟩ : ∃ z, n - nD S = z + 1 := ⟨n - nD S - 1, by omega⟩
    rw [hn2, nI_0] at g1
    obtain ⟨n', v3, v4, v5, v6, M', k0, k1, k2, k3⟩ := ih n2 (k + 1) (B + 192) (eP S (nD S) 0 E) M1 (some (vi (nI (nD S)))) w5 w6 (by omega) (by omega) (by omega) (by omega) g2 (rE_mono (by omega) g3)
    refine ⟨n', v3, v4, v5, v6, M', by omega, ?_, k2, rE_mono (by omega) k3⟩
    rw [tM_even_38, if_pos (show nI k < 6 from nI_lt (b := 6) (by omega) (by omega)), g1, tM_even_44, g2 88 (by omega), hD.1, if_neg (nI_nlt (by omega) (by omega)), nI_1, k1]
/-- the doors' test: all even from e on -/
def eT (S : am_H) (E : E_T) : Nat → Nat → Bool
  | 0, _ => true
  | q + 1, e => (match E (dA S e), E (dB S e) with
    | some x, some y => decide (y - x = (S 91 e).toInt)
    | _, _ => false) && eT S E q (e + 1)
theorem e_cmp (hv : VH S) {nv : Int32} {B : Int} {E : E_T} {f : Nat → Int32} (hB : B ≤ 100000) (r : rE nv B E f) (hk : ∀ j, j < nR S → (E j).isSome = true) {e : Nat} (he : e < nD S) : ∃ x y, E (dA S e) = some x ∧ E (dB S e) = some y ∧ ((f (dB S e) - f (dA S e) = S 91 e) ↔ y - x = (S 91 e).toInt) := by
  have hR := hv.1.2.2
  obtain ⟨-, -, h3, h4, -⟩ := dAB hv he
  obtain ⟨x, hx⟩ := Option.isSome_iff_exists.mp (hk _ h3)
  obtain ⟨y, hy⟩ := Option.isSome_iff_exists.mp (hk _ h4)
  refine ⟨x, y, hx, hy, ?_⟩
  rcases r (dA S e) (by omega) with ⟨q, -⟩ | ⟨x', q1, q2, q3, q4⟩
  · rw [q] at hx; cases hx
  · rcases r (dB S e) (by omega) with ⟨q, -⟩ | ⟨y', p1, p2, p3, p4⟩
    · rw [q] at hy; cases hy
    · rw [q1] at hx
      rw [p1] at hy
      cases hx
      cases hy
      have : (f (dB S e) - f (dA S e)).toInt = y - x := by rw [ti_sub] <;> omega
      constructor
      · intro z; rw [z] at this; exact this.symm
      · intro z; exact Int32.toInt.inj (by omega)
theorem testC (d : Nat) (hv : VH S) {o : Nat} {h : am_H} (rh : RH o h S) {B : Int} {E : E_T} (hB : B ≤ 100000) (r : rE 536870912 B E (h 75)) (hk : ∀ j, j < nR S → (E j).isSome = true) : ∀ (q n e : Nat), e + q = nD S → q < n → rW_isEven d n 30 [some (vr 5 74), some (vr 2 o), some (vi (nI e))] h = some (h, some (yn (eT S E q e = true))) := by
  have hR := hv.1.2.2
  have hD := hv.2.1
  intro q
  induction q with
  | zero =>
    intro n e he hn
    obtain ⟨n, rfl⟩ : ∃ z, n = z + 1 := ⟨n - 1, by omega⟩
    rw [tW_isEven_30, rh.1.2.1, hD.1, if_neg (nI_nlt (by omega) (by omega))]
    rfl
  | succ q ih =>
    intro n e he hn
    obtain ⟨n, rfl⟩ : ∃ z, n = z + 1 := ⟨n - 1, by omega⟩
    have hlt : e < nD S := by omega
    obtain ⟨a1, a2, a3, a4, a5⟩ := dAB hv hlt
    obtain ⟨x, y, hx, hy, hc⟩ := e_cmp hv hB r hk hlt
    have s6 : h (o + 6) e = nI (dA S e) := (rh.2.2.1 e hlt).1.trans a1
    have s7 : h (o + 7) e = nI (dB S e) := (rh.2.2.1 e hlt).2.1.trans a2
    have s8 : h (o + 8) e = S 91 e := (rh.2.2.1 e hlt).2.2
    have b1 : ∀ f, am_b 8 (nI e) f = f e := fun f => b_ok (by omega) (by omega) f
    have b2 : ∀ f, am_b 6 (nI (dA S e)) f = f (dA S e) := fun f => b_ok (by omega) (by omega) f
    have b3 : ∀ f, am_b 6 (nI (dB S e)) f = f (dB S e) := fun f => b_ok (by omega) (by omega) f
    rw [tW_isEven_30, rh.1.2.1, hD.1, if_pos (nI_lt hlt (by omega)), nI_1]
    simp only [b1, s6, s7, s8, b2, b3]
    unfold eT
    rw [hx, hy]
    by_cases z : y - x = (S 91 e).toInt
    · rw [if_pos (hc.mpr z), ih n (e + 1) (by omega) (by omega)]
      simp [z]
    · rw [if_neg (fun w => z (hc.mp w))]
      simp [z, yn]
theorem testM (d : Nat) (hv : VH S) {M : am_H} (fr : ∀ c, c ≠ 120 → M c = S c) {B : Int} {E : E_T} (hB : B ≤ 100000) (r : rE 1000000 B E (M 120)) (hk : ∀ j, j < nR S → (E j).isSome = true) (u3 u4 u5 u6 : Option am_V) : ∀ (q n e : Nat) (f : Bool), e + q = nD S → q < n → rM_even d n 129 [some (vr 7 82), some (vi (yn (f = true))), some (vi (nI e)), u3, u4, u5, u6] M = some (M, some (yn ((f && eT S E q e) = true))) := by
  have hR := hv.1.2.2
  have hD := hv.2.1
  intro q
  induction q with
  | zero =>
    intro n e f he hn
    obtain ⟨n, rfl⟩ : ∃ z, n = z + 1 := ⟨n - 1, by omega⟩
    rw [tM_even_129, fr 88 (by omega), hD.1, if_neg (nI_nlt (by omega) (by omega))]
    cases f <;> rfl
  | succ q ih =>
    intro n e f he hn
    obtain ⟨n, rfl⟩ : ∃ z, n = z + 1 := ⟨n - 1, by omega⟩
    have hlt : e < nD S := by omega
    obtain ⟨a1, a2, a3, a4, a5⟩ := dAB hv hlt
    obtain ⟨x, y, hx, hy, hc⟩ := e_cmp hv hB r hk hlt
    have s6 : M 89 e = nI (dA S e) := by rw [fr 89 (by omega)]; exact a1
    have s7 : M 90 e = nI (dB S e) := by rw [fr 90 (by omega)]; exact a2
    have s8 : M 91 e = S 91 e := by rw [fr 91 (by omega)]
    have b1 : ∀ f, am_b 16 (nI e) f = f e := fun f => b_ok (by omega) (by omega) f
    have b2 : ∀ f, am_b 6 (nI (dA S e)) f = f (dA S e) := fun f => b_ok (by omega) (by omega) f
    have b3 : ∀ f, am_b 6 (nI (dB S e)) f = f (dB S e) := fun f => b_ok (by omega) (by omega) f
    have i0 := ih n (e + 1) false (by omega) (by omega)
    have i1 := ih n (e + 1) true (by omega) (by omega)
    rw [show yn (false = true) = 0 from rfl] at i0
    rw [show yn (true = true) = 1 from rfl] at i1
    rw [tM_even_129, fr 88 (by omega), hD.1, if_pos (nI_lt hlt (by omega)), nI_1]
    simp only [b1, s6, s7, s8, b2, b3]
    unfold eT
    rw [hx, hy]
    cases f with
    | false =>
      rw [if_pos (show yn (false = true) = 0 from rfl), i0]
      rfl
    | true =>
      rw [if_neg (by decide)]
      by_cases z : y - x = (S 91 e).toInt
      · rw [if_pos (hc.mpr z), i1]
        simp [z]
      · rw [if_neg (fun w => z (hc.mp w)), i0]
        simp [z]
theorem even_fillM (d : Nat) (u2 u3 u4 u5 u6 : Option am_V) : ∀ (k n j : Nat) (M : am_H), j + k = 6 → k < n → (∀ i, i < j → M 120 i = 1000000) →
    ∃ M', rM_even d n 3 [some (vr 7 82), some (vi (nI j)), u2, u3, u4, u5, u6] M = rM_even d (n - k) 3 [some (vr 7 82), some (vi (nI 6)), u2, u3, u4, u5, u6] M' ∧ (∀ c, c ≠ 120 → M' c = M c) ∧ ∀ i, i < 6 → M' 120 i = 1000000 := by
  intro k
  induction k with
  | zero =>
    intro n j M hj hn hM
    have : j = 6 := by omega
    subst this
    exact ⟨M, rfl, fun _ _ => rfl, hM⟩
  | succ k ih =>
    intro n j M hj hn hM
    obtain ⟨n, rfl⟩ : ∃ z, n = z + 1 := ⟨n - 1, by omega⟩
    obtain ⟨M', h1, h2, h3⟩ := ih n (j + 1) (am_up M 120 j 1000000) (by omega) (by omega) (fun i hi => by
      by_cases q : i = j
      · rw [q, up_s]
      · rw [up_d q]; exact hM i (by omega))
    refine ⟨M', ?_, fun c hc => (h2 c hc).trans (up_n hc), h3⟩
    rw [tM_even_3, if_pos (show nI j < 6 from nI_lt (b := 6) (by omega) (by omega)), b_ok (by omega) (by omega), nI_1, h1, show n + 1 - (k + 1) = n - k by omega]
/-- a room that is not known yet -/
def eZ (E : E_T) (r : Nat) : E_T := fun j => if j = r then some 0 else E j
theorem eZ_r {nv : Int32} {B : Int} {E : E_T} {f : Nat → Int32} (hB : 0 ≤ B) (r : rE nv B E f) (i : Nat) : rE nv B (eZ E i) (upd f i 0) := by
  intro j hj
  unfold eZ
  by_cases q : j = i
  · rw [if_pos q, q, pk_us]
    exact Or.inr ⟨0, rfl, rfl, by omega, by omega⟩
  · rw [if_neg q, pk_un q]
    exact r j hj
theorem eZ_c {E : E_T} {r : Nat} : ∀ n, r < n → 1 ≤ eC (eZ E r) n := by
  intro n
  induction n with
  | zero => intro h; omega
  | succ n ih =>
    intro h
    unfold eC
    by_cases q : n = r
    · have : (eZ E r n).isSome = true := by unfold eZ; rw [if_pos q]; rfl
      rw [if_pos this]
      omega
    · have := ih (by omega)
      omega
theorem even_loop (hv : VH S) {o : Nat} (ho : o ≤ 17) : ∀ (q nc nm r : Nat) (B : Int) (E : E_T) (h M : am_H) (u3 u4 u5 u6 : Option am_V), r + q = nR S → q < nc → 200 * q < nm → 0 ≤ B → B + 1200 * (q : Int) ≤ 100000 → RH o h S → (∀ c, c ≠ 120 → M c = S c) → rE 536870912 B E (h 75) → rE 1000000 B E (M 120) → (∀ j, j < r → (E j).isSome = true) →
    ∃ (nc' nm' : Nat) (B' : Int) (E' : E_T) (h' M' : am_H) (w3 w4 w5 w6 : Option am_V), nc - q ≤ nc' ∧ nm - 200 * q ≤ nm' ∧ B' ≤ 100000 ∧ rW_isEven 5 nc 7 [some (vr 5 74), some (vr 2 o), some (vi (nI r))] h = rW_isEven 5 nc' 7 [some (vr 5 74), some (vr 2 o), some (vi (nI (nR S)))] h' ∧ rM_even 6 nm 18 [some (vr 7 82), some (vi 1), some (vi (nI r)), u3, u4, u5, u6] M = rM_even 6 nm' 18 [some (vr 7 82), some (vi 1), some (vi (nI (nR S))), w3, w4, w5, w6] M' ∧ (∀ c, c ≠ 75 → h' c = h c) ∧ (∀ c, c ≠ 120 → M' c = S c) ∧ rE 536870912 B' E' (h' 75) ∧ rE 1000000 B' E' (M' 120) ∧ ∀ j, j < nR S → (E' j).isSome = true := by
  have hR := hv.1
  have e1 : ((536870912 : Int32)).toInt = 536870912 := rfl
  have e2 : ((1000000 : Int32)).toInt = 1000000 := rfl
  intro q
  induction q with
  | zero =>
    intro nc nm r B E h M u3 u4 u5 u6 hr hnc hnm hB0 hB rh fr rc rm hk
    have : r = nR S := by omega
    subst this
    exact ⟨nc, nm, B, E, h, M, u3, u4, u5, u6, by omega, by omega, by omega, rfl, rfl, fun _ _ => rfl, fr, rc, rm, hk⟩
  | succ q ih =>
    intro nc nm r B E h M u3 u4 u5 u6 hr hnc hnm hB0 hB rh fr rc rm hk
    obtain ⟨nc, rfl⟩ : ∃ z, nc = z + 1 := ⟨nc - 1, by omega⟩
    obtain ⟨nm, rfl⟩ : ∃ z, nm = z + 1 := ⟨nm - 1, by omega⟩
    rw [tW_isEven_7, tM_even_18, rh.1.1, fr 84 (by omega), hR.1, if_pos (nI_lt (by omega) (by omega)), if_pos (nI_lt (by omega) (by omega)), b_ok (by omega) (by omega), b_ok (by omega) (by omega), b_ok (by omega) (by omega), b_ok (by omega) (by omega)]
    rcases rE_k (by omega) rc (show r < 6 by omega) with ⟨q1, q2, -⟩ | ⟨z, q1, q2, -⟩
    · have q3 : M 120 r = 1000000 := by
        rcases rE_k (by omega) rm (show r < 6 by omega) with ⟨-, q3, -⟩ | ⟨z, q3, -⟩
        · exact q3
        · rw [q1] at q3; cases q3
      rw [if_pos q2, if_pos q3]
      have f0 : frW h (am_up h 75 r 0) := fun c hc => up_n (by omega)
      have rc0 : rE 536870912 B (eZ E r) (am_up h 75 r 0 75) := by rw [up_f]; exact eZ_r hB0 rc r
      have rm0 : rE 1000000 B (eZ E r) (am_up M 120 r 0 120) := by rw [up_f]; exact eZ_r hB0 rm r
      obtain ⟨h1, g1, g2, g3⟩ := spreadC_rounds 4 hv ho (nR S - 1) 999999 1 B (eZ E r) (am_up h 75 r 0) none none none (by omega) (by omega) hB0 (by omega) (RH_w ho f0 rh) rc0
      obtain ⟨n', v3, v4, v5, v6, M1, k0, k1, k2, k3⟩ := evenM_rounds 6 hv 1 r 6 nm 0 B (eZ E r) (am_up M 120 r 0) u4 u5 u6 (by omega) (by omega) hB0 (by omega) (fun c hc => (up_n hc).trans (fr c hc)) rm0
      rw [eN_6 hv (eZ_c _ (by omega))] at g3
      rw [show nI 1 = (1 : Int32) from rfl] at g1
      rw [nI_0] at k1
      rw [gW_spread, g1, r0_ok, k1, nI_1]
      have fh : ∀ c, c ≠ 75 → h1 c = h c := fun c hc => (g2 c hc).trans (up_n hc)
      obtain ⟨nc', nm', B', E', h', M', w3, w4, w5, w6, a1, a2, a3, a4, a5, a6, a7, a8, a9, a10⟩ := ih nc n' (r + 1) (B + 1152) (eN S 6 (eZ E r)) h1 M1 v3 v4 v5 v6 (by omega) (by omega) (by omega) (by omega) (by omega) (RH_w ho (fun c hc => fh c (by omega)) rh) k2 (rE_mono (by omega) g3) (rE_mono (by omega) k3) (fun j hj => by
        have hx := eN_x (S := S) 6 (eZ E r)
        by_cases w : j = r
        · rw [hx j 0 (by unfold eZ; rw [if_pos w])]; rfl
        · obtain ⟨z, hz⟩ := Option.isSome_iff_exists.mp (hk j (by omega))
          rw [hx j z (by unfold eZ; rw [if_neg w]; exact hz)]; rfl)
      exact ⟨nc', nm', B', E', h', M', w3, w4, w5, w6, by omega, by omega, a3, a4, a5, fun c hc => (a6 c hc).trans (fh c hc), a7, a8, a9, a10⟩
    · have q3 : ¬ M 120 r = 1000000 := by
        rcases rE_k (by omega) rm (show r < 6 by omega) with ⟨q3, -⟩ | ⟨-, -, q3, -⟩
        · rw [q1] at q3; cases q3
        · exact q3
      rw [if_neg q2, if_neg q3, nI_1]
      obtain ⟨nc', nm', B', E', h', M', w3, w4, w5, w6, a1, a2, a3, a4⟩ := ih nc nm (r + 1) B E h M u3 u4 u5 u6 (by omega) (by omega) (by omega) hB0 (by omega) rh fr rc rm (fun j hj => by
        by_cases w : j = r
        · rw [w, q1]; rfl
        · exact hk j (by omega))
      exact ⟨nc', nm', B', E', h', M', w3, w4, w5, w6, by omega, by omega, a3, a4⟩
end EVEN2
theorem P_even : Pr 67 146 [] := by
  refine Pr_w fun h S o o' tx as ks ss c m v => ?_
  have hv := m.1
  have hR := hv.1
  have hD := hv.2.1
  have h79 := c.2.2.2.2.2.2.2
  obtain ⟨h1, a1, a2, a3⟩ := gJ_fill6_ok 4 75 536870912 h
  obtain ⟨M1, b1, b2, b3⟩ := even_fillM 6 none none none none none 6 999999 0 S (by omega) (by omega) (fun i hi => absurd hi (by omega))
  have f1 : frW h h1 := fun c hc => a2 c (by omega)
  obtain ⟨nc', nm', B', E', h', M', w3, w4, w5, w6, p1, p2, p3, p4, p5, p6, p7, p8, p9, p10⟩ := even_loop hv c.o17 (nR S) 999999 999992 0 0 (fun _ => none) h1 M1 none none none none (by omega) (by omega) (by omega) (by omega) (by omega) (RH_w c.o17 f1 c.rh) b2 (fun j hj => Or.inl ⟨rfl, a3 j hj⟩) (fun j hj => Or.inl ⟨rfl, b3 j hj⟩) (fun j hj => absurd hj (by omega))
  have f2 : frW h h' := f1.tr (fun c hc => p6 c (by omega))
  have rh' := RH_w c.o17 f2 c.rh
  obtain ⟨nc', rfl⟩ : ∃ z, nc' = z + 1 := ⟨nc' - 1, by omega⟩
  obtain ⟨nm', rfl⟩ : ∃ z, nm' = z + 1 := ⟨nm' - 1, by omega⟩
  have tc := testC 5 hv rh' p3 p8 p10 (nD S) nc' 0 (by omega) (by omega)
  have tm := testM 6 hv p7 p3 p9 p10 w3 w4 w5 w6 (nD S) nm' 0 true (by omega) (by omega)
  rw [nI_0] at p4 p5 b1 tc tm
  rw [show yn (true = true) = 1 from rfl, Bool.true_and] at tm
  refine ⟨h', M', yn (eT S E' (nD S) 0 = true), ?_, ?_, fun c hc => f2 c (by omega), by rw [f2 79 (by omega)]; exact h79, fun c hc => p7 c (by omega)⟩
  · rw [gC_even, c.oo, gW_isEven, a1, r0_ok, p4, tW_isEven_7, rh'.1.1, hR.1, if_neg (nI_nlt (by omega) (by omega)), tc, r1_ok]
    unfold yn
    split <;> rfl
  · rw [gM_even, b1, show 999999 - 6 = 999992 + 1 from rfl, tM_even_3, if_neg (by decide), p5, tM_even_18, p7 84 (by omega), hR.1, if_neg (nI_nlt (by omega) (by omega)), tm]
