section TOUR2
variable {S : am_H}
theorem stayC_in (d : Nat) (hv : VH S) {o A m a : Nat} (ho : o ≤ 17) (hA : A = 80 ∨ A = 81) (hm : m < 64) (ha : a < m) : ∀ (q n r : Nat) (B : Int) (E : E_T) (h : am_H) (u5 u6 : Option am_V), r + q = nR S → q < n → 0 ≤ B → B + 48 * (q : Int) ≤ 900000 → RH o h S → h 79 0 = nI A → rT 536870912 B E (h A) →
    ∃ (w5 w6 : Option am_V) (h' : am_H), rT_stayOrNot (d + 1) n 9 [some (vr 4 79), some (vr 2 o), some (vi (nI m)), some (vi (nI a)), some (vi (nI r)), u5, u6] h = rT_stayOrNot (d + 1) (n - q) 9 [some (vr 4 79), some (vr 2 o), some (vi (nI m)), some (vi (nI a)), some (vi (nI (nR S))), w5, w6] h' ∧ (∀ c, c ≠ A → h' c = h c) ∧ rT 536870912 (B + 48 * (q : Int)) (sI S m a q r E) (h' A) := by
  intro q
  induction q with
  | zero =>
    intro n r B E h u5 u6 hr hn hB0 hB rh h0 t
    have : r = nR S := by omega
    subst this
    exact ⟨u5, u6, h, rfl, fun _ _ => rfl, rT_mono (by omega) t⟩
  | succ q ih =>
    intro n r B E h u5 u6 hr hn hB0 hB rh h0 t
    obtain ⟨n, rfl⟩ : ∃ z, n = z + 1 := ⟨n - 1, by omega⟩
    obtain ⟨w5, w6, h1, g1, g2, g3⟩ := stayC_step d n hv rh h0 hA hm ha (r := r) (by omega) (by omega) t u5 u6
    have f1 : frT h h1 := fun c hc => g2 c (by omega)
    obtain ⟨v5, v6, h', k1, k2, k3⟩ := ih n (r + 1) (B + 48) (sY S m E a r) h1 w5 w6 (by omega) (by omega) (by omega) (by omega) (RH_t ho f1 rh) (by rw [g2 79 (by omega)]; exact h0) g3
    refine ⟨v5, v6, h', ?_, fun c hc => (k2 c hc).trans (g2 c hc), rT_mono (by omega) k3⟩
    rw [g1, k1, show n + 1 - (q + 1) = n - q by omega]
theorem stayC_out (d : Nat) (hv : VH S) {o A m : Nat} (ho : o ≤ 17) (hA : A = 80 ∨ A = 81) (hm : m < 64) : ∀ (q n a : Nat) (B : Int) (E : E_T) (h : am_H) (u4 u5 u6 : Option am_V), a + q = m → 10 * q < n → 0 ≤ B → B + 288 * (q : Int) ≤ 900000 → RH o h S → h 79 0 = nI A → rT 536870912 B E (h A) →
    ∃ (h' : am_H), rT_stayOrNot (d + 1) n 3 [some (vr 4 79), some (vr 2 o), some (vi (nI m)), some (vi (nI a)), u4, u5, u6] h = some (h', none) ∧ (∀ c, c ≠ A → h' c = h c) ∧ rT 536870912 (B + 288 * (q : Int)) (sO S m q a E) (h' A) := by
  have hR := hv.1
  intro q
  induction q with
  | zero =>
    intro n a B E h u4 u5 u6 ha hn hB0 hB rh h0 t
    obtain ⟨n, rfl⟩ : ∃ z, n = z + 1 := ⟨n - 1, by omega⟩
    rw [tT_stayOrNot_3, if_neg (nI_nlt (by omega) (by omega))]
    exact ⟨h, rfl, fun _ _ => rfl, rT_mono (by omega) t⟩
  | succ q ih =>
    intro n a B E h u4 u5 u6 ha hn hB0 hB rh h0 t
    obtain ⟨n, rfl⟩ : ∃ z, n = z + 1 := ⟨n - 1, by omega⟩
    obtain ⟨w5, w6, h1, g1, g2, g3⟩ := stayC_in d hv ho hA hm (a := a) (by omega) (nR S) n 0 B E h u5 u6 (by omega) (by omega) hB0 (by omega) rh h0 t
    have f1 : frT h h1 := fun c hc => g2 c (by omega)
    have rh1 := RH_t ho f1 rh
    obtain ⟨n2, hn2⟩ : ∃ z, n - nR S = z + 1 := ⟨n - nR S - 1, by omega⟩
    rw [hn2, nI_0] at g1
    obtain ⟨h', k1, k2, k3⟩ := ih n2 (a + 1) (B + 288) (sI S m a (nR S) 0 E) h1 (some (vi (nI (nR S)))) w5 w6 (by omega) (by omega) (by omega) (by omega) rh1 (by rw [g2 79 (by omega)]; exact h0) (rT_mono (by omega) g3)
    refine ⟨h', ?_, fun c hc => (k2 c hc).trans (g2 c hc), rT_mono (by omega) k3⟩
    rw [tT_stayOrNot_3, if_pos (nI_lt (by omega) (by omega)), g1, tT_stayOrNot_9, rh1.1.1, hR.1, if_neg (nI_nlt (by omega) (by omega)), nI_1, k1]
theorem gT_stay_ok (d : Nat) (hv : VH S) {o A m : Nat} (ho : o ≤ 17) (hA : A = 80 ∨ A = 81) (hm : m < 64) {B : Int} {E : E_T} {h : am_H} (hB0 : 0 ≤ B) (hB : B ≤ 800000) (rh : RH o h S) (h0 : h 79 0 = nI A) (t : rT 536870912 B E (h A)) :
    ∃ (h' : am_H), am_g (d + 2) 42 [vr 4 79, vr 2 o, vi (nI m)] h = some (h', none) ∧ (∀ c, c ≠ A → h' c = h c) ∧ rT 536870912 (B + 18432) (sO S m m 0 E) (h' A) := by
  obtain ⟨h', k1, k2, k3⟩ := stayC_out d hv ho hA hm m 999999 0 B E h none none none (by omega) (by omega) hB0 (by omega) rh h0 t
  refine ⟨h', ?_, k2, rT_mono (by omega) k3⟩
  rw [nI_0] at k1
  rw [gT_stayOrNot, k1]
theorem stayM_in (d : Nat) (hv : VH S) {m a : Nat} (hm : m < 64) (ha : a < 64) : ∀ (q n r : Nat) (B : Int) (E : E_T) (M : am_H) (u4 u5 u6 : Option am_V), r + q = nR S → q < n → 0 ≤ B → B + 48 * (q : Int) ≤ 900000 → (∀ c, ¬ (119 ≤ c ∧ c ≤ 122) → M c = S c) → rT 1000000 B E (M 121) →
    ∃ (w4 w5 w6 : Option am_V) (M' : am_H), rM_layStays (d + 1) n 9 [some (vr 7 82), some (vi (nI m)), some (vi (nI a)), some (vi (nI r)), u4, u5, u6] M = rM_layStays (d + 1) (n - q) 9 [some (vr 7 82), some (vi (nI m)), some (vi (nI a)), some (vi (nI (nR S))), w4, w5, w6] M' ∧ (∀ c, c ≠ 121 → M' c = M c) ∧ rT 1000000 (B + 48 * (q : Int)) (sI S m a q r E) (M' 121) := by
  intro q
  induction q with
  | zero =>
    intro n r B E M u4 u5 u6 hr hn hB0 hB fr t
    have : r = nR S := by omega
    subst this
    exact ⟨u4, u5, u6, M, rfl, fun _ _ => rfl, rT_mono (by omega) t⟩
  | succ q ih =>
    intro n r B E M u4 u5 u6 hr hn hB0 hB fr t
    obtain ⟨n, rfl⟩ : ∃ z, n = z + 1 := ⟨n - 1, by omega⟩
    obtain ⟨w4, w5, w6, M1, g1, g2, g3⟩ := stayM_step d n hv fr hm ha (r := r) (by omega) (by omega) t u4 u5 u6
    obtain ⟨v4, v5, v6, M', k1, k2, k3⟩ := ih n (r + 1) (B + 48) (sY S m E a r) M1 w4 w5 w6 (by omega) (by omega) (by omega) (by omega) (fun c hc => (g2 c (by omega)).trans (fr c hc)) g3
    refine ⟨v4, v5, v6, M', ?_, fun c hc => (k2 c hc).trans (g2 c hc), rT_mono (by omega) k3⟩
    rw [g1, k1, show n + 1 - (q + 1) = n - q by omega]
theorem stayM_out (d : Nat) (hv : VH S) {m : Nat} (hm : m < 64) : ∀ (q n a : Nat) (B : Int) (E : E_T) (M : am_H) (u3 u4 u5 u6 : Option am_V), a + q = 64 → 10 * q < n → 0 ≤ B → B + 288 * (q : Int) ≤ 900000 → (∀ c, ¬ (119 ≤ c ∧ c ≤ 122) → M c = S c) → rT 1000000 B E (M 121) →
    ∃ (M' : am_H), rM_layStays (d + 1) n 3 [some (vr 7 82), some (vi (nI m)), some (vi (nI a)), u3, u4, u5, u6] M = some (M', none) ∧ (∀ c, c ≠ 121 → M' c = M c) ∧ rT 1000000 (B + 288 * (q : Int)) (sO S m q a E) (M' 121) := by
  have hR := hv.1
  intro q
  induction q with
  | zero =>
    intro n a B E M u3 u4 u5 u6 ha hn hB0 hB fr t
    obtain ⟨n, rfl⟩ : ∃ z, n = z + 1 := ⟨n - 1, by omega⟩
    have : a = 64 := by omega
    subst this
    rw [tM_layStays_3, if_neg (by decide)]
    exact ⟨M, rfl, fun _ _ => rfl, rT_mono (by omega) t⟩
  | succ q ih =>
    intro n a B E M u3 u4 u5 u6 ha hn hB0 hB fr t
    obtain ⟨n, rfl⟩ : ∃ z, n = z + 1 := ⟨n - 1, by omega⟩
    obtain ⟨w4, w5, w6, M1, g1, g2, g3⟩ := stayM_in d hv hm (a := a) (by omega) (nR S) n 0 B E M u4 u5 u6 (by omega) (by omega) hB0 (by omega) fr t
    have fr1 : ∀ c, ¬ (119 ≤ c ∧ c ≤ 122) → M1 c = S c := fun c hc => (g2 c (by omega)).trans (fr c hc)
    obtain ⟨n2, hn2⟩ : ∃ z, n - nR S = z + 1 := ⟨n - nR S - 1, by omega⟩
    rw [hn2, nI_0] at g1
    obtain ⟨M', k1, k2, k3⟩ := ih n2 (a + 1) (B + 288) (sI S m a (nR S) 0 E) M1 (some (vi (nI (nR S)))) w4 w5 w6 (by omega) (by omega) (by omega) (by omega) fr1 (rT_mono (by omega) g3)
    refine ⟨M', ?_, fun c hc => (k2 c hc).trans (g2 c hc), rT_mono (by omega) k3⟩
    rw [tM_layStays_3, if_pos (show nI a < 64 from nI_lt (b := 64) (by omega) (by omega)), g1, tM_layStays_9, fr1 84 (by omega), hR.1, if_neg (nI_nlt (by omega) (by omega)), nI_1, k1]
theorem gM_stay_ok (d : Nat) (hv : VH S) {m : Nat} (hm : m < 64) {B : Int} {E : E_T} {M : am_H} (hB0 : 0 ≤ B) (hB : B ≤ 800000) (fr : ∀ c, ¬ (119 ≤ c ∧ c ≤ 122) → M c = S c) (he : eD S m E) (t : rT 1000000 B E (M 121)) :
    ∃ (M' : am_H), am_g (d + 2) 147 [vr 7 82, vi (nI m)] M = some (M', none) ∧ (∀ c, c ≠ 121 → M' c = M c) ∧ rT 1000000 (B + 18432) (sO S m m 0 E) (M' 121) := by
  obtain ⟨M', k1, k2, k3⟩ := stayM_out d hv hm 64 999999 0 B E M none none none none (by omega) (by omega) hB0 (by omega) fr t
  refine ⟨M', ?_, k2, ?_⟩
  · rw [nI_0] at k1
    rw [gM_layStays, k1]
  · rw [← sO_64 hv hm he]
    exact rT_mono (by omega) k3
/-- what stands as done, in class and reference -/
def nT1 (so fw lo : Int32) : Prop := (so = 536870912 ∧ lo = 1000000 ∧ fw = -4) ∨ (so = lo ∧ (-900000 ≤ so.toInt ∧ so.toInt ≤ 900000) ∧ ∃ k, fw = nI k ∧ k ≤ 10)
theorem note_ok (d d' : Nat) (hv : VH S) {o A m k : Nat} (ho : o ≤ 17) (hA : A = 80 ∨ A = 81) (hm : m < 64) (hk : k ≤ 10) {B : Int} {E : E_T} {M : am_H} (hB0 : 0 ≤ B) (hB : B ≤ 900000) (fr : ∀ c, ¬ (119 ≤ c ∧ c ≤ 122) → M c = S c) (tm : rT 1000000 B E (M 121)) (x1 x3 : Int32) (u9 u10 u11 : Option am_V) : ∀ (q nc nm r : Nat) (h : am_H) (lo : Int32) (u5 u8 : Option am_V), r + q = nR S → q < nc → q < nm → RH o h S → h 79 0 = nI A → rT 536870912 B E (h A) → nT1 (h 79 2) (h 79 3) lo →
    ∃ (h' : am_H) (lo' : Int32) (w8 : Option am_V), rT_noteDone (d + 1) nc 3 [some (vr 4 79), some (vr 2 o), some (vi (nI m)), some (vi (nI k)), some (vi (nI r)), u5] h = some (h', none) ∧ rM_round d' nm 66 [some (vr 7 82), some (vi x1), some (vi (nI m)), some (vi x3), some (vi lo), some (vi (h 79 3)), some (vi (nI k)), some (vi (nI r)), u8, u9, u10, u11] M = rM_round d' (nm - q) 66 [some (vr 7 82), some (vi x1), some (vi (nI m)), some (vi x3), some (vi lo'), some (vi (h' 79 3)), some (vi (nI k)), some (vi (nI (nR S))), w8, u9, u10, u11] M ∧
      (∀ c, c ≠ 79 → h' c = h c) ∧ h' 79 0 = h 79 0 ∧ h' 79 1 = h 79 1 ∧ nT1 (h' 79 2) (h' 79 3) lo' := by
  have hR := hv.1
  have e1 : ((536870912 : Int32)).toInt = 536870912 := rfl
  have e2 : ((1000000 : Int32)).toInt = 1000000 := rfl
  intro q
  induction q with
  | zero =>
    intro nc nm r h lo u5 u8 hr hnc hnm rh h0 t hN
    obtain ⟨nc, rfl⟩ : ∃ z, nc = z + 1 := ⟨nc - 1, by omega⟩
    have : r = nR S := by omega
    subst this
    rw [tT_noteDone_3, rh.1.1, hR.1, if_neg (nI_nlt (by omega) (by omega))]
    exact ⟨h, lo, u8, rfl, rfl, fun _ _ => rfl, rfl, rfl, hN⟩
  | succ q ih =>
    intro nc nm r h lo u5 u8 hr hnc hnm rh h0 t hN
    obtain ⟨nc, rfl⟩ : ∃ z, nc = z + 1 := ⟨nc - 1, by omega⟩
    obtain ⟨nm, rfl⟩ : ∃ z, nm = z + 1 := ⟨nm - 1, by omega⟩
    have hAn : (h 79 0).toNatClampNeg = A := by rw [h0, nI_clamp (by omega)]
    have i1 : nI m * 6 + nI r = nI (6 * m + r) := by rw [show (6 : Int32) = nI 6 from rfl, pk_mul, nI_add, Nat.mul_comm]
    have i2 : (6 : Int32) * nI m + nI r = nI (6 * m + r) := by rw [show (6 : Int32) = nI 6 from rfl, pk_mul, nI_add]
    have hj : 6 * m + r < 384 := by omega
    rw [tT_noteDone_3, tM_round_66, rh.1.1, fr 84 (by omega), hR.1, if_pos (nI_lt (by omega) (by omega)), if_pos (nI_lt (by omega) (by omega)), i1, i2, b_ok hj (by omega), b_ok hj (by omega), hAn, nI_1, show nm + 1 - (q + 1) = nm - q by omega]
    -- the next room, with another heap of the tour's own fields
    have go : ∀ (x y lo2 : Int32) (u5 u8 : Option am_V), nT1 x y lo2 → ∃ (h' : am_H) (lo' : Int32) (w8 : Option am_V), rT_noteDone (d + 1) nc 3 [some (vr 4 79), some (vr 2 o), some (vi (nI m)), some (vi (nI k)), some (vi (nI (r + 1))), u5] (am_up (am_up h 79 3 y) 79 2 x) = some (h', none) ∧ rM_round d' nm 66 [some (vr 7 82), some (vi x1), some (vi (nI m)), some (vi x3), some (vi lo2), some (vi y), some (vi (nI k)), some (vi (nI (r + 1))), u8, u9, u10, u11] M = rM_round d' (nm - q) 66 [some (vr 7 82), some (vi x1), some (vi (nI m)), some (vi x3), some (vi lo'), some (vi (h' 79 3)), some (vi (nI k)), some (vi (nI (nR S))), w8, u9, u10, u11] M ∧
      (∀ c, c ≠ 79 → h' c = h c) ∧ h' 79 0 = h 79 0 ∧ h' 79 1 = h 79 1 ∧ nT1 (h' 79 2) (h' 79 3) lo' := by
      intro x y lo2 u5 u8 hn
      have f2 : frT h (am_up (am_up h 79 3 y) 79 2 x) := fun c hc => by rw [up_n (by omega), up_n (by omega)]
      have e3 : am_up (am_up h 79 3 y) 79 2 x 79 3 = y := by rw [up_d (by omega), up_s]
      obtain ⟨h', lo', w8, k1, k2, k3, k4, k5, k6⟩ := ih nc nm (r + 1) (am_up (am_up h 79 3 y) 79 2 x) lo2 u5 u8 (by omega) (by omega) (by omega) (RH_t ho f2 rh) (by rw [up_d (by omega), up_d (by omega)]; exact h0) (by rw [up_n (by omega), up_n (by omega)]; exact t) (by rw [up_s, e3]; exact hn)
      rw [e3] at k2
      refine ⟨h', lo', w8, k1, k2, fun c hc => by rw [k3 c hc, up_n hc, up_n hc], by rw [k4, up_d (by omega), up_d (by omega)], by rw [k5, up_d (by omega), up_d (by omega)], k6⟩
    have id3 : ∀ x, am_up h 79 2 x = am_up (am_up h 79 3 (h 79 3)) 79 2 x := fun x => by rw [up_id]
    rcases rT_k (by omega) t hj with ⟨q1, q2, -⟩ | ⟨z, q1, q2, q3, q4, -⟩
    · obtain ⟨-, p2, p3⟩ : E (6 * m + r) = none ∧ M 121 (6 * m + r) = 1000000 ∧ ¬ M 121 (6 * m + r) < 1000000 := by
        rcases rT_k (by omega) tm hj with w | ⟨z, w, -⟩
        · exact w
        · rw [q1] at w; cases w
      have hlo : ¬ M 121 (6 * m + r) < lo := by
        rw [p2]
        rcases hN with ⟨-, w, -⟩ | ⟨w, w2, -⟩
        · rw [w]; decide
        · rw [Int32.lt_iff_toInt_lt, e2, ← w]; omega
      have hso : ¬ h A (6 * m + r) < h 79 2 := by
        rw [q2]
        rcases hN with ⟨w, -, -⟩ | ⟨w, w2, -⟩
        · rw [w]; decide
        · rw [Int32.lt_iff_toInt_lt, e1]; omega
      rw [if_pos q2, gJ_min, if_neg hso, r1_ok, if_neg hlo, if_neg p3, id3]
      exact go _ _ _ _ _ hN
    · obtain ⟨p1, p3⟩ : M 121 (6 * m + r) = h A (6 * m + r) ∧ M 121 (6 * m + r) < 1000000 := by
        rcases rT_k (by omega) tm hj with ⟨w, -⟩ | ⟨z', w1, w2, w3, w4, w5⟩
        · rw [q1] at w; cases w
        · rw [q1] at w1; cases w1
          exact ⟨Int32.toInt.inj (by omega), w5⟩
      rw [if_neg q4, if_pos p3, if_pos p3, p1]
      rcases hN with ⟨w1, w2, w3⟩ | ⟨w1, w2, k', w3, w4⟩
      · have hn : nT1 (h A (6 * m + r)) (nI k) (h A (6 * m + r)) := Or.inr ⟨rfl, by omega, k, rfl, hk⟩
        have l1 : h A (6 * m + r) < 536870912 := by rw [Int32.lt_iff_toInt_lt, e1]; omega
        have l2 : h A (6 * m + r) < 1000000 := by rw [Int32.lt_iff_toInt_lt, e2]; omega
        rw [if_pos w3, gJ_min, w1, w2, w3, if_pos l1, r1_ok, if_pos l2, if_pos (by decide)]
        exact go _ _ _ _ _ hn
      · have n1 : ¬ h 79 3 = -4 := by rw [w3]; exact fun z => m4_ne (by omega) z
        have n2 : ¬ h 79 3 < 0 := by rw [w3]; exact nI_pos (by omega)
        rw [if_neg n1, gJ_min, if_neg n2, if_neg n2, ← w1]
        by_cases l : h A (6 * m + r) < h 79 2
        · rw [if_pos l, r1_ok, if_pos l, id3]
          exact go _ _ _ _ _ (Or.inr ⟨rfl, by omega, k', w3, w4⟩)
        · rw [if_neg l, r1_ok, if_neg l, id3]
          exact go _ _ _ _ _ (Or.inr ⟨rfl, w2, k', w3, w4⟩)
end TOUR2
