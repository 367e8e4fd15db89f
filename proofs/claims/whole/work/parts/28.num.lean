/-! NUMBERS: rest, the rest that is not below 0, common divisors -/
theorem nI_ofInt (n : Nat) : nI n = Int32.ofInt (n : Int) := by
  apply Int32.toInt.inj
  show (Int32.ofNat n).toInt = _
  simp [Int32.toInt_ofNat', Int32.toInt_ofInt]
theorem ti_of {z : Int} (h1 : -2147483648 ≤ z) (h2 : z < 2147483648) : (Int32.ofInt z).toInt = z := by
  rw [Int32.toInt_ofInt]
  show Int.bmod z 4294967296 = z
  unfold Int.bmod
  dsimp only
  split <;> omega
theorem of_ti (x : Int32) : Int32.ofInt x.toInt = x := by
  apply Int32.toInt.inj
  rw [ti_of (Int32.le_toInt x) (Int32.toInt_lt x)]
theorem rem_ti (x : Int32) {b : Nat} (hb : 0 < b) (hb2 : b < 2 ^ 30) : (am_rem x (nI b)).toInt = x.toInt.tmod b := by
  have hx1 := Int32.le_toInt x
  have hx2 := Int32.toInt_lt x
  have hnb : (nI b).toInt = (b : Int) := nI_toInt (by omega)
  have hq := Int.tmod_add_mul_tdiv x.toInt b
  have ht1 := Int.tmod_lt_of_pos x.toInt (show (0 : Int) < b by omega)
  have ht2 : -(b : Int) < x.toInt.tmod b := by
    have h0 := Int.tmod_lt_of_pos (-x.toInt) (show (0 : Int) < b by omega)
    rw [Int.neg_tmod] at h0
    omega
  have hd : (x / nI b).toInt = x.toInt.tdiv b := by
    rw [Int32.toInt_div, hnb]
    have h1 : x.toInt.tdiv b ≤ 2147483647 ∧ -2147483648 ≤ x.toInt.tdiv b := by
      have h3 : (x.toInt.tdiv b).natAbs ≤ x.toInt.natAbs := by
        rw [Int.natAbs_tdiv]
        exact Nat.div_le_self _ _
      by_cases hb1 : b = 1
      · subst hb1; simp; omega
      · have h4 : (x.toInt.tdiv b).natAbs ≤ 1073741824 := by
          rw [Int.natAbs_tdiv]
          have : x.toInt.natAbs ≤ 2147483648 := by omega
          have h5 : (b : Int).natAbs = b := by simp
          rw [h5]
          apply Nat.div_le_of_le_mul
          have : 2 ≤ b := by omega
          calc x.toInt.natAbs ≤ 2 * 1073741824 := by omega
            _ ≤ b * 1073741824 := Nat.mul_le_mul_right _ this
        omega
    unfold Int.bmod
    dsimp only
    split <;> omega
  have hs : (0 ≤ x.toInt → 0 ≤ x.toInt.tmod b) ∧ (x.toInt ≤ 0 → x.toInt.tmod b ≤ 0) := by
    refine ⟨fun q => Int.tmod_nonneg _ q, fun q => ?_⟩
    have := Int.tmod_nonneg (a := -x.toInt) (b := b) (by omega)
    rw [Int.neg_tmod] at this
    omega
  unfold am_rem
  have hm : (x / nI b * nI b).toInt = x.toInt.tdiv b * b := by
    rw [ti_mul] <;> rw [hd, hnb] <;> rw [Int.mul_comm] <;> omega
  rw [ti_sub] <;> rw [hm] <;> rw [Int.mul_comm] <;> omega
theorem neg_msb (x : Int32) : (x < 0) ↔ x.toBitVec.msb = true := by
  rw [BitVec.msb_eq_toInt, Int32.lt_iff_toInt_lt]
  have z : ((0 : Int32)).toInt = 0 := rfl
  rw [z]
  exact ⟨fun q => decide_eq_true q, fun q => of_decide_eq_true q⟩
theorem xor_neg (x : Int32) {b : Nat} (hb : b < 2 ^ 31) : (x ^^^ nI b < 0) ↔ x < 0 := by
  have hn : (nI b).toBitVec.msb = false := by
    have : ¬ nI b < 0 := nI_pos hb
    rw [neg_msb] at this
    simpa using this
  rw [neg_msb, neg_msb, Int32.toBitVec_xor, BitVec.msb_xor, hn]
  simp
theorem emod_t (z : Int) {b : Nat} (hb : 0 < b) : z % b = if z.tmod b < 0 then z.tmod b + b else z.tmod b := by
  have h1 := Int.tmod_lt_of_pos z (show (0 : Int) < b by omega)
  have h0 := Int.tmod_lt_of_pos (-z) (show (0 : Int) < b by omega)
  rw [Int.neg_tmod] at h0
  have hq := Int.tmod_add_mul_tdiv z b
  have e : z % b = (z.tmod b) % b := by
    conv => lhs; rw [← hq]
    rw [Int.add_mul_emod_self_left]
  rw [e]
  split
  · rw [← Int.add_emod_right (z.tmod b) b, Int.emod_eq_of_lt (by omega) (by omega)]
  · rw [Int.emod_eq_of_lt (by omega) (by omega)]
/-- the rest that is not below 0 -/
def fm (x : Int32) (b : Nat) : Int32 := Int32.ofInt (x.toInt % b)
theorem floorMod_ok (d : Nat) (x : Int32) {b : Nat} (hb : 0 < b) (hb2 : b < 2 ^ 30) (h : am_H) : am_g (d + 1) 165 [vi x, vi (nI b)] h = some (h, some (fm x b)) := by
  have hr := rem_ti x hb hb2
  have he := emod_t x.toInt hb
  have ht1 := Int.tmod_lt_of_pos x.toInt (show (0 : Int) < b by omega)
  have h0 := Int.tmod_lt_of_pos (-x.toInt) (show (0 : Int) < b by omega)
  rw [Int.neg_tmod] at h0
  have z : ((0 : Int32)).toInt = 0 := rfl
  have hnn : ¬ x < 0 → 0 ≤ x.toInt.tmod b := fun q => by
    rw [Int32.lt_iff_toInt_lt, z] at q
    exact Int.tmod_nonneg _ (by omega)
  have hnp : x < 0 → x.toInt.tmod b ≤ 0 := fun q => by
    rw [Int32.lt_iff_toInt_lt, z] at q
    have := Int.tmod_nonneg (a := -x.toInt) (b := b) (by omega)
    rw [Int.neg_tmod] at this
    omega
  have hR : ∀ y : Int32, y.toInt = x.toInt % b → y = fm x b := fun y hy => by
    apply Int32.toInt.inj
    unfold fm
    rw [hy, ti_of] <;> rw [he] <;> split <;> omega
  rw [gJ_floorMod, if_neg (nI_ne0 hb (by omega))]
  by_cases hx : x < 0
  · rw [if_pos ((xor_neg x (by omega)).mpr hx)]
    by_cases h1 : am_rem x (nI b) = 0
    · rw [if_pos h1]
      have := hR (am_rem x (nI b)) (by
        rw [hr, he, if_neg]
        rw [← hr, h1]; decide)
      rw [this]
    · rw [if_neg h1]
      have hne : x.toInt.tmod b ≠ 0 := fun q => h1 (Int32.toInt.inj (by rw [hr, q]; rfl))
      have := hnp hx
      have := hR (am_rem x (nI b) + nI b) (by
        rw [he, if_pos (by omega), ti_add, hr, nI_toInt (by omega)] <;> rw [hr, nI_toInt (by omega)] <;> omega)
      rw [this]
  · rw [if_neg (fun q => hx ((xor_neg x (by omega)).mp q))]
    have := hR (am_rem x (nI b)) (by
      rw [hr, he, if_neg]
      have := hnn hx
      omega)
    rw [this]
theorem modulo_ok (d : Nat) (x : Int32) {b : Nat} (hb : 0 < b) (hb2 : b < 2 ^ 29) (h : am_H) : am_g (d + 1) 126 [vi x, vi (nI b)] h = some (h, some (fm x b)) := by
  have hr := rem_ti x hb (by omega)
  have he := emod_t x.toInt hb
  have ht1 := Int.tmod_lt_of_pos x.toInt (show (0 : Int) < b by omega)
  have h0 := Int.tmod_lt_of_pos (-x.toInt) (show (0 : Int) < b by omega)
  rw [Int.neg_tmod] at h0
  rw [gM_modulo, if_neg (nI_ne0 hb (by omega)), if_neg (nI_ne0 hb (by omega))]
  have ha : (am_rem x (nI b) + nI b).toInt = x.toInt.tmod b + b := by
    rw [ti_add, hr, nI_toInt (by omega)] <;> rw [hr, nI_toInt (by omega)] <;> omega
  have : am_rem (am_rem x (nI b) + nI b) (nI b) = fm x b := by
    apply Int32.toInt.inj
    rw [rem_ti _ hb (by omega), ha]
    unfold fm
    rw [ti_of]
    · rw [Int.tmod_eq_emod_of_nonneg (by omega), he]
      split
      · rw [Int.emod_eq_of_lt (by omega) (by omega)]
      · rw [Int.add_emod_right, Int.emod_eq_of_lt (by omega) (by omega)]
    · rw [he]; split <;> omega
    · rw [he]; split <;> omega
  rw [this]
theorem rem_nI {a b : Nat} (ha : a < 2 ^ 31) (hb : 0 < b) (hb2 : b < 2 ^ 31) : am_rem (nI a) (nI b) = nI (a % b) := pk_rem ha hb hb2
theorem common_ok (d : Nat) (h : am_H) (x0 x1 : Int32) : ∀ (b a n : Nat) (u : Option am_V), b < n → a < 2 ^ 31 → b < 2 ^ 31 → rM_common d n 5 [some (vi x0), some (vi x1), some (vi (nI a)), some (vi (nI b)), u] h = some (h, some (nI (Nat.gcd a b))) := by
  intro b
  induction b using Nat.strongRecOn with
  | ind b ih =>
    intro a n u hn ha hb
    obtain ⟨n, rfl⟩ : ∃ m, n = m + 1 := ⟨n - 1, by omega⟩
    rw [tM_common_5]
    by_cases e : b = 0
    · subst e
      rw [nI_0, if_pos rfl, Nat.gcd_zero_right]
    · rw [if_neg (nI_ne0 (by omega) hb), if_neg (nI_ne0 (by omega) hb), rem_nI ha (by omega) hb, ih (a % b) (Nat.mod_lt _ (by omega)) b n _ (by have := Nat.mod_lt a (show b > 0 by omega); omega) hb (by have := Nat.mod_lt a (show b > 0 by omega); omega)]
      rw [Nat.gcd_comm a b, Nat.gcd_rec b a, Nat.gcd_comm]
theorem max_ok (d : Nat) (x y : Int32) (h : am_H) : am_g (d + 1) 166 [vi x, vi y] h = some (h, some (if x < y then y else x)) := by
  rw [gJ_max]; split <;> rfl
theorem commonC_ok (d : Nat) (h : am_H) (x0 x1 : Int32) : ∀ (b a n k : Nat) (u : Option am_V), b < n → a < 2 ^ 31 → k + b ≤ 63 → 0 < a + b → rC_commonDivisor (d + 1) n 7 [some (vi x0), some (vi x1), some (vi (nI a)), some (vi (nI b)), some (vi (nI k)), u] h = some (h, some (nI (Nat.gcd a b))) := by
  intro b
  induction b using Nat.strongRecOn with
  | ind b ih =>
    intro a n k u hn ha hk hp
    obtain ⟨n, rfl⟩ : ∃ m, n = m + 1 := ⟨n - 1, by omega⟩
    have hlt : nI k < 64 := nI_lt (b := 64) (by omega) (by omega)
    rw [tC_commonDivisor_7, if_pos hlt]
    by_cases e : b = 0
    · subst e
      have : ¬ nI a < 1 := nI_nlt (a := a) (b := 1) (by omega) (by omega)
      rw [nI_0, if_pos rfl, Nat.gcd_zero_right, max_ok, r1_ok, if_neg this]
    · have hm := Nat.mod_lt a (show b > 0 by omega)
      rw [if_neg (nI_ne0 (by omega) (by omega)), if_neg (nI_ne0 (by omega) (by omega)), rem_nI ha (by omega) (by omega), nI_1, ih (a % b) hm b n (k + 1) _ (by omega) (by omega) (by omega) (by omega)]
      rw [Nat.gcd_comm a b, Nat.gcd_rec b a, Nat.gcd_comm]
