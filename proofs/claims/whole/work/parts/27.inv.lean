/-! THE INVARIANT: what the class's cells of h, and the reference's cells of S, say: the letters tx, the acts as, the acts kept ks, what was seen ss -/
def RAc (a : Nat) (h : am_H) (as : List K_A) : Prop := h a 3 = nI as.length ∧ ∀ (j : Nat) (x : K_A), as[j]? = some x → h (a + 1) j = nI x.1 ∧ h (a + 2) j = nI x.2.1 ∧ h (a + 3) j = nI x.2.2
def RH (o : Nat) (h S : am_H) : Prop :=
  (h o 14 = S 84 0 ∧ h o 15 = S 88 0 ∧ h o 16 = S 92 0 ∧ h o 17 = S 95 0 ∧ h o 18 = S 99 0) ∧
  (∀ r, r < nR S → h (o + 1) r = S 85 r ∧ h (o + 2) r = S 86 r ∧ h (o + 3) r = S 87 r ∧ h (o + 4) r = hOf S r ∧ h (o + 5) r = (12 * S 85 r) / S 86 r) ∧
  (∀ e, e < nD S → h (o + 6) e = S 89 e ∧ h (o + 7) e = S 90 e ∧ h (o + 8) e = S 91 e) ∧
  (∀ i, i < nP S → h (o + 9) i = S 93 i ∧ h (o + 10) i = S 94 i) ∧
  ∀ t, t < nT S → h (o + 11) t = S 96 t ∧ h (o + 12) t = S 97 t ∧ h (o + 13) t = S 98 t
def CI (h S : am_H) (o o' : Nat) (tx : List Nat) (as : List K_A) (ks : List (List K_A)) (ss : List K_A) : Prop :=
  ((o = 2 ∧ o' = 17 ∨ o = 17 ∧ o' = 2) ∧ h 0 2 = nI o ∧ h 0 3 = nI o') ∧ (h 0 1 = nI tx.length ∧ ∀ (j x : Nat), tx[j]? = some x → h 1 j = nI x) ∧ RH o h S ∧ (h 32 0 = nI o ∧ h 32 1 = -4 ∧ RC 32 h S (kAll S as)) ∧ RAc 58 h as ∧
  (h 0 9 = nI ks.length ∧ (∀ l, ks[0]? = some l → RAc 62 h l) ∧ ∀ l, ks[1]? = some l → RAc 66 h l) ∧
  (h 70 3 = nI ss.length ∧ ∀ (j : Nat) (x : K_A), ss[j]? = some x → h 71 j = nI x.1 ∧ h 72 j = nI x.2.1 ∧ h 73 j = nI x.2.2) ∧
  (h 79 0 = nI 80 ∧ h 79 1 = nI 81 ∨ h 79 0 = nI 81 ∧ h 79 1 = nI 80)
def MI (S : am_H) (tx : List Nat) (as : List K_A) (ks : List (List K_A)) (ss : List K_A) : Prop :=
  VH S ∧ (S 82 0 = nI tx.length ∧ ∀ (j x : Nat), tx[j]? = some x → S 83 j = nI x) ∧ RM S (kAll S as) ∧ RAm S 0 as ∧ (S 82 22 = nI ks.length ∧ ∀ (b : Nat) (l : List K_A), ks[b]? = some l → RAm S (b + 1) l) ∧
  (S 82 23 = nI ss.length ∧ ∀ (j : Nat) (x : K_A), ss[j]? = some x → S 104 j = nI x.1 ∧ S 105 j = nI x.2.1 ∧ S 106 j = nI x.2.2)
def VI (S : am_H) (tx : List Nat) (as : List K_A) (ks : List (List K_A)) (ss : List K_A) : Prop :=
  (tx.length ≤ 200 ∧ ∀ x ∈ tx, 32 ≤ x ∧ x ≤ 126) ∧ (as.length ≤ 40 ∧ ∀ a ∈ as, okA S a) ∧ (ks.length ≤ 2 ∧ ∀ l ∈ ks, l.length ≤ 40 ∧ ∀ a ∈ l, okA S a) ∧ (ss.length ≤ 8 ∧ ∀ x ∈ ss, x.1 < nR S ∧ (1 ≤ x.2.1 ∧ x.2.1 ≤ 99) ∧ x.2.2 ≤ 400)
/-- THE TWO ANSWER ALIKE, and go on alike -/
def Pr (z z' : Nat) (al : List am_V) : Prop := ∀ (h S : am_H) (o o' : Nat) (tx : List Nat) (as : List K_A) (ks : List (List K_A)) (ss : List K_A), CI h S o o' tx as ks ss → MI S tx as ks ss → VI S tx as ks ss →
  ∃ (h1 S1 : am_H) (v : Int32), am_g 7 z (vr 6 0 :: al) h = some (h1, some v) ∧ am_g 7 z' (vr 7 82 :: al) S = some (S1, some v) ∧ (∀ c, 82 ≤ c → h1 c = h c) ∧ (∀ c, c < 82 → S1 c = S c) ∧
    ∃ (o1 o1' : Nat) (tx1 : List Nat) (as1 : List K_A) (ks1 : List (List K_A)) (ss1 : List K_A), CI h1 S1 o1 o1' tx1 as1 ks1 ss1 ∧ MI S1 tx1 as1 ks1 ss1 ∧ VI S1 tx1 as1 ks1 ss1
/-- a question that changes nothing -/
theorem Pr_q {z z' : Nat} {al : List am_V} (q : ∀ (h S : am_H) (o o' : Nat) (tx : List Nat) (as : List K_A) (ks : List (List K_A)) (ss : List K_A), CI h S o o' tx as ks ss → MI S tx as ks ss → VI S tx as ks ss → ∃ v, am_g 7 z (vr 6 0 :: al) h = some (h, some v) ∧ am_g 7 z' (vr 7 82 :: al) S = some (S, some v)) : Pr z z' al := by
  intro h S o o' tx as ks ss c m v
  obtain ⟨x, h1, h2⟩ := q h S o o' tx as ks ss c m v
  exact ⟨h, S, x, h1, h2, fun _ _ => rfl, fun _ _ => rfl, o, o', tx, as, ks, ss, c, m, v⟩
section CIS
variable {h S : am_H} {o o' : Nat} {tx : List Nat} {as : List K_A} {ks : List (List K_A)} {ss : List K_A}
theorem CI.oo (c : CI h S o o' tx as ks ss) : (h 0 2).toNatClampNeg = o := by
  have := c.1.1
  rw [c.1.2.1, nI_clamp (by omega)]
theorem CI.o17 (c : CI h S o o' tx as ks ss) : o ≤ 17 := by
  have := c.1.1
  omega
theorem CI.eh (c : CI h S o o' tx as ks ss) (hv : VH S) : EH 32 o h S := by
  obtain ⟨r1, r2, r3, r4, r5⟩ := c.2.2.1
  have ho := c.o17
  refine ⟨⟨c.2.2.2.1.1, by omega, by omega⟩, ⟨r1.2.1.trans hv.2.1.1, r1.2.2.1.trans hv.2.2.1.1, r1.2.2.2.1.trans hv.2.2.2.1.1, r1.2.2.2.2⟩, fun r hr => ?_, r3, r4, fun t ht => (r5 t ht).1⟩
  have hR := hv.1.2.2
  rw [c.2.2.2.1.2.1, if_neg (m4_ne (by omega)), if_neg (m4_ne (by omega))]
  exact ⟨(r2 r hr).2.2.2.1, (r2 r hr).2.2.2.2⟩
theorem CI.rc (c : CI h S o o' tx as ks ss) : RC 32 h S (kAll S as) := c.2.2.2.1.2.2
theorem CI.rh (c : CI h S o o' tx as ks ss) : RH o h S := c.2.2.1
theorem VI.vk (v : VI S tx as ks ss) (hv : VH S) : VK S as.length (kAll S as) := VK_all hv as v.2.1.2 v.2.1.1
end CIS
theorem in_c {x : Int32} {n : Nat} (hn : n < 2 ^ 31) : (¬ x < 0 ∧ ¬ nI n < x) ↔ ∃ j, j ≤ n ∧ x = nI j := by
  constructor
  · rintro ⟨h1, h2⟩
    obtain ⟨j, hj, rfl⟩ := nI_of h1
    refine ⟨j, ?_, rfl⟩
    rw [nI_ltI hn hj] at h2
    omega
  · rintro ⟨j, hj, rfl⟩
    exact ⟨nI_pos (by omega), by rw [nI_ltI (by omega) (by omega)]; omega⟩
/-- a number below how many there are: the two ways to ask -/
theorem in_m {x : Int32} {n : Nat} (hn : n < 2 ^ 30) : (¬ x < 0 ∧ ¬ nI n - 1 < x) ↔ (¬ x < 0 ∧ x < nI n) := by
  have e1 : (nI n - 1).toInt = (n : Int) - 1 := by
    rw [ti_sub] <;> rw [nI_toInt (by omega)] <;> show _ <;> simp <;> omega
  rw [Int32.lt_iff_toInt_lt, Int32.lt_iff_toInt_lt, Int32.lt_iff_toInt_lt, e1, nI_toInt (by omega)]
  have z : ((0 : Int32)).toInt = 0 := rfl
  rw [z]
  omega
theorem yn_congr {p q : Prop} [Decidable p] [Decidable q] (h : p ↔ q) : yn p = yn q := by
  unfold yn
  by_cases hp : p
  · rw [if_pos hp, if_pos (h.mp hp)]
  · rw [if_neg hp, if_neg (fun z => hp (h.mpr z))]
theorem gM_isX (d : Nat) {z : Nat} {x : Int32} {S : am_H} {y : Int32} {n : Nat} (hz : am_g (d + 2) z [vr 7 82, vi x] S = am_r1 (am_g (d + 1) 95 [vl (Int32.toInt64 x), vl (Int32.toInt64 0), vl (Int32.toInt64 (y - 1))] S) fun h1 v2 => if v2 &&& 1 = v2 then some (h1, some v2) else none) (hy : y = nI n) (hn : n < 2 ^ 30) : am_g (d + 2) z [vr 7 82, vi x] S = some (S, some (yn (¬ x < 0 ∧ x < nI n))) := by
  rw [hz, gM_in_ok, r1_ok, if_pos yn_b, hy, yn_congr (in_m hn)]
theorem gM_isRoom_ok (d : Nat) {S : am_H} (hv : VH S) (x : Int32) : am_g (d + 2) 108 [vr 7 82, vi x] S = some (S, some (yn (¬ x < 0 ∧ x < nI (nR S)))) := gM_isX d (gM_isRoom _ _ _) hv.1.1 (by have := hv.1.2; omega)
theorem gM_isDoor_ok (d : Nat) {S : am_H} (hv : VH S) (x : Int32) : am_g (d + 2) 109 [vr 7 82, vi x] S = some (S, some (yn (¬ x < 0 ∧ x < nI (nD S)))) := gM_isX d (gM_isDoor _ _ _) hv.2.1.1 (by have := hv.2.1.2; omega)
theorem gM_isPerson_ok (d : Nat) {S : am_H} (hv : VH S) (x : Int32) : am_g (d + 2) 110 [vr 7 82, vi x] S = some (S, some (yn (¬ x < 0 ∧ x < nI (nP S)))) := gM_isX d (gM_isPerson _ _ _) hv.2.2.1.1 (by have := hv.2.2.1.2; omega)
theorem gM_isThing_ok (d : Nat) {S : am_H} (hv : VH S) (x : Int32) : am_g (d + 2) 111 [vr 7 82, vi x] S = some (S, some (yn (¬ x < 0 ∧ x < nI (nT S)))) := gM_isX d (gM_isThing _ _ _) hv.2.2.2.1.1 (by have := hv.2.2.2.1.2; omega)
theorem gC_isOneOf_ok (d : Nat) (x y : Int32) (h : am_H) : am_g (d + 1) 89 [vi x, vi y] h = some (h, some (yn (¬ x < 0 ∧ x < y))) := by
  rw [gC_isOneOf]
  unfold yn
  by_cases h1 : x < 0
  · simp [h1]
  · by_cases h2 : x < y <;> simp [h1, h2]
section CIS
variable {h S : am_H} {o o' : Nat} {tx : List Nat} {as : List K_A} {ks : List (List K_A)} {ss : List K_A}
theorem gC_isRoom_ok (d : Nat) (hv : VH S) (c : CI h S o o' tx as ks ss) (x : Int32) : am_g (d + 2) 91 [vr 6 0, vi x] h = some (h, some (yn (¬ x < 0 ∧ x < nI (nR S)))) := by
  rw [gC_isRoom, c.oo, c.rh.1.1, hv.1.1, gC_isOneOf_ok, r1_ok, if_pos yn_b]
theorem gC_isDoor_ok (d : Nat) (hv : VH S) (c : CI h S o o' tx as ks ss) (x : Int32) : am_g (d + 2) 92 [vr 6 0, vi x] h = some (h, some (yn (¬ x < 0 ∧ x < nI (nD S)))) := by
  rw [gC_isDoor, c.oo, c.rh.1.2.1, hv.2.1.1, gC_isOneOf_ok, r1_ok, if_pos yn_b]
theorem gC_isPerson_ok (d : Nat) (hv : VH S) (c : CI h S o o' tx as ks ss) (x : Int32) : am_g (d + 2) 93 [vr 6 0, vi x] h = some (h, some (yn (¬ x < 0 ∧ x < nI (nP S)))) := by
  rw [gC_isPerson, c.oo, c.rh.1.2.2.1, hv.2.2.1.1, gC_isOneOf_ok, r1_ok, if_pos yn_b]
theorem gC_isThing_ok (d : Nat) (hv : VH S) (c : CI h S o o' tx as ks ss) (x : Int32) : am_g (d + 2) 94 [vr 6 0, vi x] h = some (h, some (yn (¬ x < 0 ∧ x < nI (nT S)))) := by
  rw [gC_isThing, c.oo, c.rh.1.2.2.2.1, hv.2.2.2.1.1, gC_isOneOf_ok, r1_ok, if_pos yn_b]
end CIS
/-- an index that is none: the test says so -/
theorem ix_no {x : Int32} {n : Nat} (h : ¬ (¬ x < 0 ∧ x < nI n)) : yn (¬ x < 0 ∧ x < nI n) = 0 := yn_0.mpr h
theorem ix_yes {j n : Nat} (h : j < n) (hn : n < 2 ^ 31) : ¬ yn (¬ nI j < 0 ∧ nI j < nI n) = 0 := fun q => yn_0.mp q (ix_t h hn)
theorem P_count (x : Int32) : Pr 80 163 [vi x] := by
  refine Pr_q fun h S o o' tx as ks ss c m v => ?_
  rw [gC_count, gM_count, c.oo]
  obtain ⟨r1, r2, r3, r4, r5⟩ := c.rh.1
  rw [r1, r2, r3, r4, r5, c.2.2.2.2.1.1, m.2.2.2.1.1, c.2.2.2.2.2.1.1, m.2.2.2.2.1.1, c.2.2.2.2.2.2.1.1, m.2.2.2.2.2.1, c.2.1.1, m.2.1.1]
  repeat (split; exact ⟨_, rfl, rfl⟩)
  exact ⟨_, rfl, rfl⟩
theorem P_room (x y : Int32) : Pr 53 125 [vi x, vi y] := by
  refine Pr_q fun h S o o' tx as ks ss c m v => ?_
  have hv := m.1
  have hR := hv.1.2.2
  rw [gC_room, gM_room, gC_isRoom_ok 4 hv c, gM_isRoom_ok 4 hv, r1_ok, r1_ok]
  rcases ix_c (x := x) (n := nR S) (by omega) with hx | ⟨r, hr, rfl⟩
  · rw [if_pos (ix_no hx), if_pos (ix_no hx)]
    exact ⟨_, rfl, rfl⟩
  · rw [if_neg (ix_yes hr (by omega)), if_neg (ix_yes hr (by omega)), gM_in_ok, r1_ok, c.oo]
    obtain ⟨b1, b2, b3, b4, -⟩ := c.rh.2.1 r hr
    simp (disch := omega) only [b_ok]
    rw [b1, b2, b3, b4, gM_hourOf_ok 5 hv hr, r1_ok]
    by_cases hy : ¬ y < 0 ∧ ¬ 3 < y
    · rw [if_neg (fun q => yn_0.mp q hy)]
      obtain ⟨j, hj, rfl⟩ := (in_c (n := 3) (by omega)).mp hy
      have : j = 0 ∨ j = 1 ∨ j = 2 ∨ j = 3 := by omega
      rcases this with rfl | rfl | rfl | rfl <;> exact ⟨_, rfl, rfl⟩
    · rw [if_pos (yn_0.mpr hy)]
      have hne : ∀ j, j ≤ 3 → ¬ y = nI j := fun j hj q => hy ((in_c (n := 3) (by omega)).mpr ⟨j, hj, q⟩)
      rw [if_neg (hne 0 (by omega)), if_neg (hne 1 (by omega)), if_neg (hne 2 (by omega)), if_neg (hne 3 (by omega))]
      exact ⟨_, rfl, rfl⟩
theorem P_door (x y : Int32) : Pr 55 128 [vi x, vi y] := by
  refine Pr_q fun h S o o' tx as ks ss c m v => ?_
  have hv := m.1
  have hD := hv.2.1.2
  rw [gC_door, gM_door, gC_isDoor_ok 4 hv c, gM_isDoor_ok 4 hv, r1_ok, r1_ok]
  rcases ix_c (x := x) (n := nD S) (by omega) with hx | ⟨r, hr, rfl⟩
  · rw [if_pos (ix_no hx), if_pos (ix_no hx)]
    exact ⟨_, rfl, rfl⟩
  · rw [if_neg (ix_yes hr (by omega)), if_neg (ix_yes hr (by omega)), gM_in_ok, r1_ok, c.oo]
    obtain ⟨b1, b2, b3⟩ := c.rh.2.2.1 r hr
    simp (disch := omega) only [b_ok]
    rw [b1, b2, b3]
    by_cases hy : ¬ y < 0 ∧ ¬ 2 < y
    · rw [if_neg (fun q => yn_0.mp q hy)]
      obtain ⟨j, hj, rfl⟩ := (in_c (n := 2) (by omega)).mp hy
      have : j = 0 ∨ j = 1 ∨ j = 2 := by omega
      rcases this with rfl | rfl | rfl <;> exact ⟨_, rfl, rfl⟩
    · rw [if_pos (yn_0.mpr hy)]
      have hne : ∀ j, j ≤ 2 → ¬ y = nI j := fun j hj q => hy ((in_c (n := 2) (by omega)).mpr ⟨j, hj, q⟩)
      rw [if_neg (hne 0 (by omega)), if_neg (hne 1 (by omega)), if_neg (hne 2 (by omega))]
      exact ⟨_, rfl, rfl⟩
