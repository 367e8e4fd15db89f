/-! ROUND: the two side by side -/
section ROUND
theorem sub384 {n : Nat} (h : 400 ≤ n) : ∃ z, n - 384 = z + 1 ∧ n ≤ z + 385 := ⟨n - 385, by omega, by omega⟩
variable {S : am_H}
theorem stepM_in (d : Nat) (hv : VH S) {m e : Nat} (hm : m < 64) (hlt : e < nD S) {B : Int} {E : E_T} (hB : 0 ≤ B ∧ B ≤ 900000) (he : eD S m E) (x1 x3 x4 x5 x6 : Int32) : ∀ (q n k : Nat) (M : am_H) (u9 u10 u11 : Option am_V), k + q = 384 → q < n → (∀ c, ¬ (119 ≤ c ∧ c ≤ 122) → M c = S c) → rT 1000000 B E (M 121) → tab S m E 1000000 (mb e k) (M 122) →
    ∃ (w9 w10 w11 : Option am_V) (M' : am_H), rM_round (d + 2) n 124 [some (vr 7 82), some (vi x1), some (vi (nI m)), some (vi x3), some (vi x4), some (vi x5), some (vi x6), some (vi (nI e)), some (vi (nI k)), u9, u10, u11] M = rM_round (d + 2) (n - q) 124 [some (vr 7 82), some (vi x1), some (vi (nI m)), some (vi x3), some (vi x4), some (vi x5), some (vi x6), some (vi (nI e)), some (vi (nI 384)), w9, w10, w11] M' ∧ (∀ c, c ≠ 122 → M' c = M c) ∧ tab S m E 1000000 (mb e 384) (M' 122) := by
  intro q
  induction q with
  | zero =>
    intro n k M u9 u10 u11 hk hn fr tm t
    have : k = 384 := by omega
    subst this
    exact ⟨u9, u10, u11, M, rfl, fun _ _ => rfl, t⟩
  | succ q ih =>
    intro n k M u9 u10 u11 hk hn fr tm t
    obtain ⟨n, rfl⟩ : ∃ z, n = z + 1 := ⟨n - 1, by omega⟩
    obtain ⟨w9, w10, w11, M1, g1, g2, g3⟩ := stepM_k d n hv hm hlt (k := k) (by omega) hB he fr tm t x1 x3 x4 x5 x6 u9 u10 u11
    obtain ⟨v9, v10, v11, M', k1, k2, k3⟩ := ih n (k + 1) M1 w9 w10 w11 (by omega) (by omega) (fun c hc => (g2 c (by omega)).trans (fr c hc)) (by rw [g2 121 (by omega)]; exact tm) g3
    refine ⟨v9, v10, v11, M', ?_, fun c hc => (k2 c hc).trans (g2 c hc), k3⟩
    rw [g1, k1, show n + 1 - (q + 1) = n - q by omega]
theorem stepM_out (d : Nat) (hv : VH S) {m : Nat} (hm : m < 64) {B : Int} {E : E_T} (hB : 0 ≤ B ∧ B ≤ 900000) (he : eD S m E) (x1 x3 x4 x5 x6 : Int32) : ∀ (q n e : Nat) (M : am_H) (u8 u9 u10 u11 : Option am_V), e + q = nD S → 400 * q < n → (∀ c, ¬ (119 ≤ c ∧ c ≤ 122) → M c = S c) → rT 1000000 B E (M 121) → tab S m E 1000000 (mb e 0) (M 122) →
    ∃ (n' : Nat) (w8 w9 w10 w11 : Option am_V) (M' : am_H), n - 400 * q ≤ n' ∧ rM_round (d + 2) n 115 [some (vr 7 82), some (vi x1), some (vi (nI m)), some (vi x3), some (vi x4), some (vi x5), some (vi x6), some (vi (nI e)), u8, u9, u10, u11] M = rM_round (d + 2) n' 115 [some (vr 7 82), some (vi x1), some (vi (nI m)), some (vi x3), some (vi x4), some (vi x5), some (vi x6), some (vi (nI (nD S))), w8, w9, w10, w11] M' ∧ (∀ c, c ≠ 122 → M' c = M c) ∧ tab S m E 1000000 (mb (nD S) 0) (M' 122) := by
  have hR := hv.1
  have hD := hv.2.1
  intro q
  induction q with
  | zero =>
    intro n e M u8 u9 u10 u11 hq hn fr tm t
    have : e = nD S := by omega
    subst this
    exact ⟨n, u8, u9, u10, u11, M, by omega, rfl, fun _ _ => rfl, t⟩
  | succ q ih =>
    intro n e M u8 u9 u10 u11 hq hn fr tm t
    obtain ⟨n, rfl⟩ : ∃ z, n = z + 1 := ⟨n - 1, by omega⟩
    obtain ⟨w9, w10, w11, M1, g1, g2, g3⟩ := stepM_in d hv hm (e := e) (by omega) hB he x1 x3 x4 x5 x6 384 n 0 M u9 u10 u11 (by omega) (by omega) fr tm t
    obtain ⟨n2, hn2⟩ : ∃ z, n - 384 = z + 1 := ⟨n - 384 - 1, by omega⟩
    rw [hn2, nI_0] at g1
    obtain ⟨n', v8, v9, v10, v11, M', k0, k1, k2, k3⟩ := ih n2 (e + 1) M1 (some (vi (nI 384))) w9 w10 w11 (by omega) (by omega) (fun c hc => (g2 c (by omega)).trans (fr c hc)) (by rw [g2 121 (by omega)]; exact tm) (tab_congr (fun a' r' e' j1 j2 j3 j4 j5 => by unfold mb; omega) g3)
    refine ⟨n', v8, v9, v10, v11, M', by omega, ?_, fun c hc => (k2 c hc).trans (g2 c hc), k3⟩
    rw [tM_round_115, fr 88 (by omega), hD.1, if_pos (nI_lt (by omega) (by omega)), g1, tM_round_124, if_neg (by decide), nI_1, k1]
theorem fill122 (d : Nat) (x1 x2 x3 x4 x5 x6 : Int32) (u8 u9 u10 u11 : Option am_V) : ∀ (q n j : Nat) (M : am_H), j + q = 384 → q < n → (∀ i, i < j → M 122 i = 1000000) →
    ∃ M', rM_round d n 102 [some (vr 7 82), some (vi x1), some (vi x2), some (vi x3), some (vi x4), some (vi x5), some (vi x6), some (vi (nI j)), u8, u9, u10, u11] M = rM_round d (n - q) 102 [some (vr 7 82), some (vi x1), some (vi x2), some (vi x3), some (vi x4), some (vi x5), some (vi x6), some (vi (nI 384)), u8, u9, u10, u11] M' ∧ (∀ c, c ≠ 122 → M' c = M c) ∧ ∀ i, i < 384 → M' 122 i = 1000000 := by
  intro q
  induction q with
  | zero =>
    intro n j M hj hn hM
    have : j = 384 := by omega
    subst this
    exact ⟨M, rfl, fun _ _ => rfl, hM⟩
  | succ q ih =>
    intro n j M hj hn hM
    obtain ⟨n, rfl⟩ : ∃ z, n = z + 1 := ⟨n - 1, by omega⟩
    obtain ⟨M', h1, h2, h3⟩ := ih n (j + 1) (am_up M 122 j 1000000) (by omega) (by omega) (fun i hi => by
      by_cases q : i = j
      · rw [q, up_s]
      · rw [up_d q]; exact hM i (by omega))
    refine ⟨M', ?_, fun c hc => (h2 c hc).trans (up_n hc), h3⟩
    rw [tM_round_102, if_pos (show nI j < 384 from nI_lt (b := 384) (by omega) (by omega)), b_ok (by omega) (by omega), nI_1, h1, show n + 1 - (q + 1) = n - q by omega]
theorem copy121 (d : Nat) (x1 x2 x3 x4 x5 x6 : Int32) (u8 u9 u10 u11 : Option am_V) : ∀ (q n j : Nat) (M : am_H), j + q = 384 → q < n → (∀ i, i < j → M 121 i = M 122 i) →
    ∃ M', rM_round d n 189 [some (vr 7 82), some (vi x1), some (vi x2), some (vi x3), some (vi x4), some (vi x5), some (vi x6), some (vi (nI j)), u8, u9, u10, u11] M = rM_round d (n - q) 189 [some (vr 7 82), some (vi x1), some (vi x2), some (vi x3), some (vi x4), some (vi x5), some (vi x6), some (vi (nI 384)), u8, u9, u10, u11] M' ∧ (∀ c, c ≠ 121 → M' c = M c) ∧ ∀ i, i < 384 → M' 121 i = M 122 i := by
  intro q
  induction q with
  | zero =>
    intro n j M hj hn hM
    have : j = 384 := by omega
    subst this
    exact ⟨M, rfl, fun _ _ => rfl, hM⟩
  | succ q ih =>
    intro n j M hj hn hM
    obtain ⟨n, rfl⟩ : ∃ z, n = z + 1 := ⟨n - 1, by omega⟩
    obtain ⟨M', h1, h2, h3⟩ := ih n (j + 1) (am_up M 121 j (M 122 j)) (by omega) (by omega) (fun i hi => by
      rw [up_n (by omega : (122 : Nat) ≠ 121)]
      by_cases q : i = j
      · rw [q, up_s]
      · rw [up_d q]; exact hM i (by omega))
    refine ⟨M', ?_, fun c hc => (h2 c hc).trans (up_n hc), fun i hi => by rw [h3 i hi, up_n (by omega)]⟩
    rw [tM_round_189, if_pos (show nI j < 384 from nI_lt (b := 384) (by omega) (by omega)), b_ok (by omega) (by omega), b_ok (by omega) (by omega), nI_1, h1, show n + 1 - (q + 1) = n - q by omega]
/-- the table behind the doors, as the class has it -/
def eF (f : Nat → Int32) : E_T := fun j => if j < 384 ∧ ¬ f j = 536870912 then some (f j).toInt else none
theorem next_ok (hv : VH S) {m : Nat} (hm : m < 64) {B : Int} {E : E_T} (hB : 0 ≤ B ∧ B ≤ 800000) (he : eD S m E) {f0 f g : Nat → Int32} (ta : rT 536870912 B E f0) (t : tab S m E 536870912 (fun _ _ _ => True) f) (t' : tab S m E 1000000 (fun _ _ _ => True) g) : eD S m (eF f) ∧ rT 536870912 (B + 432) (eF f) f ∧ rT 1000000 (B + 432) (eF f) g := by
  have hR := hv.1.2.2
  have e1 : ((536870912 : Int32)).toInt = 536870912 := rfl
  have bd : ∀ a b v, a < 64 → (∃ r e, True ∧ oFr S m E a r e b v) → (-(B + 432) ≤ v ∧ v ≤ B + 432) ∧ a &&& m = a ∧ b < nR S := by
    rintro a b v ha ⟨r, e, -, o1, o2, o3, ⟨gg, k1, k2, k3⟩, z, o4, o5⟩
    have hc := cst_b hv o3 o2
    have h1 := he (6 * a + r) (by rw [o4]; rfl)
    rw [show (6 * a + r) / 6 = a by omega] at h1
    refine ⟨?_, h1.2.1, k3 ▸ so_lt hv o3 gg⟩
    rcases ta (6 * a + r) (by omega) with ⟨q, -⟩ | ⟨z', q1, q2, q3, q4⟩
    · rw [q] at o4; cases o4
    · rw [q1] at o4; cases o4; omega
  have key : ∀ j, j < 384 → (f j = 536870912 ∧ g j = 1000000) ∨ (¬ f j = 536870912 ∧ (f j).toInt = (g j).toInt ∧ (-(B + 432) ≤ (f j).toInt ∧ (f j).toInt ≤ B + 432) ∧ (j / 6) &&& m = j / 6 ∧ j % 6 < nR S) := by
    intro j hj
    have q := t (j / 6) (j % 6) (by omega) (by omega)
    have q' := t' (j / 6) (j % 6) (by omega) (by omega)
    rw [show 6 * (j / 6) + j % 6 = j by omega] at q q'
    rcases q with ⟨a, b⟩ | ⟨a, b⟩
    · rcases q' with ⟨a', b'⟩ | ⟨a', b'⟩
      · exact Or.inl ⟨a, a'⟩
      · exact absurd a' (b _)
    · rcases q' with ⟨a', b'⟩ | ⟨a', b'⟩
      · exact absurd a (b' _)
      · have w1 := b _ a'
        have w2 := b' _ a
        obtain ⟨w3, w4, w5⟩ := bd _ _ _ (by omega) a
        exact Or.inr ⟨fun z => by rw [z, e1] at w3; omega, by omega, w3, w4, w5⟩
  refine ⟨fun j hj => ?_, fun j hj => ?_, fun j hj => ?_⟩
  · unfold eF at hj
    by_cases c : j < 384 ∧ ¬ f j = 536870912
    · rcases key j c.1 with ⟨z, -⟩ | ⟨-, -, -, z4, z5⟩
      · exact absurd z c.2
      · exact ⟨c.1, z4, z5⟩
    · rw [if_neg c] at hj; cases hj
  · unfold eF
    rcases key j hj with ⟨z, -⟩ | ⟨z1, z2, z3, -⟩
    · rw [if_neg (fun c => c.2 z)]
      exact Or.inl ⟨rfl, z⟩
    · rw [if_pos ⟨hj, z1⟩]
      exact Or.inr ⟨_, rfl, rfl, z3.1, z3.2⟩
  · unfold eF
    rcases key j hj with ⟨z, z'⟩ | ⟨z1, z2, z3, -⟩
    · rw [if_neg (fun c => c.2 z)]
      exact Or.inl ⟨rfl, z'⟩
    · rw [if_pos ⟨hj, z1⟩]
      exact Or.inr ⟨_, rfl, z2.symm, z3.1, z3.2⟩
/-- behind the n-th notes -/
theorem round_loop (hv : VH S) {o m w : Nat} (ho : o ≤ 17) (hm : m < 64) (x1 x3 x4 : Int32) (hw : w < 2) : ∀ (q nc nm k A C : Nat) (B : Int) (E : E_T) (h M : am_H) (lo : Int32) (u8 u9 u10 u11 : Option am_V), k + q = 10 → q < nc → 5000 * (q + 1) < nm → 0 ≤ B → B + 20000 * (q : Int) ≤ 700000 → (A = 80 ∧ C = 81 ∨ A = 81 ∧ C = 80) → RH o h S → h 79 0 = nI A → h 79 1 = nI C → rT 536870912 B E (h A) → eD S m E → (∀ c, ¬ (119 ≤ c ∧ c ≤ 122) → M c = S c) → rT 1000000 B E (M 121) → nT1 (h 79 2) (h 79 3) lo →
    ∃ (h' M' : am_H) (A' C' : Nat) (lo' : Int32), rT_goAll 5 nc 27 [some (vr 4 79), some (vr 2 o), some (vi (nI m)), some (vi x3), some (vi x4), some (vi (nI (k + 1)))] h = some (h', none) ∧ frT h h' ∧ (A' = 80 ∧ C' = 81 ∨ A' = 81 ∧ C' = 80) ∧ h' 79 0 = nI A' ∧ h' 79 1 = nI C' ∧ nT1 (h' 79 2) (h' 79 3) lo' ∧ (∀ c, ¬ (119 ≤ c ∧ c ≤ 122) → M' c = S c) ∧ rM_round 6 nm 102 [some (vr 7 82), some (vi x1), some (vi (nI m)), some (vi (nI w)), some (vi lo), some (vi (h 79 3)), some (vi (nI k)), some (vi 0), u8, u9, u10, u11] M = (if h' 79 3 < 0 then some (M', some (-4)) else if nI w = 0 then some (M', some (lo' + 100000)) else some (M', some (h' 79 3))) := by
  have hR := hv.1
  have hD := hv.2.1
  intro q
  induction q with
  | zero =>
    intro nc nm k A C B E h M lo u8 u9 u10 u11 hk hnc hnm hB0 hB hA rh h0 h1 ta he fr tm hN
    obtain ⟨nc, rfl⟩ : ∃ z, nc = z + 1 := ⟨nc - 1, by omega⟩
    have hk10 : k = 10 := by omega
    subst hk10
    obtain ⟨M1, a1, a2, a3⟩ := fill122 6 x1 (nI m) (nI w) lo (h 79 3) (nI 10) u8 u9 u10 u11 384 nm 0 M (by omega) (by omega) (fun i hi => absurd hi (by omega))
    obtain ⟨n2, hn2⟩ : ∃ z, nm - 384 = z + 1 := ⟨nm - 384 - 1, by omega⟩
    rw [hn2, nI_0] at a1
    obtain ⟨n3, w8, w9, w10, w11, M2, b0, b1, b2, b3⟩ := stepM_out 4 hv hm (B := B) (by omega) he x1 (nI w) lo (h 79 3) (nI 10) (nD S) n2 0 M1 u8 u9 u10 u11 (by omega) (by omega) (fun c hc => (a2 c (by omega)).trans (fr c hc)) (by rw [a2 121 (by omega)]; exact tm) (fun a b ha hb => Or.inl ⟨a3 _ (by omega), fun v hv' => by
      obtain ⟨r, e, z, -⟩ := hv'
      unfold mb at z
      omega⟩)
    obtain ⟨n3, rfl⟩ : ∃ z, n3 = z + 1 := ⟨n3 - 1, by omega⟩
    have hn3 : 400 ≤ n3 := by omega
    have fr2 : ∀ c, ¬ (119 ≤ c ∧ c ≤ 122) → M2 c = S c := fun c hc => by rw [b2 c (by omega), a2 c (by omega), fr c hc]
    obtain ⟨M3, c1, c2, c3⟩ := copy121 6 x1 (nI m) (nI w) lo (h 79 3) (nI 10) w8 w9 w10 w11 384 n3 0 M2 (by omega) (by omega) (fun i hi => absurd hi (by omega))
    obtain ⟨n4, hn4, hn4'⟩ := sub384 hn3
    rw [hn4, nI_0] at c1
    obtain ⟨n4, rfl⟩ : ∃ z, n4 = z + 1 := ⟨n4 - 1, by omega⟩
    rw [nI_0] at b1
    refine ⟨h, M3, A, C, lo, ?_, fun _ _ => rfl, hA, h0, h1, hN, fun c hc => by rw [c2 c (by omega), fr2 c hc], ?_⟩
    · rw [tT_goAll_27, if_pos (by decide)]
    · rw [a1, tM_round_102, if_neg (by decide), b1, tM_round_115, fr2 88 (by omega), hD.1, if_neg (nI_nlt (by omega) (by omega)), c1, tM_round_189, if_neg (by decide), nI_1, tM_round_57, if_pos (by decide)]
  | succ q ih =>
    intro nc nm k A C B E h M lo u8 u9 u10 u11 hk hnc hnm hB0 hB hA rh h0 h1 ta he fr tm hN
    obtain ⟨nc, rfl⟩ : ∃ z, nc = z + 1 := ⟨nc - 1, by omega⟩
    -- the class
    obtain ⟨h2, p1, p2, p3, p4, p5, p6, p7⟩ := gT_step_ok 1 hv ho hA hm (by omega) he rh h0 h1 ta
    -- the reference
    obtain ⟨M1, a1, a2, a3⟩ := fill122 6 x1 (nI m) (nI w) lo (h 79 3) (nI k) u8 u9 u10 u11 384 nm 0 M (by omega) (by omega) (fun i hi => absurd hi (by omega))
    obtain ⟨n2, hn2⟩ : ∃ z, nm - 384 = z + 1 := ⟨nm - 384 - 1, by omega⟩
    rw [hn2, nI_0] at a1
    obtain ⟨n3, w8, w9, w10, w11, M2, b0, b1, b2, b3⟩ := stepM_out 4 hv hm (B := B) (by omega) he x1 (nI w) lo (h 79 3) (nI k) (nD S) n2 0 M1 u8 u9 u10 u11 (by omega) (by omega) (fun c hc => (a2 c (by omega)).trans (fr c hc)) (by rw [a2 121 (by omega)]; exact tm) (fun a b ha hb => Or.inl ⟨a3 _ (by omega), fun v hv' => by
      obtain ⟨r, e, z, -⟩ := hv'
      unfold mb at z
      omega⟩)
    obtain ⟨n3, rfl⟩ : ∃ z, n3 = z + 1 := ⟨n3 - 1, by omega⟩
    have hn3 : 400 ≤ n3 := by omega
    have fr2 : ∀ c, ¬ (119 ≤ c ∧ c ≤ 122) → M2 c = S c := fun c hc => by rw [b2 c (by omega), a2 c (by omega), fr c hc]
    obtain ⟨M3, c1, c2, c3⟩ := copy121 6 x1 (nI m) (nI w) lo (h 79 3) (nI k) w8 w9 w10 w11 384 n3 0 M2 (by omega) (by omega) (fun i hi => absurd hi (by omega))
    obtain ⟨n4, hn4, hn4'⟩ := sub384 hn3
    rw [hn4, nI_0] at c1
    obtain ⟨n4, rfl⟩ : ∃ z, n4 = z + 1 := ⟨n4 - 1, by omega⟩
    have fr3 : ∀ c, ¬ (119 ≤ c ∧ c ≤ 122) → M3 c = S c := fun c hc => by rw [c2 c (by omega), fr2 c hc]
    rw [nI_0] at b1
    -- the tables behind the doors
    have tM : tab S m E 1000000 (fun _ _ _ => True) (M3 121) := fun a b ha hb => by
      rw [c3 _ (by omega)]
      exact tab_congr (fun a' r' e' j1 j2 j3 j4 j5 => ⟨fun _ => trivial, fun _ => Or.inl j4⟩) b3 a b ha hb
    obtain ⟨d1, d2, d3⟩ := next_ok hv hm (by omega) he ta p7 tM
    have rh2 := RH_t ho p2 rh
    have hC : C = 80 ∨ C = 81 := by omega
    obtain ⟨h3, e1, e2, e3⟩ := gT_stay_ok 3 hv ho hC hm (by omega) (by omega) rh2 p3 d2
    obtain ⟨M4, f1, f2, f3⟩ := gM_stay_ok 4 hv hm (by omega) (by omega) fr3 d1 d3
    have fr4 : ∀ c, ¬ (119 ≤ c ∧ c ≤ 122) → M4 c = S c := fun c hc => by rw [f2 c (by omega), fr3 c hc]
    have g3 : frT h2 h3 := fun c hc => e2 c (by omega)
    have rh3 := RH_t ho g3 rh2
    have z79 : h3 79 = h2 79 := e2 79 (by omega)
    obtain ⟨h4, lo', v8, i1, i2, i3, i4, i5, i6⟩ := note_ok 3 6 hv ho hC hm (k := k + 1) (by omega) (by omega) (by omega) fr4 f3 x1 (nI w) w9 w10 w11 (nR S) 999999 n4 0 h3 lo none w8 (by omega) (by omega) (by omega) rh3 (by rw [z79]; exact p3) e3 (by rw [z79, p5, p6]; exact hN)
    have g4 : frT h3 h4 := fun c hc => i3 c (by omega)
    obtain ⟨n5, hn5⟩ : ∃ z, n4 - nR S = z + 1 := ⟨n4 - nR S - 1, by omega⟩
    rw [hn5, nI_0] at i2
    rw [nI_0] at i1
    obtain ⟨h', M', A', C', lo'', j1, j2, j3, j4, j5, j6, j7, j8⟩ := ih nc n5 (k + 1) C A (B + 18864) (sO S m m 0 (eF (h2 C))) h4 M4 lo' v8 w9 w10 w11 (by omega) (by omega) (by omega) (by omega) (by omega) (by omega) (RH_t ho g4 rh3) (by rw [i4, z79]; exact p3) (by rw [i5, z79]; exact p4) (by rw [i3 C (by omega)]; exact rT_mono (by omega) e3) (eD_sO hv _ _ _ (by omega) d1) fr4 (rT_mono (by omega) f3) i6
    refine ⟨h', M', A', C', lo'', ?_, ((p2.tr g3).tr g4).tr j2, j3, j4, j5, j6, j7, ?_⟩
    · rw [tT_goAll_27, if_neg (show ¬ (10 : Int32) < nI (k + 1) from nI_nlt (a := 10) (by omega) (by omega)), p1, r0_ok, e1, r0_ok, gT_noteDone, i1, r0_ok, nI_1, j1]
    · rw [← j8, a1, tM_round_102, if_neg (by decide), b1, tM_round_115, fr2 88 (by omega), hD.1, if_neg (nI_nlt (by omega) (by omega)), c1, tM_round_189, if_neg (by decide), nI_1, tM_round_57, if_neg (show ¬ (10 : Int32) < nI (k + 1) from nI_nlt (a := 10) (by omega) (by omega)), f1, r0_ok]
      rw [z79, p6] at i2
      rw [i2, tM_round_66, fr4 84 (by omega), hR.1, if_neg (nI_nlt (by omega) (by omega))]
theorem fill121 (d : Nat) (x1 x2 x3 : Int32) (u5 u6 u7 u8 u9 u10 u11 : Option am_V) : ∀ (q n j : Nat) (M : am_H), j + q = 384 → q < n → (∀ i, i < j → M 121 i = 1000000) →
    ∃ M', rM_round d n 29 [some (vr 7 82), some (vi x1), some (vi x2), some (vi x3), some (vi (nI j)), u5, u6, u7, u8, u9, u10, u11] M = rM_round d (n - q) 29 [some (vr 7 82), some (vi x1), some (vi x2), some (vi x3), some (vi (nI 384)), u5, u6, u7, u8, u9, u10, u11] M' ∧ (∀ c, c ≠ 121 → M' c = M c) ∧ ∀ i, i < 384 → M' 121 i = 1000000 := by
  intro q
  induction q with
  | zero =>
    intro n j M hj hn hM
    have : j = 384 := by omega
    subst this
    exact ⟨M, rfl, fun _ _ => rfl, hM⟩
  | succ q ih =>
    intro n j M hj hn hM
    obtain ⟨n, rfl⟩ : ∃ z, n = z + 1 := ⟨n - 1, by omega⟩
    obtain ⟨M', h1, h2, h3⟩ := ih n (j + 1) (am_up M 121 j 1000000) (by omega) (by omega) (fun i hi => by
      by_cases q : i = j
      · rw [q, up_s]
      · rw [up_d q]; exact hM i (by omega))
    refine ⟨M', ?_, fun c hc => (h2 c hc).trans (up_n hc), h3⟩
    rw [tM_round_29, if_pos (show nI j < 384 from nI_lt (b := 384) (by omega) (by omega)), b_ok (by omega) (by omega), nI_1, h1, show n + 1 - (q + 1) = n - q by omega]
end ROUND
theorem bm_shl : ∀ r, r < 7 → (1 : Int32) <<< (nI r &&& 31) = nI (2 ^ r) ∧ 2 ^ r < 2 ^ 30 ∧ 0 < 2 ^ r ∧ 2 ^ r ≤ 64 := by decide +kernel
theorem P_round (x y u : Int32) : Pr 68 148 [vi x, vi y, vi u] := by
  refine Pr_w fun h S o o' tx as ks ss c m v => ?_
  have hv := m.1
  have hP := hv.2.2.1.2
  have hR := hv.1
  have hK := v.vk hv
  have hal := v.2.1.1
  have h79 := c.2.2.2.2.2.2.2
  have q1 : (¬ u < 0 ∧ u < 2) ↔ (¬ u < 0 ∧ ¬ 1 < u) := lt_in (n := 2) (by omega) (by omega)
  obtain ⟨s1, s2, s3, s4⟩ := bm_shl (nR S) (by omega)
  have q2 : (¬ y < 0 ∧ ¬ nI (2 ^ nR S) - 1 < y) ↔ (¬ y < 0 ∧ y < nI (2 ^ nR S)) := in_m s2
  have bad : ∃ (h1 S1 : am_H) (v : Int32), (some (h, some (-1)) : am_Z) = some (h1, some v) ∧ (some (S, some (-1)) : am_Z) = some (S1, some v) ∧ (∀ c, ¬ (75 ≤ c ∧ c ≤ 81) → h1 c = h c) ∧ (h1 79 0 = nI 80 ∧ h1 79 1 = nI 81 ∨ h1 79 0 = nI 81 ∧ h1 79 1 = nI 80) ∧ ∀ c, ¬ (119 ≤ c ∧ c ≤ 122) → S1 c = S c := ⟨h, S, _, rfl, rfl, fun _ _ => rfl, h79, fun _ _ => rfl⟩
  rw [gC_round, gM_round, gC_isPerson_ok 4 hv c, gM_isPerson_ok 4 hv, r1_ok, r1_ok]
  rcases ix_c (x := x) (n := nP S) (by omega) with hx | ⟨i, hi, rfl⟩
  · rw [if_pos (ix_no hx), if_pos (ix_no hx)]
    exact bad
  · rw [if_neg (ix_yes hi (by omega)), if_neg (ix_yes hi (by omega)), c.oo, c.rh.1.1, hR.1, s1, gM_in_ok, r1_ok, yn_congr q2]
    by_cases hy : ¬ y < 0 ∧ y < nI (2 ^ nR S)
    · rw [if_neg hy.1, if_pos hy.2, if_neg (fun q => yn_0.mp q hy), gC_isOneOf_ok, gM_in_ok, r1_ok, r1_ok, yn_congr q1]
      by_cases hu : ¬ u < 0 ∧ ¬ 1 < u
      · rw [if_neg (fun q => yn_0.mp q hu), if_neg (fun q => yn_0.mp q hu)]
        obtain ⟨w, hw, rfl⟩ := (in_c (n := 1) (by omega)).mp hu
        obtain ⟨mm, hmm, rfl⟩ : ∃ k, k < 64 ∧ y = nI k := by
          rcases ix_c (x := y) (n := 2 ^ nR S) (by omega) with z | ⟨k, z1, z2⟩
          · exact absurd hy z
          · exact ⟨k, by omega, z2⟩
        obtain ⟨⟨s, hs, hsi⟩, ht, -⟩ := hK.1 i hi
        obtain ⟨b1, b2, -⟩ := c.rc.1 i hi
        obtain ⟨a0, a1, -⟩ := m.2.2.1.1 i hi
        have h33 : h 33 i = nI s := b1.trans hsi
        have h108 : S 108 i = nI s := a0.trans hsi
        have h34 : h 34 i = (kAll S as).1 1 i := b2
        rw [b_ok (by omega) (by omega), b_ok (by omega) (by omega), h33, h34]
        generalize (kAll S as).1 1 i = t at ht a1
        obtain ⟨A, C, hA, t0, t1⟩ : ∃ A C, (A = 80 ∧ C = 81 ∨ A = 81 ∧ C = 80) ∧ h 79 0 = nI A ∧ h 79 1 = nI C := by
          rcases h79 with ⟨z1, z2⟩ | ⟨z1, z2⟩
          · exact ⟨80, 81, Or.inl ⟨rfl, rfl⟩, z1, z2⟩
          · exact ⟨81, 80, Or.inr ⟨rfl, rfl⟩, z1, z2⟩
        have hA' : A = 80 ∨ A = 81 := by omega
        -- the first table
        obtain ⟨h1, p1, p2, p3⟩ := gJ_fill384_ok 4 A 536870912 (am_up (am_up h 79 2 536870912) 79 3 (-4))
        obtain ⟨M1, n1, n2, n3⟩ := fill121 6 (nI i) (nI mm) (nI w) none none none none none none none 384 999999 0 S (by omega) (by omega) (fun i hi => absurd hi (by omega))
        have z79 : h1 79 = am_up (am_up h 79 2 536870912) 79 3 (-4) 79 := p2 79 (by omega)
        have z0 : h1 79 0 = nI A := by rw [z79, up_d (by omega), up_d (by omega)]; exact t0
        have z1 : h1 79 1 = nI C := by rw [z79, up_d (by omega), up_d (by omega)]; exact t1
        have z2 : h1 79 2 = 536870912 := by rw [z79, up_d (by omega), up_s]
        have z3 : h1 79 3 = -4 := by rw [z79, up_s]
        have f1 : frT h (am_up h1 A s t) := fun c hc => by rw [up_n (by omega), p2 c (by omega), up_n (by omega), up_n (by omega)]
        have rh1 := RH_t c.o17 f1 c.rh
        have fr1 : ∀ c, ¬ (119 ≤ c ∧ c ≤ 122) → am_up M1 121 s t c = S c := fun c hc => by rw [up_n (by omega), n2 c (by omega)]
        have ta : ∀ (nv : Int32) (f : Nat → Int32), (∀ i, i < 384 → f i = nv) → rT nv 50000 (fun j => if j = s then some t.toInt else none) (upd f s t) := fun nv f hf j hj => by
          by_cases q : j = s
          · subst q
            rw [pk_us]
            exact Or.inr ⟨t.toInt, by simp, rfl, by omega, by omega⟩
          · rw [pk_un q]
            exact Or.inl ⟨by simp [q], hf j hj⟩
        have he0 : eD S mm (fun j => if j = s then some t.toInt else none) := fun j hj => by
          by_cases q : j = s
          · subst q
            rw [show j / 6 = 0 by omega, show j % 6 = j by omega]
            exact ⟨by omega, Nat.zero_and _, hs⟩
          · simp [q] at hj
        obtain ⟨h2, e1, e2, e3⟩ := gT_stay_ok 3 hv c.o17 hA' hmm (by omega) (by omega) rh1 (by rw [up_n (by omega)]; exact z0) (show rT 536870912 50000 _ _ by rw [up_f]; exact ta _ _ p3)
        obtain ⟨M2, g1, g2, g3⟩ := gM_stay_ok 4 hv hmm (by omega) (by omega) fr1 he0 (show rT 1000000 50000 _ _ by rw [up_f]; exact ta _ _ n3)
        have fr2 : ∀ c, ¬ (119 ≤ c ∧ c ≤ 122) → M2 c = S c := fun c hc => by rw [g2 c (by omega), fr1 c hc]
        have f2 : frT (am_up h1 A s t) h2 := fun c hc => e2 c (by omega)
        have rh2 := RH_t c.o17 f2 rh1
        have y79 : h2 79 = h1 79 := by rw [e2 79 (by omega), up_n (by omega)]
        obtain ⟨h3, lo', v8, i1, i2, i3, i4, i5, i6⟩ := note_ok 3 6 hv c.o17 hA' hmm (k := 0) (by omega) (by omega) (by omega) fr2 g3 (nI i) (nI w) none none none (nR S) 999999 999613 0 h2 1000000 none none (by omega) (by omega) (by omega) rh2 (by rw [y79]; exact z0) e3 (Or.inl ⟨by rw [y79]; exact z2, rfl, by rw [y79]; exact z3⟩)
        have f3 : frT h2 h3 := fun c hc => i3 c (by omega)
        obtain ⟨n5, hn5⟩ : ∃ z, 999613 - nR S = z + 1 := ⟨999613 - nR S - 1, by omega⟩
        rw [hn5, nI_0, y79, z3] at i2
        rw [nI_0] at i1
        obtain ⟨h', M', A', C', lo'', j1, j2, j3, j4, j5, j6, j7, j8⟩ := round_loop hv c.o17 hmm (nI i) (nI s) t (w := w) (by omega) 10 999999 n5 0 A C 68432 (sO S mm mm 0 _) h3 M2 lo' v8 none none none (by omega) (by omega) (by omega) (by omega) (by omega) hA (RH_t c.o17 f3 rh2) (by rw [i4, y79]; exact z0) (by rw [i5, y79]; exact z1) (by rw [i3 A (by omega)]; exact rT_mono (by omega) e3) (eD_sO hv _ _ _ (by omega) he0) fr2 (rT_mono (by omega) g3) i6
        have fr' := ((f1.tr f2).tr f3).tr j2
        have hgo : am_g 6 39 [vr 4 79, vr 2 o, vi (nI mm), vi (nI s), vi t] h = some (h', none) := by
          rw [gT_goAll, t0, nI_clamp (by omega), p1, r0_ok, b_ok (by omega) (by omega), z0, nI_clamp (by omega), e1, r0_ok, gT_noteDone, i1, r0_ok]
          exact j1
        have hmo : rM_round 6 999999 29 [some (vr 7 82), some (vi (nI i)), some (vi (nI mm)), some (vi (nI w)), some (vi 0), none, none, none, none, none, none, none] S = (if h' 79 3 < 0 then some (M', some (-4)) else if nI w = 0 then some (M', some (lo'' + 100000)) else some (M', some (h' 79 3))) := by
          rw [nI_0] at n1
          rw [n1, show 999999 - 384 = 999614 + 1 from rfl, tM_round_29, if_neg (by decide), b_ok (by omega) (by omega), b_ok (by omega) (by omega), n2 108 (by omega), h108, b_ok (by omega) (by omega), n2 109 (by omega), a1, show 999614 = 999613 + 1 from rfl, tM_round_57, if_neg (by decide), g1, r0_ok, i2, tM_round_66, fr2 84 (by omega), hR.1, if_neg (nI_nlt (by omega) (by omega))]
          exact j8
        rw [c.oo, hgo, r0_ok, hmo]
        have fin : ∀ (v : Int32), ∃ (h1 S1 : am_H) (v' : Int32), (some (h', some v) : am_Z) = some (h1, some v') ∧ (some (M', some v) : am_Z) = some (S1, some v') ∧ (∀ c, ¬ (75 ≤ c ∧ c ≤ 81) → h1 c = h c) ∧ (h1 79 0 = nI 80 ∧ h1 79 1 = nI 81 ∨ h1 79 0 = nI 81 ∧ h1 79 1 = nI 80) ∧ ∀ c, ¬ (119 ≤ c ∧ c ≤ 122) → S1 c = S c := fun v => ⟨h', M', v, rfl, rfl, fun c hc => fr' c (by omega), by
          rw [j4, j5]
          rcases j3 with ⟨rfl, rfl⟩ | ⟨rfl, rfl⟩
          · exact Or.inl ⟨rfl, rfl⟩
          · exact Or.inr ⟨rfl, rfl⟩, j7⟩
        rcases j6 with ⟨k1, k2, k3⟩ | ⟨k1, k2, k', k3, k4⟩
        · rw [if_pos k3, k3, if_pos (by decide)]
          exact fin _
        · rw [if_neg (show ¬ h' 79 3 = -4 by rw [k3]; exact fun z => m4_ne (by omega) z), if_neg (show ¬ h' 79 3 < 0 by rw [k3]; exact nI_pos (by omega)), gC_told, r1_ok, k1]
          split
          · exact fin _
          · exact fin _
      · rw [if_pos (yn_0.mpr hu), if_pos (yn_0.mpr hu)]
        exact bad
    · rw [if_pos (yn_0.mpr hy)]
      by_cases hz1 : y < 0
      · rw [if_pos hz1]
        exact bad
      · rw [if_neg hz1, if_neg (fun q => hy ⟨hz1, q⟩)]
        exact bad
