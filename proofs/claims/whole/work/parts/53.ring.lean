/-! RING: by how few doors one comes back ahead -/
section RING
variable {S : am_H}
/-- ahead by k doors, from r -/
def Ng (S : am_H) (r k : Nat) : Prop := ∃ v, Way S k r 0 r v ∧ v < 0
theorem mn_neg {P : Int → Prop} {nv x : Int32} (hn : 0 ≤ nv.toInt) (m : mn P nv x) : (x < 0) ↔ ∃ v, P v ∧ v < 0 := by
  have z : ((0 : Int32)).toInt = 0 := rfl
  rw [Int32.lt_iff_toInt_lt, z]
  rcases m with ⟨a, b⟩ | ⟨a, b⟩
  · constructor
    · intro q; rw [a] at q; omega
    · rintro ⟨v, h1, -⟩; exact absurd h1 (b v)
  · constructor
    · intro q; exact ⟨_, a, q⟩
    · rintro ⟨v, h1, h2⟩; have := b v h1; omega
theorem Ng_1 (hv : VH S) (r : Nat) : ¬ Ng S r 1 := by
  rintro ⟨v, ⟨e, g, h1, h2, h3, h4, -⟩, -⟩
  exact so_ne hv h1 g (h3.trans h4.symm)
/-- the class's steps from a room: the first that is ahead, or none -/
theorem ringC_in (hv : VH S) {o r F : Nat} (ho : o ≤ 17) (hr : r < nR S) (hF : F ≤ 9) (x1 x3 x4 : Int32) : ∀ (q n k : Nat) (h : am_H), k + 1 + q = F → q + 1 < n → RH o h S → (h 0 2).toNatClampNeg = o → rwC S k r 0 (h 75) (h 77) →
    ∃ (h' : am_H) (n' : Nat) (u : Option am_V), frW h h' ∧ n - (q + 2) ≤ n' ∧ ((∃ j T, k < j ∧ j < F ∧ Ng S r j ∧ (∀ i, k < i → i < j → ¬ Ng S r i) ∧ mn (Way S j r 0 r) 536870912 T ∧ rC_ring 6 n 28 [some (vr 6 0), some (vi x1), some (vi (nI F)), some (vi x3), some (vi x4), some (vi (nI r)), some (vi (nI (k + 1)))] h = rC_ring 6 n' 15 [some (vr 6 0), some (vi x1), some (vi (nI j)), some (vi (nI r)), some (vi (-T)), some (vi (nI (r + 1))), u] h') ∨
      ((∀ i, k < i → i < F → ¬ Ng S r i) ∧ rC_ring 6 n 28 [some (vr 6 0), some (vi x1), some (vi (nI F)), some (vi x3), some (vi x4), some (vi (nI r)), some (vi (nI (k + 1)))] h = rC_ring 6 n' 15 [some (vr 6 0), some (vi x1), some (vi (nI F)), some (vi x3), some (vi x4), some (vi (nI (r + 1))), u] h')) := by
  have hR := hv.1.2.2
  intro q
  induction q with
  | zero =>
    intro n k h hk hn rh h02 hrw
    obtain ⟨n, rfl⟩ : ∃ z, n = z + 1 := ⟨n - 1, by omega⟩
    refine ⟨h, n, some (vi (nI (k + 1))), fun _ _ => rfl, by omega, Or.inr ⟨fun i h1 h2 => by omega, ?_⟩⟩
    rw [tC_ring_28, if_neg (nI_nlt (by omega) (by omega)), nI_1]
  | succ q ih =>
    intro n k h hk hn rh h02 hrw
    obtain ⟨n, rfl⟩ : ∃ z, n = z + 1 := ⟨n - 1, by omega⟩
    obtain ⟨h1, g1, g2, g3⟩ := gW_step_ok 2 hv ho rh hr (by omega) (by omega : k ≤ 20) hrw
    have hm := (g3 r hr).1
    have hneg := mn_neg (by decide) hm
    rw [tC_ring_28, if_pos (nI_lt (by omega) (by omega)), h02, g1, r0_ok, b_ok (by omega) (by omega), b_ok (by omega) (by omega), nI_1]
    by_cases z : h1 75 r < 0
    · obtain ⟨n, rfl⟩ : ∃ z, n = z + 1 := ⟨n - 1, by omega⟩
      rw [if_pos z]
      refine ⟨h1, n, some (vi (nI (k + 1 + 1))), g2, by omega, Or.inl ⟨k + 1, h1 75 r, by omega, by omega, hneg.mp z, fun i q1 q2 => by omega, hm, ?_⟩⟩
      rw [tC_ring_28, if_neg (nI_nlt (by omega) (by omega)), nI_1]
    · rw [if_neg z]
      obtain ⟨h', n', u, k1, k2, k3⟩ := ih n (k + 1) h1 (by omega) (by omega) (RH_w ho g2 rh) (by rw [g2 0 (by omega)]; exact h02) g3
      have hno : ¬ Ng S r (k + 1) := fun w => z (hneg.mpr w)
      refine ⟨h', n', u, g2.tr k1, by omega, ?_⟩
      rcases k3 with ⟨j, T, a1, a2, a3, a4, a5, a6⟩ | ⟨a1, a2⟩
      · refine Or.inl ⟨j, T, by omega, a2, a3, fun i q1 q2 => ?_, a5, a6⟩
        by_cases e : i = k + 1
        · rw [e]; exact hno
        · exact a4 i (by omega) q2
      · refine Or.inr ⟨fun i q1 q2 => ?_, a2⟩
        by_cases e : i = k + 1
        · rw [e]; exact hno
        · exact a1 i (by omega) q2
/-- the reference's look at a room's rows, from 8 doors down: cf is what stands as the fewest, 9 for none -/
theorem ringM_in (hv : VH S) {r : Nat} (hr : r < nR S) (x1 : Int32) {M : am_H} (hM : ∀ j, j ≤ 8 → rwM S j r 0 (M 119)) : ∀ (k n F : Nat) (x2 x3 x4 : Int32), k ≤ 8 → k < n → ((x2 = -4 ∧ F = 9) ∨ (x2 = nI F ∧ F ≤ 8)) → ((∃ w, x3 = nI w ∧ w < r) ∨ x3 = -4 ∨ k < F) →
    ∃ (n' : Nat) (u : Option am_V), n - (k + 1) ≤ n' ∧ ((∃ j T, 2 ≤ j ∧ j ≤ k ∧ j < F ∧ Ng S r j ∧ (∀ i, 2 ≤ i → i < j → ¬ Ng S r i) ∧ mn (Way S j r 0 r) 1000000 T ∧ rM_ring 6 n 30 [some (vr 7 82), some (vi x1), some (vi x2), some (vi x3), some (vi x4), some (vi (nI r)), some (vi (nI k))] M = rM_ring 6 n' 17 [some (vr 7 82), some (vi x1), some (vi (nI j)), some (vi (nI r)), some (vi (-T)), some (vi (nI (r + 1))), u] M) ∨
      ((∀ i, 2 ≤ i → i ≤ k → i < F → ¬ Ng S r i) ∧ rM_ring 6 n 30 [some (vr 7 82), some (vi x1), some (vi x2), some (vi x3), some (vi x4), some (vi (nI r)), some (vi (nI k))] M = rM_ring 6 n' 17 [some (vr 7 82), some (vi x1), some (vi x2), some (vi x3), some (vi x4), some (vi (nI (r + 1))), u] M)) := by
  have hR := hv.1.2.2
  intro k
  induction k with
  | zero =>
    intro n F x2 x3 x4 hk hn hF hx
    obtain ⟨n, rfl⟩ : ∃ z, n = z + 1 := ⟨n - 1, by omega⟩
    refine ⟨n, some (vi (nI 0)), by omega, Or.inr ⟨fun i h1 h2 => by omega, ?_⟩⟩
    rw [tM_ring_30, if_pos (by decide), nI_1]
  | succ k ih =>
    intro n F x2 x3 x4 hk hn hF hx
    obtain ⟨n, rfl⟩ : ∃ z, n = z + 1 := ⟨n - 1, by omega⟩
    by_cases hk1 : k = 0
    · subst hk1
      refine ⟨n, some (vi (nI (0 + 1))), by omega, Or.inr ⟨fun i h1 h2 => by omega, ?_⟩⟩
      rw [tM_ring_30, if_pos (by decide), nI_1]
    · have i1 : (6 : Int32) * nI (k + 1) + nI r = nI (6 * (k + 1) + r) := by rw [show (6 : Int32) = nI 6 from rfl, pk_mul, nI_add]
      have b1 : ∀ f, am_b 54 (nI (6 * (k + 1) + r)) f = f (6 * (k + 1) + r) := fun f => b_ok (by omega) (by omega) f
      have hm := hM (k + 1) hk r hr
      have hneg := mn_neg (by decide) hm
      rw [tM_ring_30, if_neg (show ¬ nI (k + 1) < 2 from nI_nlt (b := 2) (by omega) (by omega)), i1, pk_m1]
      simp only [b1]
      have up : ∀ (y2 y3 y4 : Int32), M 119 (6 * (k + 1) + r) < 0 → k + 1 < F → y2 = nI (k + 1) → y3 = nI r → y4 = -(M 119 (6 * (k + 1) + r)) → ∃ (n' : Nat) (u : Option am_V), n + 1 - (k + 1 + 1) ≤ n' ∧ ((∃ j T, 2 ≤ j ∧ j ≤ k + 1 ∧ j < F ∧ Ng S r j ∧ (∀ i, 2 ≤ i → i < j → ¬ Ng S r i) ∧ mn (Way S j r 0 r) 1000000 T ∧ rM_ring 6 n 30 [some (vr 7 82), some (vi x1), some (vi y2), some (vi y3), some (vi y4), some (vi (nI r)), some (vi (nI k))] M = rM_ring 6 n' 17 [some (vr 7 82), some (vi x1), some (vi (nI j)), some (vi (nI r)), some (vi (-T)), some (vi (nI (r + 1))), u] M) ∨
          ((∀ i, 2 ≤ i → i ≤ k + 1 → i < F → ¬ Ng S r i) ∧ rM_ring 6 n 30 [some (vr 7 82), some (vi x1), some (vi y2), some (vi y3), some (vi y4), some (vi (nI r)), some (vi (nI k))] M = rM_ring 6 n' 17 [some (vr 7 82), some (vi x1), some (vi x2), some (vi x3), some (vi x4), some (vi (nI (r + 1))), u] M)) := by
        intro y2 y3 y4 hng hlt e2 e3 e4
        obtain ⟨n', u, a0, a1⟩ := ih n (k + 1) y2 y3 y4 (by omega) (by omega) (Or.inr ⟨e2, hk⟩) (Or.inr (Or.inr (by omega)))
        refine ⟨n', u, by omega, Or.inl ?_⟩
        rcases a1 with ⟨j, T, c1, c2, c3, c4, c5, c6, c7⟩ | ⟨c1, c2⟩
        · exact ⟨j, T, c1, by omega, by omega, c4, c5, c6, c7⟩
        · refine ⟨k + 1, M 119 (6 * (k + 1) + r), by omega, by omega, hlt, hneg.mp hng, fun i q1 q2 => c1 i q1 (by omega) q2, hm, ?_⟩
          rw [c2, e2, e3, e4]
      have st : ¬ (M 119 (6 * (k + 1) + r) < 0 ∧ k + 1 < F) → ∃ (n' : Nat) (u : Option am_V), n + 1 - (k + 1 + 1) ≤ n' ∧ ((∃ j T, 2 ≤ j ∧ j ≤ k + 1 ∧ j < F ∧ Ng S r j ∧ (∀ i, 2 ≤ i → i < j → ¬ Ng S r i) ∧ mn (Way S j r 0 r) 1000000 T ∧ rM_ring 6 n 30 [some (vr 7 82), some (vi x1), some (vi x2), some (vi x3), some (vi x4), some (vi (nI r)), some (vi (nI k))] M = rM_ring 6 n' 17 [some (vr 7 82), some (vi x1), some (vi (nI j)), some (vi (nI r)), some (vi (-T)), some (vi (nI (r + 1))), u] M) ∨
          ((∀ i, 2 ≤ i → i ≤ k + 1 → i < F → ¬ Ng S r i) ∧ rM_ring 6 n 30 [some (vr 7 82), some (vi x1), some (vi x2), some (vi x3), some (vi x4), some (vi (nI r)), some (vi (nI k))] M = rM_ring 6 n' 17 [some (vr 7 82), some (vi x1), some (vi x2), some (vi x3), some (vi x4), some (vi (nI (r + 1))), u] M)) := by
        intro hno
        obtain ⟨n', u, a0, a1⟩ := ih n F x2 x3 x4 (by omega) (by omega) hF (by
          rcases hx with h | h | h
          · exact Or.inl h
          · exact Or.inr (Or.inl h)
          · exact Or.inr (Or.inr (by omega)))
        refine ⟨n', u, by omega, ?_⟩
        rcases a1 with ⟨j, T, c1, c2, c3, c4, c5, c6, c7⟩ | ⟨c1, c2⟩
        · exact Or.inl ⟨j, T, c1, by omega, c3, c4, c5, c6, c7⟩
        · refine Or.inr ⟨fun i q1 q2 q3 q4 => ?_, c2⟩
          by_cases e : i = k + 1
          · subst e
            exact hno ⟨hneg.mpr q4, q3⟩
          · exact c1 i q1 (by omega) q3 q4
      by_cases z : M 119 (6 * (k + 1) + r) < 0
      · rw [if_pos z]
        rcases hF with ⟨rfl, rfl⟩ | ⟨rfl, hF8⟩
        · rw [if_pos (by decide)]
          exact up _ _ _ z (by omega) rfl rfl rfl
        · rw [if_neg (nI_pos (by omega))]
          by_cases hkF : k + 1 < F
          · rw [if_pos (nI_lt hkF (by omega))]
            exact up _ _ _ z hkF rfl rfl rfl
          · rw [if_neg (nI_nlt (by omega) (by omega))]
            have hx3 : ¬ x3 = nI r := by
              rcases hx with ⟨w, e, hw⟩ | e | h
              · rw [e]; exact nI_ne (by omega) (by omega) (by omega)
              · rw [e]; exact fun q => m4_ne (by omega) q.symm
              · omega
            rw [if_neg hx3]
            have := st (fun y => hkF y.2)
            split <;> exact this
      · rw [if_neg z]
        exact st (fun y => z y.1)
/-- what stands as found, in class and reference -/
def rI (r F : Nat) (a2 a3 a4 b2 b3 b4 : Int32) : Prop := (F = 9 ∧ a3 = -4 ∧ b2 = -4 ∧ b3 = -4) ∨ ((1 ≤ F ∧ F ≤ 8) ∧ a2 = b2 ∧ b2 = nI F ∧ a3 = b3 ∧ (∃ w, b3 = nI w ∧ w < r) ∧ a4 = b4)
theorem ring_loop (hv : VH S) {o w : Nat} (ho : o ≤ 17) (hw : w < 3) : ∀ (q nc nm r F : Nat) (a3 a4 b2 b3 b4 : Int32) (u v : Option am_V) (h M : am_H), r + q = nR S → 20 * q < nc → 20 * q < nm → F ≤ 9 → RH o h S → (h 0 2).toNatClampNeg = o → (∀ c, c ≠ 119 → M c = S c) → rI r F (nI F) a3 a4 b2 b3 b4 →
    ∃ (h' M' : am_H) (x : Int32), rC_ring 6 nc 15 [some (vr 6 0), some (vi (nI w)), some (vi (nI F)), some (vi a3), some (vi a4), some (vi (nI r)), u] h = some (h', some x) ∧ rM_ring 6 nm 17 [some (vr 7 82), some (vi (nI w)), some (vi b2), some (vi b3), some (vi b4), some (vi (nI r)), v] M = some (M', some x) ∧ frW h h' ∧ ∀ c, c ≠ 119 → M' c = S c := by
  have hR := hv.1
  have e1 : ((536870912 : Int32)).toInt = 536870912 := rfl
  have e2 : ((1000000 : Int32)).toInt = 1000000 := rfl
  intro q
  induction q with
  | zero =>
    intro nc nm r F a3 a4 b2 b3 b4 u v h M hr hnc hnm hF rh h02 fr hI
    obtain ⟨nc, rfl⟩ : ∃ z, nc = z + 1 := ⟨nc - 1, by omega⟩
    obtain ⟨nm, rfl⟩ : ∃ z, nm = z + 1 := ⟨nm - 1, by omega⟩
    rw [tC_ring_15, tM_ring_17, h02, rh.1.1, fr 84 (by omega), hR.1, if_neg (nI_nlt (by omega) (by omega)), if_neg (nI_nlt (by omega) (by omega))]
    rcases hI with ⟨-, rfl, rfl, rfl⟩ | ⟨hF8, rfl, hb, rfl, ⟨w', rfl, hw'⟩, rfl⟩
    · rw [if_pos rfl, if_pos (by decide)]
      exact ⟨h, M, _, rfl, rfl, fun _ _ => rfl, fr⟩
    · rw [if_neg (fun q => m4_ne (by omega) q), if_neg (nI_pos (by omega))]
      have hw3 : w = 0 ∨ w = 1 ∨ w = 2 := by omega
      rcases hw3 with rfl | rfl | rfl
      · rw [if_pos (show nI 0 = 0 from rfl), if_pos (show nI 0 = 0 from rfl)]
        exact ⟨h, M, _, rfl, rfl, fun _ _ => rfl, fr⟩
      · rw [if_neg (by decide), if_pos (show nI 1 = 1 from rfl), if_neg (by decide), if_pos (show nI 1 = 1 from rfl)]
        exact ⟨h, M, _, rfl, rfl, fun _ _ => rfl, fr⟩
      · rw [if_neg (by decide), if_neg (by decide), if_neg (by decide), if_neg (by decide)]
        exact ⟨h, M, _, rfl, rfl, fun _ _ => rfl, fr⟩
  | succ q ih =>
    intro nc nm r F a3 a4 b2 b3 b4 u v h M hr hnc hnm hF rh h02 fr hI
    obtain ⟨nc, rfl⟩ : ∃ z, nc = z + 1 := ⟨nc - 1, by omega⟩
    obtain ⟨nm, rfl⟩ : ∃ z, nm = z + 1 := ⟨nm - 1, by omega⟩
    have hlt : r < nR S := by omega
    have hS : sH S M := fun c q1 q2 => fr c (by omega)
    have hvM : VH M := VH_congr hS hv
    obtain ⟨h1, g1, g2, g3⟩ := gW_begin_ok 4 hv (s := r) (t := 0) hlt h
    obtain ⟨M1, k1, k2, k3⟩ := gM_layLow_ok 3 hvM (s := r) (t := 0) (by rw [hS.eR]; exact hlt) (by decide)
    have fr1 : ∀ c, c ≠ 119 → M1 c = S c := fun c hc => (k2 c hc).trans (fr c hc)
    have hM1 : ∀ j, j ≤ 8 → rwM S j r 0 (M1 119) := fun j hj r' hr' => by
      have := k3 j hj r' (by rw [hS.eR]; exact hr')
      exact mn_congr (fun v => hS.eway _ _ _ _ _) this
    have hF1 : 1 ≤ F ∧ ((b2 = -4 ∧ F = 9) ∨ (b2 = nI F ∧ F ≤ 8)) ∧ ((∃ w, b3 = nI w ∧ w < r) ∨ b3 = -4 ∨ 8 < F) ∧ rI (r + 1) F (nI F) a3 a4 b2 b3 b4 := by
      rcases hI with ⟨z1, z2, z3, z4⟩ | ⟨z1, z2, z3, z4, ⟨w', z5, z6⟩, z7⟩
      · exact ⟨by omega, Or.inl ⟨z3, z1⟩, Or.inr (Or.inl z4), Or.inl ⟨z1, z2, z3, z4⟩⟩
      · exact ⟨z1.1, Or.inr ⟨z3, z1.2⟩, Or.inl ⟨w', z5, z6⟩, Or.inr ⟨z1, z2, z3, z4, ⟨w', z5, by omega⟩, z7⟩⟩
    obtain ⟨hF0, hF2, hF3, hI'⟩ := hF1
    obtain ⟨h', n', u', c0, c1, c2⟩ := ringC_in hv ho hlt hF (nI w) a3 a4 (F - 1) nc 0 h1 (by omega) (by omega) (RH_w ho g2 rh) (by rw [g2 0 (by omega)]; exact h02) g3
    obtain ⟨m', w', d1, d2⟩ := ringM_in hv hlt (nI w) hM1 8 nm F b2 b3 b4 (by omega) (by omega) hF2 hF3
    rw [tC_ring_15, tM_ring_17, h02, rh.1.1, fr 84 (by omega), hR.1, if_pos (nI_lt (by omega) (by omega)), if_pos (nI_lt (by omega) (by omega)), g1, k1, r0_ok, r0_ok]
    have f1 : frW h h' := g2.tr c0
    have hQ : ∀ j v, j ≤ 8 → Way S j r 0 r v → -100000 ≤ v ∧ v ≤ 100000 := fun j v hj z => by
      have := way_b hv hlt _ _ _ z
      omega
    have st0 : some (vi (1 : Int32)) = some (vi (nI (0 + 1))) := rfl
    have st8 : some (vi (8 : Int32)) = some (vi (nI 8)) := rfl
    rw [st0, st8]
    rcases c2 with ⟨j, T, p1, p2, p3, p4, p5, p6⟩ | ⟨p1, p2⟩
    · have hj2 : 2 ≤ j := by
        rcases Nat.lt_or_ge j 2 with z | z
        · have : j = 1 := by omega
          rw [this] at p3
          exact absurd p3 (Ng_1 hv r)
        · exact z
      rcases d2 with ⟨j', T', s1, s2, s3, s4, s5, s6, s7⟩ | ⟨s1, s2⟩
      · have hjj : j = j' := by
          rcases Nat.lt_trichotomy j j' with z | z | z
          · exact absurd p3 (s5 j hj2 z)
          · exact z
          · exact absurd s4 (p4 j' (by omega) z)
        subst hjj
        have hTT : T = T' := by
          obtain ⟨v0, y1, y2⟩ := p3
          rcases mn_mR (fun v z => hQ j v (by omega) z) p5 s6 with ⟨z, -⟩ | ⟨z, -⟩
          · rcases p5 with ⟨-, a⟩ | ⟨a, -⟩
            · exact absurd y1 (a _)
            · have := hQ j _ (by omega) a
              rw [z, e1] at this
              omega
          · exact z
        rw [p6, s7, hTT]
        obtain ⟨h'', M'', x, l1, l2, l3, l4⟩ := ih n' m' (r + 1) j (nI r) (-T') (nI j) (nI r) (-T') u' w' h' M1 (by omega) (by omega) (by omega) (by omega) (RH_w ho f1 rh) (by rw [f1 0 (by omega)]; exact h02) fr1 (Or.inr ⟨⟨by omega, s2⟩, rfl, rfl, rfl, ⟨r, rfl, by omega⟩, rfl⟩)
        exact ⟨h'', M'', x, l1, l2, f1.tr l3, l4⟩
      · exact absurd p3 (s1 j hj2 (by omega) p2)
    · rcases d2 with ⟨j', T', s1, s2, s3, s4, s5, s6, s7⟩ | ⟨s1, s2⟩
      · exact absurd s4 (p1 j' (by omega) s3)
      · rw [p2, s2]
        obtain ⟨h'', M'', x, l1, l2, l3, l4⟩ := ih n' m' (r + 1) F a3 a4 b2 b3 b4 u' w' h' M1 (by omega) (by omega) (by omega) hF (RH_w ho f1 rh) (by rw [f1 0 (by omega)]; exact h02) fr1 hI'
        exact ⟨h'', M'', x, l1, l2, f1.tr l3, l4⟩
end RING
theorem P_ring (x : Int32) : Pr 66 145 [vi x] := by
  refine Pr_w fun h S o o' tx as ks ss c m v => ?_
  have hv := m.1
  have hR := hv.1.2.2
  have h79 := c.2.2.2.2.2.2.2
  have q1 : (¬ x < 0 ∧ x < 3) ↔ (¬ x < 0 ∧ ¬ 2 < x) := lt_in (n := 3) (by omega) (by omega)
  rw [gC_ring, gM_ring, gC_isOneOf_ok, gM_in_ok, r1_ok, r1_ok, yn_congr q1]
  by_cases hx : ¬ x < 0 ∧ ¬ 2 < x
  · rw [if_neg (fun q => yn_0.mp q hx), if_neg (fun q => yn_0.mp q hx)]
    obtain ⟨w, hw, rfl⟩ := (in_c (n := 2) (by omega)).mp hx
    obtain ⟨h', M', r', l1, l2, l3, l4⟩ := ring_loop hv (o := o) (w := w) c.o17 (by omega) (nR S) 999999 999999 0 9 (-4) (-4) (-4) (-4) 0 none none h S (by omega) (by omega) (by omega) (by omega) c.rh c.oo (fun _ _ => rfl) (Or.inl ⟨rfl, rfl, rfl, rfl⟩)
    rw [nI_0] at l1 l2
    refine ⟨h', M', r', l1, l2, fun c hc => l3 c (by omega), ?_, fun c hc => l4 c (by omega)⟩
    rw [l3 79 (by omega)]
    exact h79
  · rw [if_pos (yn_0.mpr hx), if_pos (yn_0.mpr hx)]
    exact ⟨h, S, _, rfl, rfl, fun _ _ => rfl, h79, fun _ _ => rfl⟩
