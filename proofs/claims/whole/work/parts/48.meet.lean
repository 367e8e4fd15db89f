/-! MEET: the two double loops side by side -/
def mR (sc sm : Int32) : Prop := (sc = 536870912 ∧ sm = 1000000) ∨ (sc = sm ∧ -100000 ≤ sc.toInt ∧ sc.toInt ≤ 100000)
theorem mR_step {sc sm w : Int32} {u v : K_V} (r : mR sc sm) (ht : -100000 ≤ (T2 u v).toInt ∧ (T2 u v).toInt ≤ 100000) :
    ((fsC u v < sc ∨ fsC u v = sc ∧ ¬ fsC u v = 536870912 ∧ u.2.1 < w) ↔ (tog u v ∧ (T2 u v < sm ∨ T2 u v = sm ∧ u.2.1 < w))) ∧ (tog u v → mR (fsC u v) (T2 u v)) := by
  have e1 : ((536870912 : Int32)).toInt = 536870912 := rfl
  have e2 : ((1000000 : Int32)).toInt = 1000000 := rfl
  unfold fsC
  by_cases t : tog u v
  · rw [if_pos t]
    refine ⟨?_, fun _ => Or.inr ⟨rfl, ht⟩⟩
    have hne : ¬ T2 u v = 536870912 := fun q => by rw [q] at ht; rw [e1] at ht; omega
    rcases r with ⟨rfl, rfl⟩ | ⟨rfl, h1, h2⟩
    · have a1 : T2 u v < 536870912 := by rw [Int32.lt_iff_toInt_lt, e1]; omega
      have a2 : T2 u v < 1000000 := by rw [Int32.lt_iff_toInt_lt, e2]; omega
      exact ⟨fun _ => ⟨t, Or.inl a2⟩, fun _ => Or.inl a1⟩
    · exact ⟨fun q => ⟨t, q.elim Or.inl fun z => Or.inr ⟨z.1, z.2.2⟩⟩, fun q => q.2.elim Or.inl fun z => Or.inr ⟨z.1, hne, z.2⟩⟩
  · rw [if_neg t]
    refine ⟨⟨fun q => ?_, fun q => absurd q.1 t⟩, fun q => absurd q t⟩
    rcases q with q | q
    · rcases r with ⟨rfl, rfl⟩ | ⟨rfl, h1, h2⟩
      · exact absurd q (by decide)
      · rw [Int32.lt_iff_toInt_lt, e1] at q; omega
    · exact absurd rfl q.2.1
theorem T2_b {u v : K_V} (hu : -100000 ≤ u.2.2.1.toInt ∧ u.2.2.1.toInt ≤ 100000) (hv : -100000 ≤ v.2.2.1.toInt ∧ v.2.2.1.toInt ≤ 100000) : -100000 ≤ (T2 u v).toInt ∧ (T2 u v).toInt ≤ 100000 := by
  unfold T2
  split <;> omega
section MEET
variable {h S : am_H} {l : List K_V}
theorem meet_skip (d : Nat) {N a i : Nat} (x2 x3 sc wc : Int32) (u8 u9 : Option am_V) (hN : h 32 14 = nI N) (hN4 : N ≤ 44) (ha : a < N) {w : Nat} (hw : h 41 a = nI w) (hwi : w ≠ i) (hw4 : w < 4) (hi : i < 4) : ∀ (k n b : Nat), b + k = N → k < n →
    rC_meet d n 29 [some (vr 6 0), some (vi (nI i)), some (vi x2), some (vi x3), some (vi sc), some (vi wc), some (vi (nI a)), some (vi (nI b)), u8, u9] h = rC_meet d (n - k) 29 [some (vr 6 0), some (vi (nI i)), some (vi x2), some (vi x3), some (vi sc), some (vi wc), some (vi (nI a)), some (vi (nI N)), u8, u9] h := by
  intro k
  induction k with
  | zero =>
    intro n b hb hn
    have : b = N := by omega
    subst this
    rfl
  | succ k ih =>
    intro n b hb hn
    obtain ⟨n, rfl⟩ : ∃ z, n = z + 1 := ⟨n - 1, by omega⟩
    rw [tC_meet_29, hN, if_pos (nI_lt (by omega) (by omega)), b_ok (by omega) (by omega), hw, if_neg (nI_ne hwi (by omega) (by omega)), nI_1, ih n (b + 1) (by omega) (by omega), show n + 1 - (k + 1) = n - k by omega]
    split <;> rfl
theorem meet_in (d : Nat) {N a i j : Nat} {u : K_V} (x3 : Int32) (hc : vC 32 h l) (hm : vM S l) (hl : l.length = N) (hN : h 32 14 = nI N) (hN4 : N ≤ 44) (hj : j < 4) (hj5 : S 115 j = nI (cV j l)) (hcj : cV j l ≤ 41) (ha : a < N) (hui : u.1 = i) (hi : i < 4) (hb : ∀ v ∈ l, v.1 < 4 ∧ (-100000 ≤ v.2.2.1.toInt ∧ v.2.2.1.toInt ≤ 100000)) (hub : -100000 ≤ u.2.2.1.toInt ∧ u.2.2.1.toInt ≤ 100000)
    (hu : h 41 a = nI u.1 ∧ h 42 a = u.2.1 ∧ h 43 a = u.2.2.1 ∧ h 44 a = u.2.2.2) (hp : cn i l a < 41) (hup : S 116 (41 * i + cn i l a) = u.2.1 ∧ S 117 (41 * i + cn i l a) = u.2.2.1 ∧ S 118 (41 * i + cn i l a) = u.2.2.2)
    (hab : ∀ b v, b < N → v ∈ l → h 41 b = nI v.1 → v.1 = j → (a = b ↔ 41 * i + cn i l a = 41 * j + cn j l b)) :
    ∀ (k nc nm b : Nat) (sc sm w : Int32) (u8 u9 v8 v9 : Option am_V), b + k = N → k < nc → k < nm → mR sc sm →
    ∃ (sc' sm' w' : Int32) (a8 a9 b8 b9 : Option am_V) (nm' : Nat), mR sc' sm' ∧ nm - k ≤ nm' ∧
      rC_meet (d + 2) nc 29 [some (vr 6 0), some (vi (nI i)), some (vi (nI j)), some (vi x3), some (vi sc), some (vi w), some (vi (nI a)), some (vi (nI b)), u8, u9] h = rC_meet (d + 2) (nc - k) 29 [some (vr 6 0), some (vi (nI i)), some (vi (nI j)), some (vi x3), some (vi sc'), some (vi w'), some (vi (nI a)), some (vi (nI N)), a8, a9] h ∧
      rM_meet (d + 2) nm 40 [some (vr 7 82), some (vi (nI i)), some (vi (nI j)), some (vi x3), some (vi sm), some (vi w), some (vi (nI (41 * i + cn i l a))), some (vi (nI (41 * j + cn j l b))), v8, v9] S = rM_meet (d + 2) nm' 40 [some (vr 7 82), some (vi (nI i)), some (vi (nI j)), some (vi x3), some (vi sm'), some (vi w'), some (vi (nI (41 * i + cn i l a))), some (vi (nI (41 * j + cV j l))), b8, b9] S := by
  intro k
  induction k with
  | zero =>
    intro nc nm b sc sm w u8 u9 v8 v9 hbk hnc hnm hr
    have : b = N := by omega
    subst this
    subst hl
    rw [cn_n]
    exact ⟨sc, sm, w, u8, u9, v8, v9, nm, hr, by omega, rfl, rfl⟩
  | succ k ih =>
    intro nc nm b sc sm w u8 u9 v8 v9 hbk hnc hnm hr
    obtain ⟨v, hv1, hv2, hv3, hv4⟩ := vis_at hc hm (b := b) (by omega)
    obtain ⟨hv5, hv6⟩ := hb v hv1
    obtain ⟨nc, rfl⟩ : ∃ z, nc = z + 1 := ⟨nc - 1, by omega⟩
    by_cases e : v.1 = j
    · have hcb : cn j l (b + 1) = 1 + cn j l b := by rw [hv2 j, if_pos e]
      have hle : cn j l (b + 1) ≤ cV j l := by
        have := cn_mono hc hm j k (b + 1) (by omega)
        rw [show b + 1 + k = l.length by omega, cn_n] at this
        exact this
      obtain ⟨nm, rfl⟩ : ∃ z, nm = z + 1 := ⟨nm - 1, by omega⟩
      have hq := hab b v (by omega) hv1 hv3.1 e
      rw [e] at hv4
      obtain ⟨s, s', g⟩ := meetM_step (d + 2) nm (i := i) (j := j) (p := 41 * i + cn i l a) (q := 41 * j + cn j l b) x3 sm w v8 v9 hj hj5 hcj (by omega) (by omega) hup hv4
      rw [g, show 41 * j + cn j l b + 1 = 41 * j + cn j l (b + 1) by omega]
      have T := T2_b hub hv6
      obtain ⟨m1, m2⟩ := mR_step (w := w) hr T
      by_cases eab : a = b
      · have hpq := hq.mp eab
        rw [if_neg (fun z => z.1 hpq), if_neg (fun z => z.1 hpq)]
        obtain ⟨sc', sm', w', a8, a9, b8, b9, nm', g1, g2, g3, g4⟩ := ih nc nm (b + 1) sc sm w u8 u9 s s' (by omega) (by omega) (by omega) hr
        refine ⟨sc', sm', w', a8, a9, b8, b9, nm', g1, by omega, ?_, g4⟩
        rw [tC_meet_29, hN, if_pos (nI_lt (by omega) (by omega)), if_pos (by rw [eab]), nI_1, show nc + 1 - (k + 1) = nc - k by omega]
        exact g3
      · obtain ⟨r, r', f⟩ := meetC_step d nc (h := h) (a := a) (b := b) (N := N) (u := u) (v := v) x3 sc w u8 u9 hN hN4 ha (by omega) eab hu hv3
        rw [hui, e] at f
        rw [f, show nc + 1 - (k + 1) = nc - k by omega]
        have hne : (41 * i + cn i l a ≠ 41 * j + cn j l b) := fun z => eab (hq.mpr z)
        by_cases C : fsC u v < sc ∨ fsC u v = sc ∧ ¬ fsC u v = 536870912 ∧ u.2.1 < w
        · have D := m1.mp C
          rw [if_pos C, if_pos C, if_pos ⟨hne, D⟩, if_pos ⟨hne, D⟩]
          obtain ⟨sc', sm', w', a8, a9, b8, b9, nm', g1, g2, g3, g4⟩ := ih nc nm (b + 1) (fsC u v) (T2 u v) u.2.1 r r' s s' (by omega) (by omega) (by omega) (m2 D.1)
          exact ⟨sc', sm', w', a8, a9, b8, b9, nm', g1, by omega, g3, g4⟩
        · have D : ¬ (tog u v ∧ (T2 u v < sm ∨ T2 u v = sm ∧ u.2.1 < w)) := fun z => C (m1.mpr z)
          rw [if_neg C, if_neg C, if_neg (fun z => D z.2), if_neg (fun z => D z.2)]
          obtain ⟨sc', sm', w', a8, a9, b8, b9, nm', g1, g2, g3, g4⟩ := ih nc nm (b + 1) sc sm w r r' s s' (by omega) (by omega) (by omega) hr
          exact ⟨sc', sm', w', a8, a9, b8, b9, nm', g1, by omega, g3, g4⟩
    · have hcb : cn j l (b + 1) = cn j l b := by rw [hv2 j, if_neg e]; omega
      obtain ⟨sc', sm', w', a8, a9, b8, b9, nm', g1, g2, g3, g4⟩ := ih nc nm (b + 1) sc sm w u8 u9 v8 v9 (by omega) (by omega) (by omega) hr
      rw [hcb] at g4
      refine ⟨sc', sm', w', a8, a9, b8, b9, nm', g1, by omega, ?_, g4⟩
      have hb1 : h 41 b = nI v.1 := hv3.1
      rw [tC_meet_29, hN, if_pos (nI_lt (by omega) (by omega)), b_ok (by omega) (by omega), hu.1, hui, if_pos rfl, b_ok (by omega) (by omega), hb1, if_neg (nI_ne e (by omega) (by omega)), nI_1, show nc + 1 - (k + 1) = nc - k by omega, g3]
      split <;> rfl
/-- the places of two visits of a person are other ones -/
theorem cn_inj {i : Nat} (hc : vC 32 h l) (hm : vM S l) : ∀ {a b : Nat} {u v : K_V}, a < l.length → b < l.length → h 41 a = nI i → h 41 b = nI i → i < 4 → (∀ v ∈ l, v.1 < 4) → cn i l a = cn i l b → a = b := by
  have key : ∀ {a b : Nat}, a < b → b < l.length → h 41 a = nI i → i < 4 → (∀ v ∈ l, v.1 < 4) → cn i l a < cn i l b := by
    intro a b hab hb ha hi h4
    obtain ⟨v, hv1, hv2, hv3, -⟩ := vis_at hc hm (b := a) (by omega)
    have e : v.1 = i := by
      have q := hv3.1
      rw [ha] at q
      have := h4 v hv1
      exact ((nI_eq (by omega) (by omega)).mp q).symm
    have := hv2 i
    rw [if_pos e] at this
    have := cn_mono hc hm i (b - (a + 1)) (a + 1) (by omega)
    rw [show a + 1 + (b - (a + 1)) = b by omega] at this
    omega
  intro a b u v ha hb h1 h2 hi h4 hcn
  rcases Nat.lt_trichotomy a b with q | q | q
  · have := key q hb h1 hi h4; omega
  · exact q
  · have := key q ha h2 hi h4; omega
theorem meet_out {N i j : Nat} (x3 : Int32) (hc : vC 32 h l) (hm : vM S l) (hl : l.length = N) (hN : h 32 14 = nI N) (hN4 : N ≤ 44) (hi : i < 4) (hj : j < 4) (hi5 : S 115 i = nI (cV i l)) (hci : cV i l ≤ 41) (hj5 : S 115 j = nI (cV j l)) (hcj : cV j l ≤ 41) (hb : ∀ v ∈ l, v.1 < 4 ∧ (-100000 ≤ v.2.2.1.toInt ∧ v.2.2.1.toInt ≤ 100000)) :
    ∀ (k nc nm a : Nat) (sc sm w : Int32) (u7 u8 u9 v7 v8 v9 : Option am_V), a + k = N → 100 * k < nc → 100 * k < nm → mR sc sm →
    ∃ v, rC_meet 6 nc 21 [some (vr 6 0), some (vi (nI i)), some (vi (nI j)), some (vi x3), some (vi sc), some (vi w), some (vi (nI a)), u7, u8, u9] h = some (h, some v) ∧
      rM_meet 6 nm 25 [some (vr 7 82), some (vi (nI i)), some (vi (nI j)), some (vi x3), some (vi sm), some (vi w), some (vi (nI (41 * i + cn i l a))), v7, v8, v9] S = some (S, some v) := by
  have hbi : (41 : Int32) * nI i + nI (cV i l) = nI (41 * i + cV i l) := by rw [show (41 : Int32) = nI 41 from rfl, pk_mul, nI_add]
  have hbj : (41 : Int32) * nI j = nI (41 * j) := by rw [show (41 : Int32) = nI 41 from rfl, pk_mul]
  have hbj2 : (41 : Int32) * nI j + nI (cV j l) = nI (41 * j + cV j l) := by rw [hbj, nI_add]
  intro k
  induction k with
  | zero =>
    intro nc nm a sc sm w u7 u8 u9 v7 v8 v9 hak hnc hnm hr
    have : a = N := by omega
    subst this
    subst hl
    obtain ⟨nc, rfl⟩ : ∃ z, nc = z + 1 := ⟨nc - 1, by omega⟩
    obtain ⟨nm, rfl⟩ : ∃ z, nm = z + 1 := ⟨nm - 1, by omega⟩
    rw [tC_meet_21, tM_meet_25, hN, cn_n, b_ok hi (by omega), hi5, hbi, if_neg (nI_nlt (by omega) (by omega)), if_neg (nI_nlt (by omega) (by omega)), gC_told, r1_ok]
    rcases hr with ⟨rfl, rfl⟩ | ⟨rfl, h1, h2⟩
    · rw [if_pos rfl, if_pos rfl]
      exact ⟨_, rfl, rfl⟩
    · have e1 : ((536870912 : Int32)).toInt = 536870912 := rfl
      have e2 : ((1000000 : Int32)).toInt = 1000000 := rfl
      rw [if_neg (show ¬ sc = 536870912 from fun q => by rw [q, e1] at h2; omega), if_neg (show ¬ sc = 1000000 from fun q => by rw [q, e2] at h2; omega)]
      split
      · exact ⟨_, rfl, rfl⟩
      · exact ⟨_, rfl, rfl⟩
  | succ k ih =>
    intro nc nm a sc sm w u7 u8 u9 v7 v8 v9 hak hnc hnm hr
    obtain ⟨nc, rfl⟩ : ∃ z, nc = z + 1 := ⟨nc - 1, by omega⟩
    obtain ⟨u, hu1, hu2, hu3, hu4⟩ := vis_at hc hm (b := a) (by omega)
    obtain ⟨hu5, hu6⟩ := hb u hu1
    rw [tC_meet_21, hN, if_pos (nI_lt (by omega) (by omega))]
    by_cases e : u.1 = i
    · obtain ⟨nm, rfl⟩ : ∃ z, nm = z + 1 := ⟨nm - 1, by omega⟩
      have hca : cn i l (a + 1) = 1 + cn i l a := by rw [hu2 i, if_pos e]
      have hle : cn i l (a + 1) ≤ cV i l := by
        have := cn_mono hc hm i k (a + 1) (by omega)
        rw [show a + 1 + k = l.length by omega, cn_n] at this
        exact this
      rw [tM_meet_25, b_ok hi (by omega), hi5, hbi, if_pos (nI_lt (by omega) (by omega)), hbj]
      rw [e] at hu4
      obtain ⟨sc', sm', w', a8, a9, b8, b9, nm', g1, g2, g3, g4⟩ := meet_in 4 (u := u) x3 hc hm hl hN hN4 hj hj5 hcj (a := a) (by omega) e hi hb hu6 hu3 (by omega) hu4 (fun b v hb1 hb2 hb3 hb4 => by
        constructor
        · intro q
          subst q
          have : i = j := by
            rw [hu3.1] at hb3
            have := (nI_eq (by omega) (by have := (hb v hb2).1; omega)).mp hb3
            omega
          subst this
          rfl
        · intro q
          have hlt : cn j l b < 41 ∨ cn j l b ≤ 41 := by
            have := cn_mono hc hm j (l.length - b) b (by omega)
            rw [show b + (l.length - b) = l.length by omega, cn_n] at this
            omega
          have hbj1 : cn j l b < 41 := by
            obtain ⟨v', hv1, hv2, hv3, -⟩ := vis_at hc hm (b := b) (by omega)
            have e' : v'.1 = j := by
              have q' : h 41 b = nI v'.1 := hv3.1
              rw [hb3] at q'
              have t1 := (hb v hb2).1
              have t2 := (hb v' hv1).1
              have := (nI_eq (by omega) (by omega)).mp q'
              omega
            have z := hv2 j
            rw [if_pos e'] at z
            have := cn_mono hc hm j (l.length - (b + 1)) (b + 1) (by omega)
            rw [show b + 1 + (l.length - (b + 1)) = l.length by omega, cn_n] at this
            omega
          have hij : i = j := by omega
          subst hij
          exact cn_inj (u := u) (v := v) hc hm (by omega) (by omega) (by have q' : h 41 a = nI u.1 := hu3.1; rw [q', e]) (by rw [hb3, hb4]) hi (fun v hv => (hb v hv).1) (by omega)) N nc nm 0 sc sm w u8 u9 v8 v9 (by omega) (by omega) (by omega) hr
      rw [cn_0, show 41 * j + 0 = 41 * j from rfl] at g4
      obtain ⟨nm', rfl⟩ : ∃ z, nm' = z + 1 := ⟨nm' - 1, by omega⟩
      obtain ⟨nc2, hnc2⟩ : ∃ z, nc - N = z + 1 := ⟨nc - N - 1, by omega⟩
      rw [nI_0, hnc2] at g3
      rw [g3, g4, tC_meet_29, hN, if_neg (nI_nlt (by omega) (by omega)), tM_meet_40, b_ok hj (by omega), hj5, hbj2, if_neg (nI_nlt (by omega) (by omega)), nI_1, nI_1, show 41 * i + cn i l a + 1 = 41 * i + cn i l (a + 1) by omega]
      exact ih nc2 nm' (a + 1) sc' sm' w' _ _ _ _ _ _ (by omega) (by omega) (by omega) g1
    · have hca : cn i l (a + 1) = cn i l a := by rw [hu2 i, if_neg e]; omega
      have g := meet_skip 6 (h := h) (nI j) x3 sc w u8 u9 hN hN4 (a := a) (by omega) (w := u.1) hu3.1 e hu5 hi N nc 0 (by omega) (by omega)
      obtain ⟨nc2, hnc2⟩ : ∃ z, nc - N = z + 1 := ⟨nc - N - 1, by omega⟩
      rw [nI_0, hnc2] at g
      rw [g, tC_meet_29, hN, if_neg (nI_nlt (by omega) (by omega)), nI_1, ← hca]
      exact ih nc2 nm (a + 1) sc sm w _ _ _ _ _ _ (by omega) (by omega) (by omega) hr
end MEET
theorem P_meet (x y z : Int32) : Pr 64 141 [vi x, vi y, vi z] := by
  refine Pr_q fun h S o o' tx as ks ss c m v => ?_
  have hv := m.1
  have hP := hv.2.2.1.2
  have hK := v.vk hv
  have hal := v.2.1.1
  have q1 : (¬ z < 0 ∧ z < 2) ↔ (¬ z < 0 ∧ ¬ 1 < z) := lt_in (n := 2) (by omega) (by omega)
  rw [gC_meet, gM_meet, gC_isPerson_ok 4 hv c, gM_isPerson_ok 4 hv, r1_ok, r1_ok]
  rcases ix_c (x := x) (n := nP S) (by omega) with hx | ⟨i, hi, rfl⟩
  · rw [if_pos (ix_no hx), if_pos (ix_no hx)]
    exact ⟨_, rfl, rfl⟩
  · rw [if_neg (ix_yes hi (by omega)), if_neg (ix_yes hi (by omega)), gC_isPerson_ok 4 hv c, gM_isPerson_ok 4 hv, r1_ok, r1_ok]
    rcases ix_c (x := y) (n := nP S) (by omega) with hy | ⟨j, hj, rfl⟩
    · rw [if_pos (ix_no hy), if_pos (ix_no hy)]
      exact ⟨_, rfl, rfl⟩
    · rw [if_neg (ix_yes hj (by omega)), if_neg (ix_yes hj (by omega)), gC_isOneOf_ok, gM_in_ok, r1_ok, r1_ok, yn_congr q1]
      by_cases hz : ¬ z < 0 ∧ ¬ 1 < z
      · rw [if_neg (fun q => yn_0.mp q hz), if_neg (fun q => yn_0.mp q hz)]
        obtain ⟨-, -, r3, r4⟩ := c.rc
        obtain ⟨r5, -, r6⟩ := m.2.2.1
        have hli := hK.1 i hi
        have hlj := hK.1 j hj
        have hbd := hK.2.2.2
        have hll := hK.2.2.1
        have g := meet_out (i := i) (j := j) z r4 r6 rfl r3 (by omega) (by omega) (by omega) (r5 i hi).2.2.2 (by omega) (r5 j hj).2.2.2 (by omega) (fun v hv' => by
          obtain ⟨b1, b2, b3, b4⟩ := hbd v hv'
          exact ⟨by omega, by omega⟩) (kAll S as).2.length 999999 999999 0 536870912 1000000 (-4) none none none none none none (by omega) (by omega) (by omega) (Or.inl ⟨rfl, rfl⟩)
        rw [cn_0, show 41 * i + 0 = 41 * i from rfl, nI_0, ← pk_mul, show nI 41 = (41 : Int32) from rfl] at g
        exact g
      · rw [if_pos (yn_0.mpr hz), if_pos (yn_0.mpr hz)]
        exact ⟨_, rfl, rfl⟩
