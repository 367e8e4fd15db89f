/-! EARLY: the lowest tick, by how few doors, by which door first -/
/-- what the cells for scratch say is nobody's business -/
theorem Pr_w {z z' : Nat} {al : List am_V} (q : ∀ (h S : am_H) (o o' : Nat) (tx : List Nat) (as : List K_A) (ks : List (List K_A)) (ss : List K_A), CI h S o o' tx as ks ss → MI S tx as ks ss → VI S tx as ks ss → ∃ (h1 S1 : am_H) (v : Int32), am_g 7 z (vr 6 0 :: al) h = some (h1, some v) ∧ am_g 7 z' (vr 7 82 :: al) S = some (S1, some v) ∧ (∀ c, ¬ (75 ≤ c ∧ c ≤ 81) → h1 c = h c) ∧ (h1 79 0 = nI 80 ∧ h1 79 1 = nI 81 ∨ h1 79 0 = nI 81 ∧ h1 79 1 = nI 80) ∧ ∀ c, ¬ (119 ≤ c ∧ c ≤ 122) → S1 c = S c) : Pr z z' al := by
  intro h S o o' tx as ks ss c m v
  obtain ⟨h1, S1, x, g1, g2, g3, g4, g5⟩ := q h S o o' tx as ks ss c m v
  have hS : sH S S1 := fun c q1 q2 => g5 c (by omega)
  refine ⟨h1, S1, x, g1, g2, fun c hc => g3 c (by omega), fun c hc => g5 c (by omega), o, o', tx, as, ks, ss, ?_, ?_, hS.vi v⟩
  · exact CI_c c hS (fun j hj => by rw [g3 0 (by omega)]) (fun c q1 q2 q3 => g3 c (by omega)) (by rw [g3 0 (by omega), g3 1 (by omega)]; exact c.2.1) (by rw [g3 70 (by omega), g3 71 (by omega), g3 72 (by omega), g3 73 (by omega)]; exact c.2.2.2.2.2.2.1) g4
  · exact MI_c m (fun c q1 q2 q3 => g5 c (by omega)) (by rw [g5 82 (by omega)]) (by rw [g5 82 (by omega), g5 83 (by omega)]; exact m.2.1) (by rw [g5 82 (by omega), g5 104 (by omega), g5 105 (by omega), g5 106 (by omega)]; exact m.2.2.2.2.2)
section EARLY
variable {S : am_H}
theorem sH.esd {M : am_H} (hS : sH S M) (e g : Nat) : sd M e g = sd S e g := by
  unfold sd dA dB
  rw [hS 89 (by omega) (by omega), hS 90 (by omega) (by omega)]
theorem sH.eso {M : am_H} (hS : sH S M) (e g : Nat) : so M e g = so S e g := by
  unfold so dA dB
  rw [hS 89 (by omega) (by omega), hS 90 (by omega) (by omega)]
theorem sH.ecst {M : am_H} (hS : sH S M) (e r : Nat) : cst M e r = cst S e r := by
  unfold cst hOf led
  rw [hS 99 (by omega) (by omega), hS 86 (by omega) (by omega), hS 85 (by omega) (by omega), hS 89 (by omega) (by omega), hS 91 (by omega) (by omega)]
theorem sH.eway {M : am_H} (hS : sH S M) (s : Nat) (t : Int) : ∀ (k r : Nat) (v : Int), Way M k s t r v ↔ Way S k s t r v := by
  intro k
  induction k with
  | zero => intro r v; exact Iff.rfl
  | succ k ih =>
    intro r v
    unfold Way
    constructor
    · rintro ⟨e, g, h1, h2, h3, h4⟩
      refine ⟨e, g, by rw [← hS.eD]; exact h1, h2, by rw [← hS.eso]; exact h3, ?_⟩
      have := (ih _ _).mp h4
      unfold cI at *
      rw [hS.esd, hS.ecst] at this
      exact this
    · rintro ⟨e, g, h1, h2, h3, h4⟩
      refine ⟨e, g, by rw [hS.eD]; exact h1, h2, by rw [hS.eso]; exact h3, ?_⟩
      refine (ih _ _).mpr ?_
      unfold cI at *
      rw [hS.esd, hS.ecst]
      exact h4
theorem so_sd (hv : VH S) {e g g' : Nat} (he : e < nD S) (h : sd S e g = sd S e g') : so S e g = so S e g' := by
  obtain ⟨-, -, -, -, h5⟩ := dAB hv he
  unfold sd at h
  unfold so
  by_cases q : g = 0
  · by_cases q' : g' = 0
    · rw [if_pos q, if_pos q']
    · rw [if_pos q, if_neg q'] at h; exact absurd h h5
  · by_cases q' : g' = 0
    · rw [if_neg q, if_pos q'] at h; exact absurd h.symm h5
    · rw [if_neg q, if_neg q']
/-- a door is a first one just if its row says the lowest tick -/
theorem first_iff (hv : VH S) {j s r e g : Nat} {t : Int} {sm z : Int32} (he : e < nD S) (hg : g < 2) (hs : sd S e g = s) (hb : sm.toInt ≤ 100000) (m : Way S (j + 1) s t r sm.toInt ∧ ∀ v, Way S (j + 1) s t r v → sm.toInt ≤ v) (m' : mn (Way S j (so S e g) (t + cI S e s) r) 1000000 z) : z = sm ↔ WF S j s t r sm.toInt e := by
  constructor
  · intro q
    rcases m' with ⟨a, b⟩ | ⟨a, b⟩
    · rw [← q, a] at hb
      exact absurd hb (by decide)
    · rw [q] at a
      exact ⟨he, g, hg, hs, a⟩
  · rintro ⟨-, g', h2, h3, h4⟩
    rw [so_sd hv he (h3.trans hs.symm)] at h4
    rcases m' with ⟨a, b⟩ | ⟨a, b⟩
    · exact absurd h4 (b _)
    · have q1 := b _ h4
      have q2 := m.2 _ ((way_cons j r z.toInt).mpr ⟨e, he, g, hg, hs, a⟩)
      exact Int32.toInt.inj (by omega)
theorem early_first (hv : VH S) {i s r j d0 : Nat} {t sm : Int32} (x3 x4 : Int32) (hi : i < 4) (hs : s < nR S) (hr : r < nR S) (hj : j < 8) (h108 : S 108 i = nI s) (h109 : S 109 i = t) (ht : -50000 ≤ t.toInt ∧ t.toInt ≤ 50000) (hb : sm.toInt ≤ 100000) (m : Way S (j + 1) s t.toInt r sm.toInt ∧ ∀ v, Way S (j + 1) s t.toInt r v → sm.toInt ≤ v) (w : WF S j s t.toInt r sm.toInt d0) (wl : ∀ d', WF S j s t.toInt r sm.toInt d' → d0 ≤ d') :
    ∀ (q n e : Nat) (M : am_H), e + q = d0 → q < n → (∀ c, c ≠ 119 → M c = S c) → ∃ M', rM_early 6 n 97 [some (vr 7 82), some (vi (nI i)), some (vi (nI r)), some (vi x3), some (vi x4), some (vi (nI (j + 1))), some (vi sm), some (vi (nI e))] M = some (M', some (nI d0)) ∧ ∀ c, c ≠ 119 → M' c = S c := by
  have hR := hv.1.2.2
  have hD := hv.2.1
  have hd0 := w.1
  intro q
  induction q with
  | zero =>
    intro n e M he hn fr
    obtain ⟨n, rfl⟩ : ∃ z, n = z + 1 := ⟨n - 1, by omega⟩
    have : e = d0 := by omega
    subst this
    have hS : sH S M := fun c q1 q2 => fr c (by omega)
    have hvM : VH M := VH_congr hS hv
    have heM : e < nD M := by rw [hS.eD]; exact hd0
    obtain ⟨-, g, w2, w3, w4⟩ := w
    have hbe : bes M e (nI s) := by
      have := (bes_sd hv hd0 hs).mpr ⟨g, w2, w3⟩
      unfold bes at *
      rw [fr 89 (by omega), fr 90 (by omega)]
      exact this
    have hby : byd M e (nI s) = nI (so S e g) := by
      rw [← byd_sd hv hd0 g, w3]
      unfold byd
      rw [fr 89 (by omega), fr 90 (by omega)]
    have hc := cst_b hv hd0 hs
    have htc : (t + cst S e s).toInt = t.toInt + cI S e s := ti_add (by unfold cI at hc; omega) (by unfold cI at hc; omega)
    obtain ⟨M1, g1, g2, g3⟩ := gM_layLow_ok 3 hvM (s := so S e g) (t := t + cst S e s) (by rw [hS.eR]; exact so_lt hv hd0 g) (by rw [htc]; omega)
    have hz : mn (Way S j (so S e g) (t.toInt + cI S e s) r) 1000000 (M1 119 (6 * j + r)) := by
      have := g3 j (by omega) r (by rw [hS.eR]; exact hr)
      rw [htc] at this
      exact mn_congr (fun v => hS.eway _ _ _ _ _) this
    have heq := (first_iff hv hd0 w2 w3 hb m hz).mpr ⟨hd0, g, w2, w3, w4⟩
    have i1 : (6 : Int32) * (nI (j + 1) - 1) + nI r = nI (6 * j + r) := by rw [nI_pred, show (6 : Int32) = nI 6 from rfl, pk_mul, nI_add]
    refine ⟨M1, ?_, fun c hc => (g2 c hc).trans (fr c hc)⟩
    rw [tM_early_97, fr 88 (by omega), hD.1, if_pos (nI_lt hd0 (by omega)), if_pos (show (0 : Int32) < nI (j + 1) from nI_lt (a := 0) (by omega) (by omega)), b_ok hi (by omega), fr 108 (by omega), h108, gM_isBeside_ok 5 hvM heM, r1_ok, if_neg (fun z => yn_0.mp z hbe), b_ok hi (by omega), fr 108 (by omega), h108, gM_beyond_ok 5 hvM heM, r1_ok, b_ok hi (by omega), b_ok hi (by omega), fr 108 (by omega), h108, gM_costOf_ok 4 hvM heM (by rw [hS.eR]; exact hs), r1_ok, hby, hS.ecst, fr 109 (by omega), h109, g1, r0_ok, i1, b_ok (by omega) (by omega), if_pos heq]
  | succ q ih =>
    intro n e M he hn fr
    obtain ⟨n, rfl⟩ : ∃ z, n = z + 1 := ⟨n - 1, by omega⟩
    have hlt : e < nD S := by omega
    have hS : sH S M := fun c q1 q2 => fr c (by omega)
    have hvM : VH M := VH_congr hS hv
    have heM : e < nD M := by rw [hS.eD]; exact hlt
    have hnw : ¬ WF S j s t.toInt r sm.toInt e := fun z => by have := wl e z; omega
    have i1 : (6 : Int32) * (nI (j + 1) - 1) + nI r = nI (6 * j + r) := by rw [nI_pred, show (6 : Int32) = nI 6 from rfl, pk_mul, nI_add]
    rw [tM_early_97, fr 88 (by omega), hD.1, if_pos (nI_lt hlt (by omega)), if_pos (show (0 : Int32) < nI (j + 1) from nI_lt (a := 0) (by omega) (by omega)), b_ok hi (by omega), fr 108 (by omega), h108, gM_isBeside_ok 5 hvM heM, r1_ok, nI_1]
    by_cases hbe : bes M e (nI s)
    · obtain ⟨g, w2, w3⟩ := (bes_sd hv hlt hs).mp (by
        unfold bes at *
        rw [fr 89 (by omega), fr 90 (by omega)] at hbe
        exact hbe)
      have hby : byd M e (nI s) = nI (so S e g) := by
        rw [← byd_sd hv hlt g, w3]
        unfold byd
        rw [fr 89 (by omega), fr 90 (by omega)]
      have hc := cst_b hv hlt hs
      have htc : (t + cst S e s).toInt = t.toInt + cI S e s := ti_add (by unfold cI at hc; omega) (by unfold cI at hc; omega)
      obtain ⟨M1, g1, g2, g3⟩ := gM_layLow_ok 3 hvM (s := so S e g) (t := t + cst S e s) (by rw [hS.eR]; exact so_lt hv hlt g) (by rw [htc]; omega)
      have hz : mn (Way S j (so S e g) (t.toInt + cI S e s) r) 1000000 (M1 119 (6 * j + r)) := by
        have := g3 j (by omega) r (by rw [hS.eR]; exact hr)
        rw [htc] at this
        exact mn_congr (fun v => hS.eway _ _ _ _ _) this
      have hne : ¬ M1 119 (6 * j + r) = sm := fun z => hnw ((first_iff hv hlt w2 w3 hb m hz).mp z)
      obtain ⟨M', k1, k2⟩ := ih n (e + 1) M1 (by omega) (by omega) (fun c hc => (g2 c hc).trans (fr c hc))
      refine ⟨M', ?_, k2⟩
      rw [if_neg (fun z => yn_0.mp z hbe), b_ok hi (by omega), fr 108 (by omega), h108, gM_beyond_ok 5 hvM heM, r1_ok, b_ok hi (by omega), b_ok hi (by omega), fr 108 (by omega), h108, gM_costOf_ok 4 hvM heM (by rw [hS.eR]; exact hs), r1_ok, hby, hS.ecst, fr 109 (by omega), h109, g1, r0_ok, i1, b_ok (by omega) (by omega), if_neg hne]
      exact k1
    · rw [if_pos (yn_0.mpr hbe)]
      exact ih n (e + 1) M (by omega) (by omega) fr
/-- what was found so far -/
def eI (S : am_H) (s : Nat) (t : Int) (r : Nat) (sc fw fi sm b : Int32) : Prop := (sc = 536870912 ∧ sm = 1000000 ∧ b = -4) ∨ (∃ k, k ≤ 8 ∧ fw = nI k ∧ b = nI k ∧ sc = sm ∧ (-100000 ≤ sc.toInt ∧ sc.toInt ≤ 100000) ∧ (Way S k s t r sm.toInt ∧ ∀ v, Way S k s t r v → sm.toInt ≤ v) ∧ fC S k s t r sc fi)
theorem early_loop (hv : VH S) {o i s r : Nat} {t : Int32} {N w : Nat} (ho : o ≤ 17) (hw : w < 3) (hN : N ≤ 8) (hi : i < 4) (hs : s < nR S) (hr : r < nR S) (h108 : S 108 i = nI s) (h109 : S 109 i = t) (ht : -50000 ≤ t.toInt ∧ t.toInt ≤ 50000) {M : am_H} (fr : ∀ c, c ≠ 119 → M c = S c) (hM : ∀ j, j ≤ 8 → rwM S j s t.toInt (M 119)) :
    ∀ (q nc nm k : Nat) (sc fw fi sm b : Int32) (h : am_H), k + q = N + 1 → q < nc → q + 20 < nm → RH o h S → (h 0 2).toNatClampNeg = o → rwC S k s t.toInt (h 75) (h 77) → eI S s t.toInt r sc fw fi sm b →
    ∃ (h' M' : am_H) (v : Int32), rC_early 6 nc 41 [some (vr 6 0), some (vi (nI i)), some (vi (nI r)), some (vi (nI N)), some (vi (nI w)), some (vi sc), some (vi fw), some (vi fi), some (vi (nI k))] h = some (h', some v) ∧ rM_early 6 nm 39 [some (vr 7 82), some (vi (nI i)), some (vi (nI r)), some (vi (nI N)), some (vi (nI w)), some (vi b), some (vi sm), some (vi (nI k))] M = some (M', some v) ∧ frW h h' ∧ ∀ c, c ≠ 119 → M' c = S c := by
  have hR := hv.1.2.2
  have e1 : ((536870912 : Int32)).toInt = 536870912 := rfl
  have e2 : ((1000000 : Int32)).toInt = 1000000 := rfl
  intro q
  induction q with
  | zero =>
    intro nc nm k sc fw fi sm b h hk hnc hnm rh h02 hrw hI
    obtain ⟨nc, rfl⟩ : ∃ z, nc = z + 1 := ⟨nc - 1, by omega⟩
    obtain ⟨nm, rfl⟩ : ∃ z, nm = z + 1 := ⟨nm - 1, by omega⟩
    rw [tC_early_41, tM_early_39, if_pos (nI_lt (by omega) (by omega)), if_pos (nI_lt (by omega) (by omega))]
    rcases hI with ⟨rfl, rfl, rfl⟩ | ⟨k', hk', rfl, rfl, rfl, hb, hm, hf⟩
    · rw [if_pos rfl, if_pos (by decide)]
      exact ⟨h, M, _, rfl, rfl, fun _ _ => rfl, fr⟩
    · rw [if_neg (show ¬ sc = 536870912 from fun z => by rw [z, e1] at hb; omega), if_neg (nI_pos (by omega)), gC_told, r1_ok]
      have hw3 : w = 0 ∨ w = 1 ∨ w = 2 := by omega
      rcases hw3 with rfl | rfl | rfl
      · rw [if_pos (show nI 0 = 0 from rfl), if_pos (by decide), if_pos (show nI 0 = 0 from rfl)]
        exact ⟨h, M, _, rfl, rfl, fun _ _ => rfl, fr⟩
      · rw [if_neg (by decide), if_pos (show nI 1 = 1 from rfl), if_pos (by decide), if_neg (by decide)]
        exact ⟨h, M, _, rfl, rfl, fun _ _ => rfl, fr⟩
      · rw [if_neg (by decide), if_neg (by decide), if_neg (by decide)]
        cases k' with
        | zero =>
          have hf : fi = -4 := hf
          obtain ⟨nm, rfl⟩ : ∃ z, nm = z + 1 := ⟨nm - 1, by omega⟩
          rw [tM_early_97, if_neg (show ¬ (0 : Int32) < nI 0 by decide), hf]
          refine ⟨h, M, _, rfl, ?_, fun _ _ => rfl, fr⟩
          split <;> rfl
        | succ j =>
          obtain ⟨d0, f1, f2, f3⟩ := hf (fun z => by rw [z, e1] at hb; omega)
          have hd := f2.1
          have hD := hv.2.1.2
          obtain ⟨M', g1, g2⟩ := early_first hv (nI N) (nI 2) hi hs hr (by omega) h108 h109 ht hb.2 hm f2 f3 d0 nm 0 M (by omega) (by omega) fr
          rw [nI_0] at g1
          rw [f1]
          exact ⟨h, M', _, rfl, g1, fun _ _ => rfl, g2⟩
  | succ q ih =>
    intro nc nm k sc fw fi sm b h hk hnc hnm rh h02 hrw hI
    obtain ⟨nc, rfl⟩ : ∃ z, nc = z + 1 := ⟨nc - 1, by omega⟩
    obtain ⟨nm, rfl⟩ : ∃ z, nm = z + 1 := ⟨nm - 1, by omega⟩
    have i1 : (6 : Int32) * nI k + nI r = nI (6 * k + r) := by rw [show (6 : Int32) = nI 6 from rfl, pk_mul, nI_add]
    have b1 : ∀ f, am_b 54 (nI (6 * k + r)) f = f (6 * k + r) := fun f => b_ok (by omega) (by omega) f
    have b2 : ∀ f, am_b 6 (nI r) f = f r := fun f => b_ok (by omega) (by omega) f
    obtain ⟨h1, g1, g2, g3⟩ := gW_step_ok 2 hv ho rh hs (by omega) (by omega : k ≤ 20) hrw
    have rh1 := RH_w ho g2 rh
    have h021 : (h1 0 2).toNatClampNeg = o := by rw [g2 0 (by omega)]; exact h02
    obtain ⟨mc, mf⟩ := hrw r hr
    have mm := hM k (by omega) r hr
    have hQ : ∀ v, Way S k s t.toInt r v → -100000 ≤ v ∧ v ≤ 100000 := fun v z => by
      have := way_b hv hs _ _ _ z
      omega
    have hmR := mn_mR hQ mc mm
    have hIR : mR sc sm := by
      rcases hI with ⟨rfl, rfl, -⟩ | ⟨k', -, -, -, rfl, hb, -⟩
      · exact Or.inl ⟨rfl, rfl⟩
      · exact Or.inr ⟨rfl, hb⟩
    have hlt := mR_lt hmR hIR
    rw [tC_early_41, tM_early_39, if_neg (nI_nlt (by omega) (by omega)), if_neg (nI_nlt (by omega) (by omega)), i1, h02, nI_1]
    simp only [b1, b2]
    by_cases z : h 75 r < sc
    · rw [if_pos z, if_pos (hlt.mp z), if_pos (hlt.mp z), g1, r0_ok]
      have hIn : eI S s t.toInt r (h 75 r) (nI k) (h 77 r) (M 119 (6 * k + r)) (nI k) := by
        rcases mc with ⟨a, a'⟩ | ⟨a, a'⟩
        · exfalso
          rw [a] at z
          rcases hIR with ⟨y, -⟩ | ⟨-, -, y⟩
          · rw [y] at z; exact absurd z (by decide)
          · rw [Int32.lt_iff_toInt_lt, e1] at z; omega
        · rcases mm with ⟨y, y'⟩ | ⟨y, y'⟩
          · exact absurd a (y' _)
          · have q1 := a' _ y
            have q2 := y' _ a
            refine Or.inr ⟨k, by omega, rfl, rfl, Int32.toInt.inj (by omega), hQ _ a, ⟨y, y'⟩, mf⟩
      obtain ⟨h', M', v, k1, k2, k3, k4⟩ := ih nc nm (k + 1) _ _ _ _ _ h1 (by omega) (by omega) (by omega) rh1 h021 g3 hIn
      exact ⟨h', M', v, k1, k2, g2.tr k3, k4⟩
    · rw [if_neg z, if_neg (fun y => z (hlt.mpr y)), if_neg (fun y => z (hlt.mpr y)), g1, r0_ok]
      obtain ⟨h', M', v, k1, k2, k3, k4⟩ := ih nc nm (k + 1) _ _ _ _ _ h1 (by omega) (by omega) (by omega) rh1 h021 g3 hI
      exact ⟨h', M', v, k1, k2, g2.tr k3, k4⟩
end EARLY
theorem P_early (x y z u : Int32) : Pr 65 144 [vi x, vi y, vi z, vi u] := by
  refine Pr_w fun h S o o' tx as ks ss c m v => ?_
  have hv := m.1
  have hP := hv.2.2.1.2
  have hR := hv.1.2.2
  have hK := v.vk hv
  have hal := v.2.1.1
  have h79 := c.2.2.2.2.2.2.2
  have q1 : (¬ u < 0 ∧ u < 3) ↔ (¬ u < 0 ∧ ¬ 2 < u) := lt_in (n := 3) (by omega) (by omega)
  have bad : ∃ (h1 S1 : am_H) (v : Int32), (some (h, some (-1)) : am_Z) = some (h1, some v) ∧ (some (S, some (-1)) : am_Z) = some (S1, some v) ∧ (∀ c, ¬ (75 ≤ c ∧ c ≤ 81) → h1 c = h c) ∧ (h1 79 0 = nI 80 ∧ h1 79 1 = nI 81 ∨ h1 79 0 = nI 81 ∧ h1 79 1 = nI 80) ∧ ∀ c, ¬ (119 ≤ c ∧ c ≤ 122) → S1 c = S c := ⟨h, S, _, rfl, rfl, fun _ _ => rfl, h79, fun _ _ => rfl⟩
  rw [gC_early, gM_early, gC_isPerson_ok 4 hv c, gM_isPerson_ok 4 hv, r1_ok, r1_ok]
  rcases ix_c (x := x) (n := nP S) (by omega) with hx | ⟨i, hi, rfl⟩
  · rw [if_pos (ix_no hx), if_pos (ix_no hx)]
    exact bad
  · rw [if_neg (ix_yes hi (by omega)), if_neg (ix_yes hi (by omega)), gC_isRoom_ok 4 hv c, gM_isRoom_ok 4 hv, r1_ok, r1_ok]
    rcases ix_c (x := y) (n := nR S) (by omega) with hy | ⟨r, hr, rfl⟩
    · rw [if_pos (ix_no hy), if_pos (ix_no hy)]
      exact bad
    · rw [if_neg (ix_yes hr (by omega)), if_neg (ix_yes hr (by omega)), gM_in_ok, r1_ok]
      by_cases hz : ¬ z < 0 ∧ ¬ 8 < z
      · rw [if_neg hz.1, if_neg hz.2, if_neg (fun q => yn_0.mp q hz), gC_isOneOf_ok, gM_in_ok, r1_ok, r1_ok, yn_congr q1]
        by_cases hu : ¬ u < 0 ∧ ¬ 2 < u
        · rw [if_neg (fun q => yn_0.mp q hu), if_neg (fun q => yn_0.mp q hu)]
          obtain ⟨N, hN, rfl⟩ := (in_c (n := 8) (by omega)).mp hz
          obtain ⟨w, hw, rfl⟩ := (in_c (n := 2) (by omega)).mp hu
          obtain ⟨⟨s, hs, hsi⟩, ht, -⟩ := hK.1 i hi
          obtain ⟨b1, b2, -⟩ := c.rc.1 i hi
          obtain ⟨a0, a1, -⟩ := m.2.2.1.1 i hi
          have h33 : h 33 i = nI s := b1.trans hsi
          have h108 : S 108 i = nI s := a0.trans hsi
          have h34 : h 34 i = (kAll S as).1 1 i := b2
          rw [b_ok (by omega) (by omega), b_ok (by omega) (by omega), b_ok (by omega) (by omega), b_ok (by omega) (by omega), h33, h34, h108, a1]
          obtain ⟨h1, g1, g2, g3⟩ := gW_begin_ok 4 hv (s := s) (t := (kAll S as).1 1 i) hs h
          obtain ⟨M, k1, k2, k3⟩ := gM_layLow_ok 3 hv (s := s) (t := (kAll S as).1 1 i) hs (by omega)
          rw [g1, k1, r0_ok, r0_ok]
          obtain ⟨h', M', r', l1, l2, l3, l4⟩ := early_loop hv (o := o) (i := i) (s := s) (r := r) (t := (kAll S as).1 1 i) (N := N) (w := w) c.o17 (by omega) hN (by omega) hs hr h108 a1 (by omega) k2 k3 (N + 1) 999999 999999 0 536870912 (-4) (-4) 1000000 (-4) h1 (by omega) (by omega) (by omega) (RH_w c.o17 g2 c.rh) (by rw [g2 0 (by omega)]; exact c.oo) g3 (Or.inl ⟨rfl, rfl, rfl⟩)
          rw [nI_0] at l1 l2
          refine ⟨h', M', r', l1, l2, fun c hc => (g2.tr l3) c (by omega), ?_, fun c hc => l4 c (by omega)⟩
          rw [(g2.tr l3) 79 (by omega)]
          exact h79
        · rw [if_pos (yn_0.mpr hu), if_pos (yn_0.mpr hu)]
          exact bad
      · rw [if_pos (yn_0.mpr hz)]
        by_cases hz1 : z < 0
        · rw [if_pos hz1]
          exact bad
        · rw [if_neg hz1, if_pos (Classical.not_not.mp (fun q => hz ⟨hz1, q⟩))]
          exact bad
