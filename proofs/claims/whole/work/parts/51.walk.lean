/-! THE CLASS'S WALK: the lowest ticks, and the lowest first doors -/
theorem fill6_loop (d a : Nat) (x : Int32) : ∀ (k n j : Nat) (h : am_H), j + k = 6 → k < n → (∀ i, i < j → h a i = x) → ∃ h', rJ_fill d n 6 [some (vr 106 a), some (vi x), some (vi (nI j)), some (vi (nI 6))] h = some (h', none) ∧ (∀ c, c ≠ a → h' c = h c) ∧ ∀ i, i < 6 → h' a i = x := by
  intro k
  induction k with
  | zero =>
    intro n j h hj hn hh
    obtain ⟨n, rfl⟩ : ∃ z, n = z + 1 := ⟨n - 1, by omega⟩
    have : j = 6 := by omega
    subst this
    rw [tJ_fill6_6, if_neg (by decide)]
    exact ⟨h, rfl, fun _ _ => rfl, hh⟩
  | succ k ih =>
    intro n j h hj hn hh
    obtain ⟨n, rfl⟩ : ∃ z, n = z + 1 := ⟨n - 1, by omega⟩
    obtain ⟨h', h1, h2, h3⟩ := ih n (j + 1) (am_up h a j x) (by omega) (by omega) (fun i hi => by
      by_cases q : i = j
      · rw [q, up_s]
      · rw [up_d q]; exact hh i (by omega))
    refine ⟨h', ?_, fun c hc => (h2 c hc).trans (up_n hc), h3⟩
    rw [tJ_fill6_6, if_pos (nI_lt (by omega) (by omega)), b_ok (by omega) (by omega), nI_1, h1]
theorem gJ_fill6_ok (d a : Nat) (x : Int32) (h : am_H) : ∃ h', am_g (d + 1) 168 [vr 106 a, vi x] h = some (h', none) ∧ (∀ c, c ≠ a → h' c = h c) ∧ ∀ i, i < 6 → h' a i = x := by
  obtain ⟨h', h1, h2⟩ := fill6_loop d a x 6 999999 0 h (by omega) (by omega) (fun i hi => absurd hi (by omega))
  refine ⟨h', ?_, h2⟩
  rw [nI_0] at h1
  rw [gJ_fill6, h1]
def frW (h h' : am_H) : Prop := ∀ c, ¬ (75 ≤ c ∧ c ≤ 78) → h' c = h c
theorem frW.tr {h h' h'' : am_H} (a : frW h h') (b : frW h' h'') : frW h h'' := fun c hc => (b c hc).trans (a c hc)
def fC (S : am_H) (k s : Nat) (t : Int) (r : Nat) (x f : Int32) : Prop := match k with
  | 0 => f = -4
  | k + 1 => x ≠ 536870912 → ∃ d, f = nI d ∧ WF S k s t r x.toInt d ∧ ∀ d', WF S k s t r x.toInt d' → d ≤ d'
def rwC (S : am_H) (k s : Nat) (t : Int) (T F : Nat → Int32) : Prop := ∀ r, r < nR S → mn (Way S k s t r) 536870912 (T r) ∧ fC S k s t r (T r) (F r)
/-- the first door of a way, where e is the next one -/
def GG (S : am_H) (k s : Nat) (t : Int) (e r : Nat) (v : Int) (d : Nat) : Prop := match k with
  | 0 => r = s ∧ v = t ∧ d = e
  | k + 1 => WF S k s t r v d
def OfF (S : am_H) (k s : Nat) (t : Int) (e g r : Nat) (v : Int) (d : Nat) : Prop := ∃ e' g', (e' < e ∨ (e' = e ∧ g' < g)) ∧ e' < nD S ∧ g' < 2 ∧ so S e' g' = r ∧ GG S k s t e' (sd S e' g') (v - cI S e' (sd S e' g')) d
section WALK
variable {h S : am_H} {o : Nat}
theorem gg_way {k s e r d : Nat} {t v : Int} (q : GG S k s t e r v d) : Way S k s t r v := by
  cases k with
  | zero => exact ⟨q.1, q.2.1⟩
  | succ k => exact (way_cons k r v).mpr ⟨d, q⟩
theorem off_of {k s e g r d : Nat} {t v : Int} (q : OfF S k s t e g r v d) : Of S k s t e g r v := by
  obtain ⟨e', g', h1, h2, h3, h4, h5⟩ := q
  exact ⟨e', g', h1, h2, h3, h4, gg_way h5⟩
theorem off_side {k s e g r d : Nat} {t v : Int} (he : e < nD S) (hg : g < 2) : OfF S k s t e (g + 1) r v d ↔ (OfF S k s t e g r v d ∨ (so S e g = r ∧ GG S k s t e (sd S e g) (v - cI S e (sd S e g)) d)) := by
  constructor
  · rintro ⟨e', g', h1, h2, h3, h4, h5⟩
    by_cases q : e' = e ∧ g' = g
    · obtain ⟨rfl, rfl⟩ := q
      exact Or.inr ⟨h4, h5⟩
    · exact Or.inl ⟨e', g', by omega, h2, h3, h4, h5⟩
  · rintro (⟨e', g', h1, h2⟩ | ⟨h1, h2⟩)
    · exact ⟨e', g', by omega, h2⟩
    · exact ⟨e, g, by omega, he, hg, h1, h2⟩
theorem off_door {k s e r d : Nat} {t v : Int} : OfF S k s t e 2 r v d ↔ OfF S k s t (e + 1) 0 r v d := by
  constructor
  · rintro ⟨e', g', h1, h2, h3, h4⟩
    exact ⟨e', g', by omega, h2, h3, h4⟩
  · rintro ⟨e', g', h1, h2, h3, h4⟩
    exact ⟨e', g', by omega, h2, h3, h4⟩
theorem off_end {k s r d : Nat} {t v : Int} : OfF S k s t (nD S) 0 r v d ↔ WF S k s t r v d := by
  cases k with
  | zero =>
    constructor
    · rintro ⟨e', g', h1, h2, h3, h4, h5, h6, rfl⟩
      refine ⟨h2, g', h3, h5, h4.symm, ?_⟩
      rw [h5] at h6
      omega
    · rintro ⟨h1, g, h2, h3, h4, h5⟩
      refine ⟨d, g, Or.inl h1, h1, h2, h4.symm, h3, ?_, rfl⟩
      rw [h3]
      omega
  | succ k =>
    constructor
    · rintro ⟨e', g', h1, h2, h3, h4, h5, g, h6, h7, h8⟩
      exact ⟨h5, g, h6, h7, e', g', h2, h3, h4, h8⟩
    · rintro ⟨h5, g, h6, h7, e', g', h2, h3, h4, h8⟩
      exact ⟨e', g', Or.inl h2, h2, h3, h4, h5, g, h6, h7, h8⟩
theorem src_ok (hv : VH S) {k s e r : Nat} {t : Int} {y f : Int32} (he : e < nD S) (m : mn (Way S k s t r) 536870912 y) (m' : fC S k s t r y f) (hy : y ≠ 536870912) : ∃ d, (if f = -4 then nI e else f) = nI d ∧ d < nD S ∧ GG S k s t e r y.toInt d ∧ ∀ d', GG S k s t e r y.toInt d' → d ≤ d' := by
  have hD := hv.2.1.2
  cases k with
  | zero =>
    rw [if_pos (show f = -4 from m')]
    rcases m with ⟨a, b⟩ | ⟨a, b⟩
    · exact absurd a hy
    · exact ⟨e, rfl, he, ⟨a.1, a.2, rfl⟩, fun d' q => by have := q.2.2; omega⟩
  | succ k =>
    obtain ⟨d, h1, h2, h3⟩ := m' hy
    have := h2.1
    rw [if_neg (by rw [h1]; exact fun q => m4_ne (by omega) q)]
    exact ⟨d, h1, h2.1, h2, h3⟩
/-- what the cells of a room say while the doors are gone through -/
def tC (S : am_H) (k s : Nat) (t : Int) (e g r : Nat) (x f : Int32) : Prop := mn (Of S k s t e g r) 536870912 x ∧ (x ≠ 536870912 → ∃ d, f = nI d ∧ d < nD S ∧ OfF S k s t e g r x.toInt d ∧ ∀ d', OfF S k s t e g r x.toInt d' → d ≤ d')
theorem tC_off (hv : VH S) {k s e g r : Nat} {t : Int} {x f y f0 : Int32} (hs : s < nR S) (ht : -60000 ≤ t ∧ t ≤ 60000) (hk : k ≤ 20) (he : e < nD S) (hg : g < 2) (hr : so S e g = r) (c : tC S k s t e g r x f) (m : mn (Way S k s t (sd S e g)) 536870912 y) (m' : fC S k s t (sd S e g) y f0) :
    (y = 536870912 → tC S k s t e (g + 1) r x f) ∧ (y ≠ 536870912 → tC S k s t e (g + 1) r (if y + cst S e (sd S e g) < x ∨ (y + cst S e (sd S e g) = x ∧ (if f0 = -4 then nI e else f0) < f) then y + cst S e (sd S e g) else x) (if y + cst S e (sd S e g) < x ∨ (y + cst S e (sd S e g) = x ∧ (if f0 = -4 then nI e else f0) < f) then (if f0 = -4 then nI e else f0) else f)) := by
  have hD := hv.2.1.2
  have l1 := sd_lt hv he g
  obtain ⟨c1, c2⟩ := c
  have hQ : ∀ v, Way S k s t (sd S e g) v → -70000 ≤ v ∧ v ≤ 70000 := fun v w => by
    have := way_b hv hs _ _ _ w
    omega
  obtain ⟨m1, m2⟩ := mn_off c1 m hQ (show (100000 : Int) ≤ ((536870912 : Int32)).toInt by decide) (c := cst S e (sd S e g)) (cst_b hv he l1)
  have hcg : ∀ v, (Of S k s t e g r v ∨ Way S k s t (sd S e g) (v - (cst S e (sd S e g)).toInt)) ↔ Of S k s t e (g + 1) r v := fun v => by
    rw [← of_side he hg]
    exact ⟨fun z => z.elim Or.inl (fun z => Or.inr ⟨hr, z⟩), fun z => z.elim Or.inl (fun z => Or.inr z.2)⟩
  refine ⟨fun q => ⟨mn_congr hcg (m1 q), fun hx => ?_⟩, fun q => ?_⟩
  · obtain ⟨d, d1, d2, d3, d4⟩ := c2 hx
    refine ⟨d, d1, d2, (off_side he hg).mpr (Or.inl d3), fun d' hd' => ?_⟩
    rcases (off_side he hg).mp hd' with z | z
    · exact d4 d' z
    · rcases m with ⟨a, b⟩ | ⟨a, b⟩
      · exact absurd (gg_way z.2) (b _)
      · have := hQ _ a
        rw [q] at this
        exact absurd this.2 (by decide)
  · obtain ⟨n1, n2, n3, n4, n5, n6⟩ := m2 q
    obtain ⟨d0, e1, e2, e3, e4⟩ := src_ok hv he m m' q
    rw [e1]
    have hcI : cI S e (sd S e g) = (cst S e (sd S e g)).toInt := rfl
    have e1' : ((536870912 : Int32)).toInt = 536870912 := rfl
    have hw : y + cst S e (sd S e g) ≠ 536870912 := fun z => by rw [z, e1'] at n3; omega
    have hback : (y + cst S e (sd S e g)).toInt - cI S e (sd S e g) = y.toInt := by rw [n2, hcI]; omega
    have hnew : OfF S k s t e (g + 1) r (y + cst S e (sd S e g)).toInt d0 := (off_side he hg).mpr (Or.inr ⟨hr, by rw [hback]; exact e3⟩)
    by_cases z : y + cst S e (sd S e g) < x
    · rw [if_pos z] at n6
      rw [if_pos (Or.inl z), if_pos (Or.inl z)]
      refine ⟨mn_congr hcg n6, fun _ => ⟨d0, rfl, e2, hnew, fun d' hd' => ?_⟩⟩
      rcases (off_side he hg).mp hd' with w | w
      · rcases c1 with ⟨a, b⟩ | ⟨a, b⟩
        · exact absurd (off_of w) (b _)
        · have := b _ (off_of w)
          rw [Int32.lt_iff_toInt_lt] at z
          omega
      · have := w.2
        rw [hback] at this
        exact e4 d' this
    · rw [if_neg z] at n6
      by_cases z2 : y + cst S e (sd S e g) = x
      · have hx : x ≠ 536870912 := fun w => hw (z2.trans w)
        obtain ⟨d, d1, d2, d3, d4⟩ := c2 hx
        by_cases z3 : nI d0 < f
        · rw [if_pos (Or.inr ⟨z2, z3⟩), if_pos (Or.inr ⟨z2, z3⟩)]
          have hdd : d0 < d := by rw [d1] at z3; exact (nI_ltI (by omega) (by omega)).mp z3
          refine ⟨by rw [z2]; exact mn_congr hcg n6, fun _ => ⟨d0, rfl, e2, hnew, fun d' hd' => ?_⟩⟩
          rcases (off_side he hg).mp hd' with w | w
          · rw [z2] at w
            have := d4 d' w
            omega
          · have := w.2
            rw [hback] at this
            exact e4 d' this
        · rw [if_neg (fun w => w.elim z (fun w => z3 w.2)), if_neg (fun w => w.elim z (fun w => z3 w.2))]
          have hdd : d ≤ d0 := by rw [d1, nI_ltI (by omega) (by omega)] at z3; omega
          refine ⟨mn_congr hcg n6, fun _ => ⟨d, d1, d2, (off_side he hg).mpr (Or.inl d3), fun d' hd' => ?_⟩⟩
          rcases (off_side he hg).mp hd' with w | w
          · exact d4 d' w
          · have := w.2
            rw [← z2, hback] at this
            have := e4 d' this
            omega
      · rw [if_neg (fun w => w.elim z (fun w => z2 w.1)), if_neg (fun w => w.elim z (fun w => z2 w.1))]
        refine ⟨mn_congr hcg n6, fun hx => ?_⟩
        obtain ⟨d, d1, d2, d3, d4⟩ := c2 hx
        refine ⟨d, d1, d2, (off_side he hg).mpr (Or.inl d3), fun d' hd' => ?_⟩
        rcases (off_side he hg).mp hd' with w | w
        · exact d4 d' w
        · have w2 := n5 _ (gg_way w.2)
          have : (y + cst S e (sd S e g)).toInt ≤ x.toInt := by rw [n2]; rw [hcI] at w2; omega
          rw [Int32.lt_iff_toInt_lt] at z
          exact absurd (Int32.toInt.inj (by omega)) z2
theorem gW_offer_ok (d : Nat) (hv : VH S) (rh : RH o h S) {e g : Nat} (he : e < nD S) :
    am_g (d + 3) 46 [vr 5 74, vr 2 o, vi (nI e), vi (nI (sd S e g))] h = some (if h 75 (sd S e g) = 536870912 then h else if h 75 (sd S e g) + cst S e (sd S e g) < h 76 (so S e g) ∨ (h 75 (sd S e g) + cst S e (sd S e g) = h 76 (so S e g) ∧ (if h 77 (sd S e g) = -4 then nI e else h 77 (sd S e g)) < h 78 (so S e g)) then am_up (am_up h 76 (so S e g) (h 75 (sd S e g) + cst S e (sd S e g))) 78 (so S e g) (if h 77 (sd S e g) = -4 then nI e else h 77 (sd S e g)) else h, none) := by
  have hR := hv.1.2.2
  have hD := hv.2.1.2
  have l1 := sd_lt hv he g
  have l2 := so_lt hv he g
  have b1 : ∀ f, am_b 6 (nI (sd S e g)) f = f (sd S e g) := fun f => b_ok (by omega) (by omega) f
  have b2 : ∀ f, am_b 6 (nI (so S e g)) f = f (so S e g) := fun f => b_ok (by omega) (by omega) f
  rw [gW_offer, b1]
  by_cases c0 : h 75 (sd S e g) = 536870912
  · rw [if_pos c0, if_pos c0]
  · rw [if_neg c0, if_neg c0, gH_behind_ok (d + 1) rh.2.2.1 hD he, r1_ok, b1, gH_ticks_ok d hv rh he l1, r1_ok, b1, byd_sd hv he g]
    simp only [b1, b2]
    by_cases c1 : h 77 (sd S e g) = -4
    · rw [if_pos c1]
      simp only [if_pos c1]
      by_cases c2 : h 75 (sd S e g) + cst S e (sd S e g) < h 76 (so S e g)
      · rw [if_pos c2, if_pos (Or.inl c2)]
      · rw [if_neg c2]
        by_cases c3 : h 75 (sd S e g) + cst S e (sd S e g) = h 76 (so S e g)
        · rw [if_pos c3]
          by_cases c4 : nI e < h 78 (so S e g)
          · rw [if_pos c4, if_pos (Or.inr ⟨c3, c4⟩)]
          · rw [if_neg c4, if_neg (fun z => z.elim c2 (fun z => c4 z.2))]
        · rw [if_neg c3, if_neg (fun z => z.elim c2 (fun z => c3 z.1))]
    · rw [if_neg c1]
      simp only [if_neg c1]
      by_cases c2 : h 75 (sd S e g) + cst S e (sd S e g) < h 76 (so S e g)
      · rw [if_pos c2, if_pos (Or.inl c2)]
      · rw [if_neg c2]
        by_cases c3 : h 75 (sd S e g) + cst S e (sd S e g) = h 76 (so S e g)
        · rw [if_pos c3]
          by_cases c4 : h 77 (sd S e g) < h 78 (so S e g)
          · rw [if_pos c4, if_pos (Or.inr ⟨c3, c4⟩)]
          · rw [if_neg c4, if_neg (fun z => z.elim c2 (fun z => c4 z.2))]
        · rw [if_neg c3, if_neg (fun z => z.elim c2 (fun z => c3 z.1))]
theorem offer_step (d : Nat) (hv : VH S) (rh : RH o h S) {k s e g : Nat} {t : Int} (hs : s < nR S) (ht : -60000 ≤ t ∧ t ≤ 60000) (hk : k ≤ 20) (he : e < nD S) (hg : g < 2) (hr : rwC S k s t (h 75) (h 77)) (hc : ∀ r, r < nR S → tC S k s t e g r (h 76 r) (h 78 r)) :
    ∃ h', am_g (d + 3) 46 [vr 5 74, vr 2 o, vi (nI e), vi (nI (sd S e g))] h = some (h', none) ∧ (∀ c, c ≠ 76 → c ≠ 78 → h' c = h c) ∧ ∀ r, r < nR S → tC S k s t e (g + 1) r (h' 76 r) (h' 78 r) := by
  have l1 := sd_lt hv he g
  have l2 := so_lt hv he g
  obtain ⟨r1, r2⟩ := hr _ l1
  obtain ⟨t1, t2⟩ := tC_off hv hs ht hk he hg rfl (hc _ l2) r1 r2
  have other : ∀ r, r < nR S → so S e g ≠ r → tC S k s t e (g + 1) r (h 76 r) (h 78 r) := fun r hr' q => by
    obtain ⟨c1, c2⟩ := hc r hr'
    refine ⟨mn_congr (fun v => ?_) c1, fun hx => ?_⟩
    · rw [← of_side he hg]
      exact ⟨Or.inl, fun z => z.elim id (fun z => absurd z.1 q)⟩
    · obtain ⟨d, d1, d2, d3, d4⟩ := c2 hx
      refine ⟨d, d1, d2, (off_side he hg).mpr (Or.inl d3), fun d' hd' => ?_⟩
      rcases (off_side he hg).mp hd' with z | z
      · exact d4 d' z
      · exact absurd z.1 q
  have g0 := gW_offer_ok d hv rh he (g := g)
  generalize (if h 77 (sd S e g) = -4 then nI e else h 77 (sd S e g)) = X at g0 t2
  by_cases c0 : h 75 (sd S e g) = 536870912
  · rw [if_pos c0] at g0
    refine ⟨h, g0, fun _ _ _ => rfl, fun r hr' => ?_⟩
    by_cases q : so S e g = r
    · subst q
      exact t1 c0
    · exact other r hr' q
  · rw [if_neg c0] at g0
    have t3 := t2 c0
    by_cases z : h 75 (sd S e g) + cst S e (sd S e g) < h 76 (so S e g) ∨ (h 75 (sd S e g) + cst S e (sd S e g) = h 76 (so S e g) ∧ X < h 78 (so S e g))
    · rw [if_pos z] at g0
      rw [if_pos z, if_pos z] at t3
      refine ⟨_, g0, fun c h1 h2 => by rw [up_n h2, up_n h1], fun r hr' => ?_⟩
      by_cases q : so S e g = r
      · subst q
        rw [up_n (by omega), up_s, up_s]
        exact t3
      · rw [up_n (by omega), up_d (Ne.symm q), up_d (Ne.symm q), up_n (by omega)]
        exact other r hr' q
    · rw [if_neg z] at g0
      rw [if_neg z, if_neg z] at t3
      refine ⟨h, g0, fun _ _ _ => rfl, fun r hr' => ?_⟩
      by_cases q : so S e g = r
      · subst q
        exact t3
      · exact other r hr' q
theorem RH_w {h' : am_H} (ho : o ≤ 17) (f : frW h h') (rh : RH o h S) : RH o h' S := RH_c (fun c q1 q2 => f c (by omega)) (fun _ _ _ => rfl) rh
theorem step_doors (d : Nat) (hv : VH S) (ho : o ≤ 17) {k s : Nat} {t : Int} (hs : s < nR S) (ht : -60000 ≤ t ∧ t ≤ 60000) (hk : k ≤ 20) : ∀ (q n e : Nat) (h : am_H), e + q = nD S → q < n → RH o h S → rwC S k s t (h 75) (h 77) → (∀ r, r < nR S → tC S k s t e 0 r (h 76 r) (h 78 r)) →
    ∃ h', rW_step (d + 3) n 11 [some (vr 5 74), some (vr 2 o), some (vi (nI e))] h = some (h', none) ∧ frW h h' ∧ rwC S (k + 1) s t (h' 75) (h' 77) := by
  have hR := hv.1.2.2
  have hD := hv.2.1
  intro q
  induction q with
  | zero =>
    intro n e h he hn rh hr hc
    obtain ⟨n, rfl⟩ : ∃ z, n = z + 1 := ⟨n - 1, by omega⟩
    have : e = nD S := by omega
    subst this
    rw [tW_step_11, rh.1.2.1, hD.1, if_neg (nI_nlt (by omega) (by omega))]
    refine ⟨_, rfl, fun c hc' => ?_, fun r hr' => ?_⟩
    · unfold va_up
      rw [if_neg (by omega), if_neg (by omega)]
    · have e75 : va_up (va_up h 75 (va_cpy (h 76) (h 75) 0 0 6)) 77 (va_cpy ((va_up h 75 (va_cpy (h 76) (h 75) 0 0 6)) 78) ((va_up h 75 (va_cpy (h 76) (h 75) 0 0 6)) 77) 0 0 6) 75 r = h 76 r := by
        show va_cpy (h 76) (h 75) 0 0 6 r = _
        rw [pk_cpy_in (by omega) (by omega)]
        congr 1
        omega
      have e77 : va_up (va_up h 75 (va_cpy (h 76) (h 75) 0 0 6)) 77 (va_cpy ((va_up h 75 (va_cpy (h 76) (h 75) 0 0 6)) 78) ((va_up h 75 (va_cpy (h 76) (h 75) 0 0 6)) 77) 0 0 6) 77 r = h 78 r := by
        show va_cpy (h 78) _ 0 0 6 r = _
        rw [pk_cpy_in (by omega) (by omega)]
        congr 1
        omega
      rw [e75, e77]
      obtain ⟨c1, c2⟩ := hc r hr'
      refine ⟨mn_congr (fun v => of_end) c1, fun hx => ?_⟩
      obtain ⟨d0, d1, d2, d3, d4⟩ := c2 hx
      exact ⟨d0, d1, off_end.mp d3, fun d' hd' => d4 d' (off_end.mpr hd')⟩
  | succ q ih =>
    intro n e h he hn rh hr hc
    obtain ⟨n, rfl⟩ : ∃ z, n = z + 1 := ⟨n - 1, by omega⟩
    have hlt : e < nD S := by omega
    obtain ⟨a1, a2, -, -, -⟩ := dAB hv hlt
    obtain ⟨h1, p1, p2, p3⟩ := offer_step d hv rh hs ht hk hlt (g := 0) (by omega) hr hc
    have f1 : frW h h1 := fun c hc' => p2 c (by omega) (by omega)
    have rh1 := RH_w ho f1 rh
    have hr1 : rwC S k s t (h1 75) (h1 77) := by rw [p2 75 (by omega) (by omega), p2 77 (by omega) (by omega)]; exact hr
    obtain ⟨h2, q1, q2, q3⟩ := offer_step d hv rh1 hs ht hk hlt (g := 1) (by omega) hr1 p3
    have f2 : frW h1 h2 := fun c hc' => q2 c (by omega) (by omega)
    have rh2 := RH_w ho f2 rh1
    have hr2 : rwC S k s t (h2 75) (h2 77) := by rw [q2 75 (by omega) (by omega), q2 77 (by omega) (by omega)]; exact hr1
    obtain ⟨h', g1, g2, g3⟩ := ih n (e + 1) h2 (by omega) (by omega) rh2 hr2 (fun r hr' => by
      obtain ⟨c1, c2⟩ := q3 r hr'
      refine ⟨mn_congr (fun v => of_door) c1, fun hx => ?_⟩
      obtain ⟨d0, d1, d2, d3, d4⟩ := c2 hx
      exact ⟨d0, d1, d2, off_door.mp d3, fun d' hd' => d4 d' (off_door.mpr hd')⟩)
    refine ⟨h', ?_, (f1.tr f2).tr g2, g3⟩
    have s0 : h (o + 6) e = nI (sd S e 0) := by rw [(rh.2.2.1 e hlt).1, a1]; rfl
    have s1 : h1 (o + 7) e = nI (sd S e 1) := by rw [(rh1.2.2.1 e hlt).2.1, a2]; rfl
    rw [tW_step_11, rh.1.2.1, hD.1, if_pos (nI_lt hlt (by omega)), b_ok (by omega) (by omega), s0, p1, r0_ok, b_ok (by omega) (by omega), s1, q1, r0_ok, nI_1, g1]
theorem gW_step_ok (d : Nat) (hv : VH S) (ho : o ≤ 17) (rh : RH o h S) {k s : Nat} {t : Int} (hs : s < nR S) (ht : -60000 ≤ t ∧ t ≤ 60000) (hk : k ≤ 20) (hr : rwC S k s t (h 75) (h 77)) :
    ∃ h', am_g (d + 4) 45 [vr 5 74, vr 2 o] h = some (h', none) ∧ frW h h' ∧ rwC S (k + 1) s t (h' 75) (h' 77) := by
  have hR := hv.1.2.2
  obtain ⟨h1, a1, a2, a3⟩ := gJ_fill6_ok (d + 2) 76 536870912 h
  obtain ⟨h2, b1, b2, b3⟩ := gJ_fill6_ok (d + 2) 78 (-4) h1
  have f1 : frW h h1 := fun c hc => a2 c (by omega)
  have f2 : frW h1 h2 := fun c hc => b2 c (by omega)
  obtain ⟨h', g1, g2, g3⟩ := step_doors d hv ho hs ht hk (nD S) 999999 0 h2 (by omega) (by have := hv.2.1.2; omega) (RH_w ho (f1.tr f2) rh) (by rw [b2 75 (by omega), b2 77 (by omega), a2 75 (by omega), a2 77 (by omega)]; exact hr) (fun r hr' => by
    rw [b2 76 (by omega), a3 r (by omega)]
    exact ⟨Or.inl ⟨rfl, fun v => of_0⟩, fun q => absurd rfl q⟩)
  refine ⟨h', ?_, (f1.tr f2).tr g2, g3⟩
  rw [nI_0] at g1
  rw [gW_step, a1, r0_ok, b1, r0_ok, g1]
theorem gW_begin_ok (d : Nat) (hv : VH S) {s : Nat} {t : Int32} (hs : s < nR S) (h : am_H) : ∃ h', am_g (d + 2) 44 [vr 5 74, vi (nI s), vi t] h = some (h', none) ∧ frW h h' ∧ rwC S 0 s t.toInt (h' 75) (h' 77) := by
  have hR := hv.1.2.2
  obtain ⟨h1, a1, a2, a3⟩ := gJ_fill6_ok d 75 536870912 h
  obtain ⟨h2, b1, b2, b3⟩ := gJ_fill6_ok d 77 (-4) h1
  refine ⟨am_up h2 75 s t, ?_, fun c hc => by rw [up_n (by omega), b2 c (by omega), a2 c (by omega)], fun r hr => ?_⟩
  · rw [gW_begin, a1, r0_ok, b1, r0_ok, b_ok (by omega) (by omega)]
  · rw [up_n (by omega : (77 : Nat) ≠ 75)]
    refine ⟨?_, b3 r (by omega)⟩
    by_cases q : r = s
    · subst q
      rw [up_s]
      exact Or.inr ⟨⟨rfl, rfl⟩, fun v hv => by rw [hv.2]; exact Int.le_refl _⟩
    · rw [up_d q, b2 75 (by omega)]
      exact Or.inl ⟨a3 r (by omega), fun v hv => q hv.1⟩
end WALK
