/-! WAYS by just so many doors -/
def dA (S : am_H) (e : Nat) : Nat := (S 89 e).toNatClampNeg
def dB (S : am_H) (e : Nat) : Nat := (S 90 e).toNatClampNeg
def sd (S : am_H) (e s : Nat) : Nat := if s = 0 then dA S e else dB S e
def so (S : am_H) (e s : Nat) : Nat := if s = 0 then dB S e else dA S e
def cI (S : am_H) (e r : Nat) : Int := (cst S e r).toInt
section WAY
variable {S : am_H}
theorem dAB (hv : VH S) {e : Nat} (he : e < nD S) : S 89 e = nI (dA S e) ∧ S 90 e = nI (dB S e) ∧ dA S e < nR S ∧ dB S e < nR S ∧ dA S e ≠ dB S e := by
  obtain ⟨a, b, h1, h2, h3, h4, h5, -, -⟩ := hv.2.2.2.2.2.2.1 e he
  have hR := hv.1.2.2
  have ea : dA S e = a := by unfold dA; rw [h4, nI_rm (by omega)]
  have eb : dB S e = b := by unfold dB; rw [h5, nI_rm (by omega)]
  rw [ea, eb]
  exact ⟨h4, h5, h1, h2, h3⟩
theorem sd_lt (hv : VH S) {e : Nat} (he : e < nD S) (s : Nat) : sd S e s < nR S := by
  obtain ⟨-, -, h3, h4, -⟩ := dAB hv he
  unfold sd
  split <;> assumption
theorem so_lt (hv : VH S) {e : Nat} (he : e < nD S) (s : Nat) : so S e s < nR S := by
  obtain ⟨-, -, h3, h4, -⟩ := dAB hv he
  unfold so
  split <;> assumption
theorem so_ne (hv : VH S) {e : Nat} (he : e < nD S) (s : Nat) : so S e s ≠ sd S e s := by
  obtain ⟨-, -, h3, h4, h5⟩ := dAB hv he
  unfold so sd
  split
  · exact Ne.symm h5
  · exact h5
theorem byd_sd (hv : VH S) {e : Nat} (he : e < nD S) (s : Nat) : byd S e (nI (sd S e s)) = nI (so S e s) := by
  obtain ⟨h1, h2, h3, h4, h5⟩ := dAB hv he
  have hR := hv.1.2.2
  unfold byd sd so
  by_cases q : s = 0
  · rw [if_pos q, if_pos q, if_pos h1, h2]
  · rw [if_neg q, if_neg q, h1, if_neg (nI_ne h5 (by omega) (by omega))]
theorem bes_sd (hv : VH S) {e : Nat} (he : e < nD S) {r : Nat} (hr : r < nR S) : bes S e (nI r) ↔ ∃ s, s < 2 ∧ sd S e s = r := by
  obtain ⟨h1, h2, h3, h4, h5⟩ := dAB hv he
  have hR := hv.1.2.2
  unfold bes
  rw [h1, h2, nI_eq (by omega) (by omega), nI_eq (by omega) (by omega)]
  constructor
  · rintro (q | q)
    · exact ⟨0, by omega, by unfold sd; rw [if_pos rfl]; exact q⟩
    · exact ⟨1, by omega, by unfold sd; rw [if_neg (by omega)]; exact q⟩
  · rintro ⟨s, -, q⟩
    unfold sd at q
    by_cases e0 : s = 0
    · rw [if_pos e0] at q; exact Or.inl q
    · rw [if_neg e0] at q; exact Or.inr q
theorem cst_b (hv : VH S) {e r : Nat} (he : e < nD S) (hr : r < nR S) : -432 ≤ cI S e r ∧ cI S e r ≤ 432 := by
  obtain ⟨w, hw, h99⟩ := hv.2.2.2.2.1
  obtain ⟨k, hk1, hk2, hk⟩ := hOf_nI hv hr
  have hl := led_b hv he (nI r)
  have hwk : w * k ≤ 3 * 48 := Nat.mul_le_mul hw hk2
  have h12 : (12 * led S e (nI r)).toInt = 12 * (led S e (nI r)).toInt := by
    rw [ti_mul] <;> rw [ti_12] <;> omega
  unfold cI cst
  rw [h99, hk, pk_mul, ti_add] <;> rw [nI_toInt (by omega), h12] <;> omega
def Way (S : am_H) : Nat → Nat → Int → Nat → Int → Prop
  | 0, s, t, r, v => r = s ∧ v = t
  | k + 1, s, t, r, v => ∃ e g, e < nD S ∧ g < 2 ∧ so S e g = r ∧ Way S k s t (sd S e g) (v - cI S e (sd S e g))
/-- by k + 1 doors, d the first of them -/
def WF (S : am_H) (k s : Nat) (t : Int) (r : Nat) (v : Int) (d : Nat) : Prop := d < nD S ∧ ∃ g, g < 2 ∧ sd S d g = s ∧ Way S k (so S d g) (t + cI S d s) r v
theorem way_cons {s : Nat} {t : Int} : ∀ (k r : Nat) (v : Int), Way S (k + 1) s t r v ↔ ∃ d, WF S k s t r v d := by
  intro k
  induction k with
  | zero =>
    intro r v
    constructor
    · rintro ⟨e, g, h1, h2, h3, h4, h5⟩
      refine ⟨e, h1, g, h2, h4, h3.symm, ?_⟩
      rw [h4] at h5
      omega
    · rintro ⟨d, h1, g, h2, h3, h4, h5⟩
      refine ⟨d, g, h1, h2, h4.symm, h3, ?_⟩
      rw [h3]
      omega
  | succ k ih =>
    intro r v
    constructor
    · rintro ⟨e, g, h1, h2, h3, h4⟩
      obtain ⟨d, g1, y, g2, g3, g4⟩ := (ih _ _).mp h4
      exact ⟨d, g1, y, g2, g3, e, g, h1, h2, h3, g4⟩
    · rintro ⟨d, g1, y, g2, g3, e, g, h1, h2, h3, g4⟩
      exact ⟨e, g, h1, h2, h3, (ih _ _).mpr ⟨d, g1, y, g2, g3, g4⟩⟩
theorem way_b (hv : VH S) {s : Nat} {t : Int} (hs : s < nR S) : ∀ (k r : Nat) (v : Int), Way S k s t r v → r < nR S ∧ -(432 * (k : Int)) ≤ v - t ∧ v - t ≤ 432 * (k : Int) := by
  intro k
  induction k with
  | zero =>
    rintro r v ⟨rfl, rfl⟩
    exact ⟨hs, by omega, by omega⟩
  | succ k ih =>
    rintro r v ⟨e, g, h1, h2, h3, h4⟩
    have q1 := ih _ _ h4
    have q2 := cst_b hv h1 (sd_lt hv h1 g)
    exact ⟨h3 ▸ so_lt hv h1 g, by omega, by omega⟩
/-- x is the least of the numbers of P, nv if there is none -/
def mn (P : Int → Prop) (nv x : Int32) : Prop := (x = nv ∧ ∀ v, ¬ P v) ∨ (P x.toInt ∧ ∀ v, P v → x.toInt ≤ v)
theorem mn_congr {P Q : Int → Prop} {nv x : Int32} (h : ∀ v, P v ↔ Q v) (m : mn P nv x) : mn Q nv x := by
  rcases m with ⟨a, b⟩ | ⟨a, b⟩
  · exact Or.inl ⟨a, fun v q => b v ((h v).mpr q)⟩
  · exact Or.inr ⟨(h _).mp a, fun v q => b v ((h v).mpr q)⟩
theorem mn_mR {P : Int → Prop} {x y : Int32} (hb : ∀ v, P v → -100000 ≤ v ∧ v ≤ 100000) (m : mn P 536870912 x) (m' : mn P 1000000 y) : mR x y := by
  rcases m with ⟨a, b⟩ | ⟨a, b⟩
  · rcases m' with ⟨a', b'⟩ | ⟨a', b'⟩
    · exact Or.inl ⟨a, a'⟩
    · exact absurd a' (b _)
  · rcases m' with ⟨a', b'⟩ | ⟨a', b'⟩
    · exact absurd a (b' _)
    · have q1 := b _ a'
      have q2 := b' _ a
      exact Or.inr ⟨Int32.toInt.inj (by omega), hb _ a⟩
theorem mR_lt {a a' b b' : Int32} (h : mR a a') (h' : mR b b') : (a < b) ↔ (a' < b') := by
  have e1 : ((536870912 : Int32)).toInt = 536870912 := rfl
  have e2 : ((1000000 : Int32)).toInt = 1000000 := rfl
  rcases h with ⟨rfl, rfl⟩ | ⟨rfl, h1, h2⟩
  · rcases h' with ⟨rfl, rfl⟩ | ⟨rfl, h3, h4⟩
    · exact ⟨fun q => absurd q (by decide), fun q => absurd q (by decide)⟩
    · rw [Int32.lt_iff_toInt_lt, Int32.lt_iff_toInt_lt, e1, e2]; omega
  · rcases h' with ⟨rfl, rfl⟩ | ⟨rfl, h3, h4⟩
    · rw [Int32.lt_iff_toInt_lt, Int32.lt_iff_toInt_lt, e1, e2]; omega
    · exact Iff.rfl
/-- one more way to come there -/
theorem mn_off {P Q : Int → Prop} {nv x y c : Int32} (m : mn P nv x) (m' : mn Q nv y) (hQ : ∀ v, Q v → -70000 ≤ v ∧ v ≤ 70000) (hn : 100000 ≤ nv.toInt) (hc : -432 ≤ c.toInt ∧ c.toInt ≤ 432) :
    (y = nv → mn (fun v => P v ∨ Q (v - c.toInt)) nv x) ∧ (y ≠ nv → y < nv ∧ (y + c).toInt = y.toInt + c.toInt ∧ (-70432 ≤ (y + c).toInt ∧ (y + c).toInt ≤ 70432) ∧ Q y.toInt ∧ (∀ v, Q v → y.toInt ≤ v) ∧ mn (fun v => P v ∨ Q (v - c.toInt)) nv (if y + c < x then y + c else x)) := by
  rcases m' with ⟨a, b⟩ | ⟨a, b⟩
  · refine ⟨fun _ => mn_congr (fun v => ⟨Or.inl, fun q => q.elim id (fun z => absurd z (b _))⟩) m, fun q => absurd a q⟩
  · have hy := hQ _ a
    have hne : y ≠ nv := fun q => by rw [q] at hy; omega
    have hyc : (y + c).toInt = y.toInt + c.toInt := ti_add (by omega) (by omega)
    refine ⟨fun q => absurd q hne, fun _ => ⟨by rw [Int32.lt_iff_toInt_lt]; omega, hyc, by omega, a, b, ?_⟩⟩
    have hQc : Q ((y + c).toInt - c.toInt) := by rw [hyc, Int.add_sub_cancel]; exact a
    by_cases q : y + c < x
    · rw [if_pos q]
      refine Or.inr ⟨Or.inr hQc, fun v hv => ?_⟩
      rcases hv with hv | hv
      · rcases m with ⟨m1, m2⟩ | ⟨m1, m2⟩
        · exact absurd hv (m2 v)
        · have := m2 v hv
          rw [Int32.lt_iff_toInt_lt] at q
          omega
      · have := b _ hv
        omega
    · rw [if_neg q]
      rw [Int32.lt_iff_toInt_lt] at q
      rcases m with ⟨m1, m2⟩ | ⟨m1, m2⟩
      · rw [m1] at q; omega
      · refine Or.inr ⟨Or.inl m1, fun v hv => ?_⟩
        rcases hv with hv | hv
        · exact m2 v hv
        · have := b _ hv
          omega
/-- what comes to r by one door more, the doors before (e, g) alone -/
def Of (S : am_H) (k s : Nat) (t : Int) (e g r : Nat) (v : Int) : Prop := ∃ e' g', (e' < e ∨ (e' = e ∧ g' < g)) ∧ e' < nD S ∧ g' < 2 ∧ so S e' g' = r ∧ Way S k s t (sd S e' g') (v - cI S e' (sd S e' g'))
theorem of_side {k s e g r : Nat} {t v : Int} (he : e < nD S) (hg : g < 2) : (Of S k s t e g r v ∨ (so S e g = r ∧ Way S k s t (sd S e g) (v - cI S e (sd S e g)))) ↔ Of S k s t e (g + 1) r v := by
  constructor
  · rintro (⟨e', g', h1, h2⟩ | ⟨h1, h2⟩)
    · exact ⟨e', g', by omega, h2⟩
    · exact ⟨e, g, by omega, he, hg, h1, h2⟩
  · rintro ⟨e', g', h1, h2, h3, h4, h5⟩
    by_cases q : e' = e ∧ g' = g
    · obtain ⟨rfl, rfl⟩ := q
      exact Or.inr ⟨h4, h5⟩
    · exact Or.inl ⟨e', g', by omega, h2, h3, h4, h5⟩
theorem of_door {k s e r : Nat} {t v : Int} : Of S k s t e 2 r v ↔ Of S k s t (e + 1) 0 r v := by
  constructor
  · rintro ⟨e', g', h1, h2, h3, h4⟩
    exact ⟨e', g', by omega, h2, h3, h4⟩
  · rintro ⟨e', g', h1, h2, h3, h4⟩
    exact ⟨e', g', by omega, h2, h3, h4⟩
theorem of_0 {k s r : Nat} {t v : Int} : ¬ Of S k s t 0 0 r v := by
  rintro ⟨e', g', h1, -⟩
  omega
theorem of_end {k s r : Nat} {t v : Int} : Of S k s t (nD S) 0 r v ↔ Way S (k + 1) s t r v := by
  constructor
  · rintro ⟨e', g', h1, h2, h3, h4, h5⟩
    exact ⟨e', g', h2, h3, h4, h5⟩
  · rintro ⟨e', g', h2, h3, h4, h5⟩
    exact ⟨e', g', by omega, h2, h3, h4, h5⟩
end WAY
