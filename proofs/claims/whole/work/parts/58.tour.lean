/-! ROUND: through the doors -/
theorem fill384_loop (d a : Nat) (x : Int32) : ∀ (k n j : Nat) (h : am_H), j + k = 384 → k < n → (∀ i, i < j → h a i = x) → ∃ h', rJ_fill d n 6 [some (vr 484 a), some (vi x), some (vi (nI j)), some (vi (nI 384))] h = some (h', none) ∧ (∀ c, c ≠ a → h' c = h c) ∧ ∀ i, i < 384 → h' a i = x := by
  intro k
  induction k with
  | zero =>
    intro n j h hj hn hh
    obtain ⟨n, rfl⟩ : ∃ z, n = z + 1 := ⟨n - 1, by omega⟩
    have : j = 384 := by omega
    subst this
    rw [tJ_fill384_6, if_neg (by decide)]
    exact ⟨h, rfl, fun _ _ => rfl, hh⟩
  | succ k ih =>
    intro n j h hj hn hh
    obtain ⟨n, rfl⟩ : ∃ z, n = z + 1 := ⟨n - 1, by omega⟩
    obtain ⟨h', h1, h2, h3⟩ := ih n (j + 1) (am_up h a j x) (by omega) (by omega) (fun i hi => by
      by_cases q : i = j
      · rw [q, up_s]
      · rw [up_d q]; exact hh i (by omega))
    refine ⟨h', ?_, fun c hc => (h2 c hc).trans (up_n hc), h3⟩
    rw [tJ_fill384_6, if_pos (nI_lt (by omega) (by omega)), b_ok (by omega) (by omega), nI_1, h1]
theorem gJ_fill384_ok (d a : Nat) (x : Int32) (h : am_H) : ∃ h', am_g (d + 1) 168 [vr 484 a, vi x] h = some (h', none) ∧ (∀ c, c ≠ a → h' c = h c) ∧ ∀ i, i < 384 → h' a i = x := by
  obtain ⟨h', h1, h2⟩ := fill384_loop d a x 384 999999 0 h (by omega) (by omega) (fun i hi => absurd hi (by omega))
  refine ⟨h', ?_, h2⟩
  rw [nI_0] at h1
  rw [gJ_fill384, h1]
theorem mn_one {P : Int → Prop} {nv x w : Int32} (m : mn P nv x) (hw : w.toInt < nv.toInt) : mn (fun v => P v ∨ v = w.toInt) nv (if w < x then w else x) := by
  by_cases q : w < x
  · rw [if_pos q]
    refine Or.inr ⟨Or.inr rfl, fun v hv => ?_⟩
    rcases hv with hv | hv
    · rcases m with ⟨a, b⟩ | ⟨a, b⟩
      · exact absurd hv (b v)
      · have := b v hv
        rw [Int32.lt_iff_toInt_lt] at q
        omega
    · omega
  · rw [if_neg q]
    rw [Int32.lt_iff_toInt_lt] at q
    rcases m with ⟨a, b⟩ | ⟨a, b⟩
    · rw [a] at q; omega
    · refine Or.inr ⟨Or.inl a, fun v hv => ?_⟩
      rcases hv with hv | hv
      · exact b v hv
      · omega
section TOUR3
variable {S : am_H}
/-- from a, r by the door e to b, at v -/
def oFr (S : am_H) (m : Nat) (E : E_T) (a r e b : Nat) (v : Int) : Prop := a ≠ m ∧ r < nR S ∧ e < nD S ∧ (∃ g, g < 2 ∧ sd S e g = r ∧ so S e g = b) ∧ ∃ z, E (6 * a + r) = some z ∧ v = z + cI S e r
def tab (S : am_H) (m : Nat) (E : E_T) (nv : Int32) (bf : Nat → Nat → Nat → Prop) (T : Nat → Int32) : Prop := ∀ a b, a < 64 → b < 6 → mn (fun v => ∃ r e, bf a r e ∧ oFr S m E a r e b v) nv (T (6 * a + b))
theorem tab_congr {m : Nat} {E : E_T} {nv : Int32} {bf bf' : Nat → Nat → Nat → Prop} {T : Nat → Int32} (h : ∀ a r e, a < 64 → a ≠ m → r < nR S → e < nD S → (E (6 * a + r)).isSome = true → (bf a r e ↔ bf' a r e)) (t : tab S m E nv bf T) : tab S m E nv bf' T := by
  intro a b ha hb
  refine mn_congr (fun v => ?_) (t a b ha hb)
  constructor
  · rintro ⟨r, e, h1, h2⟩
    refine ⟨r, e, (h a r e ha h2.1 h2.2.1 h2.2.2.1 ?_).mp h1, h2⟩
    obtain ⟨z, hz, -⟩ := h2.2.2.2.2
    rw [hz]; rfl
  · rintro ⟨r, e, h1, h2⟩
    refine ⟨r, e, (h a r e ha h2.1 h2.2.1 h2.2.2.1 ?_).mpr h1, h2⟩
    obtain ⟨z, hz, -⟩ := h2.2.2.2.2
    rw [hz]; rfl
theorem tab_no {m : Nat} {E : E_T} {nv : Int32} {bf bf' : Nat → Nat → Nat → Prop} {T : Nat → Int32} {a0 r0 e0 : Nat} (t : tab S m E nv bf T) (hb : ∀ a r e, r < nR S → (bf' a r e ↔ bf a r e ∨ (a = a0 ∧ r = r0 ∧ e = e0))) (hno : ∀ b v, ¬ oFr S m E a0 r0 e0 b v) : tab S m E nv bf' T := by
  intro a b ha hbb
  refine mn_congr (fun v => ?_) (t a b ha hbb)
  constructor
  · rintro ⟨r, e, h1, h2⟩
    exact ⟨r, e, (hb a r e h2.2.1).mpr (Or.inl h1), h2⟩
  · rintro ⟨r, e, h1, h2⟩
    rcases (hb a r e h2.2.1).mp h1 with z | ⟨rfl, rfl, rfl⟩
    · exact ⟨r, e, z, h2⟩
    · exact absurd h2 (hno _ _)
theorem tab_yes (hv : VH S) {m : Nat} {E : E_T} {nv : Int32} {bf bf' : Nat → Nat → Nat → Prop} {T : Nat → Int32} {a0 r0 e0 g0 : Nat} {z : Int} {w : Int32} (t : tab S m E nv bf T) (hb : ∀ a r e, r < nR S → (bf' a r e ↔ bf a r e ∨ (a = a0 ∧ r = r0 ∧ e = e0))) (ha0 : a0 < 64) (ham : a0 ≠ m) (he : e0 < nD S) (hg : g0 < 2) (hs : sd S e0 g0 = r0) (hE : E (6 * a0 + r0) = some z) (hw : w.toInt = z + cI S e0 r0) (hn : w.toInt < nv.toInt) : tab S m E nv bf' (upd T (6 * a0 + so S e0 g0) (if w < T (6 * a0 + so S e0 g0) then w else T (6 * a0 + so S e0 g0))) := by
  have hR := hv.1.2.2
  have l1 := sd_lt hv he g0
  have l2 := so_lt hv he g0
  intro a b ha hbb
  by_cases q : 6 * a + b = 6 * a0 + so S e0 g0
  · have qa : a = a0 := by omega
    have qb : b = so S e0 g0 := by omega
    subst qa
    subst qb
    rw [pk_us]
    refine mn_congr (fun v => ?_) (mn_one (t a _ ha hbb) hn)
    constructor
    · rintro (⟨r, e, h1, h2⟩ | h1)
      · exact ⟨r, e, (hb a r e h2.2.1).mpr (Or.inl h1), h2⟩
      · exact ⟨r0, e0, (hb a r0 e0 (by omega)).mpr (Or.inr ⟨rfl, rfl, rfl⟩), ham, by omega, he, ⟨g0, hg, hs, rfl⟩, z, hE, by omega⟩
    · rintro ⟨r, e, h1, h2⟩
      rcases (hb a r e h2.2.1).mp h1 with y | ⟨-, rfl, rfl⟩
      · exact Or.inl ⟨r, e, y, h2⟩
      · obtain ⟨z', hz', hv'⟩ := h2.2.2.2.2
        rw [hE] at hz'
        cases hz'
        exact Or.inr (by omega)
  · rw [pk_un q]
    refine mn_congr (fun v => ?_) (t a b ha hbb)
    constructor
    · rintro ⟨r, e, h1, h2⟩
      exact ⟨r, e, (hb a r e h2.2.1).mpr (Or.inl h1), h2⟩
    · rintro ⟨r, e, h1, h2⟩
      rcases (hb a r e h2.2.1).mp h1 with y | ⟨rfl, rfl, rfl⟩
      · exact ⟨r, e, y, h2⟩
      · obtain ⟨g, k1, k2, k3⟩ := h2.2.2.2.1
        have := so_sd hv he (k2.trans hs.symm)
        exact absurd (by rw [← k3, this]) q
/-- the class's order -/
def cb (a0 r0 e0 : Nat) (a r e : Nat) : Prop := a < a0 ∨ (a = a0 ∧ (r < r0 ∨ (r = r0 ∧ e < e0)))
/-- the reference's order -/
def mb (e0 k0 : Nat) (a r e : Nat) : Prop := e < e0 ∨ (e = e0 ∧ 6 * a + r < k0)
theorem leaveC (d : Nat) (hv : VH S) {o C m a r : Nat} (ho : o ≤ 17) (hC : C = 80 ∨ C = 81) (ham : a < m) (hm : m < 64) (hr : r < nR S) {E : E_T} {x4 : Int32} {z : Int} (hE : E (6 * a + r) = some z) (hz : x4.toInt = z) (hzb : -900000 ≤ z ∧ z ≤ 900000) : ∀ (q n e : Nat) (h : am_H) (u6 : Option am_V), e + q = nD S → q < n → RH o h S → h 79 1 = nI C → tab S m E 536870912 (cb a r e) (h C) →
    ∃ h', rT_leave (d + 2) n 12 [some (vr 4 79), some (vr 2 o), some (vi (nI a)), some (vi (nI r)), some (vi x4), some (vi (nI e)), u6] h = some (h', none) ∧ (∀ c, c ≠ C → h' c = h c) ∧ tab S m E 536870912 (cb a r (nD S)) (h' C) := by
  have hR := hv.1.2.2
  have hD := hv.2.1
  have e1 : ((536870912 : Int32)).toInt = 536870912 := rfl
  intro q
  induction q with
  | zero =>
    intro n e h u6 he hn rh h1 t
    obtain ⟨n, rfl⟩ : ∃ z, n = z + 1 := ⟨n - 1, by omega⟩
    have : e = nD S := by omega
    subst this
    rw [tT_leave_12, rh.1.2.1, hD.1, if_neg (nI_nlt (by omega) (by omega))]
    exact ⟨h, rfl, fun _ _ => rfl, t⟩
  | succ q ih =>
    intro n e h u6 he hn rh h1 t
    obtain ⟨n, rfl⟩ : ∃ z, n = z + 1 := ⟨n - 1, by omega⟩
    have hlt : e < nD S := by omega
    have hCn : (h 79 1).toNatClampNeg = C := by rw [h1, nI_clamp (by omega)]
    rw [tT_leave_12, rh.1.2.1, hD.1, if_pos (nI_lt hlt (by omega)), gH_isDoorOf_ok (d + 1) rh.2.2.1 hD.2 hlt, r1_ok, nI_1]
    have hbf : ∀ a' r' e', r' < nR S → (cb a r (e + 1) a' r' e' ↔ cb a r e a' r' e' ∨ (a' = a ∧ r' = r ∧ e' = e)) := fun a' r' e' _ => by unfold cb; omega
    by_cases hbe : bes S e (nI r)
    · obtain ⟨g, g1, g2⟩ := (bes_sd hv hlt hr).mp hbe
      have hby : byd S e (nI r) = nI (so S e g) := by rw [← byd_sd hv hlt g, g2]
      have l2 := so_lt hv hlt g
      have hc := cst_b hv hlt hr
      have i1 : nI a * 6 + nI (so S e g) = nI (6 * a + so S e g) := by rw [show (6 : Int32) = nI 6 from rfl, pk_mul, nI_add, Nat.mul_comm]
      have hw : (x4 + cst S e r).toInt = z + cI S e r := by unfold cI at *; rw [ti_add] <;> omega
      have ty := tab_yes hv t hbf (by omega : a < 64) (by omega) hlt g1 g2 hE hw (by rw [hw, e1]; omega)
      rw [if_neg (fun y => yn_0.mp y hbe), gH_behind_ok (d + 1) rh.2.2.1 hD.2 hlt, r1_ok, hby, i1, b_ok (by omega) (by omega), gH_ticks_ok d hv rh hlt hr, r1_ok, hCn, gJ_min]
      have nx : ∀ (x : Int32) (u6 : Option am_V), x = (if x4 + cst S e r < h C (6 * a + so S e g) then x4 + cst S e r else h C (6 * a + so S e g)) → ∃ h', rT_leave (d + 2) n 12 [some (vr 4 79), some (vr 2 o), some (vi (nI a)), some (vi (nI r)), some (vi x4), some (vi (nI (e + 1))), u6] (am_up h C (6 * a + so S e g) x) = some (h', none) ∧ (∀ c, c ≠ C → h' c = h c) ∧ tab S m E 536870912 (cb a r (nD S)) (h' C) := by
        intro x u6 hx
        have f1 : frT h (am_up h C (6 * a + so S e g) x) := fun c hc => up_n (by omega)
        obtain ⟨h', k1, k2, k3⟩ := ih n (e + 1) (am_up h C (6 * a + so S e g) x) u6 (by omega) (by omega) (RH_t ho f1 rh) (by rw [up_n (by omega)]; exact h1) (by rw [up_f, hx]; exact ty)
        exact ⟨h', k1, fun c hc => (k2 c hc).trans (up_n hc), k3⟩
      by_cases l : x4 + cst S e r < h C (6 * a + so S e g)
      · rw [if_pos l, r1_ok, b_ok (by omega) (by omega)]
        exact nx _ _ (by rw [if_pos l])
      · rw [if_neg l, r1_ok, b_ok (by omega) (by omega)]
        exact nx _ _ (by rw [if_neg l])
    · rw [if_pos (yn_0.mpr hbe)]
      exact ih n (e + 1) h u6 (by omega) (by omega) rh h1 (tab_no t hbf (fun b v o' => by
        obtain ⟨g, k1, k2, k3⟩ := o'.2.2.2.1
        exact hbe ((bes_sd hv hlt hr).mpr ⟨g, k1, k2⟩)))
theorem stepC_in (d : Nat) (hv : VH S) {o A C m a : Nat} (ho : o ≤ 17) (hA : A = 80 ∧ C = 81 ∨ A = 81 ∧ C = 80) (ham : a < m) (hm : m < 64) {B : Int} {E : E_T} (hB : 0 ≤ B ∧ B ≤ 900000) : ∀ (q n r : Nat) (h : am_H), r + q = nR S → q < n → RH o h S → h 79 0 = nI A → h 79 1 = nI C → rT 536870912 B E (h A) → tab S m E 536870912 (cb a r 0) (h C) →
    ∃ h', rT_step (d + 3) n 13 [some (vr 4 79), some (vr 2 o), some (vi (nI m)), some (vi (nI a)), some (vi (nI r))] h = rT_step (d + 3) (n - q) 13 [some (vr 4 79), some (vr 2 o), some (vi (nI m)), some (vi (nI a)), some (vi (nI (nR S)))] h' ∧ (∀ c, c ≠ C → h' c = h c) ∧ tab S m E 536870912 (cb a (nR S) 0) (h' C) := by
  have hR := hv.1
  have hD := hv.2.1
  have e1 : ((536870912 : Int32)).toInt = 536870912 := rfl
  intro q
  induction q with
  | zero =>
    intro n r h hr hn rh h0 h1 ta t
    have : r = nR S := by omega
    subst this
    exact ⟨h, rfl, fun _ _ => rfl, t⟩
  | succ q ih =>
    intro n r h hr hn rh h0 h1 ta t
    obtain ⟨n, rfl⟩ : ∃ z, n = z + 1 := ⟨n - 1, by omega⟩
    have hAn : (h 79 0).toNatClampNeg = A := by rw [h0, nI_clamp (by omega)]
    have i1 : nI a * 6 + nI r = nI (6 * a + r) := by rw [show (6 : Int32) = nI 6 from rfl, pk_mul, nI_add, Nat.mul_comm]
    have hj : 6 * a + r < 384 := by omega
    rw [tT_step_13, rh.1.1, hR.1, if_pos (nI_lt (by omega) (by omega)), i1, b_ok hj (by omega), hAn, nI_1, show n + 1 - (q + 1) = n - q by omega]
    rcases rT_k (by omega) ta hj with ⟨q1, q2, -⟩ | ⟨z, q1, q2, q3, q4, -⟩
    · rw [if_pos q2]
      refine ih n (r + 1) h (by omega) (by omega) rh h0 h1 ta (tab_congr (fun a' r' e' k1 k2 k3 k4 k5 => ?_) t)
      unfold cb
      by_cases w : a' = a ∧ r' = r
      · rw [w.1, w.2, q1] at k5
        cases k5
      · omega
    · obtain ⟨h2, g1, g2, g3⟩ := leaveC d hv ho (show C = 80 ∨ C = 81 by omega) ham hm (r := r) (by omega) q1 q2 (by omega) (nD S) 999999 0 h none (by omega) (by omega) rh h1 t
      have f1 : frT h h2 := fun c hc => g2 c (by omega)
      obtain ⟨h', k1, k2, k3⟩ := ih n (r + 1) h2 (by omega) (by omega) (RH_t ho f1 rh) (by rw [g2 79 (by omega)]; exact h0) (by rw [g2 79 (by omega)]; exact h1) (by rw [g2 A (by omega)]; exact ta) (tab_congr (fun a' r' e' k1 k2 k3 k4 k5 => by unfold cb; omega) g3)
      refine ⟨h', ?_, fun c hc => (k2 c hc).trans (g2 c hc), k3⟩
      rw [nI_0] at g1
      rw [if_neg q4, gT_leave, i1, b_ok hj (by omega), hAn, g1, r0_ok, k1]
theorem stepC_out (d : Nat) (hv : VH S) {o A C m : Nat} (ho : o ≤ 17) (hA : A = 80 ∧ C = 81 ∨ A = 81 ∧ C = 80) (hm : m < 64) {B : Int} {E : E_T} (hB : 0 ≤ B ∧ B ≤ 900000) : ∀ (q n a : Nat) (h : am_H) (u4 : Option am_V), a + q = m → 10 * q < n → RH o h S → h 79 0 = nI A → h 79 1 = nI C → rT 536870912 B E (h A) → tab S m E 536870912 (cb a 0 0) (h C) →
    ∃ h', rT_step (d + 3) n 7 [some (vr 4 79), some (vr 2 o), some (vi (nI m)), some (vi (nI a)), u4] h = some (am_up (am_up h' 79 0 (nI C)) 79 1 (nI A), none) ∧ (∀ c, c ≠ C → h' c = h c) ∧ tab S m E 536870912 (cb m 0 0) (h' C) := by
  have hR := hv.1
  intro q
  induction q with
  | zero =>
    intro n a h u4 ha hn rh h0 h1 ta t
    obtain ⟨n, rfl⟩ : ∃ z, n = z + 1 := ⟨n - 1, by omega⟩
    have : a = m := by omega
    subst this
    rw [tT_step_7, if_neg (nI_nlt (by omega) (by omega)), h0, h1, nI_clamp (by omega), nI_clamp (by omega)]
    exact ⟨h, rfl, fun _ _ => rfl, t⟩
  | succ q ih =>
    intro n a h u4 ha hn rh h0 h1 ta t
    obtain ⟨n, rfl⟩ : ∃ z, n = z + 1 := ⟨n - 1, by omega⟩
    obtain ⟨h2, g1, g2, g3⟩ := stepC_in d hv ho hA (a := a) (by omega) hm hB (nR S) n 0 h (by omega) (by omega) rh h0 h1 ta t
    have f1 : frT h h2 := fun c hc => g2 c (by omega)
    have rh2 := RH_t ho f1 rh
    obtain ⟨n2, hn2⟩ : ∃ z, n - nR S = z + 1 := ⟨n - nR S - 1, by omega⟩
    rw [hn2, nI_0] at g1
    obtain ⟨h', k1, k2, k3⟩ := ih n2 (a + 1) h2 (some (vi (nI (nR S)))) (by omega) (by omega) rh2 (by rw [g2 79 (by omega)]; exact h0) (by rw [g2 79 (by omega)]; exact h1) (by rw [g2 A (by omega)]; exact ta) (tab_congr (fun a' r' e' k1 k2 k3 k4 k5 => by unfold cb; omega) g3)
    refine ⟨h', ?_, fun c hc => (k2 c hc).trans (g2 c hc), k3⟩
    rw [tT_step_7, if_pos (nI_lt (by omega) (by omega)), g1, tT_step_13, rh2.1.1, hR.1, if_neg (nI_nlt (by omega) (by omega)), nI_1, k1]
theorem gT_step_ok (d : Nat) (hv : VH S) {o A C m : Nat} {h : am_H} (ho : o ≤ 17) (hA : A = 80 ∧ C = 81 ∨ A = 81 ∧ C = 80) (hm : m < 64) {B : Int} {E : E_T} (hB : 0 ≤ B ∧ B ≤ 900000) (he : eD S m E) (rh : RH o h S) (h0 : h 79 0 = nI A) (h1 : h 79 1 = nI C) (ta : rT 536870912 B E (h A)) :
    ∃ h', am_g (d + 4) 40 [vr 4 79, vr 2 o, vi (nI m)] h = some (h', none) ∧ frT h h' ∧ h' 79 0 = nI C ∧ h' 79 1 = nI A ∧ h' 79 2 = h 79 2 ∧ h' 79 3 = h 79 3 ∧ tab S m E 536870912 (fun _ _ _ => True) (h' C) := by
  obtain ⟨h2, a1, a2, a3⟩ := gJ_fill384_ok (d + 2) C 536870912 h
  have f1 : frT h h2 := fun c hc => a2 c (by omega)
  obtain ⟨h3, k1, k2, k3⟩ := stepC_out d hv ho hA hm hB m 999999 0 h2 none (by omega) (by omega) (RH_t ho f1 rh) (by rw [a2 79 (by omega)]; exact h0) (by rw [a2 79 (by omega)]; exact h1) (by rw [a2 A (by omega)]; exact ta) (fun a b ha hb => Or.inl ⟨a3 _ (by omega), fun v hv' => by
    obtain ⟨r, e, z, -⟩ := hv'
    unfold cb at z
    omega⟩)
  have h79 : ∀ j, h3 79 j = h 79 j := fun j => by rw [k2 79 (by omega), a2 79 (by omega)]
  refine ⟨am_up (am_up h3 79 0 (nI C)) 79 1 (nI A), ?_, fun c hc => by rw [up_n (by omega), up_n (by omega), k2 c (by omega), a2 c (by omega)], by rw [up_d (by omega), up_s], by rw [up_s], by rw [up_d (by omega), up_d (by omega), h79], by rw [up_d (by omega), up_d (by omega), h79], ?_⟩
  · rw [nI_0] at k1
    rw [gT_step, h1, nI_clamp (by omega), a1, r0_ok, k1]
  · rw [up_n (by omega), up_n (by omega)]
    refine tab_congr (fun a r e j1 j2 j3 j4 j5 => ⟨fun _ => trivial, fun _ => ?_⟩) k3
    have q := (he _ j5).2.1
    have hR := hv.1.2.2
    rw [show (6 * a + r) / 6 = a by omega] at q
    have := sub_le q
    exact Or.inl (by omega)
/-- the reference, a place -/
theorem stepM_k (d n : Nat) (hv : VH S) {m e k : Nat} (hm : m < 64) (hlt : e < nD S) (hk : k < 384) {B : Int} {E : E_T} {M : am_H} (hB : 0 ≤ B ∧ B ≤ 900000) (he : eD S m E) (fr : ∀ c, ¬ (119 ≤ c ∧ c ≤ 122) → M c = S c) (tm : rT 1000000 B E (M 121)) (t : tab S m E 1000000 (mb e k) (M 122)) (x1 x3 x4 x5 x6 : Int32) (u9 u10 u11 : Option am_V) :
    ∃ (w9 w10 w11 : Option am_V) (M' : am_H), rM_round (d + 2) (n + 1) 124 [some (vr 7 82), some (vi x1), some (vi (nI m)), some (vi x3), some (vi x4), some (vi x5), some (vi x6), some (vi (nI e)), some (vi (nI k)), u9, u10, u11] M = rM_round (d + 2) n 124 [some (vr 7 82), some (vi x1), some (vi (nI m)), some (vi x3), some (vi x4), some (vi x5), some (vi x6), some (vi (nI e)), some (vi (nI (k + 1))), w9, w10, w11] M' ∧ (∀ c, c ≠ 122 → M' c = M c) ∧ tab S m E 1000000 (mb e (k + 1)) (M' 122) := by
  have hR := hv.1.2.2
  have hD := hv.2.1
  have e2 : ((1000000 : Int32)).toInt = 1000000 := rfl
  have hS : sH S M := fun c q1 q2 => fr c (by omega)
  have hvM : VH M := VH_congr hS hv
  have heM : e < nD M := by rw [hS.eD]; exact hlt
  have hbf : ∀ a' r' e', r' < nR S → (mb e (k + 1) a' r' e' ↔ mb e k a' r' e' ∨ (a' = k / 6 ∧ r' = k % 6 ∧ e' = e)) := fun a' r' e' _ => by unfold mb; omega
  have hdiv : nI k / 6 = nI (k / 6) := pk_div (d := 6) (by omega) (by omega) (by omega)
  have hrem : am_rem (nI k) 6 = nI (k % 6) := rem_nI (b := 6) (by omega) (by omega) (by omega)
  have hk6 : 6 * (k / 6) + k % 6 = k := by omega
  rw [tM_round_124, if_pos (show nI k < 384 from nI_lt (b := 384) hk (by omega)), b_ok hk (by omega), hdiv, hrem, nI_1]
  have no : ∀ (w9 w10 w11 : Option am_V), (∀ b v, ¬ oFr S m E (k / 6) (k % 6) e b v) → ∃ (v9 v10 v11 : Option am_V) (M' : am_H), rM_round (d + 2) n 124 [some (vr 7 82), some (vi x1), some (vi (nI m)), some (vi x3), some (vi x4), some (vi x5), some (vi x6), some (vi (nI e)), some (vi (nI (k + 1))), w9, w10, w11] M = rM_round (d + 2) n 124 [some (vr 7 82), some (vi x1), some (vi (nI m)), some (vi x3), some (vi x4), some (vi x5), some (vi x6), some (vi (nI e)), some (vi (nI (k + 1))), v9, v10, v11] M' ∧ (∀ c, c ≠ 122 → M' c = M c) ∧ tab S m E 1000000 (mb e (k + 1)) (M' 122) := by
    intro w9 w10 w11 hno
    exact ⟨w9, w10, w11, M, rfl, fun _ _ => rfl, tab_no t hbf hno⟩
  rcases rT_k (by omega) tm hk with ⟨q1, q2, q3⟩ | ⟨z, q1, q2, q3, -, q4⟩
  · rw [if_neg q3]
    refine no _ _ _ (fun b v o' => ?_)
    obtain ⟨z, hz, -⟩ := o'.2.2.2.2
    rw [hk6, q1] at hz
    cases hz
  · rw [if_pos q4]
    by_cases c1 : k / 6 = m
    · rw [if_pos (by rw [c1])]
      exact no _ _ _ (fun b v o' => o'.1 c1)
    · have hr : k % 6 < nR S := (he k (by rw [q1]; rfl)).2.2
      rw [if_neg (nI_ne c1 (by omega) (by omega)), gM_isBeside_ok (d + 1) hvM heM, r1_ok]
      have hbM : bes M e (nI (k % 6)) ↔ bes S e (nI (k % 6)) := by unfold bes; rw [fr 89 (by omega), fr 90 (by omega)]
      by_cases hbe : bes S e (nI (k % 6))
      · obtain ⟨g, g1, g2⟩ := (bes_sd hv hlt hr).mp hbe
        have hby : byd M e (nI (k % 6)) = nI (so S e g) := by
          rw [← byd_sd hv hlt g, g2]
          unfold byd
          rw [fr 89 (by omega), fr 90 (by omega)]
        have l2 := so_lt hv hlt g
        have hc := cst_b hv hlt hr
        have i1 : nI k - nI (k % 6) + nI (so S e g) = nI (6 * (k / 6) + so S e g) := by rw [pk_sub (by omega), nI_add, show k - k % 6 = 6 * (k / 6) by omega]
        have b1 : ∀ f, am_b 384 (nI (6 * (k / 6) + so S e g)) f = f (6 * (k / 6) + so S e g) := fun f => b_ok (by omega) (by omega) f
        have hw : (M 121 k + cst S e (k % 6)).toInt = z + cI S e (k % 6) := by unfold cI at *; rw [ti_add] <;> omega
        have ty := tab_yes hv t hbf (by omega : k / 6 < 64) c1 hlt g1 g2 (by rw [hk6]; exact q1) hw (by rw [hw, e2]; omega)
        rw [if_neg (fun y => yn_0.mp y (hbM.mpr hbe)), gM_beyond_ok (d + 1) hvM heM, r1_ok, hby, b_ok hk (by omega), gM_costOf_ok d hvM heM (by rw [hS.eR]; exact hr), r1_ok, hS.ecst, i1]
        simp only [b1]
        by_cases l : M 121 k + cst S e (k % 6) < M 122 (6 * (k / 6) + so S e g)
        · rw [if_pos l]
          rw [if_pos l] at ty
          refine ⟨_, _, _, _, rfl, fun c hc => up_n hc, ?_⟩
          rw [up_f]
          exact ty
        · rw [if_neg l]
          rw [if_neg l] at ty
          refine ⟨_, _, _, _, rfl, fun c hc => up_n hc, ?_⟩
          rw [up_f]
          exact ty
      · rw [if_pos (yn_0.mpr (fun y => hbe (hbM.mp y)))]
        refine no _ _ _ (fun b v o' => ?_)
        obtain ⟨g, k1, k2, k3⟩ := o'.2.2.2.1
        exact hbe ((bes_sd hv hlt hr).mpr ⟨g, k1, k2⟩)
end TOUR3
