/-! THE CLASS'S COURSE -/
def vC (k : Nat) (h : am_H) : List K_V → Prop
  | [] => True
  | (w, r, a, b) :: l => h (k + 9) l.length = nI w ∧ h (k + 10) l.length = r ∧ h (k + 11) l.length = a ∧ h (k + 12) l.length = b ∧ vC k h l
/-- the place of the latest visit of a person -/
def vLa (i : Nat) : List K_V → Nat
  | [] => 0
  | (w, _) :: l => if w = i then l.length else vLa i l
/-- the house that a course at k goes by, at o: as S has it -/
def EH (k o : Nat) (h S : am_H) : Prop :=
  (h k 0 = nI o ∧ o + 15 ≤ k ∧ k ≤ 45) ∧ (h o 15 = nI (nD S) ∧ h o 16 = nI (nP S) ∧ h o 17 = nI (nT S) ∧ h o 18 = S 99 0) ∧
  (∀ r, r < nR S → (if nI r = h k 1 then 12 else h (o + 4) r) = hOf S r ∧ (if nI r = h k 1 then 12 else h (o + 5) r) = (12 * S 85 r) / S 86 r) ∧
  (∀ e, e < nD S → h (o + 6) e = S 89 e ∧ h (o + 7) e = S 90 e ∧ h (o + 8) e = S 91 e) ∧
  (∀ i, i < nP S → h (o + 9) i = S 93 i ∧ h (o + 10) i = S 94 i) ∧
  ∀ t, t < nT S → h (o + 11) t = S 96 t
/-- the class's course at k says K -/
def RC (k : Nat) (h S : am_H) (K : K_T) : Prop :=
  (∀ i, i < nP S → h (k + 1) i = K.1 0 i ∧ h (k + 2) i = K.1 1 i ∧ h (k + 3) i = K.1 2 i ∧ h (k + 4) i = nI (vLa i K.2)) ∧
  (∀ t, t < nT S → h (k + 5) t = K.1 3 t ∧ h (k + 6) t = K.1 4 t ∧ h (k + 7) t = K.1 5 t ∧ h (k + 8) t = K.1 6 t) ∧ h k 14 = nI K.2.length ∧ vC k h K.2
/-- the course's own cells alone have changed, and of the course's object only how many visits there are -/
def frC (k : Nat) (h h' : am_H) : Prop := (∀ c, ¬ (k ≤ c ∧ c ≤ k + 12) → h' c = h c) ∧ ∀ j, j ≠ 14 → h' k j = h k j
theorem frC.rf (k : Nat) (h : am_H) : frC k h h := ⟨fun _ _ => rfl, fun _ _ => rfl⟩
theorem frC.tr {k : Nat} {h h' h'' : am_H} (a : frC k h h') (b : frC k h' h'') : frC k h h'' := ⟨fun c hc => (b.1 c hc).trans (a.1 c hc), fun j hj => (b.2 j hj).trans (a.2 j hj)⟩
theorem frC.eh {k o : Nat} {h h' S : am_H} (f : frC k h h') (e : EH k o h S) : EH k o h' S := by
  obtain ⟨⟨h0, h1, h2⟩, h3⟩ := e
  unfold EH
  rw [f.2 0 (by omega), f.2 1 (by omega), f.1 o (by omega), f.1 (o + 4) (by omega), f.1 (o + 5) (by omega), f.1 (o + 6) (by omega), f.1 (o + 7) (by omega), f.1 (o + 8) (by omega), f.1 (o + 9) (by omega), f.1 (o + 10) (by omega), f.1 (o + 11) (by omega)]
  exact ⟨⟨h0, h1, h2⟩, h3⟩
theorem EH.o {k o : Nat} {h S : am_H} (e : EH k o h S) : (h k 0).toNatClampNeg = o := by
  rw [e.1.1, nI_clamp (by have := e.1.2; omega)]
theorem gK_hourTicksOf_ok (d : Nat) {k o : Nat} {h S : am_H} (e : EH k o h S) (hR : nR S ≤ 6) {r : Nat} (hr : r < nR S) : am_g (d + 1) 12 [vr 1 k, vi (nI r)] h = some (h, some (hOf S r)) := by
  have := (e.2.2.1 r hr).1
  rw [gK_hourTicksOf, e.o]
  by_cases q : nI r = h k 1
  · rw [if_pos q] at this ⊢
    rw [this]
  · rw [if_neg q] at this ⊢
    rw [b_ok (by omega) (by omega), this]
theorem gK_partsOfTickIn_ok (d : Nat) {k o : Nat} {h S : am_H} (e : EH k o h S) (hR : nR S ≤ 6) {r : Nat} (hr : r < nR S) : am_g (d + 1) 13 [vr 1 k, vi (nI r)] h = some (h, some ((12 * S 85 r) / S 86 r)) := by
  have := (e.2.2.1 r hr).2
  rw [gK_partsOfTickIn, e.o]
  by_cases q : nI r = h k 1
  · rw [if_pos q] at this
    rw [if_pos q, ← this]
  · rw [if_neg q] at this ⊢
    rw [b_ok (by omega) (by omega), this]
theorem gH_isDoorOf_ok (d : Nat) {o : Nat} {h S : am_H} (he : ∀ e, e < nD S → h (o + 6) e = S 89 e ∧ h (o + 7) e = S 90 e ∧ h (o + 8) e = S 91 e) (hD : nD S ≤ 8) {x : Nat} (hx : x < nD S) (r : Int32) : am_g (d + 1) 29 [vr 2 o, vi (nI x), vi r] h = some (h, some (yn (bes S x r))) := by
  obtain ⟨h1, h2, -⟩ := he x hx
  rw [gH_isDoorOf, b_ok (by omega) (by omega), b_ok (by omega) (by omega), h1, h2]
  unfold yn
  by_cases e1 : S 89 x = r
  · simp [e1]
  · by_cases e2 : S 90 x = r
    · simp [e2]
    · simp [e1, e2]
theorem gH_behind_ok (d : Nat) {o : Nat} {h S : am_H} (he : ∀ e, e < nD S → h (o + 6) e = S 89 e ∧ h (o + 7) e = S 90 e ∧ h (o + 8) e = S 91 e) (hD : nD S ≤ 8) {x : Nat} (hx : x < nD S) (r : Int32) : am_g (d + 1) 30 [vr 2 o, vi (nI x), vi r] h = some (h, some (byd S x r)) := by
  obtain ⟨h1, h2, -⟩ := he x hx
  rw [gH_behind, b_ok (by omega) (by omega), b_ok (by omega) (by omega), b_ok (by omega) (by omega), h1, h2]
  unfold byd
  by_cases e1 : S 89 x = r <;> simp [e1]
theorem gH_leadTicks_ok (d : Nat) {o : Nat} {h S : am_H} (he : ∀ e, e < nD S → h (o + 6) e = S 89 e ∧ h (o + 7) e = S 90 e ∧ h (o + 8) e = S 91 e) (hD : nD S ≤ 8) {x : Nat} (hx : x < nD S) (r : Int32) : am_g (d + 1) 31 [vr 2 o, vi (nI x), vi r] h = some (h, some (12 * led S x r)) := by
  obtain ⟨h1, h2, h3⟩ := he x hx
  rw [gH_leadTicks, b_ok (by omega) (by omega), b_ok (by omega) (by omega), b_ok (by omega) (by omega), h1, h3]
  unfold led
  by_cases e1 : S 89 x = r <;> simp [e1, Int32.mul_comm]
def oC (k i T t : Nat) (x : Int32) (M : am_H) : am_H := va_up M (k + 8) (fun j => if t ≤ j ∧ j < T ∧ M (k + 6) j = nI i then M (k + 8) j + 144 * x else M (k + 8) j)
theorem pass_loop (d : Nat) {k o i T : Nat} (x : Int32) (hok : o + 15 ≤ k) (hk : k ≤ 45) (hT : T ≤ 5) : ∀ (m n t : Nat) (M : am_H), t + m = T → m < n → M k 0 = nI o → M o 17 = nI T →
    rK_pass d n 37 [some (vr 1 k), some (vi (nI i)), some (vi x), some (vi (nI t))] M = some (oC k i T t x M, none) := by
  intro m
  induction m with
  | zero =>
    intro n t M htk hn h1 h2
    obtain ⟨n, rfl⟩ : ∃ m, n = m + 1 := ⟨n - 1, by omega⟩
    have ht : t = T := by omega
    subst ht
    rw [tK_pass_37, h1, nI_clamp (by omega), h2, if_neg (nI_nlt (Nat.le_refl _) (by omega))]
    have : oC k i t t x M = M := by
      funext c j
      unfold oC va_up
      split
      · rename_i e; subst e
        dsimp only
        rw [if_neg (by omega)]
      · rfl
    rw [this]
  | succ m ih =>
    intro n t M htk hn h1 h2
    obtain ⟨n, rfl⟩ : ∃ m, n = m + 1 := ⟨n - 1, by omega⟩
    have ht : t < T := by omega
    rw [tK_pass_37, h1, nI_clamp (by omega), h2, if_pos (nI_lt ht (by omega)), b_ok (by omega) (by omega), nI_1]
    by_cases e : M (k + 6) t = nI i
    · rw [if_pos e, b_ok (by omega) (by omega), b_ok (by omega) (by omega), ih n (t + 1) _ (by omega) (by omega) (by rw [up_n (by omega)]; exact h1) (by rw [up_n (by omega)]; exact h2)]
      congr 2
      funext c j
      unfold oC
      by_cases q : c = k + 8
      · subst q
        simp only [va_up, if_true, up_a, true_and]
        rw [if_neg (show ¬ (k + 6 = k + 8 ∧ j = t) by omega)]
        by_cases q1 : j = t
        · subst q1
          rw [if_pos rfl, if_neg (show ¬ (j + 1 ≤ j ∧ _) by omega), if_pos ⟨Nat.le_refl _, ht, e⟩, Int32.mul_comm]
        · rw [if_neg q1]
          by_cases q2 : t ≤ j ∧ j < T ∧ M (k + 6) j = nI i
          · rw [if_pos q2, if_pos ⟨by omega, q2.2⟩]
          · rw [if_neg q2, if_neg (fun z => q2 ⟨by omega, z.2⟩)]
      · simp [va_up, q, up_a]
    · rw [if_neg e, ih n (t + 1) M (by omega) (by omega) h1 h2]
      congr 2
      funext c j
      unfold oC
      by_cases q : c = k + 8
      · subst q
        simp only [va_up, if_true]
        by_cases q2 : t ≤ j ∧ j < T ∧ M (k + 6) j = nI i
        · have : j ≠ t := fun z => e (z ▸ q2.2.2)
          rw [if_pos q2, if_pos ⟨by omega, q2.2⟩]
        · rw [if_neg q2, if_neg (fun z => q2 ⟨by omega, z.2⟩)]
      · simp [va_up, q]
theorem vC_congr {k : Nat} {h h' : am_H} : ∀ {l : List K_V}, (∀ c j, k + 9 ≤ c → c ≤ k + 12 → j < l.length → h' c j = h c j) → vC k h l → vC k h' l := by
  intro l
  induction l with
  | nil => intro _ _; trivial
  | cons v l ih =>
    intro hh hv
    obtain ⟨w, r, a, b⟩ := v
    obtain ⟨h1, h2, h3, h4, h5⟩ := hv
    have hl : l.length < ((w, r, a, b) :: l).length := by simp
    exact ⟨by rw [hh _ _ (by omega) (by omega) hl]; exact h1, by rw [hh _ _ (by omega) (by omega) hl]; exact h2, by rw [hh _ _ (by omega) (by omega) hl]; exact h3, by rw [hh _ _ (by omega) (by omega) hl]; exact h4, ih (fun c j q1 q2 q3 => hh c j q1 q2 (by simp; omega)) h5⟩
theorem vLa_lt {i : Nat} : ∀ {l : List K_V}, 1 ≤ cV i l → vLa i l < l.length := by
  intro l
  induction l with
  | nil => intro h; simp [cV] at h
  | cons v l ih =>
    intro h
    obtain ⟨w, r⟩ := v
    unfold vLa
    by_cases e : w = i
    · simp [e]
    · have : 1 ≤ cV i l := by simpa [cV, e] using h
      have := ih this
      simp [e]; omega
theorem vC_set {k : Nat} {h h' : am_H} {i : Nat} {x : Int32} : ∀ {l : List K_V}, 1 ≤ cV i l → vC k h l → (∀ c j, k + 9 ≤ c → c ≤ k + 11 → h' c j = h c j) → (∀ j, h' (k + 12) j = if j = vLa i l then x else h (k + 12) j) → vC k h' (vSet i x l) := by
  intro l
  induction l with
  | nil => intro h; simp [cV] at h
  | cons v l ih =>
    intro hc hv h1 h2
    obtain ⟨w, r, a, b⟩ := v
    obtain ⟨g1, g2, g3, g4, g5⟩ := hv
    unfold vSet
    by_cases e : w = i
    · subst e
      rw [if_pos rfl]
      have hla : vLa w ((w, r, a, b) :: l) = l.length := by simp [vLa]
      rw [hla] at h2
      refine ⟨by rw [h1 _ _ (by omega) (by omega)]; exact g1, by rw [h1 _ _ (by omega) (by omega)]; exact g2, by rw [h1 _ _ (by omega) (by omega)]; exact g3, by rw [h2, if_pos rfl], vC_congr (h := h) (fun c j q1 q2 q3 => ?_) g5⟩
      by_cases q : c = k + 12
      · rw [q, h2, if_neg (by omega)]
      · exact h1 c j q1 (by omega)
    · rw [if_neg e]
      have hla : vLa i ((w, r, a, b) :: l) = vLa i l := by simp [vLa, e]
      have hcl : cV i ((w, r, a, b) :: l) = cV i l := by simp [cV, e]
      rw [hla] at h2
      rw [hcl] at hc
      have hlt := vLa_lt hc
      refine ⟨by rw [vSet_l, h1 _ _ (by omega) (by omega)]; exact g1, by rw [vSet_l, h1 _ _ (by omega) (by omega)]; exact g2, by rw [vSet_l, h1 _ _ (by omega) (by omega)]; exact g3, ?_, ih hc g5 h1 h2⟩
      rw [vSet_l, h2, if_neg (by omega)]
      exact g4
theorem vLa_set (i j : Nat) (x : Int32) : ∀ l, vLa i (vSet j x l) = vLa i l := by
  intro l
  induction l with
  | nil => rfl
  | cons v l ih =>
    obtain ⟨w, r, a, b⟩ := v
    unfold vSet
    split
    · rfl
    · simp [vLa, ih, vSet_l]
theorem gK_pass_ok (d : Nat) {k o : Nat} {h S : am_H} {K : K_T} {B A : Int} {n : Nat} (hv : VH S) (e : EH k o h S) (hR : RC k h S K) (hK : VKg S B A n K) (hn : n ≤ 40) {i : Nat} (hi : i < nP S) (x : Int32) :
    ∃ h', am_g (d + 2) 7 [vr 1 k, vi (nI i), vi x] h = some (h', none) ∧ RC k h' S (kBy S i x K) ∧ frC k h h' := by
  have hP := hv.2.2.1.2.2
  have hT := hv.2.2.2.1
  obtain ⟨r1, r2, r3, r4⟩ := hR
  obtain ⟨a1, a2, a3, a4⟩ := r1 i hi
  obtain ⟨⟨r, hr, hri⟩, -, -, hc1, hc2⟩ := hK.1 i hi
  have hR6 := hv.1.2.2
  have hlen := hK.2.2.1
  have hla := vLa_lt hc1
  obtain ⟨e1, e2, e3⟩ := e.1
  have hrm : rmOf K i = r := by unfold rmOf; rw [hri, nI_rm (by omega)]
  have q4 : ∀ y z, (am_up (am_up h (k + 2) i y) (k + 3) i z) (k + 4) i = nI (vLa i K.2) := fun y z => by rw [up_n (by omega), up_n (by omega)]; exact a4
  have q3 : ∀ y, (am_up h (k + 2) i y) (k + 3) i = h (k + 3) i := fun y => by rw [up_n (by omega)]
  have q2 : ∀ y z, (am_up (am_up h (k + 2) i y) (k + 3) i z) (k + 2) i = y := fun y z => by rw [up_n (by omega), up_s]
  have h1 : am_g (d + 2) 7 [vr 1 k, vi (nI i), vi x] h = rK_pass (d + 1) 999999 37 [some (vr 1 k), some (vi (nI i)), some (vi x), some (vi (nI 0))] (am_up (am_up (am_up h (k + 2) i (h (k + 2) i + x * hOf S r)) (k + 3) i (h (k + 3) i + x)) (k + 12) (vLa i K.2) (h (k + 2) i + x * hOf S r)) := by
    rw [gK_pass, b_ok (by omega) (by omega), b_ok (by omega) (by omega), a1, hri, gK_hourTicksOf_ok d e hR6 hr, r1_ok, b_ok (by omega) (by omega), b_ok (by omega) (by omega), b_ok (by omega) (by omega), b_ok (by omega) (by omega), b_ok (by omega) (by omega), q4, b_ok (by omega) (by omega), q3, q2, nI_0]
  have h2 := pass_loop (d + 1) (i := i) x e2 e3 hT.2 (nT S) 999999 0 (am_up (am_up (am_up h (k + 2) i (h (k + 2) i + x * hOf S r)) (k + 3) i (h (k + 3) i + x)) (k + 12) (vLa i K.2) (h (k + 2) i + x * hOf S r)) (by omega) (by omega) (by rw [up_n (by omega), up_n (by omega), up_n (by omega)]; exact e1) (by rw [up_n (by omega), up_n (by omega), up_n (by omega)]; exact e.2.1.2.2.1)
  rw [h1, h2]
  generalize hH : oC k i (nT S) 0 x (am_up (am_up (am_up h (k + 2) i (h (k + 2) i + x * hOf S r)) (k + 3) i (h (k + 3) i + x)) (k + 12) (vLa i K.2) (h (k + 2) i + x * hOf S r)) = h'
  have f2 : ∀ j, h' (k + 2) j = if j = i then h (k + 2) i + x * hOf S r else h (k + 2) j := fun j => by rw [← hH]; simp [up_a, oC, va_up]
  have f3 : ∀ j, h' (k + 3) j = if j = i then h (k + 3) i + x else h (k + 3) j := fun j => by rw [← hH]; simp [up_a, oC, va_up]
  have f8 : ∀ j, j < nT S → h' (k + 8) j = if h (k + 6) j = nI i then h (k + 8) j + 144 * x else h (k + 8) j := fun j hj => by rw [← hH]; simp [up_a, oC, va_up, hj]
  have f12 : ∀ j, h' (k + 12) j = if j = vLa i K.2 then h (k + 2) i + x * hOf S r else h (k + 12) j := fun j => by rw [← hH]; simp [up_a, oC, va_up]
  have fo : ∀ c, c ≠ k + 2 → c ≠ k + 3 → c ≠ k + 8 → c ≠ k + 12 → h' c = h c := fun c g1 g2 g3 g4 => by
    funext j
    rw [← hH]; simp [up_a, oC, va_up, g1, g2, g3, g4]
  have hk0 : h' k = h k := fo k (by omega) (by omega) (by omega) (by omega)
  refine ⟨h', rfl, ⟨fun j hj => ?_, fun t ht => ?_, ?_, ?_⟩, ⟨fun c hc => fo c (by omega) (by omega) (by omega) (by omega), fun j _ => by rw [hk0]⟩⟩
  · obtain ⟨b1, b2, b3, b4⟩ := r1 j hj
    rw [fo (k + 1) (by omega) (by omega) (by omega) (by omega), fo (k + 4) (by omega) (by omega) (by omega) (by omega), f2, f3]
    refine ⟨by simp [kBy, b1], ?_, ?_, by simp [kBy, vLa_set, b4]⟩
    · by_cases q : j = i
      · subst q; simp [kBy, a2, hrm]
      · simp [kBy, q, b2]
    · by_cases q : j = i
      · subst q; simp [kBy, a3]
      · simp [kBy, q, b3]
  · obtain ⟨b5, b6, b7, b8⟩ := r2 t ht
    rw [fo (k + 5) (by omega) (by omega) (by omega) (by omega), fo (k + 6) (by omega) (by omega) (by omega) (by omega), fo (k + 7) (by omega) (by omega) (by omega) (by omega), f8 t ht]
    refine ⟨by simp [kBy, b5], by simp [kBy, b6], by simp [kBy, b7], ?_⟩
    by_cases q : K.1 4 t = nI i
    · simp [kBy, b6, b8, q]
    · simp [kBy, b6, b8, q]
  · rw [hk0]
    show h k 14 = nI (vSet i _ K.2).length
    rw [vSet_l]
    exact r3
  · have e0 : (kBy S i x K).2 = vSet i (K.1 1 i + x * hOf S r) K.2 := by simp [kBy, hrm]
    rw [e0]
    refine vC_set (h := h) hc1 r4 (fun c j g1 g2 => ?_) (fun j => ?_)
    · rw [fo c (by omega) (by omega) (by omega) (by omega)]
    · rw [f12, a2]
