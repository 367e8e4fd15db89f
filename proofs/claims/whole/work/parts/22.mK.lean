/-! THE REFERENCE'S COURSE -/
def vM (S : am_H) : List K_V → Prop
  | [] => True
  | (w, r, a, b) :: l => S 116 (41 * w + cV w l) = r ∧ S 117 (41 * w + cV w l) = a ∧ S 118 (41 * w + cV w l) = b ∧ vM S l
/-- the reference's cells say the course K -/
def RM (S : am_H) (K : K_T) : Prop :=
  (∀ i, i < nP S → S 108 i = K.1 0 i ∧ S 109 i = K.1 1 i ∧ S 110 i = K.1 2 i ∧ S 115 i = nI (cV i K.2)) ∧ (∀ t, t < nT S → S 111 t = K.1 3 t ∧ S 112 t = K.1 4 t ∧ S 113 t = K.1 5 t ∧ S 114 t = K.1 6 t) ∧ vM S K.2
theorem vM_congr {S S' : am_H} : ∀ {l : List K_V}, (∀ c j, 116 ≤ c → c ≤ 118 → (∃ w m, w ∈ l.map (fun v => v.1) ∧ m < cV w l ∧ j = 41 * w + m) → S' c j = S c j) → vM S l → vM S' l := by
  intro l
  induction l with
  | nil => intro _ _; trivial
  | cons v l ih =>
    intro h hv
    obtain ⟨w, r, a, b⟩ := v
    obtain ⟨h1, h2, h3, h4⟩ := hv
    have hw : ∃ w' m, w' ∈ ((w, r, a, b) :: l).map (fun v => v.1) ∧ m < cV w' ((w, r, a, b) :: l) ∧ 41 * w + cV w l = 41 * w' + m := ⟨w, cV w l, by simp, by simp [cV], rfl⟩
    refine ⟨by rw [h 116 _ (by omega) (by omega) hw]; exact h1, by rw [h 117 _ (by omega) (by omega) hw]; exact h2, by rw [h 118 _ (by omega) (by omega) hw]; exact h3, ih (fun c j hc1 hc2 hj => h c j hc1 hc2 ?_) h4⟩
    obtain ⟨w', m, q1, q2, q3⟩ := hj
    exact ⟨w', m, by simp at q1 ⊢; exact Or.inr q1, by simp only [cV]; omega, q3⟩
theorem gM_hourOf_ok (d : Nat) {S : am_H} (hv : VH S) {r : Nat} (hr : r < nR S) : am_g (d + 1) 112 [vr 7 82, vi (nI r)] S = some (S, some (hOf S r)) := by
  have hR := hv.1.2.2
  obtain ⟨p, q, o, hp, hq, -, h1, h2, -⟩ := hv.2.2.2.2.2.1 r hr
  rw [gM_hourOf, b_ok (by omega) (by omega), b_ok (by omega) (by omega), if_neg]
  · rfl
  · rw [h1]; exact nI_ne0 (by omega) (by omega)
theorem gM_oldBy_ok (d : Nat) {S : am_H} (hv : VH S) {r : Nat} (hr : r < nR S) (x : Int32) : am_g (d + 1) 113 [vr 7 82, vi (nI r), vi x] S = some (S, some (oBy S r x)) := by
  have hR := hv.1.2.2
  obtain ⟨p, q, o, hp, hq, -, h1, h2, -⟩ := hv.2.2.2.2.2.1 r hr
  rw [gM_oldBy, b_ok (by omega) (by omega), b_ok (by omega) (by omega), if_neg]
  · rfl
  · rw [h2]; exact nI_ne0 (by omega) (by omega)
theorem nI_sub1 {c : Nat} (h : 1 ≤ c) : nI c - 1 = nI (c - 1) := by
  obtain ⟨k, rfl⟩ : ∃ k, c = k + 1 := ⟨c - 1, by omega⟩
  rw [nI_pred]; rfl
/-- the things that one has grow older -/
def oF (i T t : Nat) (x : Int32) (M : am_H) : am_H := va_up M 114 (fun j => if t ≤ j ∧ j < T then M 114 j + (if M 112 j = nI i then 144 * x else 0) else M 114 j)
theorem oF_end (i T : Nat) (x : Int32) (M : am_H) : oF i T T x M = M := by
  funext c j
  unfold oF va_up
  split
  · rename_i e; subst e
    rw [if_neg (by omega)]
  · rfl
theorem oF_step {i T t : Nat} (x : Int32) (M : am_H) (ht : t < T) : oF i T (t + 1) x (am_up M 114 t (M 114 t + (if M 112 t = nI i then 144 * x else 0))) = oF i T t x M := by
  funext c j
  unfold oF
  by_cases e : c = 114
  · subst e
    simp only [va_up, if_true, up_a]
    by_cases h1 : j = t
    · subst h1
      have a1 : ¬ (j + 1 ≤ j ∧ j < T) := by omega
      have a2 : j ≤ j ∧ j < T := by omega
      simp [a1, a2]
    · by_cases h2 : t ≤ j ∧ j < T
      · have a1 : t + 1 ≤ j ∧ j < T := by omega
        simp [a1, h2, h1]
      · have a1 : ¬ (t + 1 ≤ j ∧ j < T) := by omega
        simp [a1, h2, h1]
  · simp [va_up, e, up_a]
theorem goBy_loop (d : Nat) {i T c : Nat} (x : Int32) (hi : i < 4) (hT : T ≤ 5) (hc1 : 1 ≤ c) (hc2 : c ≤ 41) : ∀ (k n t : Nat) (M : am_H), t + k = T → k < n → M 95 0 = nI T → M 115 i = nI c →
    rM_goBy d n 26 [some (vr 7 82), some (vi (nI i)), some (vi x), some (vi (nI t))] M = some (am_up (oF i T t x M) 118 (41 * i + c - 1) (M 109 i), none) := by
  intro k
  induction k with
  | zero =>
    intro n t M htk hn h1 h2
    obtain ⟨n, rfl⟩ : ∃ m, n = m + 1 := ⟨n - 1, by omega⟩
    have ht : t = T := by omega
    subst ht
    rw [tM_goBy_26, h1, if_neg (nI_nlt (Nat.le_refl _) (by omega)), b_ok (by omega) (by omega), b_ok (by omega) (by omega), h2, show (41 : Int32) = nI 41 from rfl, pk_mul, nI_add, nI_sub1 (by omega), b_ok (by omega) (by omega), oF_end]
  | succ k ih =>
    intro n t M htk hn h1 h2
    obtain ⟨n, rfl⟩ : ∃ m, n = m + 1 := ⟨n - 1, by omega⟩
    have ht : t < T := by omega
    have ih' := ih n (t + 1) (am_up M 114 t (M 114 t + (if M 112 t = nI i then 144 * x else 0))) (by omega) (by omega) (by rw [up_n (by omega)]; exact h1) (by rw [up_n (by omega)]; exact h2)
    rw [oF_step x M ht, up_n (by omega)] at ih'
    rw [tM_goBy_26, h1, if_pos (nI_lt ht (by omega)), b_ok (by omega) (by omega), b_ok (by omega) (by omega), nI_1]
    by_cases e : M 112 t = nI i
    · rw [if_pos e, b_ok (by omega) (by omega)]
      rw [if_pos e] at ih'
      exact ih'
    · rw [if_neg e, b_ok (by omega) (by omega)]
      rw [if_neg e] at ih'
      exact ih'
/-- where the visit's end of a person stands -/
theorem vM_set {S S' : am_H} {i : Nat} {x : Int32} : ∀ {l : List K_V}, 1 ≤ cV i l → (∀ v ∈ l, cV v.1 l ≤ 41) → vM S l → (∀ j, S' 116 j = S 116 j) → (∀ j, S' 117 j = S 117 j) → (∀ j, S' 118 j = if j = 41 * i + cV i l - 1 then x else S 118 j) → vM S' (vSet i x l) := by
  intro l
  induction l with
  | nil => intro h; simp [cV] at h
  | cons v l ih =>
    intro hc hb hv h6 h7 h8
    obtain ⟨w, r, a, b⟩ := v
    obtain ⟨h1, h2, h3, h4⟩ := hv
    have hbw : cV w ((w, r, a, b) :: l) ≤ 41 := hb _ List.mem_cons_self
    unfold vSet
    by_cases e : w = i
    · subst e
      rw [if_pos rfl]
      have hcl : cV w ((w, r, a, b) :: l) = 1 + cV w l := by simp [cV]
      refine ⟨by rw [h6]; exact h1, by rw [h7]; exact h2, by rw [h8, if_pos (by omega)], ?_⟩
      refine vM_congr (S := S) ?_ h4
      intro c j q1 q2 ⟨w', m, g1, g2, g3⟩
      have : c = 116 ∨ c = 117 ∨ c = 118 := by omega
      rcases this with rfl | rfl | rfl
      · exact h6 j
      · exact h7 j
      · rw [h8, if_neg]
        intro q
        obtain ⟨v', hv', rfl⟩ := List.mem_map.mp g1
        have hb' := hb v' (List.mem_cons_of_mem _ hv')
        have hm : cV v'.1 l ≤ cV v'.1 ((w, r, a, b) :: l) := by simp [cV]
        by_cases e2 : v'.1 = w
        · rw [e2] at g2 g3; omega
        · have : v'.1 < w ∨ w < v'.1 := by omega
          rcases this with q' | q'
          · have : 41 * v'.1 + 41 ≤ 41 * w := by omega
            omega
          · have : 41 * w + 41 ≤ 41 * v'.1 := by omega
            omega
    · rw [if_neg e]
      have hcl : cV i ((w, r, a, b) :: l) = cV i l := by simp [cV, e]
      rw [hcl] at hc h8
      have hbl : ∀ v ∈ l, cV v.1 l ≤ 41 := fun v hv' => by
        have := hb v (List.mem_cons_of_mem _ hv')
        have hm : cV v.1 l ≤ cV v.1 ((w, r, a, b) :: l) := by simp [cV]
        omega
      refine ⟨by rw [vSet_c, h6]; exact h1, by rw [vSet_c, h7]; exact h2, ?_, ih hc hbl h4 h6 h7 h8⟩
      rw [vSet_c, h8, if_neg]
      · exact h3
      · intro q
        have hcw : cV w ((w, r, a, b) :: l) = 1 + cV w l := by simp [cV]
        have hci : cV i l ≤ 41 := by
          have : ∃ v ∈ l, v.1 = i := by
            have : ∀ l' : List K_V, 1 ≤ cV i l' → ∃ v ∈ l', v.1 = i := by
              intro l'
              induction l' with
              | nil => intro h; simp [cV] at h
              | cons y l' ih2 =>
                intro h
                obtain ⟨w2, rest⟩ := y
                by_cases e3 : w2 = i
                · exact ⟨_, List.mem_cons_self, e3⟩
                · simp [cV, e3] at h
                  obtain ⟨v, hv1, hv2⟩ := ih2 h
                  exact ⟨v, List.mem_cons_of_mem _ hv1, hv2⟩
            exact this l hc
          obtain ⟨v, hv1, hv2⟩ := this
          have := hbl v hv1
          rw [hv2] at this
          exact this
        have : w < i ∨ i < w := by omega
        rcases this with q' | q'
        · have : 41 * w + 41 ≤ 41 * i := by omega
          omega
        · have : 41 * i + 41 ≤ 41 * w := by omega
          omega
/-- the course's cells alone have changed -/
def frM (S S' : am_H) : Prop := ∀ c, ¬ (108 ≤ c ∧ c ≤ 118) → S' c = S c
theorem frM.rf (S : am_H) : frM S S := fun _ _ => rfl
theorem frM.tr {S S' S'' : am_H} (h : frM S S') (h' : frM S' S'') : frM S S'' := fun c hc => (h' c hc).trans (h c hc)
theorem frM.VH {S S' : am_H} (h : frM S S') (hv : VH S) : VH S' := VH_congr (fun c h1 h2 => h c (by omega)) hv
theorem frM.nP {S S' : am_H} (h : frM S S') : nP S' = nP S := by unfold nP; rw [h 92 (by omega)]
theorem frM.nT {S S' : am_H} (h : frM S S') : nT S' = nT S := by unfold nT; rw [h 95 (by omega)]
theorem frM.nR {S S' : am_H} (h : frM S S') : nR S' = nR S := by unfold nR; rw [h 84 (by omega)]
theorem frM.nD {S S' : am_H} (h : frM S S') : nD S' = nD S := by unfold nD; rw [h 88 (by omega)]
theorem VK.cv {S : am_H} {B A : Int} {n : Nat} {K : K_T} (h : VKg S B A n K) (hn : n ≤ 40) : ∀ v ∈ K.2, cV v.1 K.2 ≤ 41 := fun v hv => by
  obtain ⟨h1, -⟩ := h.2.2.2 v hv
  have := (h.1 v.1 h1).2.2.2.2
  omega
theorem gM_goBy_ok (d : Nat) {S : am_H} {K : K_T} {B A : Int} {n : Nat} (hv : VH S) (hR : RM S K) (hK : VKg S B A n K) (hn : n ≤ 40) {i : Nat} (hi : i < nP S) (x : Int32) :
    ∃ S', am_g (d + 2) 114 [vr 7 82, vi (nI i), vi x] S = some (S', none) ∧ RM S' (kBy S i x K) ∧ frM S S' := by
  have hP := hv.2.2.1.2.2
  have hT := hv.2.2.2.1
  obtain ⟨r1, r2, r3⟩ := hR
  obtain ⟨a0, a1, a2, a5⟩ := r1 i hi
  obtain ⟨⟨r, hr, hri⟩, -, -, hc1, hc2⟩ := hK.1 i hi
  have hR6 := hv.1.2.2
  have hrm : rmOf K i = r := by unfold rmOf; rw [hri, nI_rm (by omega)]
  have h1 : am_g (d + 2) 114 [vr 7 82, vi (nI i), vi x] S = rM_goBy (d + 1) 999999 26 [some (vr 7 82), some (vi (nI i)), some (vi x), some (vi 0)] (am_up (am_up S 109 i (S 109 i + x * hOf S r)) 110 i (S 110 i + x)) := by
    rw [gM_goBy, b_ok (by omega) (by omega), b_ok (by omega) (by omega), a0, hri, gM_hourOf_ok d hv hr, r1_ok, b_ok (by omega) (by omega), b_ok (by omega) (by omega), b_ok (by omega) (by omega)]
  have h2 := goBy_loop (d + 1) (i := i) (T := nT S) (c := cV i K.2) x (by omega) (by omega) hc1 (by omega) (nT S) 999999 0 (am_up (am_up S 109 i (S 109 i + x * hOf S r)) 110 i (S 110 i + x)) (by omega) (by omega) (by rw [up_n (by omega), up_n (by omega)]; exact hT.1) (by rw [up_n (by omega), up_n (by omega)]; exact a5)
  rw [h1]
  refine ⟨_, h2, ?_, ?_⟩
  · have hnP : ∀ M x y, nP (am_up (oF i (nT S) 0 x (am_up (am_up S 109 i y) 110 i M)) 118 (41 * i + cV i K.2 - 1) ((am_up (am_up S 109 i y) 110 i M) 109 i)) = nP S := fun M x y => by simp [nP, up_a, oF, va_up]
    have hnT : ∀ M x y, nT (am_up (oF i (nT S) 0 x (am_up (am_up S 109 i y) 110 i M)) 118 (41 * i + cV i K.2 - 1) ((am_up (am_up S 109 i y) 110 i M) 109 i)) = nT S := fun M x y => by simp [nT, up_a, oF, va_up]
    refine ⟨fun j hj => ?_, fun t ht => ?_, ?_⟩
    · rw [hnP] at hj
      obtain ⟨b0, b1, b2, b5⟩ := r1 j hj
      simp only [kBy, vSet_c, hrm]
      simp only [up_a, oF, va_up]
      simp only [b0, b5]
      refine ⟨by simp, ?_, ?_, by simp⟩
      · by_cases e : j = i
        · subst e; simp [a1]
        · simp [e, b1]
      · by_cases e : j = i
        · subst e; simp [a2]
        · simp [e, b2]
    · rw [hnT] at ht
      obtain ⟨b3, b4, b5, b6⟩ := r2 t ht
      simp only [kBy]
      simp only [up_a, oF, va_up]
      refine ⟨by simp [b3], by simp [b4], by simp [b5], ?_⟩
      by_cases e : K.1 4 t = nI i
      · simp [b4, b6, e, ht]
      · simp [b4, b6, e, ht]
    · have e0 : (kBy S i x K).2 = vSet i (K.1 1 i + x * hOf S r) K.2 := by simp [kBy, hrm]
      rw [e0]
      refine vM_set (S := S) hc1 (VK.cv hK hn) r3 (fun j => ?_) (fun j => ?_) (fun j => ?_)
      · simp [up_a, oF, va_up]
      · simp [up_a, oF, va_up]
      · simp [up_a, oF, va_up, a1]
  · intro c hc
    have e1 : ¬ c = 118 := by omega
    have e2 : ¬ c = 114 := by omega
    have e3 : ¬ c = 110 := by omega
    have e4 : ¬ c = 109 := by omega
    funext j
    simp [up_a, oF, va_up, e1, e2, e3, e4]
theorem gM_comeIn_ok (d : Nat) {S : am_H} {K : K_T} {B A : Int} {n : Nat} (hv : VH S) (hR : RM S K) (hK : VKg S B A n K) (hn : n < 40) {i : Nat} (hi : i < nP S) (x : Int32) :
    ∃ S', am_g (d + 1) 118 [vr 7 82, vi (nI i), vi x] S = some (S', none) ∧ RM S' (kIn i x K) ∧ frM S S' := by
  have hP := hv.2.2.1.2.2
  obtain ⟨r1, r2, r3⟩ := hR
  obtain ⟨a0, a1, a2, a5⟩ := r1 i hi
  obtain ⟨-, -, -, hc1, hc2⟩ := hK.1 i hi
  have h1 : am_g (d + 1) 118 [vr 7 82, vi (nI i), vi x] S = some (am_up (am_up (am_up (am_up (am_up S 108 i x) 116 (41 * i + cV i K.2) x) 117 (41 * i + cV i K.2) (S 109 i)) 118 (41 * i + cV i K.2) (S 109 i)) 115 i (nI (cV i K.2) + 1), none) := by
    rw [gM_comeIn, b_ok (by omega) (by omega), b_ok (by omega) (by omega), a5, show (41 : Int32) = nI 41 from rfl, pk_mul, nI_add, b_ok (by omega) (by omega), b_ok (by omega) (by omega), b_ok (by omega) (by omega), b_ok (by omega) (by omega), b_ok (by omega) (by omega), b_ok (by omega) (by omega), b_ok (by omega) (by omega), a5]
  refine ⟨_, h1, ⟨fun j hj => ?_, fun t ht => ?_, ?_⟩, ?_⟩
  · have hj : j < nP S := by simpa [nP, up_a] using hj
    obtain ⟨b0, b1, b2, b5⟩ := r1 j hj
    simp only [kIn, cV, up_a]
    by_cases e : j = i
    · subst e
      simp [a1, a2, nI_1, Nat.add_comm]
    · have e' : ¬ i = j := fun q => e q.symm
      simp [e, e', b0, b1, b2, b5]
  · have ht : t < nT S := by simpa [nT, up_a] using ht
    have := r2 t ht
    simpa [kIn, up_a] using this
  · refine ⟨by simp [up_a], by simp [up_a, a1], by simp [up_a, a1], vM_congr (S := S) ?_ r3⟩
    intro c j q1 q2 ⟨w', m, g1, g2, g3⟩
    obtain ⟨v', hv', rfl⟩ := List.mem_map.mp g1
    have hb' := VK.cv hK (by omega) v' hv'
    have hne : ¬ j = 41 * i + cV i K.2 := by
      intro q
      by_cases e2 : v'.1 = i
      · rw [e2] at g2 g3; omega
      · have : v'.1 < i ∨ i < v'.1 := by omega
        rcases this with q' | q'
        · have : 41 * v'.1 + 41 ≤ 41 * i := by omega
          omega
        · have : 41 * i + 41 ≤ 41 * v'.1 := by omega
          omega
    have c1 : ¬ c = 108 := by omega
    have c2 : ¬ c = 115 := by omega
    simp [up_a, hne, c1, c2]
  · intro c hc
    have e1 : ¬ c = 118 := by omega
    have e2 : ¬ c = 117 := by omega
    have e3 : ¬ c = 116 := by omega
    have e4 : ¬ c = 115 := by omega
    have e5 : ¬ c = 108 := by omega
    funext j
    simp [up_a, e1, e2, e3, e4, e5]
