/-! THE REFERENCE'S COURSE -/
def vM (S : am_H) : List K_V → Prop
  | [] => True
  | (w, r, a, b) :: l => S 116 (41 * w + cV w l) = r ∧ S 117 (41 * w + cV w l) = a ∧ S 118 (41 * w + cV w l) = b ∧ vM S l
/-- the reference's cells say the course K -/
def RM (S : am_H) (K : K_T) : Prop :=
  (∀ i, i < nP S → S 108 i = K.1 0 i ∧ S 109 i = K.1 1 i ∧ S 110 i = K.1 2 i ∧ S 115 i = nI (cV i K.2)) ∧ (∀ t, t < nT S → S 111 t = K.1 3 t ∧ S 112 t = K.1 4 t ∧ S 113 t = K.1 5 t ∧ S 114 t = K.1 6 t) ∧ vM S K.2
theorem vM_congr {S S' : am_H} : ∀ {l : List K_V}, (∀ c j, 116 ≤ c → c ≤ 118 → (∃ w m, w ∈ l.map (fun v => v.1) ∧ m < cV w l ∧ j = 41 * w + m) → S' c j = S c j) → vM S l → vM S' l := by
  intro l
  induction l with
  | nil => intro _ _; trivial
  | cons v l ih =>
    intro h hv
    obtain ⟨w, r, a, b⟩ := v
    obtain ⟨h1, h2, h3, h4⟩ := hv
    have hw : ∃ w' m, w' ∈ ((w, r, a, b) :: l).map (fun v => v.1) ∧ m < cV w' ((w, r, a, b) :: l) ∧ 41 * w + cV w l = 41 * w' + m := ⟨w, cV w l, by simp, by simp [cV], rfl⟩
    refine ⟨by rw [h 116 _ (by omega) (by omega) hw]; exact h1, by rw [h 117 _ (by omega) (by omega) hw]; exact h2, by rw [h 118 _ (by omega) (by omega) hw]; exact h3, ih (fun c j hc1 hc2 hj => h c j hc1 hc2 ?_) h4⟩
    obtain ⟨w', m, q1, q2, q3⟩ := hj
    exact ⟨w', m, by simp at q1 ⊢; exact Or.inr q1, by simp only [cV]; omega, q3⟩
theorem gM_hourOf_ok (d : Nat) {S : am_H} (hv : VH S) {r : Nat} (hr : r < nR S) : am_g (d + 1) 112 [vr 7 82, vi (nI r)] S = some (S, some (hOf S r)) := by
  have hR := hv.1.2.2
  obtain ⟨p, q, o, hp, hq, -, h1, h2, -⟩ := hv.2.2.2.2.2.1 r hr
  rw [gM_hourOf, b_ok (by omega) (by omega), b_ok (by omega) (by omega), if_neg]
  · rfl
  · rw [h1]; exact nI_ne0 (by omega) (by omega)
theorem gM_oldBy_ok (d : Nat) {S : am_H} (hv : VH S) {r : Nat} (hr : r < nR S) (x : Int32) : am_g (d + 1) 113 [vr 7 82, vi (nI r), vi x] S = some (S, some (oBy S r x)) := by
  have hR := hv.1.2.2
  obtain ⟨p, q, o, hp, hq, -, h1, h2, -⟩ := hv.2.2.2.2.2.1 r hr
  rw [gM_oldBy, b_ok (by omega) (by omega), b_ok (by omega) (by omega), if_neg]
  · rfl
  · rw [h2]; exact nI_ne0 (by omega) (by omega)
theorem nI_sub1 {c : Nat} (h : 1 ≤ c) : nI c - 1 = nI (c - 1) := by
  obtain ⟨k, rfl⟩ : ∃ k, c = k + 1 := ⟨c - 1, by omega⟩
  rw [nI_pred]; rfl
/-- the things that one has grow older -/
def oF (i T t : Nat) (x : Int32) (M : am_H) : am_H := va_up M 114 (fun j => if t ≤ j ∧ j < T then M 114 j + (if M 112 j = nI i then 144 * x else 0) else M 114 j)
theorem oF_end (i T : Nat) (x : Int32) (M : am_H) : oF i T T x M = M := by
  funext c j
  unfold oF va_up
  split
  · rename_i e; subst e
    dsimp only
    rw [if_neg (by omega)]
  · rfl
theorem oF_step {i T t : Nat} (x : Int32) (M : am_H) (ht : t < T) : oF i T (t + 1) x (am_up M 114 t (M 114 t + (if M 112 t = nI i then 144 * x else 0))) = oF i T t x M := by
  funext c j
  unfold oF
  by_cases e : c = 114
  · subst e
    simp only [va_up, if_true, up_a, true_and]
    by_cases h1 : j = t
    · subst h1
      rw [if_neg (show ¬ (j + 1 ≤ j ∧ j < T) by omega), if_pos (show j ≤ j ∧ j < T by omega), if_pos rfl]
    · rw [if_neg h1]
      by_cases h2 : t ≤ j ∧ j < T
      · rw [if_pos (show t + 1 ≤ j ∧ j < T by omega), if_pos h2]; simp
      · rw [if_neg (show ¬ (t + 1 ≤ j ∧ j < T) by omega), if_neg h2]
  · simp [va_up, e, up_a]
theorem goBy_loop (d : Nat) {i T c : Nat} (x : Int32) (hi : i < 4) (hT : T ≤ 5) (hc1 : 1 ≤ c) (hc2 : c ≤ 41) : ∀ (k n t : Nat) (M : am_H), t + k = T → k < n → M 95 0 = nI T → M 115 i = nI c →
    rM_goBy d n 26 [some (vr 7 82), some (vi (nI i)), some (vi x), some (vi (nI t))] M = some (am_up (oF i T t x M) 118 (41 * i + c - 1) (M 109 i), none) := by
  intro k
  induction k with
  | zero =>
    intro n t M htk hn h1 h2
    obtain ⟨n, rfl⟩ : ∃ m, n = m + 1 := ⟨n - 1, by omega⟩
    have ht : t = T := by omega
    subst ht
    rw [tM_goBy_26, h1, if_neg (nI_nlt (Nat.le_refl _) (by omega)), b_ok (by omega) (by omega), b_ok (by omega) (by omega), h2, show (41 : Int32) = nI 41 from rfl, pk_mul, nI_add, nI_sub1 (by omega), b_ok (by omega) (by omega), oF_end]
  | succ k ih =>
    intro n t M htk hn h1 h2
    obtain ⟨n, rfl⟩ : ∃ m, n = m + 1 := ⟨n - 1, by omega⟩
    have ht : t < T := by omega
    have ih' := ih n (t + 1) (am_up M 114 t (M 114 t + (if M 112 t = nI i then 144 * x else 0))) (by omega) (by omega) (by rw [up_n (by omega)]; exact h1) (by rw [up_n (by omega)]; exact h2)
    rw [oF_step x M ht, up_n (by omega)] at ih'
    rw [tM_goBy_26, h1, if_pos (nI_lt ht (by omega)), b_ok (by omega) (by omega), b_ok (by omega) (by omega), nI_1]
    by_cases e : M 112 t = nI i
    · rw [if_pos e, b_ok (by omega) (by omega)]
      rw [if_pos e] at ih'
      exact ih'
    · rw [if_neg e, b_ok (by omega) (by omega)]
      rw [if_neg e] at ih'
      exact ih'
/-- where the visit's end of a person stands -/
theorem vM_set {S S' : am_H} {i : Nat} {x : Int32} : ∀ {l : List K_V}, 1 ≤ cV i l → (∀ v ∈ l, cV v.1 l ≤ 41) → vM S l → (∀ j, S' 116 j = S 116 j) → (∀ j, S' 117 j = S 117 j) → (∀ j, S' 118 j = if j = 41 * i + cV i l - 1 then x else S 118 j) → vM S' (vSet i x l) := by
  intro l
  induction l with
  | nil => intro h; simp [cV] at h
  | cons v l ih =>
    intro hc hb hv h6 h7 h8
    obtain ⟨w, r, a, b⟩ := v
    obtain ⟨h1, h2, h3, h4⟩ := hv
    have hbw : cV w ((w, r, a, b) :: l) ≤ 41 := hb _ List.mem_cons_self
    unfold vSet
    by_cases e : w = i
    · subst e
      rw [if_pos rfl]
      have hcl : cV w ((w, r, a, b) :: l) = 1 + cV w l := by simp [cV]
      refine ⟨by rw [h6]; exact h1, by rw [h7]; exact h2, by rw [h8, if_pos (by omega)], ?_⟩
      refine vM_congr (S := S) ?_ h4
      intro c j q1 q2 ⟨w', m, g1, g2, g3⟩
      have : c = 116 ∨ c = 117 ∨ c = 118 := by omega
      rcases this with rfl | rfl | rfl
      · exact h6 j
      · exact h7 j
      · rw [h8, if_neg]
        intro q
        obtain ⟨v', hv', rfl⟩ := List.mem_map.mp g1
        have hb' := hb v' (List.mem_cons_of_mem _ hv')
        have hm : cV v'.1 l ≤ cV v'.1 ((w, r, a, b) :: l) := by simp [cV]
        by_cases e2 : v'.1 = w
        · rw [e2] at g2 g3; omega
        · have : v'.1 < w ∨ w < v'.1 := by omega
          rcases this with q' | q'
          · have : 41 * v'.1 + 41 ≤ 41 * w := by omega
            omega
          · have : 41 * w + 41 ≤ 41 * v'.1 := by omega
            omega
    · rw [if_neg e]
      have hcl : cV i ((w, r, a, b) :: l) = cV i l := by simp [cV, e]
      rw [hcl] at hc h8
      have hbl : ∀ v ∈ l, cV v.1 l ≤ 41 := fun v hv' => by
        have := hb v (List.mem_cons_of_mem _ hv')
        have hm : cV v.1 l ≤ cV v.1 ((w, r, a, b) :: l) := by simp [cV]
        omega
      refine ⟨by rw [vSet_c, h6]; exact h1, by rw [vSet_c, h7]; exact h2, ?_, ih hc hbl h4 h6 h7 h8⟩
      rw [vSet_c, h8, if_neg]
      · exact h3
      · intro q
        have hcw : cV w ((w, r, a, b) :: l) = 1 + cV w l := by simp [cV]
        have hci : cV i l ≤ 41 := by
          have : ∃ v ∈ l, v.1 = i := by
            have : ∀ l' : List K_V, 1 ≤ cV i l' → ∃ v ∈ l', v.1 = i := by
              intro l'
              induction l' with
              | nil => intro h; simp [cV] at h
              | cons y l' ih2 =>
                intro h
                obtain ⟨w2, rest⟩ := y
                by_cases e3 : w2 = i
                · exact ⟨_, List.mem_cons_self, e3⟩
                · simp [cV, e3] at h
                  obtain ⟨v, hv1, hv2⟩ := ih2 h
                  exact ⟨v, List.mem_cons_of_mem _ hv1, hv2⟩
            exact this l hc
          obtain ⟨v, hv1, hv2⟩ := this
          have := hbl v hv1
          rw [hv2] at this
          exact this
        have : w < i ∨ i < w := by omega
        rcases this with q' | q'
        · have : 41 * w + 41 ≤ 41 * i := by omega
          omega
        · have : 41 * i + 41 ≤ 41 * w := by omega
          omega
/-- the course's cells alone have changed -/
def frM (S S' : am_H) : Prop := ∀ c, ¬ (108 ≤ c ∧ c ≤ 118) → S' c = S c
theorem frM.rf (S : am_H) : frM S S := fun _ _ => rfl
theorem frM.tr {S S' S'' : am_H} (h : frM S S') (h' : frM S' S'') : frM S S'' := fun c hc => (h' c hc).trans (h c hc)
theorem frM.vh {S S' : am_H} (h : frM S S') (hv : VH S) : VH S' := VH_congr (fun c h1 h2 => h c (by omega)) hv
theorem frM.eP {S S' : am_H} (h : frM S S') : nP S' = nP S := by unfold nP; rw [h 92 (by omega)]
theorem frM.eT {S S' : am_H} (h : frM S S') : nT S' = nT S := by unfold nT; rw [h 95 (by omega)]
theorem frM.eR {S S' : am_H} (h : frM S S') : nR S' = nR S := by unfold nR; rw [h 84 (by omega)]
theorem frM.eD {S S' : am_H} (h : frM S S') : nD S' = nD S := by unfold nD; rw [h 88 (by omega)]
theorem VK.cv {S : am_H} {B A : Int} {n : Nat} {K : K_T} (h : VKg S B A n K) (hn : n ≤ 40) : ∀ v ∈ K.2, cV v.1 K.2 ≤ 41 := fun v hv => by
  obtain ⟨h1, -⟩ := h.2.2.2 v hv
  have := (h.1 v.1 h1).2.2.2.2
  omega
theorem gM_goBy_ok (d : Nat) {S : am_H} {K : K_T} {B A : Int} {n : Nat} (hv : VH S) (hR : RM S K) (hK : VKg S B A n K) (hn : n ≤ 40) {i : Nat} (hi : i < nP S) (x : Int32) :
    ∃ S', am_g (d + 2) 114 [vr 7 82, vi (nI i), vi x] S = some (S', none) ∧ RM S' (kBy S i x K) ∧ frM S S' := by
  have hP := hv.2.2.1.2.2
  have hT := hv.2.2.2.1
  obtain ⟨r1, r2, r3⟩ := hR
  obtain ⟨a0, a1, a2, a5⟩ := r1 i hi
  obtain ⟨⟨r, hr, hri⟩, -, -, hc1, hc2⟩ := hK.1 i hi
  have hR6 := hv.1.2.2
  have hrm : rmOf K i = r := by unfold rmOf; rw [hri, nI_rm (by omega)]
  have h1 : am_g (d + 2) 114 [vr 7 82, vi (nI i), vi x] S = rM_goBy (d + 1) 999999 26 [some (vr 7 82), some (vi (nI i)), some (vi x), some (vi 0)] (am_up (am_up S 109 i (S 109 i + x * hOf S r)) 110 i (S 110 i + x)) := by
    rw [gM_goBy, b_ok (by omega) (by omega), b_ok (by omega) (by omega), a0, hri, gM_hourOf_ok d hv hr, r1_ok, b_ok (by omega) (by omega), b_ok (by omega) (by omega), b_ok (by omega) (by omega)]
  have h2 := goBy_loop (d + 1) (i := i) (T := nT S) (c := cV i K.2) x (by omega) (by omega) hc1 (by omega) (nT S) 999999 0 (am_up (am_up S 109 i (S 109 i + x * hOf S r)) 110 i (S 110 i + x)) (by omega) (by omega) (by rw [up_n (by omega), up_n (by omega)]; exact hT.1) (by rw [up_n (by omega), up_n (by omega)]; exact a5)
  rw [nI_0] at h2
  rw [h1, h2]
  generalize hS' : am_up (oF i (nT S) 0 x (am_up (am_up S 109 i (S 109 i + x * hOf S r)) 110 i (S 110 i + x))) 118 (41 * i + cV i K.2 - 1) ((am_up (am_up S 109 i (S 109 i + x * hOf S r)) 110 i (S 110 i + x)) 109 i) = S'
  have f109 : ∀ j, S' 109 j = if j = i then S 109 i + x * hOf S r else S 109 j := fun j => by rw [← hS']; simp [up_a, oF, va_up]
  have f110 : ∀ j, S' 110 j = if j = i then S 110 i + x else S 110 j := fun j => by rw [← hS']; simp [up_a, oF, va_up]
  have f114 : ∀ j, j < nT S → S' 114 j = S 114 j + (if S 112 j = nI i then 144 * x else 0) := fun j hj => by rw [← hS']; simp [up_a, oF, va_up, hj]
  have f118 : ∀ j, S' 118 j = if j = 41 * i + cV i K.2 - 1 then S 109 i + x * hOf S r else S 118 j := fun j => by rw [← hS']; simp [up_a, oF, va_up]
  have fo : ∀ c, c ≠ 109 → c ≠ 110 → c ≠ 114 → c ≠ 118 → S' c = S c := fun c e1 e2 e3 e4 => by
    funext j
    rw [← hS']; simp [up_a, oF, va_up, e1, e2, e3, e4]
  have hfr : frM S S' := fun c hc => fo c (by omega) (by omega) (by omega) (by omega)
  refine ⟨S', rfl, ⟨fun j hj => ?_, fun t ht => ?_, ?_⟩, hfr⟩
  · rw [hfr.eP] at hj
    obtain ⟨b0, b1, b2, b5⟩ := r1 j hj
    rw [fo 108 (by omega) (by omega) (by omega) (by omega), fo 115 (by omega) (by omega) (by omega) (by omega), f109, f110]
    refine ⟨by simp [kBy, b0], ?_, ?_, by simp [kBy, vSet_c, b5]⟩
    · by_cases e : j = i
      · subst e; simp [kBy, a1, hrm]
      · simp [kBy, e, b1]
    · by_cases e : j = i
      · subst e; simp [kBy, a2]
      · simp [kBy, e, b2]
  · rw [hfr.eT] at ht
    obtain ⟨b3, b4, b5, b6⟩ := r2 t ht
    rw [fo 111 (by omega) (by omega) (by omega) (by omega), fo 112 (by omega) (by omega) (by omega) (by omega), fo 113 (by omega) (by omega) (by omega) (by omega), f114 t ht]
    refine ⟨by simp [kBy, b3], by simp [kBy, b4], by simp [kBy, b5], ?_⟩
    by_cases e : K.1 4 t = nI i
    · simp [kBy, b4, b6, e]
    · simp [kBy, b4, b6, e]
  · have e0 : (kBy S i x K).2 = vSet i (K.1 1 i + x * hOf S r) K.2 := by simp [kBy, hrm]
    rw [e0]
    refine vM_set (S := S) hc1 (VK.cv hK hn) r3 (fun j => ?_) (fun j => ?_) (fun j => ?_)
    · rw [fo 116 (by omega) (by omega) (by omega) (by omega)]
    · rw [fo 117 (by omega) (by omega) (by omega) (by omega)]
    · rw [f118, a1]
theorem gM_comeIn_raw (d : Nat) {S : am_H} {i c : Nat} (hi : i < 4) (hc : c ≤ 40) (h5 : S 115 i = nI c) (x : Int32) : am_g (d + 1) 118 [vr 7 82, vi (nI i), vi x] S = some (am_up (am_up (am_up (am_up (am_up S 108 i x) 116 (41 * i + c) x) 117 (41 * i + c) (S 109 i)) 118 (41 * i + c) (S 109 i)) 115 i (nI (c + 1)), none) := by
  rw [gM_comeIn, b_ok (by omega) (by omega), b_ok (by omega) (by omega), h5, show (41 : Int32) = nI 41 from rfl, pk_mul, nI_add, b_ok (by omega) (by omega), b_ok (by omega) (by omega), b_ok (by omega) (by omega), b_ok (by omega) (by omega), b_ok (by omega) (by omega), b_ok (by omega) (by omega), b_ok (by omega) (by omega), h5, nI_1]
theorem vM_new {S S' : am_H} {i c : Nat} {l : List K_V} (hc : cV i l = c) (hcv : ∀ v ∈ l, cV v.1 l ≤ 41) (h : ∀ k j, 116 ≤ k → k ≤ 118 → j ≠ 41 * i + c → S' k j = S k j) (hci : c ≤ 40) (hv : vM S l) : vM S' l := by
  refine vM_congr (S := S) ?_ hv
  intro k j q1 q2 ⟨w', m, g1, g2, g3⟩
  obtain ⟨v', hv', rfl⟩ := List.mem_map.mp g1
  have hb' := hcv v' hv'
  refine h k j q1 q2 ?_
  intro q
  by_cases e2 : v'.1 = i
  · rw [e2] at g2 g3; omega
  · have : v'.1 < i ∨ i < v'.1 := by omega
    rcases this with q' | q'
    · have : 41 * v'.1 + 41 ≤ 41 * i := by omega
      omega
    · have : 41 * i + 41 ≤ 41 * v'.1 := by omega
      omega
theorem gM_comeIn_ok (d : Nat) {S : am_H} {K : K_T} (hP : nP S ≤ 4) (hR : RM S K) {i : Nat} (hi : i < nP S) (hci : cV i K.2 ≤ 40) (hcv : ∀ v ∈ K.2, cV v.1 K.2 ≤ 41) (x : Int32) :
    ∃ S', am_g (d + 1) 118 [vr 7 82, vi (nI i), vi x] S = some (S', none) ∧ RM S' (kIn i x K) ∧ frM S S' := by
  obtain ⟨r1, r2, r3⟩ := hR
  obtain ⟨a0, a1, a2, a5⟩ := r1 i hi
  refine ⟨_, gM_comeIn_raw d (by omega) hci a5 x, ⟨fun j hj => ?_, fun t ht => ?_, ?_⟩, ?_⟩
  · have hj : j < nP S := by simpa [nP, up_a] using hj
    obtain ⟨b0, b1, b2, b5⟩ := r1 j hj
    simp only [kIn, cV, up_a]
    by_cases e : j = i
    · subst e
      simp [a1, a2, Nat.add_comm]
    · have e' : ¬ i = j := fun q => e q.symm
      simp [e, e', b0, b1, b2, b5]
  · have ht : t < nT S := by simpa [nT, up_a] using ht
    have := r2 t ht
    simpa [kIn, up_a] using this
  · refine ⟨by simp [up_a], by simp [up_a, a1], by simp [up_a, a1], vM_new rfl hcv (fun k j q1 q2 hne => ?_) hci r3⟩
    have c1 : ¬ k = 108 := by omega
    have c2 : ¬ k = 115 := by omega
    simp [up_a, hne, c1, c2]
  · intro c hc
    have e1 : ¬ c = 118 := by omega
    have e2 : ¬ c = 117 := by omega
    have e3 : ¬ c = 116 := by omega
    have e4 : ¬ c = 115 := by omega
    have e5 : ¬ c = 108 := by omega
    funext j
    simp [up_a, e1, e2, e3, e4, e5]
theorem gM_isBeside_ok (d : Nat) {S : am_H} (hv : VH S) {e : Nat} (he : e < nD S) (r : Int32) : am_g (d + 1) 115 [vr 7 82, vi (nI e), vi r] S = some (S, some (yn (bes S e r))) := by
  have hD := hv.2.1.2
  rw [gM_isBeside, b_ok (by omega) (by omega), b_ok (by omega) (by omega)]
  unfold yn
  by_cases h1 : S 89 e = r
  · simp [h1]
  · by_cases h2 : S 90 e = r
    · simp [h2]
    · simp [h1, h2]
theorem gM_leadFrom_ok (d : Nat) {S : am_H} (hv : VH S) {e : Nat} (he : e < nD S) (r : Int32) : am_g (d + 1) 116 [vr 7 82, vi (nI e), vi r] S = some (S, some (led S e r)) := by
  have hD := hv.2.1.2
  rw [gM_leadFrom, b_ok (by omega) (by omega), b_ok (by omega) (by omega), b_ok (by omega) (by omega)]
  unfold led
  by_cases h1 : S 89 e = r <;> simp [h1]
theorem gM_beyond_ok (d : Nat) {S : am_H} (hv : VH S) {e : Nat} (he : e < nD S) (r : Int32) : am_g (d + 1) 117 [vr 7 82, vi (nI e), vi r] S = some (S, some (byd S e r)) := by
  have hD := hv.2.1.2
  rw [gM_beyond, b_ok (by omega) (by omega), b_ok (by omega) (by omega), b_ok (by omega) (by omega)]
  unfold byd
  by_cases h1 : S 89 e = r <;> simp [h1]
theorem VKg_congr {S S' : am_H} {B A : Int} {n : Nat} {K : K_T} (h1 : nP S' = nP S) (h2 : nR S' = nR S) (h3 : nT S' = nT S) (h : VKg S B A n K) : VKg S' B A n K := by
  unfold VKg at *
  rw [h1, h2, h3]
  exact h
theorem frM.led {S S' : am_H} (h : frM S S') (e : Nat) (r : Int32) : led S' e r = led S e r := by
  show (if S' 89 e = r then S' 91 e else -(S' 91 e)) = (if S 89 e = r then S 91 e else -(S 91 e))
  rw [h 89 (by omega), h 91 (by omega)]
theorem frM.byd {S S' : am_H} (h : frM S S') (e : Nat) (r : Int32) : byd S' e r = byd S e r := by
  show (if S' 89 e = r then S' 90 e else S' 89 e) = (if S 89 e = r then S 90 e else S 89 e)
  rw [h 89 (by omega), h 90 (by omega)]
/-- what the house's cells alone decide -/
theorem kAct_congr {S S' : am_H} (h : ∀ c, 84 ≤ c → c ≤ 99 → S' c = S c) (a : K_A) (K : K_T) : kAct S' a K = kAct S a K := by
  have e85 := h 85 (by omega) (by omega)
  have e86 := h 86 (by omega) (by omega)
  have e89 := h 89 (by omega) (by omega)
  have e90 := h 90 (by omega) (by omega)
  have e91 := h 91 (by omega) (by omega)
  have e99 := h 99 (by omega) (by omega)
  have hb : ∀ i x K, kBy S' i x K = kBy S i x K := fun i x K => by
    have : hOf S' (rmOf K i) = hOf S (rmOf K i) := by unfold hOf; rw [e85, e86]
    unfold kBy; rw [this]
  have hdo : ∀ i d K, kDo S' i d K = kDo S i d K := fun i d K => by
    unfold kDo led byd; rw [e89, e90, e91]
  obtain ⟨k, i, w⟩ := a
  match k with
  | 0 => exact hb i _ K
  | 1 =>
    show kGo S' i w K = kGo S i w K
    unfold kGo bes
    rw [hb, hdo, e89, e90, e99]
  | 2 =>
    show kTk S' i w K = kTk S i w K
    unfold kTk oBy
    rw [e85, e86]
  | k + 3 => rfl
theorem gM_goDoor_ok (d : Nat) {S : am_H} {K : K_T} {B A : Int} {n : Nat} (hv : VH S) (hR : RM S K) (hK : VKg S B A n K) (hn : n < 40) {i e : Nat} (hi : i < nP S) (he : e < nD S) :
    ∃ S', am_g (d + 3) 119 [vr 7 82, vi (nI i), vi (nI e)] S = some (S', some (yn (bes S e (K.1 0 i)))) ∧ RM S' (kGo S i e K) ∧ frM S S' := by
  have hP := hv.2.2.1.2.2
  have a0 := (hR.1 i hi).1
  rw [gM_goDoor, b_ok (by omega) (by omega), a0, gM_isBeside_ok (d + 1) hv he, r1_ok]
  by_cases hb : bes S e (K.1 0 i)
  · rw [if_neg (by rw [yn_0]; exact fun q => q hb)]
    obtain ⟨S1, h1, hR1, hf1⟩ := gM_goBy_ok d hv hR hK (by omega) hi (S 99 0)
    have hv1 := hf1.vh hv
    have hi1 : i < nP S1 := by rw [hf1.eP]; exact hi
    have he1 : e < nD S1 := by rw [hf1.eD]; exact he
    have hk0 : (kBy S i (S 99 0) K).1 0 i = K.1 0 i := by simp [kBy]
    have c0 : S1 108 i = K.1 0 i := (hR1.1 i hi1).1.trans hk0
    have c1 : S1 109 i = (kBy S i (S 99 0) K).1 1 i := (hR1.1 i hi1).2.1
    rw [h1, r0_ok, b_ok (by omega) (by omega), b_ok (by omega) (by omega), c0, gM_leadFrom_ok (d + 1) hv1 he1, r1_ok, b_ok (by omega) (by omega), hf1.led, c1]
    generalize hS2 : am_up S1 109 i ((kBy S i (S 99 0) K).1 1 i + 12 * led S e (K.1 0 i)) = S2
    have hf2 : frM S1 S2 := fun c hc => by rw [← hS2]; exact up_n (by omega)
    have hv2 := hf2.vh hv1
    have hf12 := hf1.tr hf2
    rw [gM_beyond_ok (d + 1) hv2 (by rw [hf12.eD]; exact he), r1_ok, hf12.byd]
    have hR2 : RM S2 (am_up (kBy S i (S 99 0) K).1 1 i ((kBy S i (S 99 0) K).1 1 i + 12 * led S e (K.1 0 i)), (kBy S i (S 99 0) K).2) := by
      refine ⟨fun j hj => ?_, fun t ht => ?_, ?_⟩
      · rw [hf2.eP] at hj
        obtain ⟨b0, b1, b2, b5⟩ := hR1.1 j hj
        rw [← hS2]
        by_cases q : j = i
        · subst q; simp [up_a, b0, b2, b5]
        · simp [up_a, q, b0, b1, b2, b5]
      · rw [hf2.eT] at ht
        have := hR1.2.1 t ht
        rw [← hS2]
        simpa [up_a] using this
      · refine vM_congr (S := S1) (fun c j q1 q2 _ => ?_) hR1.2.2
        rw [← hS2, up_n (by omega)]
    have hcv : ∀ v ∈ (kBy S i (S 99 0) K).2, cV v.1 (kBy S i (S 99 0) K).2 ≤ 41 := by
      intro v hv'
      show cV v.1 (vSet i _ K.2) ≤ 41
      rw [vSet_c]
      obtain ⟨v', hm, q1, -⟩ := vSet_m _ _ _ _ hv'
      rw [q1]
      exact VK.cv hK (by omega) v' hm
    have hci : cV i (kBy S i (S 99 0) K).2 ≤ 40 := by
      show cV i (vSet i _ K.2) ≤ 40
      rw [vSet_c]
      have := (hK.1 i hi).2.2.2.2
      omega
    obtain ⟨S3, h3, hR3, hf3⟩ := gM_comeIn_ok (d + 1) (by rw [hf12.eP]; exact hP) hR2 (i := i) (by rw [hf12.eP]; exact hi) hci hcv (byd S e (K.1 0 i))
    rw [h3, r0_ok]
    refine ⟨S3, by simp [yn, hb], ?_, hf12.tr hf3⟩
    unfold kGo kDo
    rw [if_pos hb, hk0]
    exact hR3
  · rw [if_pos (by rw [yn_0]; exact hb)]
    exact ⟨S, by simp [yn, hb], by unfold kGo; rw [if_neg hb]; exact hR, frM.rf S⟩
