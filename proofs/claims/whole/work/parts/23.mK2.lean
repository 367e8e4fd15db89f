theorem gM_takeUp_ok (d : Nat) {S : am_H} {K : K_T} {B A : Int} {n : Nat} (hv : VH S) (hR : RM S K) (hK : VKg S B A n K) {i t : Nat} (hi : i < nP S) (ht : t < nT S) :
    ∃ S', am_g (d + 2) 120 [vr 7 82, vi (nI i), vi (nI t)] S = some (S', some (yn (K.1 3 t = K.1 0 i ∧ ¬ K.1 1 i < K.1 5 t))) ∧ RM S' (kTk S i t K) ∧ frM S S' := by
  have hP := hv.2.2.1.2.2
  have hT := hv.2.2.2.1.2
  obtain ⟨r1, r2, r3⟩ := hR
  obtain ⟨a0, a1, a2, a5⟩ := r1 i hi
  obtain ⟨b3, b4, b5, b6⟩ := r2 t ht
  obtain ⟨⟨r, hr, hri⟩, -⟩ := hK.1 i hi
  have hR6 := hv.1.2.2
  have hrm : rmOf K i = r := by unfold rmOf; rw [hri, nI_rm (by omega)]
  rw [gM_takeUp, b_ok (by omega) (by omega), b_ok (by omega) (by omega), a0, b3]
  by_cases e1 : K.1 3 t = K.1 0 i
  · rw [if_pos e1, b_ok (by omega) (by omega), b_ok (by omega) (by omega), a1, b5]
    by_cases e2 : K.1 1 i < K.1 5 t
    · rw [if_pos e2]
      refine ⟨S, by simp [yn, e2], ?_, frM.rf S⟩
      unfold kTk
      rw [if_neg (fun q => q.2 e2)]
      exact ⟨r1, r2, r3⟩
    · rw [if_neg e2, b_ok (by omega) (by omega), b_ok (by omega) (by omega), b_ok (by omega) (by omega), b_ok (by omega) (by omega), a0, a1, b5, b6, hri, gM_oldBy_ok d hv hr, r1_ok, b_ok (by omega) (by omega), b_ok (by omega) (by omega), b_ok (by omega) (by omega)]
      generalize hS' : am_up (am_up (am_up S 114 t (K.1 6 t + oBy S r (K.1 1 i - K.1 5 t))) 111 t (-4)) 112 t (nI i) = S'
      have hfr : frM S S' := fun c hc => by rw [← hS', up_n (by omega), up_n (by omega), up_n (by omega)]
      refine ⟨S', by rw [← hri]; simp [yn, e1, e2], ?_, hfr⟩
      unfold kTk
      rw [if_pos ⟨e1, e2⟩, hrm]
      refine ⟨fun j hj => ?_, fun t' ht' => ?_, ?_⟩
      · rw [hfr.eP] at hj
        have := r1 j hj
        rw [← hS']
        simpa [up_a] using this
      · rw [hfr.eT] at ht'
        obtain ⟨c3, c4, c5, c6⟩ := r2 t' ht'
        rw [← hS']
        by_cases q : t' = t
        · subst q; simp [up_a, b5]
        · simp [up_a, q, c3, c4, c5, c6]
      · refine vM_congr (S := S) (fun c j q1 q2 _ => ?_) r3
        rw [← hS', up_n (by omega), up_n (by omega), up_n (by omega)]
  · rw [if_neg e1]
    refine ⟨S, by simp [yn, e1], ?_, frM.rf S⟩
    unfold kTk
    rw [if_neg (fun q => e1 q.1)]
    exact ⟨r1, r2, r3⟩
theorem gM_putDown_ok (d : Nat) {S : am_H} {K : K_T} (hv : VH S) (hR : RM S K) {i t : Nat} (hi : i < nP S) (ht : t < nT S) :
    ∃ S', am_g (d + 1) 121 [vr 7 82, vi (nI i), vi (nI t)] S = some (S', some (yn (K.1 4 t = nI i))) ∧ RM S' (kPt i t K) ∧ frM S S' := by
  have hP := hv.2.2.1.2.2
  have hT := hv.2.2.2.1.2
  obtain ⟨r1, r2, r3⟩ := hR
  obtain ⟨a0, a1, a2, a5⟩ := r1 i hi
  obtain ⟨b3, b4, b5, b6⟩ := r2 t ht
  rw [gM_putDown, b_ok (by omega) (by omega), b4]
  by_cases e1 : K.1 4 t = nI i
  · rw [if_pos e1, b_ok (by omega) (by omega), b_ok (by omega) (by omega), b_ok (by omega) (by omega), b_ok (by omega) (by omega), b_ok (by omega) (by omega), a0, a1]
    generalize hS' : am_up (am_up (am_up S 112 t (-4)) 111 t (K.1 0 i)) 113 t (K.1 1 i) = S'
    have hfr : frM S S' := fun c hc => by rw [← hS', up_n (by omega), up_n (by omega), up_n (by omega)]
    refine ⟨S', by simp [yn, e1], ?_, hfr⟩
    unfold kPt
    rw [if_pos e1]
    refine ⟨fun j hj => ?_, fun t' ht' => ?_, ?_⟩
    · rw [hfr.eP] at hj
      have := r1 j hj
      rw [← hS']
      simpa [up_a] using this
    · rw [hfr.eT] at ht'
      obtain ⟨c3, c4, c5, c6⟩ := r2 t' ht'
      rw [← hS']
      by_cases q : t' = t
      · subst q; simp [up_a, b6]
      · simp [up_a, q, c3, c4, c5, c6]
    · refine vM_congr (S := S) (fun c j q1 q2 _ => ?_) r3
      rw [← hS', up_n (by omega), up_n (by omega), up_n (by omega)]
  · rw [if_neg e1]
    refine ⟨S, by simp [yn, e1], ?_, frM.rf S⟩
    unfold kPt
    rw [if_neg e1]
    exact ⟨r1, r2, r3⟩
theorem nI_ne {a b : Nat} (h : a ≠ b) (ha : a < 2 ^ 31) (hb : b < 2 ^ 31) : ¬ nI a = nI b := fun q => h ((nI_eq ha hb).mp q)
theorem gM_doAct_ok (d : Nat) {S : am_H} {K : K_T} {n : Nat} (hv : VH S) (hR : RM S K) (hK : VK S n K) (hn : n < 40) {a : K_A} (ha : okA S a) :
    ∃ S' b, am_g (d + 4) 122 [vr 7 82, vi (nI a.1), vi (nI a.2.1), vi (nI a.2.2)] S = some (S', some b) ∧ RM S' (kAct S a K) ∧ frM S S' := by
  obtain ⟨k, i, w⟩ := a
  obtain ⟨hi, hk⟩ := ha
  dsimp only at hi hk ⊢
  rw [gM_doAct]
  rcases hk with ⟨rfl, h1, h2⟩ | ⟨rfl, h1⟩ | ⟨rfl, h1⟩ | ⟨rfl, h1⟩
  · obtain ⟨S', h3, h4, h5⟩ := gM_goBy_ok (d + 1) hv hR hK (by omega) hi (nI w)
    rw [if_pos rfl, h3, r0_ok]
    exact ⟨S', 1, rfl, h4, h5⟩
  · obtain ⟨S', h3, h4, h5⟩ := gM_goDoor_ok d hv hR hK hn hi h1
    rw [if_neg (nI_ne (by omega) (by omega) (by omega)), if_pos rfl, h3, r1_ok, if_pos yn_b]
    exact ⟨S', _, rfl, h4, h5⟩
  · obtain ⟨S', h3, h4, h5⟩ := gM_takeUp_ok (d + 1) hv hR hK hi h1
    rw [if_neg (nI_ne (by omega) (by omega) (by omega)), if_neg (nI_ne (by omega) (by omega) (by omega)), if_pos rfl, h3, r1_ok, if_pos yn_b]
    exact ⟨S', _, rfl, h4, h5⟩
  · obtain ⟨S', h3, h4, h5⟩ := gM_putDown_ok (d + 2) hv hR hi h1
    rw [if_neg (nI_ne (by omega) (by omega) (by omega)), if_neg (nI_ne (by omega) (by omega) (by omega)), if_neg (nI_ne (by omega) (by omega) (by omega)), h3, r1_ok, if_pos yn_b]
    exact ⟨S', _, rfl, h4, h5⟩
/-- the acts of a bank -/
def RAm (S : am_H) (b : Nat) (as : List K_A) : Prop := S 100 b = nI as.length ∧ ∀ (j : Nat) (a : K_A), as[j]? = some a → S 101 (40 * b + j) = nI a.1 ∧ S 102 (40 * b + j) = nI a.2.1 ∧ S 103 (40 * b + j) = nI a.2.2
theorem RAm_congr {S S' : am_H} {b : Nat} {as : List K_A} (h : ∀ c, 100 ≤ c → c ≤ 103 → S' c = S c) (hr : RAm S b as) : RAm S' b as := by
  unfold RAm at *
  rw [h 100 (by omega) (by omega), h 101 (by omega) (by omega), h 102 (by omega) (by omega), h 103 (by omega) (by omega)]
  exact hr
/-- the persons are set anew -/
theorem goAll_p (d : Nat) {S : am_H} (hv : VH S) : ∀ (k n i : Nat) (M : am_H), i + k = nP S → k < n → frM S M → (∀ j, j < i → M 108 j = S 93 j ∧ M 109 j = 0 ∧ M 110 j = S 94 j ∧ M 115 j = nI 1) → vM M (vIni S i) →
    ∃ M', rM_goAll (d + 1) n 3 [some (vr 7 82), some (vi (nI i))] M = rM_goAll (d + 1) (n - k - 1) 39 [some (vr 7 82), some (vi 0)] M' ∧ frM S M' ∧ (∀ j, j < nP S → M' 108 j = S 93 j ∧ M' 109 j = 0 ∧ M' 110 j = S 94 j ∧ M' 115 j = nI 1) ∧ vM M' (vIni S (nP S)) := by
  have hP := hv.2.2.1
  intro k
  induction k with
  | zero =>
    intro n i M hik hn hf h1 h2
    obtain ⟨n, rfl⟩ : ∃ m, n = m + 1 := ⟨n - 1, by omega⟩
    have e : i = nP S := by omega
    subst e
    refine ⟨M, ?_, hf, h1, h2⟩
    rw [tM_goAll_3, hf 92 (by omega), hP.1, if_neg (nI_nlt (Nat.le_refl _) (by omega))]
    rfl
  | succ k ih =>
    intro n i M hik hn hf h1 h2
    obtain ⟨n, rfl⟩ : ∃ m, n = m + 1 := ⟨n - 1, by omega⟩
    have hi : i < nP S := by omega
    rw [tM_goAll_3, hf 92 (by omega), hP.1, if_pos (nI_lt hi (by omega)), b_ok (by omega) (by omega), b_ok (by omega) (by omega), b_ok (by omega) (by omega), b_ok (by omega) (by omega), b_ok (by omega) (by omega), hf 93 (by omega), hf 94 (by omega)]
    generalize hM1 : am_up (am_up (am_up M 109 i 0) 110 i (S 94 i)) 115 i 0 = M1
    have hM5 : M1 115 i = nI 0 := by rw [← hM1]; simp [up_a, nI_0]
    rw [gM_comeIn_raw d (by omega) (by omega) hM5, r0_ok, nI_1]
    generalize hM2 : am_up (am_up (am_up (am_up (am_up M1 108 i (S 93 i)) 116 (41 * i + 0) (S 93 i)) 117 (41 * i + 0) (M1 109 i)) 118 (41 * i + 0) (M1 109 i)) 115 i (nI (0 + 1)) = M2
    have hM9 : M1 109 i = 0 := by rw [← hM1]; simp [up_a]
    have hf2 : frM S M2 := fun c hc => by
      rw [← hM2, up_n (by omega), up_n (by omega), up_n (by omega), up_n (by omega), up_n (by omega), ← hM1, up_n (by omega), up_n (by omega), up_n (by omega)]
      exact hf c hc
    obtain ⟨M', g1, g2⟩ := ih n (i + 1) M2 (by omega) (by omega) hf2 (fun j hj => by
      by_cases q : j = i
      · subst q
        rw [← hM2, ← hM1]
        simp [up_a]
      · have := h1 j (by omega)
        rw [← hM2, ← hM1]
        simpa [up_a, q] using this) ⟨by rw [← hM2, vIni_c]; simp [up_a], by rw [← hM2, vIni_c]; simp [up_a, hM9], by rw [← hM2, vIni_c]; simp [up_a, hM9], by
        refine vM_new (S := M) (i := i) (c := 0) (by rw [vIni_c]; simp) (fun v _ => by rw [vIni_c]; split <;> omega) (fun k j q1 q2 hne => ?_) (by omega) h2
        have c1 : ¬ k = 108 := by omega
        have c2 : ¬ k = 115 := by omega
        have c3 : ¬ k = 109 := by omega
        have c4 : ¬ k = 110 := by omega
        rw [← hM2, ← hM1]
        simp only [Nat.add_zero] at hne ⊢
        simp [up_a, hne, c1, c2, c3, c4]⟩
    refine ⟨M', ?_, g2⟩
    rw [g1]
    congr 1
    omega
/-- the things are set anew -/
theorem goAll_t (d : Nat) {S : am_H} (hv : VH S) : ∀ (k n t : Nat) (M : am_H), t + k = nT S → k < n → frM S M → (∀ j, j < t → M 111 j = S 96 j ∧ M 112 j = -4 ∧ M 113 j = 0 ∧ M 114 j = 0) →
    ∃ M', rM_goAll (d + 1) n 39 [some (vr 7 82), some (vi (nI t))] M = rM_goAll (d + 1) (n - k - 1) 73 [some (vr 7 82), some (vi 0)] M' ∧ frM S M' ∧ (∀ c, c ≠ 111 → c ≠ 112 → c ≠ 113 → c ≠ 114 → M' c = M c) ∧ (∀ j, j < nT S → M' 111 j = S 96 j ∧ M' 112 j = -4 ∧ M' 113 j = 0 ∧ M' 114 j = 0) := by
  have hT := hv.2.2.2.1
  intro k
  induction k with
  | zero =>
    intro n t M hik hn hf h1
    obtain ⟨n, rfl⟩ : ∃ m, n = m + 1 := ⟨n - 1, by omega⟩
    have e : t = nT S := by omega
    subst e
    refine ⟨M, ?_, hf, fun _ _ _ _ _ => rfl, h1⟩
    rw [tM_goAll_39, hf 95 (by omega), hT.1, if_neg (nI_nlt (Nat.le_refl _) (by omega))]
    rfl
  | succ k ih =>
    intro n t M hik hn hf h1
    obtain ⟨n, rfl⟩ : ∃ m, n = m + 1 := ⟨n - 1, by omega⟩
    have hi : t < nT S := by omega
    rw [tM_goAll_39, hf 95 (by omega), hT.1, if_pos (nI_lt hi (by omega)), b_ok (by omega) (by omega), b_ok (by omega) (by omega), b_ok (by omega) (by omega), b_ok (by omega) (by omega), b_ok (by omega) (by omega), hf 96 (by omega), nI_1]
    generalize hM1 : am_up (am_up (am_up (am_up M 111 t (S 96 t)) 112 t (-4)) 113 t 0) 114 t 0 = M1
    have hf1 : frM S M1 := fun c hc => by
      rw [← hM1, up_n (by omega), up_n (by omega), up_n (by omega), up_n (by omega)]
      exact hf c hc
    obtain ⟨M', g1, g2, g3, g4⟩ := ih n (t + 1) M1 (by omega) (by omega) hf1 (fun j hj => by
      by_cases q : j = t
      · subst q
        rw [← hM1]
        simp [up_a]
      · have := h1 j (by omega)
        rw [← hM1]
        simpa [up_a, q] using this)
    refine ⟨M', ?_, g2, fun c e1 e2 e3 e4 => ?_, g4⟩
    · rw [g1]
      congr 1
      omega
    · rw [g3 c e1 e2 e3 e4, ← hM1, up_n e4, up_n e3, up_n e2, up_n e1]
/-- the acts are done again -/
theorem goAll_a (d : Nat) {S : am_H} (hv : VH S) {as : List K_A} (hA : RAm S 0 as) (hok : ∀ a ∈ as, okA S a) (hl : as.length ≤ 40) : ∀ (k n j : Nat) (M : am_H) (K : K_T), j + k = as.length → k < n → frM S M → RM M K → VK S j K →
    ∃ M', rM_goAll (d + 4) n 73 [some (vr 7 82), some (vi (nI j))] M = some (M', none) ∧ frM S M' ∧ RM M' ((as.drop j).foldl (fun K a => kAct S a K) K) := by
  intro k
  induction k with
  | zero =>
    intro n j M K hik hn hf hR hK
    obtain ⟨n, rfl⟩ : ∃ m, n = m + 1 := ⟨n - 1, by omega⟩
    have e : j = as.length := by omega
    refine ⟨M, ?_, hf, ?_⟩
    · rw [tM_goAll_73, hf 100 (by omega), hA.1, if_neg (nI_nlt (by omega) (by omega))]
    · rw [List.drop_of_length_le (by omega)]
      exact hR
  | succ k ih =>
    intro n j M K hik hn hf hR hK
    obtain ⟨n, rfl⟩ : ∃ m, n = m + 1 := ⟨n - 1, by omega⟩
    have hj : j < as.length := by omega
    obtain ⟨b1, b2, b3⟩ := hA.2 j as[j] (List.getElem?_eq_getElem hj)
    simp only [Nat.mul_zero, Nat.zero_add] at b1 b2 b3
    have hoka : okA S as[j] := hok _ (List.getElem_mem hj)
    have hoka' : okA M as[j] := by
      unfold okA at *
      rw [hf.eP, hf.eD, hf.eT]
      exact hoka
    have hvM := hf.vh hv
    have hKM : VK M j K := VKg_congr hf.eP hf.eR hf.eT hK
    obtain ⟨M1, b, g1, g2, g3⟩ := gM_doAct_ok d hvM hR hKM (by omega) hoka'
    rw [tM_goAll_73, hf 100 (by omega), hA.1, if_pos (nI_lt hj (by omega)), b_ok (by omega) (by omega), b_ok (by omega) (by omega), b_ok (by omega) (by omega), hf 101 (by omega), hf 102 (by omega), hf 103 (by omega), b1, b2, b3, g1, r1_ok, nI_1]
    rw [kAct_congr (fun c h1 h2 => hf c (by omega))] at g2
    obtain ⟨M', e1, e2, e3⟩ := ih n (j + 1) M1 (kAct S as[j] K) (by omega) (by omega) (hf.tr g3) g2 (VK_act hv hK hoka (by omega))
    refine ⟨M', e1, e2, ?_⟩
    rw [List.drop_eq_getElem_cons hj]
    exact e3
/-- ALL ACTS DONE AGAIN -/
theorem gM_goAll_ok (d : Nat) {S : am_H} (hv : VH S) {as : List K_A} (hA : RAm S 0 as) (hok : ∀ a ∈ as, okA S a) (hl : as.length ≤ 40) :
    ∃ S', am_g (d + 5) 123 [vr 7 82] S = some (S', none) ∧ frM S S' ∧ RM S' (kAll S as) := by
  have hP := hv.2.2.1
  have hT := hv.2.2.2.1
  obtain ⟨M1, g1, g2, g3, g4⟩ := goAll_p (d + 3) hv (nP S) 999999 0 S (by omega) (by omega) (frM.rf S) (fun j hj => by omega) trivial
  obtain ⟨M2, e1, e2, e3, e4⟩ := goAll_t (d + 3) hv (nT S) (999999 - nP S - 1) 0 M1 (by omega) (by omega) g2 (fun j hj => by omega)
  have hR : RM M2 (kIni S) := by
    refine ⟨fun j hj => ?_, fun t ht => ?_, ?_⟩
    · rw [e2.eP] at hj
      obtain ⟨b0, b1, b2, b5⟩ := g3 j hj
      rw [e3 108 (by omega) (by omega) (by omega) (by omega), e3 109 (by omega) (by omega) (by omega) (by omega), e3 110 (by omega) (by omega) (by omega) (by omega), e3 115 (by omega) (by omega) (by omega) (by omega)]
      refine ⟨b0, b1, b2, ?_⟩
      show M1 115 j = nI (cV j (vIni S (nP S)))
      rw [vIni_c, if_pos hj]
      exact b5
    · rw [e2.eT] at ht
      exact e4 t ht
    · refine vM_congr (S := M1) (fun c j q1 q2 _ => ?_) g4
      rw [e3 c (by omega) (by omega) (by omega) (by omega)]
  obtain ⟨M3, f1, f2, f3⟩ := goAll_a d hv hA hok hl as.length (999999 - nP S - 1 - nT S - 1) 0 M2 (kIni S) (by omega) (by omega) e2 hR (VK_ini hv)
  refine ⟨M3, ?_, f2, ?_⟩
  · rw [gM_goAll, ← nI_0]
    rw [← nI_0] at g1 e1
    rw [g1, e1, f1]
  · exact f3
