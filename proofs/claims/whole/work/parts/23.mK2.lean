theorem gM_takeUp_ok (d : Nat) {S : am_H} {K : K_T} {B A : Int} {n : Nat} (hv : VH S) (hR : RM S K) (hK : VKg S B A n K) {i t : Nat} (hi : i < nP S) (ht : t < nT S) :
    ∃ S', am_g (d + 2) 120 [vr 7 82, vi (nI i), vi (nI t)] S = some (S', some (yn (K.1 3 t = K.1 0 i ∧ ¬ K.1 1 i < K.1 5 t))) ∧ RM S' (kTk S i t K) ∧ frM S S' := by
  have hP := hv.2.2.1.2.2
  have hT := hv.2.2.2.1.2
  obtain ⟨r1, r2, r3⟩ := hR
  obtain ⟨a0, a1, a2, a5⟩ := r1 i hi
  obtain ⟨b3, b4, b5, b6⟩ := r2 t ht
  obtain ⟨⟨r, hr, hri⟩, -⟩ := hK.1 i hi
  have hR6 := hv.1.2.2
  have hrm : rmOf K i = r := by unfold rmOf; rw [hri, nI_rm (by omega)]
  rw [gM_takeUp, b_ok (by omega) (by omega), b_ok (by omega) (by omega), a0, b3]
  by_cases e1 : K.1 3 t = K.1 0 i
  · rw [if_pos e1, b_ok (by omega) (by omega), b_ok (by omega) (by omega), a1, b5]
    by_cases e2 : K.1 1 i < K.1 5 t
    · rw [if_pos e2]
      refine ⟨S, by simp [yn, e2], ?_, frM.rf S⟩
      unfold kTk
      rw [if_neg (fun q => q.2 e2)]
      exact ⟨r1, r2, r3⟩
    · rw [if_neg e2, b_ok (by omega) (by omega), b_ok (by omega) (by omega), b_ok (by omega) (by omega), b_ok (by omega) (by omega), a0, a1, b5, b6, hri, gM_oldBy_ok d hv hr, r1_ok, b_ok (by omega) (by omega), b_ok (by omega) (by omega), b_ok (by omega) (by omega)]
      generalize hS' : am_up (am_up (am_up S 114 t (K.1 6 t + oBy S r (K.1 1 i - K.1 5 t))) 111 t (-4)) 112 t (nI i) = S'
      have hfr : frM S S' := fun c hc => by rw [← hS', up_n (by omega), up_n (by omega), up_n (by omega)]
      refine ⟨S', by rw [← hri]; simp [yn, e1, e2], ?_, hfr⟩
      unfold kTk
      rw [if_pos ⟨e1, e2⟩, hrm]
      refine ⟨fun j hj => ?_, fun t' ht' => ?_, ?_⟩
      · rw [hfr.eP] at hj
        have := r1 j hj
        rw [← hS']
        simpa [up_a] using this
      · rw [hfr.eT] at ht'
        obtain ⟨c3, c4, c5, c6⟩ := r2 t' ht'
        rw [← hS']
        by_cases q : t' = t
        · subst q; simp [up_a, b5]
        · simp [up_a, q, c3, c4, c5, c6]
      · refine vM_congr (S := S) (fun c j q1 q2 _ => ?_) r3
        rw [← hS', up_n (by omega), up_n (by omega), up_n (by omega)]
  · rw [if_neg e1]
    refine ⟨S, by simp [yn, e1], ?_, frM.rf S⟩
    unfold kTk
    rw [if_neg (fun q => e1 q.1)]
    exact ⟨r1, r2, r3⟩
theorem gM_putDown_ok (d : Nat) {S : am_H} {K : K_T} (hv : VH S) (hR : RM S K) {i t : Nat} (hi : i < nP S) (ht : t < nT S) :
    ∃ S', am_g (d + 1) 121 [vr 7 82, vi (nI i), vi (nI t)] S = some (S', some (yn (K.1 4 t = nI i))) ∧ RM S' (kPt i t K) ∧ frM S S' := by
  have hP := hv.2.2.1.2.2
  have hT := hv.2.2.2.1.2
  obtain ⟨r1, r2, r3⟩ := hR
  obtain ⟨a0, a1, a2, a5⟩ := r1 i hi
  obtain ⟨b3, b4, b5, b6⟩ := r2 t ht
  rw [gM_putDown, b_ok (by omega) (by omega), b4]
  by_cases e1 : K.1 4 t = nI i
  · rw [if_pos e1, b_ok (by omega) (by omega), b_ok (by omega) (by omega), b_ok (by omega) (by omega), b_ok (by omega) (by omega), b_ok (by omega) (by omega), a0, a1]
    generalize hS' : am_up (am_up (am_up S 112 t (-4)) 111 t (K.1 0 i)) 113 t (K.1 1 i) = S'
    have hfr : frM S S' := fun c hc => by rw [← hS', up_n (by omega), up_n (by omega), up_n (by omega)]
    refine ⟨S', by simp [yn, e1], ?_, hfr⟩
    unfold kPt
    rw [if_pos e1]
    refine ⟨fun j hj => ?_, fun t' ht' => ?_, ?_⟩
    · rw [hfr.eP] at hj
      have := r1 j hj
      rw [← hS']
      simpa [up_a] using this
    · rw [hfr.eT] at ht'
      obtain ⟨c3, c4, c5, c6⟩ := r2 t' ht'
      rw [← hS']
      by_cases q : t' = t
      · subst q; simp [up_a, b6]
      · simp [up_a, q, c3, c4, c5, c6]
    · refine vM_congr (S := S) (fun c j q1 q2 _ => ?_) r3
      rw [← hS', up_n (by omega), up_n (by omega), up_n (by omega)]
  · rw [if_neg e1]
    refine ⟨S, by simp [yn, e1], ?_, frM.rf S⟩
    unfold kPt
    rw [if_neg e1]
    exact ⟨r1, r2, r3⟩
theorem nI_ne {a b : Nat} (h : a ≠ b) (ha : a < 2 ^ 31) (hb : b < 2 ^ 31) : ¬ nI a = nI b := fun q => h ((nI_eq ha hb).mp q)
theorem gM_doAct_ok (d : Nat) {S : am_H} {K : K_T} {n : Nat} (hv : VH S) (hR : RM S K) (hK : VK S n K) (hn : n < 40) {a : K_A} (ha : okA S a) :
    ∃ S' b, am_g (d + 4) 122 [vr 7 82, vi (nI a.1), vi (nI a.2.1), vi (nI a.2.2)] S = some (S', some b) ∧ RM S' (kAct S a K) ∧ frM S S' := by
  obtain ⟨k, i, w⟩ := a
  obtain ⟨hi, hk⟩ := ha
  dsimp only at hi hk ⊢
  rw [gM_doAct]
  rcases hk with ⟨rfl, h1, h2⟩ | ⟨rfl, h1⟩ | ⟨rfl, h1⟩ | ⟨rfl, h1⟩
  · obtain ⟨S', h3, h4, h5⟩ := gM_goBy_ok (d + 1) hv hR hK (by omega) hi (nI w)
    rw [if_pos rfl, h3, r0_ok]
    exact ⟨S', 1, rfl, h4, h5⟩
  · obtain ⟨S', h3, h4, h5⟩ := gM_goDoor_ok d hv hR hK hn hi h1
    rw [if_neg (nI_ne (by omega) (by omega) (by omega)), if_pos rfl, h3, r1_ok, if_pos yn_b]
    exact ⟨S', _, rfl, h4, h5⟩
  · obtain ⟨S', h3, h4, h5⟩ := gM_takeUp_ok (d + 1) hv hR hK hi h1
    rw [if_neg (nI_ne (by omega) (by omega) (by omega)), if_neg (nI_ne (by omega) (by omega) (by omega)), if_pos rfl, h3, r1_ok, if_pos yn_b]
    exact ⟨S', _, rfl, h4, h5⟩
  · obtain ⟨S', h3, h4, h5⟩ := gM_putDown_ok (d + 2) hv hR hi h1
    rw [if_neg (nI_ne (by omega) (by omega) (by omega)), if_neg (nI_ne (by omega) (by omega) (by omega)), if_neg (nI_ne (by omega) (by omega) (by omega)), h3, r1_ok, if_pos yn_b]
    exact ⟨S', _, rfl, h4, h5⟩
/-- the acts of a bank -/
def RAm (S : am_H) (b : Nat) (as : List K_A) : Prop := S 100 b = nI as.length ∧ ∀ (j : Nat) (a : K_A), as[j]? = some a → S 101 (40 * b + j) = nI a.1 ∧ S 102 (40 * b + j) = nI a.2.1 ∧ S 103 (40 * b + j) = nI a.2.2
theorem RAm_congr {S S' : am_H} {b : Nat} {as : List K_A} (h : ∀ c, 100 ≤ c → c ≤ 103 → S' c = S c) (hr : RAm S b as) : RAm S' b as := by
  unfold RAm at *
  rw [h 100 (by omega) (by omega), h 101 (by omega) (by omega), h 102 (by omega) (by omega), h 103 (by omega) (by omega)]
  exact hr
/-- the persons are set anew -/
theorem goAll_p (d : Nat) {S : am_H} (hv : VH S) : ∀ (k n i : Nat) (M : am_H), i + k = nP S → k < n → frM S M → (∀ j, j < i → M 108 j = S 93 j ∧ M 109 j = 0 ∧ M 110 j = S 94 j ∧ M 115 j = nI 1) → vM M (vIni S i) →
    ∃ M', rM_goAll (d + 1) n 3 [some (vr 7 82), some (vi (nI i))] M = rM_goAll (d + 1) (n - k - 1) 39 [some (vr 7 82), some (vi 0)] M' ∧ frM S M' ∧ (∀ j, j < nP S → M' 108 j = S 93 j ∧ M' 109 j = 0 ∧ M' 110 j = S 94 j ∧ M' 115 j = nI 1) ∧ vM M' (vIni S (nP S)) := by
  have hP := hv.2.2.1
  intro k
  induction k with
  | zero =>
    intro n i M hik hn hf h1 h2
    obtain ⟨n, rfl⟩ : ∃ m, n = m + 1 := ⟨n - 1, by omega⟩
    have e : i = nP S := by omega
    subst e
    refine ⟨M, ?_, hf, h1, h2⟩
    rw [tM_goAll_3, hf 92 (by omega), hP.1, if_neg (nI_nlt (Nat.le_refl _) (by omega))]
    rfl
  | succ k ih =>
    intro n i M hik hn hf h1 h2
    obtain ⟨n, rfl⟩ : ∃ m, n = m + 1 := ⟨n - 1, by omega⟩
    have hi : i < nP S := by omega
    rw [tM_goAll_3, hf 92 (by omega), hP.1, if_pos (nI_lt hi (by omega)), b_ok (by omega) (by omega), b_ok (by omega) (by omega), b_ok (by omega) (by omega), b_ok (by omega) (by omega), b_ok (by omega) (by omega), hf 93 (by omega), hf 94 (by omega)]
    generalize hM1 : am_up (am_up (am_up M 109 i 0) 110 i (S 94 i)) 115 i 0 = M1
    have hM5 : M1 115 i = nI 0 := by rw [← hM1]; simp [up_a, nI_0]
    rw [gM_comeIn_raw d (by omega) (by omega) hM5, r0_ok, nI_1]
    generalize hM2 : am_up (am_up (am_up (am_up (am_up M1 108 i (S 93 i)) 116 (41 * i + 0) (S 93 i)) 117 (41 * i + 0) (M1 109 i)) 118 (41 * i + 0) (M1 109 i)) 115 i (nI (0 + 1)) = M2
    have hM9 : M1 109 i = 0 := by rw [← hM1]; simp [up_a]
    have hf2 : frM S M2 := fun c hc => by
      rw [← hM2, up_n (by omega), up_n (by omega), up_n (by omega), up_n (by omega), up_n (by omega), ← hM1, up_n (by omega), up_n (by omega), up_n (by omega)]
      exact hf c hc
    obtain ⟨M', g1, g2⟩ := ih n (i + 1) M2 (by omega) (by omega) hf2 (fun j hj => by
      by_cases q : j = i
      · subst q
        rw [← hM2, ← hM1]
        simp [up_a]
      · have := h1 j (by omega)
        rw [← hM2, ← hM1]
        simpa [up_a, q] using this) ⟨by rw [← hM2, vIni_c]; simp [up_a], by rw [← hM2, vIni_c]; simp [up_a, hM9], by rw [← hM2, vIni_c]; simp [up_a, hM9], by
        refine vM_new (S := M) (i := i) (c := 0) (by rw [vIni_c]; simp) (fun v _ => by rw [vIni_c]; split <;> omega) (fun k j q1 q2 hne => ?_) (by omega) h2
        have c1 : ¬ k = 108 := by omega
        have c2 : ¬ k = 115 := by omega
        have c3 : ¬ k = 109 := by omega
        have c4 : ¬ k = 110 := by omega
        rw [← hM2, ← hM1]
        simp only [Nat.add_zero] at hne ⊢
        simp [up_a, hne, c1, c2, c3, c4]⟩
    refine ⟨M', ?_, g2⟩
    rw [g1]
    congr 1
    omega
