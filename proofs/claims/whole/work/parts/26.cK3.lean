theorem vLa_ini (S : am_H) (i : Nat) : ∀ n, i < n → vLa i (vIni S n) = i := by
  intro n
  induction n with
  | zero => intro h; omega
  | succ n ih =>
    intro h
    unfold vIni vLa
    by_cases e : n = i
    · simp [e, vIni_l]
    · simp [e]
      exact ih (by omega)
theorem begin_p (d : Nat) {k o : Nat} {h1 S : am_H} {mr : Int32} (hv : VH S) (e : EH k o h1 S) : ∀ (m n i : Nat) (M : am_H), i + m = nP S → m < n → frC k h1 M → M k 14 = nI i → (∀ j, j < i → M (k + 1) j = S 93 j ∧ M (k + 2) j = 0 ∧ M (k + 3) j = S 94 j ∧ M (k + 4) j = nI j) → vC k M (vIni S i) →
    ∃ M', rK_begin (d + 1) n 12 [some (vr 1 k), some (vr 2 o), some (vi mr), some (vi (nI i))] M = rK_begin (d + 1) (n - m - 1) 44 [some (vr 1 k), some (vr 2 o), some (vi mr), some (vi 0)] M' ∧ frC k h1 M' ∧ M' k 14 = nI (nP S) ∧ (∀ j, j < nP S → M' (k + 1) j = S 93 j ∧ M' (k + 2) j = 0 ∧ M' (k + 3) j = S 94 j ∧ M' (k + 4) j = nI j) ∧ vC k M' (vIni S (nP S)) := by
  have hP := hv.2.2.1
  obtain ⟨e1, e2, e3⟩ := e.1
  intro m
  induction m with
  | zero =>
    intro n i M hik hn hf h14 h1 h2
    obtain ⟨n, rfl⟩ : ∃ m, n = m + 1 := ⟨n - 1, by omega⟩
    have q : i = nP S := by omega
    subst q
    refine ⟨M, ?_, hf, h14, h1, h2⟩
    have eM := hf.eh e
    rw [tK_begin_12, eM.o, eM.2.1.2.1, if_neg (nI_nlt (Nat.le_refl _) (by omega))]
    rfl
  | succ m ih =>
    intro n i M hik hn hf h14 h1 h2
    obtain ⟨n, rfl⟩ : ∃ m, n = m + 1 := ⟨n - 1, by omega⟩
    have hi : i < nP S := by omega
    have eM := hf.eh e
    obtain ⟨q9, q10⟩ := eM.2.2.2.2.1 i hi
    rw [tK_begin_12]
    simp (disch := omega) only [up_n]
    rw [eM.o, eM.2.1.2.1, if_pos (nI_lt hi (by omega))]
    simp (disch := omega) only [b_ok, up_n, nI_1]
    rw [q9, q10]
    generalize hM1 : am_up (am_up M (k + 2) i 0) (k + 3) i (S 94 i) = M1
    have hM14 : M1 k 14 = nI i := by rw [← hM1, up_n (by omega), up_n (by omega)]; exact h14
    rw [gK_enter_raw d (by omega) (by omega) hM14, r0_ok]
    generalize hM2 : am_up (am_up (am_up (am_up (am_up (am_up (am_up M1 (k + 1) i (S 93 i)) (k + 9) i (nI i)) (k + 10) i (S 93 i)) (k + 11) i (M1 (k + 2) i)) (k + 12) i (M1 (k + 2) i)) (k + 4) i (nI i)) k 14 (nI (i + 1)) = M2
    have hM12 : M1 (k + 2) i = 0 := by rw [← hM1, up_n (by omega), up_s]
    have hf1 : frC k M M1 := ⟨fun c hc => by rw [← hM1, up_n (by omega), up_n (by omega)], fun j _ => by rw [← hM1, up_n (by omega), up_n (by omega)]⟩
    have hf2 := enter_fr hM2
    obtain ⟨M', g1, g2⟩ := ih n (i + 1) M2 (by omega) (by omega) ((hf.tr hf1).tr hf2) (by rw [← hM2, up_s]) (fun j hj => by
      by_cases q : j = i
      · subst q
        rw [← hM2, ← hM1]
        simp [up_a]
      · have := h1 j (by omega)
        rw [← hM2, ← hM1]
        simpa [up_a, q] using this) ⟨by rw [← hM2, vIni_l]; simp [up_a], by rw [← hM2, vIni_l]; simp [up_a], by rw [← hM2, vIni_l]; simp [up_a, hM12], by rw [← hM2, vIni_l]; simp [up_a, hM12], by
        refine vC_congr (h := M) (fun c j q1 q2 q3 => ?_) h2
        rw [vIni_l] at q3
        have c1 : ¬ j = i := by omega
        have c2 : ¬ c = k := by omega
        have c3 : ¬ c = k + 4 := by omega
        have c4 : ¬ c = k + 1 := by omega
        have c5 : ¬ c = k + 2 := by omega
        have c6 : ¬ c = k + 3 := by omega
        rw [← hM2, ← hM1]
        simp [up_a, c1, c2, c3, c4]⟩
    refine ⟨M', ?_, g2⟩
    rw [g1]
    congr 1
    omega
theorem begin_t (d : Nat) {k o : Nat} {h1 S : am_H} {mr : Int32} (hv : VH S) (e : EH k o h1 S) : ∀ (m n t : Nat) (M : am_H), t + m = nT S → m < n → frC k h1 M → (∀ j, j < t → M (k + 5) j = S 96 j ∧ M (k + 6) j = -4 ∧ M (k + 7) j = 0 ∧ M (k + 8) j = 0) →
    ∃ M', rK_begin d n 44 [some (vr 1 k), some (vr 2 o), some (vi mr), some (vi (nI t))] M = some (M', none) ∧ frC k h1 M' ∧ (∀ c, ¬ (k + 5 ≤ c ∧ c ≤ k + 8) → M' c = M c) ∧ (∀ j, j < nT S → M' (k + 5) j = S 96 j ∧ M' (k + 6) j = -4 ∧ M' (k + 7) j = 0 ∧ M' (k + 8) j = 0) := by
  have hT := hv.2.2.2.1
  obtain ⟨e1, e2, e3⟩ := e.1
  intro m
  induction m with
  | zero =>
    intro n t M hik hn hf h1
    obtain ⟨n, rfl⟩ : ∃ m, n = m + 1 := ⟨n - 1, by omega⟩
    have q : t = nT S := by omega
    subst q
    have eM := hf.eh e
    refine ⟨M, ?_, hf, fun _ _ => rfl, h1⟩
    rw [tK_begin_44, eM.o, eM.2.1.2.2.1, if_neg (nI_nlt (Nat.le_refl _) (by omega))]
  | succ m ih =>
    intro n t M hik hn hf h1
    obtain ⟨n, rfl⟩ : ∃ m, n = m + 1 := ⟨n - 1, by omega⟩
    have ht : t < nT S := by omega
    have eM := hf.eh e
    rw [tK_begin_44, eM.o, eM.2.1.2.2.1, if_pos (nI_lt ht (by omega))]
    simp (disch := omega) only [b_ok, nI_1]
    rw [eM.2.2.2.2.2 t ht]
    generalize hM1 : am_up (am_up (am_up (am_up M (k + 5) t (S 96 t)) (k + 6) t (-4)) (k + 7) t 0) (k + 8) t 0 = M1
    have ho : ∀ c, ¬ (k + 5 ≤ c ∧ c ≤ k + 8) → M1 c = M c := fun c hc => by rw [← hM1, up_n (by omega), up_n (by omega), up_n (by omega), up_n (by omega)]
    have hf1 : frC k M M1 := ⟨fun c hc => ho c (by omega), fun j _ => by rw [ho k (by omega)]⟩
    obtain ⟨M', g1, g2, g3, g4⟩ := ih n (t + 1) M1 (by omega) (by omega) (hf.tr hf1) (fun j hj => by
      by_cases q : j = t
      · subst q
        rw [← hM1]
        simp [up_a]
      · have := h1 j (by omega)
        rw [← hM1]
        simpa [up_a, q] using this)
    exact ⟨M', g1, g2, fun c hc => by rw [g3 c hc, ho c hc], g4⟩
theorem gK_begin_ok (d : Nat) {k o : Nat} {h h1 S : am_H} {mr : Int32} (hv : VH S) (hh : am_up (am_up (am_up h k 0 (nI o)) k 1 mr) k 14 0 = h1) (e : EH k o h1 S) :
    ∃ h', am_g (d + 2) 2 [vr 1 k, vr 2 o, vi mr] h = some (h', none) ∧ RC k h' S (kIni S) ∧ frC k h1 h' := by
  have hP := hv.2.2.1
  have hT := hv.2.2.2.1
  obtain ⟨M1, g1, g2, g3, g4, g5⟩ := begin_p d (mr := mr) hv e (nP S) 999999 0 h1 (by omega) (by omega) (frC.rf k h1) (by rw [← hh, up_s, nI_0]) (fun j hj => by omega) trivial
  obtain ⟨M2, f1, f2, f3, f4⟩ := begin_t (d + 1) (mr := mr) hv e (nT S) (999999 - nP S - 1) 0 M1 (by omega) (by omega) g2 (fun j hj => by omega)
  rw [nI_0] at g1 f1
  refine ⟨M2, ?_, ⟨fun j hj => ?_, fun t ht => ?_, ?_, ?_⟩, f2⟩
  · rw [gK_begin, hh, g1, f1]
  · obtain ⟨b1, b2, b3, b4⟩ := g4 j hj
    rw [f3 (k + 1) (by omega), f3 (k + 2) (by omega), f3 (k + 3) (by omega), f3 (k + 4) (by omega)]
    refine ⟨b1, b2, b3, ?_⟩
    show M1 (k + 4) j = nI (vLa j (vIni S (nP S)))
    rw [vLa_ini S j _ hj]
    exact b4
  · exact f4 t ht
  · rw [f3 k (by omega), g3]
    show nI (nP S) = nI (vIni S (nP S)).length
    rw [vIni_l]
  · exact vC_congr (h := M1) (fun c j q1 q2 q3 => by rw [f3 c (by omega)]) g5
