theorem gK_enter_raw (d : Nat) {k i V : Nat} {h : am_H} (hi : i < 4) (hV : V < 44) (h14 : h k 14 = nI V) (x : Int32) : am_g (d + 1) 9 [vr 1 k, vi (nI i), vi x] h =
    some (am_up (am_up (am_up (am_up (am_up (am_up (am_up h (k + 1) i x) (k + 9) V (nI i)) (k + 10) V x) (k + 11) V (h (k + 2) i)) (k + 12) V (h (k + 2) i)) (k + 4) i (nI V)) k 14 (nI (V + 1)), none) := by
  have hlt : nI V < 44 := nI_lt (b := 44) hV (by omega)
  rw [gK_enter]
  simp (disch := omega) only [up_n, h14, b_ok, nI_1]
  rw [if_pos hlt]
/-- a new visit -/
theorem enter_rc {k i : Nat} {h S h' : am_H} {K : K_T} {x : Int32} (hR : RC k h S K) (hh : am_up (am_up (am_up (am_up (am_up (am_up (am_up h (k + 1) i x) (k + 9) K.2.length (nI i)) (k + 10) K.2.length x) (k + 11) K.2.length (h (k + 2) i)) (k + 12) K.2.length (h (k + 2) i)) (k + 4) i (nI K.2.length)) k 14 (nI (K.2.length + 1)) = h') (hi : i < nP S) : RC k h' S (kIn i x K) := by
  obtain ⟨r1, r2, r3, r4⟩ := hR
  obtain ⟨a1, a2, a3, a4⟩ := r1 i hi
  refine ⟨fun j hj => ?_, fun t ht => ?_, ?_, ?_⟩
  · obtain ⟨b1, b2, b3, b4⟩ := r1 j hj
    rw [← hh]
    by_cases q : j = i
    · subst q; simp [up_a, kIn, vLa, a2, a3]
    · have q' : ¬ i = j := fun z => q z.symm
      simp [up_a, kIn, vLa, q, q', b1, b2, b3, b4]
  · have := r2 t ht
    rw [← hh]
    simpa [up_a, kIn] using this
  · rw [← hh]; simp [up_a, kIn]
  · rw [← hh]
    refine ⟨by simp [up_a], by simp [up_a], by simp [up_a, a2], by simp [up_a, a2], vC_congr (h := h) (fun c j q1 q2 q3 => ?_) r4⟩
    have c1 : ¬ j = K.2.length := by omega
    have c2 : ¬ c = k := by omega
    have c3 : ¬ c = k + 4 := by omega
    have c4 : ¬ c = k + 1 := by omega
    simp [up_a, c1, c2, c3, c4]
theorem enter_fr {k i V : Nat} {h h' : am_H} {x y z u v w : Int32} (hh : am_up (am_up (am_up (am_up (am_up (am_up (am_up h (k + 1) i x) (k + 9) V y) (k + 10) V x) (k + 11) V z) (k + 12) V u) (k + 4) i v) k 14 w = h') : frC k h h' := by
  refine ⟨fun c hc => ?_, fun j hj => ?_⟩
  · rw [← hh, up_n (by omega), up_n (by omega), up_n (by omega), up_n (by omega), up_n (by omega), up_n (by omega), up_n (by omega)]
  · rw [← hh]
    simp [up_a, hj]
theorem gK_cross_ok (d : Nat) {k o : Nat} {h S : am_H} {K : K_T} {B A : Int} {n : Nat} (hv : VH S) (e : EH k o h S) (hR : RC k h S K) (hK : VKg S B A n K) (hn : n < 40) {i x : Nat} (hi : i < nP S) (hx : x < nD S) :
    ∃ h', am_g (d + 3) 8 [vr 1 k, vi (nI i), vi (nI x)] h = some (h', none) ∧ RC k h' S (kDo S i x (kBy S i (S 99 0) K)) ∧ frC k h h' := by
  have hP := hv.2.2.1.2.2
  have hD := hv.2.1.2
  have hlen := hK.2.2.1
  obtain ⟨h1, g1, hR1, hf1⟩ := gK_pass_ok d hv e hR hK (by omega) hi (S 99 0)
  have e1 := hf1.eh e
  obtain ⟨e11, e12, e13⟩ := e1.1
  have hk0 : (kBy S i (S 99 0) K).1 0 i = K.1 0 i := by simp [kBy]
  obtain ⟨c1, c2, c3, c4⟩ := hR1.1 i hi
  rw [gK_cross, e.o, e.2.1.2.2.2, g1, r0_ok, b_ok (by omega) (by omega), b_ok (by omega) (by omega), e1.o, gH_leadTicks_ok (d + 1) e1.2.2.2.1 hD hx, r1_ok, b_ok (by omega) (by omega), b_ok (by omega) (by omega), c1, c2]
  generalize hH2 : am_up h1 (k + 2) i ((kBy S i (S 99 0) K).1 1 i + 12 * led S x ((kBy S i (S 99 0) K).1 0 i)) = h2
  have hf2 : frC k h1 h2 := ⟨fun c hc => by rw [← hH2, up_n (by omega)], fun j _ => by rw [← hH2, up_n (by omega)]⟩
  have e2 := hf2.eh e1
  have d1 : h2 (k + 1) i = (kBy S i (S 99 0) K).1 0 i := by rw [← hH2, up_n (by omega)]; exact c1
  rw [e2.o, d1, gH_behind_ok (d + 1) e2.2.2.2.1 hD hx, r1_ok]
  have hR2 : RC k h2 S (am_up (kBy S i (S 99 0) K).1 1 i ((kBy S i (S 99 0) K).1 1 i + 12 * led S x ((kBy S i (S 99 0) K).1 0 i)), (kBy S i (S 99 0) K).2) := by
    refine ⟨fun j hj => ?_, fun t ht => ?_, ?_, ?_⟩
    · obtain ⟨b1, b2, b3, b4⟩ := hR1.1 j hj
      rw [← hH2]
      by_cases q : j = i
      · subst q; simp [up_a, b1, b3, b4]
      · simp [up_a, q, b1, b2, b3, b4]
    · have := hR1.2.1 t ht
      rw [← hH2]
      simpa [up_a] using this
    · rw [← hH2, up_n (by omega)]; exact hR1.2.2.1
    · refine vC_congr (h := h1) (fun c j q1 q2 q3 => ?_) hR1.2.2.2
      rw [← hH2, up_n (by omega)]
  have hl2 : (kBy S i (S 99 0) K).2.length = K.2.length := by show (vSet i _ K.2).length = _; rw [vSet_l]
  rw [gK_enter_raw (d + 1) (V := (kBy S i (S 99 0) K).2.length) (by omega) (by omega) hR2.2.2.1, r0_ok]
  generalize hH3 : am_up (am_up (am_up (am_up (am_up (am_up (am_up h2 (k + 1) i (byd S x ((kBy S i (S 99 0) K).1 0 i))) (k + 9) (kBy S i (S 99 0) K).2.length (nI i)) (k + 10) (kBy S i (S 99 0) K).2.length (byd S x ((kBy S i (S 99 0) K).1 0 i))) (k + 11) (kBy S i (S 99 0) K).2.length (h2 (k + 2) i)) (k + 12) (kBy S i (S 99 0) K).2.length (h2 (k + 2) i)) (k + 4) i (nI (kBy S i (S 99 0) K).2.length)) k 14 (nI ((kBy S i (S 99 0) K).2.length + 1)) = h3
  exact ⟨h3, rfl, enter_rc hR2 hH3 hi, (hf1.tr hf2).tr (enter_fr hH3)⟩
/-- the two ways to say how old a thing grows -/
theorem old_eq {S : am_H} (hv : VH S) {r : Nat} (hr : r < nR S) (x : Int32) : x * ((12 * S 85 r) / S 86 r) = oBy S r x := by
  obtain ⟨p, q, o, hp, hq, -, h1, h2, -⟩ := hv.2.2.2.2.2.1 r hr
  unfold oBy
  rw [h1, h2]
  have key : (12 : Int32) * nI p / nI q = nI p * (12 / nI q) := by
    have hp' : p = 1 ∨ p = 2 ∨ p = 3 ∨ p = 4 := by omega
    have hq' : q = 1 ∨ q = 2 ∨ q = 3 ∨ q = 4 := by omega
    rcases hp' with rfl | rfl | rfl | rfl <;> rcases hq' with rfl | rfl | rfl | rfl <;> decide
  rw [key, Int32.mul_assoc]
theorem gK_wornAt_ok (d : Nat) {k o : Nat} {h S : am_H} {K : K_T} (hv : VH S) (e : EH k o h S) (hR : RC k h S K) {t r : Nat} (ht : t < nT S) (hr : r < nR S) (hl : K.1 3 t = nI r) (x : Int32) :
    am_g (d + 2) 14 [vr 1 k, vi (nI t), vi x] h = some (h, some (K.1 6 t + oBy S r (x - K.1 5 t))) := by
  have hT := hv.2.2.2.1.2
  have hR6 := hv.1.2.2
  obtain ⟨b5, b6, b7, b8⟩ := hR.2.1 t ht
  rw [gK_wornAt, b_ok (by omega) (by omega), b5, hl, if_neg (m4_ne (by omega)), b_ok (by omega) (by omega), b_ok (by omega) (by omega), b_ok (by omega) (by omega), b5, hl, gK_partsOfTickIn_ok d e hR6 hr, r1_ok, b7, b8, old_eq hv hr]
theorem gK_canTake_ok (d : Nat) {k : Nat} {h S : am_H} {K : K_T} (hv : VH S) (hR : RC k h S K) {i t : Nat} (hi : i < nP S) (ht : t < nT S) : am_g (d + 1) 5 [vr 1 k, vi (nI i), vi (nI t)] h = some (h, some (yn (K.1 3 t = K.1 0 i ∧ ¬ K.1 1 i < K.1 5 t))) := by
  have hP := hv.2.2.1.2.2
  have hT := hv.2.2.2.1.2
  obtain ⟨a1, a2, a3, a4⟩ := hR.1 i hi
  obtain ⟨b5, b6, b7, b8⟩ := hR.2.1 t ht
  rw [gK_canTake, b_ok (by omega) (by omega), b_ok (by omega) (by omega), b_ok (by omega) (by omega), b_ok (by omega) (by omega), a1, a2, b5, b7]
  unfold yn
  by_cases q1 : K.1 3 t = K.1 0 i
  · by_cases q2 : K.1 1 i < K.1 5 t <;> simp [q1, q2]
  · simp [q1]
theorem gK_canPut_ok (d : Nat) {k : Nat} {h S : am_H} {K : K_T} (hv : VH S) (hR : RC k h S K) {i t : Nat} (ht : t < nT S) : am_g (d + 1) 6 [vr 1 k, vi (nI i), vi (nI t)] h = some (h, some (yn (K.1 4 t = nI i))) := by
  have hT := hv.2.2.2.1.2
  obtain ⟨b5, b6, b7, b8⟩ := hR.2.1 t ht
  rw [gK_canPut, b_ok (by omega) (by omega), b6]
  unfold yn
  by_cases q1 : K.1 4 t = nI i <;> simp [q1]
theorem gK_canGo_ok (d : Nat) {k o : Nat} {h S : am_H} {K : K_T} (hv : VH S) (e : EH k o h S) (hR : RC k h S K) {i x : Nat} (hi : i < nP S) (hx : x < nD S) : am_g (d + 2) 4 [vr 1 k, vi (nI i), vi (nI x)] h = some (h, some (yn (bes S x (K.1 0 i)))) := by
  have hP := hv.2.2.1.2.2
  have hD := hv.2.1.2
  obtain ⟨a1, a2, a3, a4⟩ := hR.1 i hi
  rw [gK_canGo, b_ok (by omega) (by omega), e.o, a1, gH_isDoorOf_ok d e.2.2.2.1 hD hx, r1_ok, if_pos yn_b]
theorem gK_pick_ok (d : Nat) {k o : Nat} {h S : am_H} {K : K_T} {B A : Int} {n : Nat} (hv : VH S) (e : EH k o h S) (hR : RC k h S K) (hK : VKg S B A n K) {i t : Nat} (hi : i < nP S) (ht : t < nT S) (hc : K.1 3 t = K.1 0 i ∧ ¬ K.1 1 i < K.1 5 t) :
    ∃ h', am_g (d + 3) 10 [vr 1 k, vi (nI i), vi (nI t)] h = some (h', none) ∧ RC k h' S (kTk S i t K) ∧ frC k h h' := by
  have hP := hv.2.2.1.2.2
  have hT := hv.2.2.2.1.2
  have hR6 := hv.1.2.2
  obtain ⟨r1, r2, r3, r4⟩ := id hR
  obtain ⟨a1, a2, a3, a4⟩ := r1 i hi
  obtain ⟨b5, b6, b7, b8⟩ := r2 t ht
  obtain ⟨⟨r, hr, hri⟩, -⟩ := hK.1 i hi
  have hrm : rmOf K i = r := by unfold rmOf; rw [hri, nI_rm (by omega)]
  rw [gK_pick, b_ok (by omega) (by omega), a2, gK_wornAt_ok d hv e hR ht hr (hc.1.trans hri), r1_ok, b_ok (by omega) (by omega), b_ok (by omega) (by omega), b_ok (by omega) (by omega)]
  generalize hH : am_up (am_up (am_up h (k + 8) t (K.1 6 t + oBy S r (K.1 1 i - K.1 5 t))) (k + 5) t (-4)) (k + 6) t (nI i) = h'
  have hk0 : h' k = h k := by rw [← hH, up_n (by omega), up_n (by omega), up_n (by omega)]
  refine ⟨h', rfl, ?_, fun c hc => by rw [← hH, up_n (by omega), up_n (by omega), up_n (by omega)], fun j _ => by rw [hk0]⟩
  unfold kTk
  rw [if_pos hc, hrm]
  refine ⟨fun j hj => ?_, fun t' ht' => ?_, by rw [hk0]; exact r3, ?_⟩
  · have := r1 j hj
    rw [← hH]
    simpa [up_a] using this
  · obtain ⟨c3, c4, c5, c6⟩ := r2 t' ht'
    rw [← hH]
    by_cases q : t' = t
    · subst q; simp [up_a, b7]
    · simp [up_a, q, c3, c4, c5, c6]
  · refine vC_congr (h := h) (fun c j q1 q2 _ => ?_) r4
    rw [← hH, up_n (by omega), up_n (by omega), up_n (by omega)]
theorem gK_drop_ok (d : Nat) {k : Nat} {h S : am_H} {K : K_T} (hv : VH S) (hR : RC k h S K) {i t : Nat} (hi : i < nP S) (ht : t < nT S) (hc : K.1 4 t = nI i) :
    ∃ h', am_g (d + 1) 11 [vr 1 k, vi (nI i), vi (nI t)] h = some (h', none) ∧ RC k h' S (kPt i t K) ∧ frC k h h' := by
  have hP := hv.2.2.1.2.2
  have hT := hv.2.2.2.1.2
  obtain ⟨r1, r2, r3, r4⟩ := id hR
  obtain ⟨a1, a2, a3, a4⟩ := r1 i hi
  obtain ⟨b5, b6, b7, b8⟩ := r2 t ht
  have q2 : ∀ y z, (am_up (am_up h (k + 5) t y) (k + 6) t z) (k + 2) i = K.1 1 i := fun y z => by rw [up_n (by omega), up_n (by omega)]; exact a2
  rw [gK_drop, b_ok (by omega) (by omega), b_ok (by omega) (by omega), b_ok (by omega) (by omega), b_ok (by omega) (by omega), b_ok (by omega) (by omega), q2, a1]
  generalize hH : am_up (am_up (am_up h (k + 5) t (K.1 0 i)) (k + 6) t (-4)) (k + 7) t (K.1 1 i) = h'
  have hk0 : h' k = h k := by rw [← hH, up_n (by omega), up_n (by omega), up_n (by omega)]
  refine ⟨h', rfl, ?_, fun c hc => by rw [← hH, up_n (by omega), up_n (by omega), up_n (by omega)], fun j _ => by rw [hk0]⟩
  unfold kPt
  rw [if_pos hc]
  refine ⟨fun j hj => ?_, fun t' ht' => ?_, by rw [hk0]; exact r3, ?_⟩
  · have := r1 j hj
    rw [← hH]
    simpa [up_a] using this
  · obtain ⟨c3, c4, c5, c6⟩ := r2 t' ht'
    rw [← hH]
    by_cases q : t' = t
    · subst q; simp [up_a, b8]
    · simp [up_a, q, c3, c4, c5, c6]
  · refine vC_congr (h := h) (fun c j q1 q2 _ => ?_) r4
    rw [← hH, up_n (by omega), up_n (by omega), up_n (by omega)]
theorem gK_perform_ok (d : Nat) {k o : Nat} {h S : am_H} {K : K_T} {n : Nat} (hv : VH S) (e : EH k o h S) (hR : RC k h S K) (hK : VK S n K) (hn : n < 40) {a : K_A} (ha : okA S a) :
    ∃ h', am_g (d + 4) 3 [vr 1 k, vi (nI a.1), vi (nI a.2.1), vi (nI a.2.2)] h = some (h', none) ∧ RC k h' S (kAct S a K) ∧ frC k h h' := by
  obtain ⟨kk, i, w⟩ := a
  obtain ⟨hi, hk⟩ := ha
  dsimp only at hi hk ⊢
  rw [gK_perform, show (1 : Int32) = nI 1 from rfl, show (2 : Int32) = nI 2 from rfl, show (3 : Int32) = nI 3 from rfl, ← nI_0]
  rcases hk with ⟨rfl, h1, h2⟩ | ⟨rfl, h1⟩ | ⟨rfl, h1⟩ | ⟨rfl, h1⟩
  · obtain ⟨h', g1, g2, g3⟩ := gK_pass_ok (d + 1) hv e hR hK (by omega) hi (nI w)
    rw [if_pos rfl, g1, r0_ok]
    exact ⟨h', rfl, g2, g3⟩
  · rw [if_neg (nI_ne (by omega) (by omega) (by omega)), if_pos rfl, gK_canGo_ok (d + 1) hv e hR hi h1, r1_ok, nI_0]
    show ∃ h', _ ∧ RC k h' S (kGo S i w K) ∧ _
    by_cases hb : bes S w (K.1 0 i)
    · rw [if_neg (by rw [yn_0]; exact fun q => q hb)]
      obtain ⟨h', g1, g2, g3⟩ := gK_cross_ok d hv e hR hK hn hi h1
      rw [g1, r0_ok]
      refine ⟨h', rfl, ?_, g3⟩
      unfold kGo
      rw [if_pos hb]
      exact g2
    · rw [if_pos (by rw [yn_0]; exact hb), if_neg (nI_ne (by omega) (by omega) (by omega)), if_neg (nI_ne (by omega) (by omega) (by omega))]
      refine ⟨h, rfl, ?_, frC.rf k h⟩
      unfold kGo
      rw [if_neg hb]
      exact hR
  · rw [if_neg (nI_ne (by omega) (by omega) (by omega)), if_neg (nI_ne (by omega) (by omega) (by omega)), if_pos rfl, gK_canTake_ok (d + 2) hv hR hi h1, r1_ok, nI_0]
    show ∃ h', _ ∧ RC k h' S (kTk S i w K) ∧ _
    by_cases hb : K.1 3 w = K.1 0 i ∧ ¬ K.1 1 i < K.1 5 w
    · rw [if_neg (by rw [yn_0]; exact fun q => q hb)]
      obtain ⟨h', g1, g2, g3⟩ := gK_pick_ok d hv e hR hK hi h1 hb
      rw [g1, r0_ok]
      exact ⟨h', rfl, g2, g3⟩
    · rw [if_pos (by rw [yn_0]; exact hb), if_neg (nI_ne (by omega) (by omega) (by omega))]
      refine ⟨h, rfl, ?_, frC.rf k h⟩
      unfold kTk
      rw [if_neg hb]
      exact hR
  · rw [if_neg (nI_ne (by omega) (by omega) (by omega)), if_neg (nI_ne (by omega) (by omega) (by omega)), if_neg (nI_ne (by omega) (by omega) (by omega)), if_pos rfl, gK_canPut_ok (d + 2) hv hR h1, r1_ok, nI_0]
    show ∃ h', _ ∧ RC k h' S (kPt i w K) ∧ _
    by_cases hb : K.1 4 w = nI i
    · rw [if_neg (by rw [yn_0]; exact fun q => q hb)]
      obtain ⟨h', g1, g2, g3⟩ := gK_drop_ok (d + 2) hv hR hi h1 hb
      rw [g1, r0_ok]
      exact ⟨h', rfl, g2, g3⟩
    · rw [if_pos (by rw [yn_0]; exact hb)]
      refine ⟨h, rfl, ?_, frC.rf k h⟩
      unfold kPt
      rw [if_neg hb]
      exact hR
