/-! THE REFERENCE READS -/
def fr7 (M M' : am_H) : Prop := ∀ c j, ¬ (c = 82 ∧ j = 27) → c ≠ 107 → M' c j = M c j
theorem fr7.tr {M M' M'' : am_H} (a : fr7 M M') (b : fr7 M' M'') : fr7 M M'' := fun c j h1 h2 => (b c j h1 h2).trans (a c j h1 h2)
/-- the text, and where one is in it -/
def tM (tx : List Nat) (M : am_H) (p : Nat) : Prop := tOK tx (M 83) ∧ M 82 0 = nI tx.length ∧ M 82 27 = nI p
section RM1
variable {tx : List Nat} {M : am_H}
theorem tM.fr {M' : am_H} {p p' : Nat} (T : tM tx M p) (f : fr7 M M') (h : M' 82 27 = nI p') : tM tx M' p' := by
  refine ⟨?_, by rw [f 82 0 (by omega) (by omega)]; exact T.2.1, h⟩
  have : M' 83 = M 83 := funext fun j => f 83 j (by omega) (by omega)
  rw [this]
  exact T.1
theorem gM_letterAt_ok (d : Nat) {p : Nat} (T : tM tx M p) {k : Nat} (hk : k ≤ 1000) : am_g (d + 1) 102 [vr 7 82, vi (nI k)] M = some (M, some (nI (tL tx k))) := by
  have hl := T.1.2.1
  rw [gM_letterAt, T.2.1]
  by_cases q : k < tx.length
  · rw [if_pos (nI_lt q (by omega)), b_ok (by omega) (by omega), (T.1.at q).1]
  · rw [if_neg (nI_nlt (by omega) (by omega))]
    have : tL tx k = 0 := by
      rcases Nat.eq_zero_or_pos (tL tx k) with z | z
      · exact z
      · exact absurd (tL_lt (tx := tx) (k := k) (by omega)) q
    rw [this]
    rfl
theorem tL_b {p : Nat} (T : tM tx M p) (k : Nat) : tL tx k < 128 := by
  rcases Nat.eq_zero_or_pos (tL tx k) with z | z
  · omega
  · exact (T.1.at (tL_lt (tx := tx) (k := k) (by omega))).2
theorem dg_in {p : Nat} (T : tM tx M p) (k : Nat) : (¬ nI (tL tx k) < 48 ∧ ¬ 57 < nI (tL tx k)) ↔ dg tx k := by
  have := tL_b T k
  rw [show (nI (tL tx k) < 48) ↔ tL tx k < 48 from nI_ltI (b := 48) (by omega) (by omega), show ((57 : Int32) < nI (tL tx k)) ↔ 57 < tL tx k from nI_ltI (a := 57) (by omega) (by omega)]
  unfold dg
  omega
theorem figM_more (d n : Nat) {p : Nat} (T : tM tx M p) (hp : p ≤ 300) (x1 x2 : Int32) {f v : Nat} (hf : f < 3) (hd : dg tx p) : rM_figures (d + 1) (n + 1) 11 [some (vr 7 82), some (vi x1), some (vi x2), some (vi (nI f)), some (vi (nI v))] M = rM_figures (d + 1) n 11 [some (vr 7 82), some (vi x1), some (vi x2), some (vi (nI (f + 1))), some (vi (nI (10 * v + (tL tx p - 48))))] (am_up M 82 27 (nI (p + 1))) := by
  have i1 : (10 : Int32) * nI v + nI (tL tx p) - 48 = nI (10 * v + (tL tx p - 48)) := by
    have := hd.1
    rw [show (10 : Int32) = nI 10 from rfl, pk_mul, nI_add, show (48 : Int32) = nI 48 from rfl, pk_sub (by omega)]
    congr 1
    omega
  rw [tM_figures_11, T.2.2, gM_letterAt_ok d T (by omega), r1_ok, gM_in_ok, r1_ok, if_neg (fun z => yn_0.mp z ((dg_in T p).mpr hd)), if_pos (show nI f < 3 from nI_lt (b := 3) hf (by omega)), T.2.2, gM_letterAt_ok d T (by omega), r1_ok, T.2.2, nI_1, nI_1, i1]
theorem in12 {f : Nat} (hf : f ≤ 100) : (¬ nI f < 1 ∧ ¬ 2 < nI f) ↔ (1 ≤ f ∧ f ≤ 2) := by
  rw [show (nI f < 1) ↔ f < 1 from nI_ltI (b := 1) (by omega) (by omega), show ((2 : Int32) < nI f) ↔ 2 < f from nI_ltI (a := 2) (by omega) (by omega)]
  omega
theorem figM_bad (d n : Nat) {p : Nat} (T : tM tx M p) (hp : p ≤ 300) (x1 x2 x4 : Int32) {f : Nat} (hf : (f = 0 ∧ ¬ dg tx p) ∨ f = 3) : rM_figures (d + 1) (n + 1) 11 [some (vr 7 82), some (vi x1), some (vi x2), some (vi (nI f)), some (vi x4)] M = some (M, some 0) := by
  have h12 : yn (¬ nI f < 1 ∧ ¬ 2 < nI f) = 0 := yn_0.mpr (fun z => by have := (in12 (f := f) (by omega)).mp z; omega)
  rw [tM_figures_11, T.2.2, gM_letterAt_ok d T (by omega), r1_ok, gM_in_ok, r1_ok]
  by_cases hd : dg tx p
  · rw [if_neg (fun z => yn_0.mp z ((dg_in T p).mpr hd))]
    have hf3 : f = 3 := by
      rcases hf with z | z
      · exact absurd hd z.2
      · exact z
    rw [if_neg (show ¬ nI f < 3 by rw [hf3]; decide), gM_in_ok, r1_ok, h12, if_pos rfl]
  · rw [if_pos (yn_0.mpr (fun z => hd ((dg_in T p).mp z))), gM_in_ok, r1_ok, h12, if_pos rfl]
theorem figM_end (d n : Nat) {p : Nat} (T : tM tx M p) (hp : p ≤ 300) {k N q : Nat} (hk : k + 1 + q = N) (hN : N ≤ 4) {f v c : Nat} (hf : 1 ≤ f ∧ f ≤ 2) (hd : ¬ dg tx p) (hc : c = (if q = 0 then 59 else 44)) :
    (¬ tL tx p = c → rM_figures (d + 1) (n + 1) 11 [some (vr 7 82), some (vi (nI N)), some (vi (nI k)), some (vi (nI f)), some (vi (nI v))] M = some (M, some 0)) ∧
    (tL tx p = c → ∃ u u', rM_figures (d + 1) (n + 1) 11 [some (vr 7 82), some (vi (nI N)), some (vi (nI k)), some (vi (nI f)), some (vi (nI v))] M = rM_figures (d + 1) n 3 [some (vr 7 82), some (vi (nI N)), some (vi (nI (k + 1))), u, u'] (am_up (am_up M 107 k (nI v)) 82 27 (nI (p + 1)))) := by
  have tb := tL_b T p
  rw [tM_figures_11, T.2.2, gM_letterAt_ok d T (by omega), r1_ok, gM_in_ok, r1_ok, if_pos (yn_0.mpr (fun z => hd ((dg_in T p).mp z))), gM_in_ok, r1_ok, if_neg (fun z => yn_0.mp z ((in12 (by omega)).mpr hf)), T.2.2, gM_letterAt_ok d T (by omega), r1_ok, nI_sub1 (by omega), T.2.2, nI_1, nI_1]
  have b1 : ∀ f, am_b 4 (nI k) f = f k := fun f => b_ok (by omega) (by omega) f
  simp only [b1]
  by_cases hq : q = 0
  · have c59 : c = 59 := by rw [hc, if_pos hq]
    subst c59
    rw [if_neg (nI_nlt (by omega) (by omega))]
    refine ⟨fun z => ?_, fun z => ?_⟩
    · rw [if_neg (show ¬ nI (tL tx p) = 59 from nI_ne (b := 59) z (by omega) (by omega))]
    · rw [if_pos (show nI (tL tx p) = 59 by rw [z]; rfl)]
      exact ⟨_, _, rfl⟩
  · have c44 : c = 44 := by rw [hc, if_neg hq]
    subst c44
    rw [if_pos (nI_lt (by omega) (by omega))]
    refine ⟨fun z => ?_, fun z => ?_⟩
    · rw [if_neg (show ¬ nI (tL tx p) = 44 from nI_ne (b := 44) z (by omega) (by omega))]
    · rw [if_pos (show nI (tL tx p) = 44 by rw [z]; rfl)]
      exact ⟨_, _, rfl⟩
theorem numM (d n : Nat) {p : Nat} (T : tM tx M p) (hp : p ≤ tx.length) {k N q : Nat} (hk : k + 1 + q = N) (hN : N ≤ 4) :
    (pN tx p (if q = 0 then 59 else 44) = none → ∃ M', rM_figures (d + 1) (n + 4) 11 [some (vr 7 82), some (vi (nI N)), some (vi (nI k)), some (vi 0), some (vi 0)] M = some (M', some 0) ∧ fr7 M M') ∧
    (∀ v p', pN tx p (if q = 0 then 59 else 44) = some (v, p') → ∃ (n' : Nat) (u u' : Option am_V) (M' : am_H), n ≤ n' ∧ rM_figures (d + 1) (n + 4) 11 [some (vr 7 82), some (vi (nI N)), some (vi (nI k)), some (vi 0), some (vi 0)] M = rM_figures (d + 1) n' 3 [some (vr 7 82), some (vi (nI N)), some (vi (nI (k + 1))), u, u'] M' ∧ tM tx M' p' ∧ fr7 M M' ∧ M' 107 k = nI v ∧ ∀ j, j ≠ k → M' 107 j = M 107 j) := by
  have hl := T.1.2.1
  have hc : (if q = 0 then 59 else 44) = 59 ∨ (if q = 0 then 59 else 44) = 44 := by split <;> omega
  have up7 : ∀ (M : am_H) (x : Int32), fr7 M (am_up M 82 27 x) := fun M x c j h1 h2 => by rw [up_a, if_neg (fun z => h1 z)]
  have fin : ∀ (M2 : am_H) (v p2 n' : Nat), fr7 M M2 → (∀ j, M2 107 j = M 107 j) → tM tx M2 p2 → n ≤ n' → ∀ u u', ∃ (n'' : Nat) (w w' : Option am_V) (M' : am_H), n ≤ n'' ∧ rM_figures (d + 1) n' 3 [some (vr 7 82), some (vi (nI N)), some (vi (nI (k + 1))), u, u'] (am_up (am_up M2 107 k (nI v)) 82 27 (nI (p2 + 1))) = rM_figures (d + 1) n'' 3 [some (vr 7 82), some (vi (nI N)), some (vi (nI (k + 1))), w, w'] M' ∧ tM tx M' (p2 + 1) ∧ fr7 M M' ∧ M' 107 k = nI v ∧ ∀ j, j ≠ k → M' 107 j = M 107 j := by
    intro M2 v p2 n' f2 h107 T2 hn u u'
    have f3 : fr7 M2 (am_up (am_up M2 107 k (nI v)) 82 27 (nI (p2 + 1))) := fun c j h1 h2 => by rw [up_a, if_neg (fun z => h1 z), up_n h2]
    refine ⟨n', u, u', _, hn, rfl, T2.fr f3 (by rw [up_s]), f2.tr f3, by rw [up_n (by omega), up_s], fun j hj => by rw [up_n (by omega), up_d hj]; exact h107 j⟩
  rw [← nI_0]
  unfold pN
  by_cases q1 : dg tx p
  · have l1 := tL_lt (tx := tx) (k := p) (by have := q1.1; omega)
    have f1 := up7 M (nI (p + 1))
    have T1 : tM tx (am_up M 82 27 (nI (p + 1))) (p + 1) := T.fr f1 (by rw [up_s])
    have h71 : ∀ j, am_up M 82 27 (nI (p + 1)) 107 j = M 107 j := fun j => by rw [up_n (by omega)]
    rw [if_pos q1, figM_more d (n + 3) T (by omega) _ _ (by omega) q1]
    by_cases q2 : dg tx (p + 1)
    · have l2 := tL_lt (tx := tx) (k := p + 1) (by have := q2.1; omega)
      have f2 := up7 (am_up M 82 27 (nI (p + 1))) (nI (p + 1 + 1))
      have T2 : tM tx (am_up (am_up M 82 27 (nI (p + 1))) 82 27 (nI (p + 1 + 1))) (p + 1 + 1) := T1.fr f2 (by rw [up_s])
      have h72 : ∀ j, am_up (am_up M 82 27 (nI (p + 1))) 82 27 (nI (p + 1 + 1)) 107 j = M 107 j := fun j => by rw [up_n (by omega), up_n (by omega)]
      rw [if_pos q2, figM_more d (n + 2) T1 (by omega) _ _ (by omega) q2]
      by_cases q3 : dg tx (p + 2)
      · have hne : ¬ tL tx (p + 2) = (if q = 0 then 59 else 44) := fun z => by have := q3.2; have := q3.1; split at z <;> omega
        have f3 := up7 (am_up (am_up M 82 27 (nI (p + 1))) 82 27 (nI (p + 1 + 1))) (nI (p + 1 + 1 + 1))
        have T3 : tM tx (am_up (am_up (am_up M 82 27 (nI (p + 1))) 82 27 (nI (p + 1 + 1))) 82 27 (nI (p + 1 + 1 + 1))) (p + 1 + 1 + 1) := T2.fr f3 (by rw [up_s])
        rw [if_neg hne, figM_more d (n + 1) T2 (by omega) _ _ (by omega) q3, figM_bad d n T3 (by omega) _ _ _ (Or.inr rfl)]
        exact ⟨fun _ => ⟨_, rfl, (f1.tr f2).tr f3⟩, fun v p' z => by cases z⟩
      · obtain ⟨e1, e2⟩ := figM_end d (n + 1) T2 (by omega) hk hN (f := 0 + 1 + 1) (v := 10 * (10 * 0 + (tL tx p - 48)) + (tL tx (p + 1) - 48)) (by omega) q3 rfl
        by_cases z : tL tx (p + 2) = (if q = 0 then 59 else 44)
        · rw [if_pos z]
          refine ⟨fun w => (by cases w), fun v p' w => ?_⟩
          cases w
          obtain ⟨u, u', g⟩ := e2 z
          rw [g, show 10 * (10 * 0 + (tL tx p - 48)) + (tL tx (p + 1) - 48) = 10 * (tL tx p - 48) + (tL tx (p + 1) - 48) by omega]
          exact fin _ _ (p + 1 + 1) (n + 1) (f1.tr f2) h72 T2 (by omega) u u'
        · rw [if_neg z]
          exact ⟨fun _ => ⟨_, e1 z, f1.tr f2⟩, fun v p' w => by cases w⟩
    · obtain ⟨e1, e2⟩ := figM_end d (n + 2) T1 (by omega) hk hN (f := 0 + 1) (v := 10 * 0 + (tL tx p - 48)) (by omega) q2 rfl
      rw [if_neg q2]
      by_cases z : tL tx (p + 1) = (if q = 0 then 59 else 44)
      · rw [if_pos z]
        refine ⟨fun w => (by cases w), fun v p' w => ?_⟩
        cases w
        obtain ⟨u, u', g⟩ := e2 z
        rw [g, show 10 * 0 + (tL tx p - 48) = tL tx p - 48 by omega]
        exact fin _ _ (p + 1) (n + 2) f1 h71 T1 (by omega) u u'
      · rw [if_neg z]
        exact ⟨fun _ => ⟨_, e1 z, f1⟩, fun v p' w => by cases w⟩
  · rw [if_neg q1, figM_bad d (n + 3) T (by omega) _ _ _ (Or.inl ⟨rfl, q1⟩)]
    exact ⟨fun _ => ⟨M, rfl, fun _ _ _ _ => rfl⟩, fun v p' z => by cases z⟩
theorem numsM (d : Nat) {N : Nat} (hN : N ≤ 4) : ∀ (q n k p : Nat) (M : am_H) (u3 u4 : Option am_V), k + q = N → 8 * q < n → p ≤ tx.length → tM tx M p →
    (pNs tx q p = none → ∃ M', rM_figures (d + 1) n 3 [some (vr 7 82), some (vi (nI N)), some (vi (nI k)), u3, u4] M = some (M', some 0) ∧ fr7 M M') ∧
    (∀ l p', pNs tx q p = some (l, p') → ∃ (M' : am_H), rM_figures (d + 1) n 3 [some (vr 7 82), some (vi (nI N)), some (vi (nI k)), u3, u4] M = some (M', some 1) ∧ tM tx M' p' ∧ fr7 M M' ∧ (∀ i, i < k → M' 107 i = M 107 i) ∧ ∀ i x, l[i]? = some x → M' 107 (k + i) = nI x) := by
  intro q
  induction q with
  | zero =>
    intro n k p M u3 u4 hk hn hp T
    obtain ⟨n, rfl⟩ : ∃ z, n = z + 1 := ⟨n - 1, by omega⟩
    have : k = N := by omega
    subst this
    rw [tM_figures_3, if_neg (nI_nlt (Nat.le_refl _) (by omega))]
    refine ⟨fun z => (by unfold pNs at z; cases z), fun l p' z => ?_⟩
    unfold pNs at z
    cases z
    exact ⟨M, rfl, T, fun _ _ _ _ => rfl, fun _ _ => rfl, fun i x hx => by simp at hx⟩
  | succ q ih =>
    intro n k p M u3 u4 hk hn hp T
    obtain ⟨n, rfl⟩ : ∃ z, n = z + 5 := ⟨n - 5, by omega⟩
    obtain ⟨a1, a2⟩ := numM d n T hp (k := k) (N := N) (q := q) (by omega) hN
    rw [show n + 5 = n + 4 + 1 by omega, tM_figures_3, if_pos (nI_lt (by omega) (by omega))]
    cases e : pN tx p (if q = 0 then 59 else 44) with
    | none =>
      rw [pNs_1 e]
      exact ⟨fun _ => a1 e, fun l p' z => by cases z⟩
    | some w =>
      obtain ⟨v, p1⟩ := w
      obtain ⟨n', u, u', M1, g0, g1, g2, g3, g4, g5⟩ := a2 v p1 e
      have b := pN_b (by split <;> omega) e
      obtain ⟨c1, c2⟩ := ih n' (k + 1) p1 M1 u u' (by omega) (by omega) b.2.2 g2
      rw [g1]
      cases e2 : pNs tx q p1 with
      | none =>
        rw [pNs_2 e e2]
        refine ⟨fun _ => ?_, fun l p' z => by cases z⟩
        obtain ⟨M', k1, k2⟩ := c1 e2
        exact ⟨M', k1, g3.tr k2⟩
      | some w2 =>
        obtain ⟨l, p2⟩ := w2
        rw [pNs_3 e e2]
        refine ⟨fun z => (by cases z), fun l' p' z => ?_⟩
        cases z
        obtain ⟨M', k1, k2, k3, k4, k5⟩ := c2 l p2 e2
        refine ⟨M', k1, k2, g3.tr k3, fun i hi => ?_, fun i x hx => ?_⟩
        · rw [k4 i (by omega), g5 i (by omega)]
        · cases i with
          | zero =>
            simp at hx
            subst hx
            show M' 107 k = nI v
            rw [k4 k (by omega), g4]
          | succ i =>
            simp at hx
            rw [show k + (i + 1) = k + 1 + i by omega]
            exact k5 i x hx
end RM1
