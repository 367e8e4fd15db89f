theorem cp_n {h : am_H} {c c' : Nat} {f : Nat → Int32} (hc : c' ≠ c) : va_up h c f c' = h c' := by simp [va_up, hc]
theorem cp_s (h : am_H) (c : Nat) (f : Nat → Int32) : va_up h c f c = f := by simp [va_up]
theorem i0c : ((0 : Int32)).toNatClampNeg = 0 := rfl
theorem gA_copy_ok (d : Nat) {a0 a1 n : Nat} {h : am_H} (ha : a0 + 4 ≤ a1 ∨ a1 + 4 ≤ a0) (hn : n ≤ 40) (h3 : h a1 3 = nI n) : ∃ h', am_g (d + 1) 1 [vr 0 a0, vr 0 a1] h = some (h', none) ∧ (∀ c, ¬ (a0 ≤ c ∧ c ≤ a0 + 3) → h' c = h c) ∧ h' a0 3 = nI n ∧
    ∀ k, 1 ≤ k → k ≤ 3 → ∀ j, j < n → h' (a0 + k) j = h (a1 + k) j := by
  have hq : ∀ x y : Nat, ¬ ((0 : Int32) < 0 ∨ (0 : Int32) < 0 ∨ nI n < 0 ∨ 40 < 0 + n ∨ 40 < 0 + n) := fun x y q => by
    rcases q with q | q | q | q | q
    · exact absurd q (by decide)
    · exact absurd q (by decide)
    · exact nI_pos (by omega) q
    · omega
    · omega
  rw [gA_copy]
  simp (disch := omega) only [up_s, up_n, cp_n, h3, nI_clamp, i0c]
  rw [if_neg (hq 0 0), if_neg (hq 0 0), if_neg (hq 0 0)]
  refine ⟨_, rfl, fun c hc => by rw [cp_n (by omega), cp_n (by omega), cp_n (by omega), up_n (by omega)], by rw [cp_n (by omega), cp_n (by omega), cp_n (by omega), up_s], fun k k1 k2 j hj => ?_⟩
  have : k = 1 ∨ k = 2 ∨ k = 3 := by omega
  rcases this with rfl | rfl | rfl
  · rw [cp_n (by omega), cp_n (by omega), cp_s, pk_cpy_in (by omega) (by omega)]
    congr 1
    omega
  · rw [cp_n (by omega), cp_s, pk_cpy_in (by omega) (by omega)]
    congr 1
    omega
  · rw [cp_s, pk_cpy_in (by omega) (by omega)]
    congr 1
    omega
theorem copy_loop (d : Nat) {a b : Nat} (hab : a ≠ b) (ha : a < 3) (hb : b < 3) : ∀ (m n t : Nat) (M : am_H), t + m = 40 → m < n →
    ∃ M', rM_copy d n 11 [some (vr 7 82), some (vi (nI a)), some (vi (nI b)), some (vi (nI t))] M = some (M', none) ∧ (∀ c, ¬ (101 ≤ c ∧ c ≤ 103) → M' c = M c) ∧ (∀ c, 101 ≤ c → c ≤ 103 → (∀ k, t ≤ k → k < 40 → M' c (40 * b + k) = M c (40 * a + k)) ∧ ∀ j, ¬ (40 * b + t ≤ j ∧ j < 40 * b + 40) → M' c j = M c j) := by
  intro m
  induction m with
  | zero =>
    intro n t M ht hn
    obtain ⟨n, rfl⟩ : ∃ m, n = m + 1 := ⟨n - 1, by omega⟩
    have : t = 40 := by omega
    subst this
    refine ⟨M, ?_, fun _ _ => rfl, fun c q1 q2 => ⟨fun k k1 k2 => by omega, fun j hj => rfl⟩⟩
    rw [tM_copy_11, if_neg (by decide)]
  | succ m ih =>
    intro n t M ht hn
    obtain ⟨n, rfl⟩ : ∃ m, n = m + 1 := ⟨n - 1, by omega⟩
    have hlt : nI t < 40 := nI_lt (b := 40) (by omega) (by omega)
    have hA : 40 * nI a + nI t = nI (40 * a + t) := by rw [show (40 : Int32) = nI 40 from rfl, pk_mul, nI_add]
    have hB : 40 * nI b + nI t = nI (40 * b + t) := by rw [show (40 : Int32) = nI 40 from rfl, pk_mul, nI_add]
    rw [tM_copy_11, if_pos hlt, hA, hB]
    simp (disch := omega) only [b_ok, nI_1]
    generalize hM1 : am_up (am_up (am_up M 101 (40 * b + t) (M 101 (40 * a + t))) 102 (40 * b + t) (M 102 (40 * a + t))) 103 (40 * b + t) (M 103 (40 * a + t)) = M1
    have f : ∀ c j, M1 c j = if (101 ≤ c ∧ c ≤ 103) ∧ j = 40 * b + t then M c (40 * a + t) else M c j := fun c j => by
      rw [← hM1]
      simp only [up_a]
      by_cases e1 : c = 103
      · subst e1; by_cases e2 : j = 40 * b + t <;> simp [e2]
      · by_cases e2 : c = 102
        · subst e2; by_cases e3 : j = 40 * b + t <;> simp [e3]
        · by_cases e3 : c = 101
          · subst e3; by_cases e4 : j = 40 * b + t <;> simp [e4]
          · have : ¬ (101 ≤ c ∧ c ≤ 103) := by omega
            simp [e1, e2, e3, this]
    obtain ⟨M', g1, g2, g3⟩ := ih n (t + 1) M1 (by omega) (by omega)
    refine ⟨M', g1, fun c hc => ?_, fun c q1 q2 => ⟨fun k k1 k2 => ?_, fun j hj => ?_⟩⟩
    · rw [g2 c hc]
      funext j
      rw [f, if_neg (fun q => hc q.1)]
    · by_cases e : k = t
      · subst e
        rw [(g3 c q1 q2).2 _ (by omega), f, if_pos ⟨⟨q1, q2⟩, rfl⟩]
      · rw [(g3 c q1 q2).1 k (by omega) k2, f, if_neg (fun q => by have := q.2; omega)]
    · rw [(g3 c q1 q2).2 j (by omega), f, if_neg (fun q => by have := q.2; omega)]
theorem gM_copy_ok (d : Nat) {a b : Nat} {S : am_H} {l : List K_A} (hab : a ≠ b) (ha : a < 3) (hb : b < 3) (hl : l.length ≤ 40) (hR : RAm S a l) : ∃ S', am_g (d + 1) 160 [vr 7 82, vi (nI a), vi (nI b)] S = some (S', none) ∧ (∀ c, ¬ (100 ≤ c ∧ c ≤ 103) → S' c = S c) ∧ RAm S' b l ∧ ∀ b' l', b' ≠ b → b' < 3 → l'.length ≤ 40 → RAm S b' l' → RAm S' b' l' := by
  obtain ⟨M', g1, g2, g3⟩ := copy_loop d hab ha hb 40 999999 0 (am_up S 100 b (S 100 a)) (by omega) (by omega)
  rw [nI_0] at g1
  rw [gM_copy, b_ok (by omega) (by omega), b_ok (by omega) (by omega), g1]
  refine ⟨M', rfl, fun c hc => by rw [g2 c (by omega), up_n (by omega)], ⟨by rw [g2 100 (by omega), up_s]; exact hR.1, fun j x hx => ?_⟩, fun b' l' e1 e2 hl' hR' => ⟨by rw [g2 100 (by omega), up_d e1]; exact hR'.1, fun j x hx => ?_⟩⟩
  · have hj : j < l.length := (List.getElem?_eq_some_iff.mp hx).1
    have := hR.2 j x hx
    rw [(g3 101 (by omega) (by omega)).1 j (by omega) (by omega), (g3 102 (by omega) (by omega)).1 j (by omega) (by omega), (g3 103 (by omega) (by omega)).1 j (by omega) (by omega), up_n (by omega), up_n (by omega), up_n (by omega)]
    exact this
  · have hj : j < l'.length := (List.getElem?_eq_some_iff.mp hx).1
    have := hR'.2 j x hx
    have hne : ¬ (40 * b + 0 ≤ 40 * b' + j ∧ 40 * b' + j < 40 * b + 40) := by omega
    rw [(g3 101 (by omega) (by omega)).2 _ hne, (g3 102 (by omega) (by omega)).2 _ hne, (g3 103 (by omega) (by omega)).2 _ hne, up_n (by omega), up_n (by omega), up_n (by omega)]
    exact this
theorem RAc_copy {a0 a1 : Nat} {h h' : am_H} {l : List K_A} (hR : RAc a1 h l) (h3 : h' a0 3 = nI l.length) (hk : ∀ k, 1 ≤ k → k ≤ 3 → ∀ j, j < l.length → h' (a0 + k) j = h (a1 + k) j) : RAc a0 h' l := by
  refine ⟨h3, fun j x hx => ?_⟩
  have hj : j < l.length := (List.getElem?_eq_some_iff.mp hx).1
  rw [hk 1 (by omega) (by omega) j hj, hk 2 (by omega) (by omega) j hj, hk 3 (by omega) (by omega) j hj]
  exact hR.2 j x hx
theorem CI_kept {h h' S S' : am_H} {o o' : Nat} {tx : List Nat} {as : List K_A} {ks ks' : List (List K_A)} {ss : List K_A} (c : CI h S o o' tx as ks ss) (hS : sH S S') (h0 : ∀ j, j ≠ 9 → h' 0 j = h 0 j) (hc : ∀ c, 1 ≤ c → c < 82 → ¬ (62 ≤ c ∧ c ≤ 69) → h' c = h c)
    (hks : h' 0 9 = nI ks'.length ∧ (∀ l, ks'[0]? = some l → RAc 62 h' l) ∧ ∀ l, ks'[1]? = some l → RAc 66 h' l) : CI h' S' o o' tx as ks' ss := by
  have ho := c.1.1
  obtain ⟨c1, c2, c3, ⟨c4, c5, c6⟩, c7, c8, c11, c12⟩ := c
  refine ⟨⟨c1.1, by rw [h0 2 (by omega)]; exact c1.2.1, by rw [h0 3 (by omega)]; exact c1.2.2⟩, by rw [h0 1 (by omega), hc 1 (by omega) (by omega) (by omega)]; exact c2, RH_c (fun c q1 q2 => hc c (by omega) (by omega) (by omega)) hS c3, ⟨by rw [hc 32 (by omega) (by omega) (by omega)]; exact c4, by rw [hc 32 (by omega) (by omega) (by omega)]; exact c5, ?_⟩, RAc_c (fun c q1 q2 => hc c (by omega) (by omega) (by omega)) c7, hks, by rw [hc 70 (by omega) (by omega) (by omega), hc 71 (by omega) (by omega) (by omega), hc 72 (by omega) (by omega) (by omega), hc 73 (by omega) (by omega) (by omega)]; exact c11, by rw [hc 79 (by omega) (by omega) (by omega)]; exact c12⟩
  rw [hS.ka]
  exact RC_c (fun c q1 q2 => hc c (by omega) (by omega) (by omega)) hS.eP hS.eT c6
theorem MI_kept {S S' : am_H} {tx : List Nat} {as : List K_A} {ks ks' : List (List K_A)} {ss : List K_A} (m : MI S tx as ks ss) (hc : ∀ c, 83 ≤ c → c ≤ 118 → ¬ (100 ≤ c ∧ c ≤ 103) → S' c = S c) (h82 : ∀ j, j ≠ 22 → S' 82 j = S 82 j) (hA : RAm S' 0 as)
    (hk : S' 82 22 = nI ks'.length ∧ ∀ (b : Nat) (l : List K_A), ks'[b]? = some l → RAm S' (b + 1) l) : MI S' tx as ks' ss := by
  have hS : sH S S' := fun c q1 q2 => hc c (by omega) (by omega) (by omega)
  obtain ⟨m1, m2, m3, m4, m5, m7⟩ := m
  refine ⟨VH_congr hS m1, by rw [h82 0 (by omega), hc 83 (by omega) (by omega) (by omega)]; exact m2, ?_, hA, hk, by rw [h82 23 (by omega), hc 104 (by omega) (by omega) (by omega), hc 105 (by omega) (by omega) (by omega), hc 106 (by omega) (by omega) (by omega)]; exact m7⟩
  rw [hS.ka]
  exact RM_c (fun c q1 q2 => hc c (by omega) (by omega) (by omega)) hS.eP hS.eT m3
/-- kept once more, at the class's place a and the reference's bank b -/
theorem keep_pair {h S : am_H} {o o' : Nat} {tx : List Nat} {as : List K_A} {ks : List (List K_A)} {ss : List K_A} (c : CI h S o o' tx as ks ss) (m : MI S tx as ks ss) (v : VI S tx as ks ss) (hk : ks.length < 2) {a : Nat} (ha : a = 62 + 4 * ks.length) :
    ∃ h1 S1, am_g 6 1 [vr 0 a, vr 0 58] h = some (h1, none) ∧ am_g 6 160 [vr 7 82, vi 0, vi (nI (ks.length + 1))] (am_up S 82 22 (nI (ks.length + 1))) = some (S1, none) ∧ h1 0 = h 0 ∧ S1 82 22 = nI (ks.length + 1) ∧ (∀ c, 82 ≤ c → h1 c = h c) ∧ (∀ c, c < 82 → S1 c = S c) ∧
      CI (am_up h1 0 9 (nI (ks.length + 1))) S1 o o' tx as (ks ++ [as]) ss ∧ MI S1 tx as (ks ++ [as]) ss ∧ VI S1 tx as (ks ++ [as]) ss := by
  have hal := v.2.1.1
  obtain ⟨h1, g1, g2, g3, g4⟩ := gA_copy_ok 5 (a0 := a) (a1 := 58) (by omega) hal c.2.2.2.2.1.1
  have hRu : ∀ b l, RAm S b l → RAm (am_up S 82 22 (nI (ks.length + 1))) b l := fun b l hr => RAm_congr (fun c q1 q2 => by rw [up_n (by omega)]) hr
  obtain ⟨S1, f1, f2, f3, f4⟩ := gM_copy_ok 5 (a := 0) (b := ks.length + 1) (l := as) (by omega) (by omega) (by omega) hal (hRu 0 as m.2.2.2.1)
  rw [nI_0] at f1
  have sS : sH S S1 := fun c q1 q2 => by rw [f2 c (by omega), up_n (by omega)]
  have s22 : S1 82 22 = nI (ks.length + 1) := by rw [f2 82 (by omega), up_s]
  refine ⟨h1, S1, g1, f1, g2 0 (by omega), s22, fun c hc => g2 c (by omega), fun c hc => by rw [f2 c (by omega), up_n (by omega)], ?_, ?_, ?_⟩
  · have hnew : RAc a (am_up h1 0 9 (nI (ks.length + 1))) as := RAc_c (fun c q1 q2 => by rw [up_n (by omega)]) (RAc_copy c.2.2.2.2.1 g3 g4)
    refine CI_kept c sS (fun j hj => by rw [up_d hj, g2 0 (by omega)]) (fun c q1 q2 q3 => by rw [up_n (by omega), g2 c (by omega)]) ⟨by rw [up_s]; simp, fun l hl => ?_, fun l hl => ?_⟩
    · rcases app_get hl with ⟨w1, w2⟩ | ⟨w1, rfl⟩
      · have e : ks.length = 1 := by omega
        exact RAc_c (fun c q1 q2 => by rw [up_n (by omega), g2 c (by omega)]) (c.2.2.2.2.2.1.2.1 l w2)
      · have e : a = 62 := by omega
        subst e
        exact hnew
    · rcases app_get hl with ⟨w1, w2⟩ | ⟨w1, rfl⟩
      · omega
      · have e : a = 66 := by omega
        subst e
        exact hnew
  · refine MI_kept m (fun c q1 q2 q3 => by rw [f2 c (by omega), up_n (by omega)]) (fun j hj => by rw [f2 82 (by omega), up_d hj]) (f4 0 as (by omega) (by omega) hal (hRu 0 as m.2.2.2.1)) ⟨by rw [s22]; simp, fun b l hl => ?_⟩
    rcases app_get hl with ⟨w1, w2⟩ | ⟨rfl, rfl⟩
    · exact f4 (b + 1) l (by omega) (by omega) (v.2.2.1.2 l (List.mem_of_getElem? w2)).1 (hRu (b + 1) l (m.2.2.2.2.1.2 b l w2))
    · exact f3
  · obtain ⟨v1, v2, v3, v4⟩ := sS.vi v
    refine ⟨v1, v2, ⟨by simp; omega, fun l hl => ?_⟩, v4⟩
    rcases List.mem_append.mp hl with g | g
    · exact v3.2 l g
    · have : l = as := by simpa using g
      rw [this]
      exact v2
theorem P_keep : Pr 78 161 [] := by
  intro h S o o' tx as ks ss c m v
  have hk2 := v.2.2.1.1
  rw [gC_keep, gM_keep, c.2.2.2.2.2.1.1, m.2.2.2.2.1.1]
  by_cases e : ks.length = 2
  · have q1 : ¬ nI ks.length < 2 := by rw [e]; decide
    have q2 : nI ks.length = 2 := by rw [e]; rfl
    rw [if_neg q1, if_pos q2]
    exact ⟨h, S, _, rfl, rfl, fun _ _ => rfl, fun _ _ => rfl, o, o', tx, as, ks, ss, c, m, v⟩
  · have q1 : nI ks.length < 2 := nI_lt (b := 2) (by omega) (by omega)
    have q2 : ¬ nI ks.length = 2 := nI_ne (b := 2) e (by omega) (by omega)
    rw [if_pos q1, if_neg q2, nI_1]
    obtain ⟨h1, S1, g1, g2, g3, g4, g5, g6, g7, g8, g9⟩ := keep_pair c m v (by omega) (a := 62 + 4 * ks.length) rfl
    rw [g2, r0_ok, g4]
    have h09 : h1 0 9 = nI ks.length := by rw [g3]; exact c.2.2.2.2.2.1.1
    have fin : ∃ (h1' S1' : am_H) (v' : Int32), some (am_up h1 0 9 (nI (ks.length + 1)), some (nI (ks.length + 1))) = some (h1', some v') ∧ some (S1, some (nI (ks.length + 1))) = some (S1', some v') ∧ (∀ c, 82 ≤ c → h1' c = h c) ∧ (∀ c, c < 82 → S1' c = S c) ∧
        ∃ (o1 o1' : Nat) (tx1 : List Nat) (as1 : List K_A) (ks1 : List (List K_A)) (ss1 : List K_A), CI h1' S1' o1 o1' tx1 as1 ks1 ss1 ∧ MI S1' tx1 as1 ks1 ss1 ∧ VI S1' tx1 as1 ks1 ss1 :=
      ⟨_, _, _, rfl, rfl, fun c hc => by rw [up_n (by omega)]; exact g5 c hc, g6, o, o', tx, as, _, ss, g7, g8, g9⟩
    by_cases e0 : ks.length = 0
    · rw [e0] at g1
      rw [if_pos (by rw [e0]; rfl), g1, r0_ok, h09, nI_1]
      exact fin
    · have e1 : ks.length = 1 := by omega
      rw [e1] at g1
      rw [if_neg (by rw [e1]; decide), g1, r0_ok, h09, nI_1]
      exact fin
