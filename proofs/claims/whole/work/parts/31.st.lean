/-! WHAT DOESN'T CHANGE -/
theorem RH_c {o : Nat} {h h' S S' : am_H} (hc : ∀ c, o ≤ c → c ≤ o + 13 → h' c = h c) (hS : ∀ c, 84 ≤ c → c ≤ 99 → S' c = S c) (r : RH o h S) : RH o h' S' := by
  unfold RH nR nD nP nT hOf at *
  rw [hc o (by omega) (by omega), hc (o + 1) (by omega) (by omega), hc (o + 2) (by omega) (by omega), hc (o + 3) (by omega) (by omega), hc (o + 4) (by omega) (by omega), hc (o + 5) (by omega) (by omega), hc (o + 6) (by omega) (by omega), hc (o + 7) (by omega) (by omega), hc (o + 8) (by omega) (by omega), hc (o + 9) (by omega) (by omega), hc (o + 10) (by omega) (by omega), hc (o + 11) (by omega) (by omega), hc (o + 12) (by omega) (by omega), hc (o + 13) (by omega) (by omega), hS 84 (by omega) (by omega), hS 85 (by omega) (by omega), hS 86 (by omega) (by omega), hS 87 (by omega) (by omega), hS 88 (by omega) (by omega), hS 89 (by omega) (by omega), hS 90 (by omega) (by omega), hS 91 (by omega) (by omega), hS 92 (by omega) (by omega), hS 93 (by omega) (by omega), hS 94 (by omega) (by omega), hS 95 (by omega) (by omega), hS 96 (by omega) (by omega), hS 97 (by omega) (by omega), hS 98 (by omega) (by omega), hS 99 (by omega) (by omega)]
  exact r
theorem RC_c {k : Nat} {h h' S S' : am_H} {K : K_T} (hc : ∀ c, k ≤ c → c ≤ k + 12 → h' c = h c) (h1 : nP S' = nP S) (h2 : nT S' = nT S) (r : RC k h S K) : RC k h' S' K := by
  obtain ⟨r1, r2, r3, r4⟩ := r
  refine ⟨fun i hi => ?_, fun t ht => ?_, by rw [hc k (by omega) (by omega)]; exact r3, vC_congr (h := h) (fun c j q1 q2 _ => by rw [hc c (by omega) (by omega)]) r4⟩
  · rw [h1] at hi
    rw [hc (k + 1) (by omega) (by omega), hc (k + 2) (by omega) (by omega), hc (k + 3) (by omega) (by omega), hc (k + 4) (by omega) (by omega)]
    exact r1 i hi
  · rw [h2] at ht
    rw [hc (k + 5) (by omega) (by omega), hc (k + 6) (by omega) (by omega), hc (k + 7) (by omega) (by omega), hc (k + 8) (by omega) (by omega)]
    exact r2 t ht
theorem RAc_c {a : Nat} {h h' : am_H} {as : List K_A} (hc : ∀ c, a ≤ c → c ≤ a + 3 → h' c = h c) (r : RAc a h as) : RAc a h' as := by
  unfold RAc at *
  rw [hc a (by omega) (by omega), hc (a + 1) (by omega) (by omega), hc (a + 2) (by omega) (by omega), hc (a + 3) (by omega) (by omega)]
  exact r
theorem RM_c {S S' : am_H} {K : K_T} (hc : ∀ c, 108 ≤ c → c ≤ 118 → S' c = S c) (h1 : nP S' = nP S) (h2 : nT S' = nT S) (r : RM S K) : RM S' K := by
  obtain ⟨r1, r2, r3⟩ := r
  refine ⟨fun i hi => ?_, fun t ht => ?_, vM_congr (S := S) (fun c j q1 q2 _ => by rw [hc c (by omega) (by omega)]) r3⟩
  · rw [h1] at hi
    rw [hc 108 (by omega) (by omega), hc 109 (by omega) (by omega), hc 110 (by omega) (by omega), hc 115 (by omega) (by omega)]
    exact r1 i hi
  · rw [h2] at ht
    rw [hc 111 (by omega) (by omega), hc 112 (by omega) (by omega), hc 113 (by omega) (by omega), hc 114 (by omega) (by omega)]
    exact r2 t ht
/-- the house's cells are the same -/
def sH (S S' : am_H) : Prop := ∀ c, 84 ≤ c → c ≤ 99 → S' c = S c
theorem sH.eR {S S' : am_H} (h : sH S S') : nR S' = nR S := by unfold nR; rw [h 84 (by omega) (by omega)]
theorem sH.eD {S S' : am_H} (h : sH S S') : nD S' = nD S := by unfold nD; rw [h 88 (by omega) (by omega)]
theorem sH.eP {S S' : am_H} (h : sH S S') : nP S' = nP S := by unfold nP; rw [h 92 (by omega) (by omega)]
theorem sH.eT {S S' : am_H} (h : sH S S') : nT S' = nT S := by unfold nT; rw [h 95 (by omega) (by omega)]
theorem sH.ka {S S' : am_H} (h : sH S S') (as : List K_A) : kAll S' as = kAll S as := by
  have hv : ∀ n, vIni S' n = vIni S n := by
    intro n
    induction n with
    | zero => rfl
    | succ n ih => unfold vIni; rw [ih, h 93 (by omega) (by omega)]
  have hi : kIni S' = kIni S := by
    unfold kIni
    rw [h 93 (by omega) (by omega), h 94 (by omega) (by omega), h 96 (by omega) (by omega), h.eP, hv]
  unfold kAll
  rw [hi]
  have : (fun K a => kAct S' a K) = (fun K a => kAct S a K) := by
    funext K a
    exact kAct_congr h a K
  rw [this]
theorem sH.ok {S S' : am_H} (h : sH S S') {a : K_A} (ha : okA S a) : okA S' a := by
  unfold okA at *
  rw [h.eP, h.eD, h.eT]
  exact ha
theorem sH.vi {S S' : am_H} (h : sH S S') {tx : List Nat} {as : List K_A} {ks : List (List K_A)} {ss : List K_A} (v : VI S tx as ks ss) : VI S' tx as ks ss := by
  obtain ⟨v1, ⟨v2, v3⟩, ⟨v4, v5⟩, v6⟩ := v
  refine ⟨v1, ⟨v2, fun a ha => h.ok (v3 a ha)⟩, ⟨v4, fun l hl => ⟨(v5 l hl).1, fun a ha => h.ok ((v5 l hl).2 a ha)⟩⟩, ?_⟩
  rw [h.eR]
  exact v6
/-- the class's cells, but for the letters, what was seen and what is for scratch, are the same -/
theorem CI_c {h h' S S' : am_H} {o o' : Nat} {tx tx' : List Nat} {as : List K_A} {ks : List (List K_A)} {ss ss' : List K_A} (c : CI h S o o' tx as ks ss) (hS : sH S S') (h0 : ∀ j, j ≠ 1 → h' 0 j = h 0 j) (hc : ∀ c, 2 ≤ c → c ≤ 69 → ¬ (45 ≤ c ∧ c ≤ 57) → h' c = h c)
    (htx : h' 0 1 = nI tx'.length ∧ ∀ (j x : Nat), tx'[j]? = some x → h' 1 j = nI x) (hss : h' 70 3 = nI ss'.length ∧ ∀ (j : Nat) (x : K_A), ss'[j]? = some x → h' 71 j = nI x.1 ∧ h' 72 j = nI x.2.1 ∧ h' 73 j = nI x.2.2)
    (h79 : h' 79 0 = nI 80 ∧ h' 79 1 = nI 81 ∨ h' 79 0 = nI 81 ∧ h' 79 1 = nI 80) : CI h' S' o o' tx' as ks ss' := by
  have ho := c.1.1
  obtain ⟨c1, c2, c3, ⟨c4, c5, c6⟩, c7, ⟨c8, c9, c10⟩, c11, c12⟩ := c
  refine ⟨⟨c1.1, by rw [h0 2 (by omega)]; exact c1.2.1, by rw [h0 3 (by omega)]; exact c1.2.2⟩, htx, RH_c (fun c q1 q2 => hc c (by omega) (by omega) (by omega)) hS c3, ⟨by rw [hc 32 (by omega) (by omega) (by omega)]; exact c4, by rw [hc 32 (by omega) (by omega) (by omega)]; exact c5, ?_⟩, RAc_c (fun c q1 q2 => hc c (by omega) (by omega) (by omega)) c7, ⟨by rw [h0 9 (by omega)]; exact c8, fun l hl => RAc_c (fun c q1 q2 => hc c (by omega) (by omega) (by omega)) (c9 l hl), fun l hl => RAc_c (fun c q1 q2 => hc c (by omega) (by omega) (by omega)) (c10 l hl)⟩, hss, h79⟩
  rw [hS.ka]
  exact RC_c (fun c q1 q2 => hc c (by omega) (by omega) (by omega)) hS.eP hS.eT c6
/-- the reference's cells, but for the letters, what was seen and what is for scratch, are the same -/
theorem MI_c {S S' : am_H} {tx tx' : List Nat} {as : List K_A} {ks : List (List K_A)} {ss ss' : List K_A} (m : MI S tx as ks ss) (hc : ∀ c, 84 ≤ c → c ≤ 118 → ¬ (104 ≤ c ∧ c ≤ 107) → S' c = S c) (h22 : S' 82 22 = S 82 22)
    (htx : S' 82 0 = nI tx'.length ∧ ∀ (j x : Nat), tx'[j]? = some x → S' 83 j = nI x) (hss : S' 82 23 = nI ss'.length ∧ ∀ (j : Nat) (x : K_A), ss'[j]? = some x → S' 104 j = nI x.1 ∧ S' 105 j = nI x.2.1 ∧ S' 106 j = nI x.2.2) : MI S' tx' as ks ss' := by
  have hS : sH S S' := fun c q1 q2 => hc c q1 (by omega) (by omega)
  obtain ⟨m1, m2, m3, m4, ⟨m5, m6⟩, m7⟩ := m
  refine ⟨VH_congr hS m1, htx, ?_, RAm_congr (fun c q1 q2 => hc c (by omega) (by omega) (by omega)) m4, ⟨by rw [h22]; exact m5, fun b l hl => RAm_congr (fun c q1 q2 => hc c (by omega) (by omega) (by omega)) (m6 b l hl)⟩, hss⟩
  rw [hS.ka]
  exact RM_c (fun c q1 q2 => hc c (by omega) (by omega) (by omega)) hS.eP hS.eT m3
theorem app_get {α : Type} {l : List α} {a x : α} {j : Nat} (h : (l ++ [a])[j]? = some x) : (j < l.length ∧ l[j]? = some x) ∨ (j = l.length ∧ x = a) := by
  rcases Nat.lt_or_ge j l.length with q | q
  · rw [List.getElem?_append_left q] at h
    exact Or.inl ⟨q, h⟩
  · rw [List.getElem?_append_right q] at h
    have : j - l.length < 1 := by
      have := (List.getElem?_eq_some_iff.mp h).1
      simpa using this
    have e : j = l.length := by omega
    refine Or.inr ⟨e, ?_⟩
    rw [e, Nat.sub_self] at h
    simpa using h.symm
theorem chr_id {x : Nat} (h : x < 128) : vp_nar .char (am_i2c (nI x)) = nI x := by
  have h1 : am_i2c (nI x) = nI x := by
    unfold am_i2c
    rw [pk_char, pk_tn (by omega)]
    congr 1
    omega
  rw [h1]
  unfold vp_nar
  rw [(pk_charN (q := x) (by omega)).1]
theorem P_write (x : Int32) : Pr 49 100 [vi x] := by
  intro h S o o' tx as ks ss c m v
  have e32 : ((32 : Int32)).toInt = 32 := rfl
  have e126 : ((126 : Int32)).toInt = 126 := rfl
  have hl := v.1.1
  rw [gC_write, gM_write, gM_in_ok, r1_ok]
  by_cases h1 : x < 32
  · rw [if_pos h1, if_pos (yn_0.mpr fun q => q.1 h1)]
    exact ⟨h, S, _, rfl, rfl, fun _ _ => rfl, fun _ _ => rfl, o, o', tx, as, ks, ss, c, m, v⟩
  · by_cases h2 : 126 < x
    · rw [if_neg h1, if_pos h2, if_pos (yn_0.mpr fun q => q.2 h2)]
      exact ⟨h, S, _, rfl, rfl, fun _ _ => rfl, fun _ _ => rfl, o, o', tx, as, ks, ss, c, m, v⟩
    · rw [if_neg h1, if_neg h2, if_neg (fun q => yn_0.mp q ⟨h1, h2⟩), c.2.1.1, m.2.1.1]
      obtain ⟨n, hn1, hn2, rfl⟩ : ∃ n : Nat, 32 ≤ n ∧ n ≤ 126 ∧ x = nI n := by
        rw [Int32.lt_iff_toInt_lt] at h1 h2
        refine ⟨x.toInt.toNat, by omega, by omega, ?_⟩
        rw [nI_ofInt, show ((x.toInt.toNat : Nat) : Int) = x.toInt by omega, of_ti]
      by_cases hf : tx.length = 200
      · have q1 : ¬ nI tx.length < 200 := by rw [hf]; decide
        have q2 : nI tx.length = 200 := by rw [hf]; rfl
        rw [if_neg q1, if_pos q2]
        exact ⟨h, S, _, rfl, rfl, fun _ _ => rfl, fun _ _ => rfl, o, o', tx, as, ks, ss, c, m, v⟩
      · have q1 : nI tx.length < 200 := nI_lt (b := 200) (by omega) (by omega)
        have q2 : ¬ nI tx.length = 200 := nI_ne (b := 200) hf (by omega) (by omega)
        rw [if_pos q1, if_neg q2, b_ok (by omega) (by omega), b_ok (by omega) (by omega), chr_id (by omega), nI_1]
        refine ⟨_, _, _, rfl, rfl, fun c hc => by rw [up_n (by omega), up_n (by omega)], fun c hc => by rw [up_n (by omega), up_n (by omega)], o, o', tx ++ [n], as, ks, ss, ?_, ?_, ?_⟩
        · refine CI_c c (fun c q1 q2 => by rw [up_n (by omega), up_n (by omega)]) (fun j hj => by rw [up_d hj, up_n (by omega)]) (fun c q1 q2 q3 => by rw [up_n (by omega), up_n (by omega)]) ⟨by rw [up_s]; simp, fun j y hy => ?_⟩ ?_ ?_
          · rw [up_n (by omega)]
            rcases app_get hy with ⟨g1, g2⟩ | ⟨rfl, rfl⟩
            · rw [up_d (by omega)]
              exact c.2.1.2 j y g2
            · rw [up_s]
          · simp only [up_a]
            simpa using c.2.2.2.2.2.2.1
          · simp only [up_a]
            simpa using c.2.2.2.2.2.2.2
        · refine MI_c m (fun c q1 q2 q3 => by rw [up_n (by omega), up_n (by omega)]) (by rw [up_d (by omega), up_n (by omega)]) ⟨by rw [up_s]; simp, fun j y hy => ?_⟩ ?_
          · rw [up_n (by omega)]
            rcases app_get hy with ⟨g1, g2⟩ | ⟨rfl, rfl⟩
            · rw [up_d (by omega)]
              exact m.2.1.2 j y g2
            · rw [up_s]
          · simp only [up_a]
            simpa using m.2.2.2.2.2
        · have hs : sH S (am_up (am_up S 83 tx.length (nI n)) 82 0 (nI (tx.length + 1))) := fun c q1 q2 => by rw [up_n (by omega), up_n (by omega)]
          obtain ⟨v1, v2⟩ := hs.vi v
          refine ⟨⟨by simp; omega, fun y hy => ?_⟩, v2⟩
          rcases List.mem_append.mp hy with g | g
          · exact v1.2 y g
          · simp at g; omega
