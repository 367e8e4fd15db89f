/-! ALL ACTS DONE AGAIN, by the class -/
theorem again_a (d : Nat) {k o : Nat} {h1 S : am_H} {as : List K_A} {mr : Int32} (hv : VH S) (e : EH k o h1 S) (hA : RAc 58 h1 as) (hok : ∀ a ∈ as, okA S a) (hl : as.length ≤ 40) : ∀ (m n j : Nat) (M : am_H) (K : K_T), j + m = as.length → m < n → frC k h1 M → RC k M S K → VK S j K →
    ∃ M', rC_doAgain (d + 4) n 8 [some (vr 6 0), some (vr 1 k), some (vi mr), some (vi (nI j))] M = some (M', none) ∧ frC k h1 M' ∧ RC k M' S ((as.drop j).foldl (fun K a => kAct S a K) K) := by
  have hk := e.1.2
  intro m
  induction m with
  | zero =>
    intro n j M K hik hn hf hR hK
    obtain ⟨n, rfl⟩ : ∃ m, n = m + 1 := ⟨n - 1, by omega⟩
    refine ⟨M, ?_, hf, ?_⟩
    · rw [tC_doAgain_8, hf.1 58 (by omega), hA.1, if_neg (nI_nlt (by omega) (by omega))]
    · rw [List.drop_of_length_le (by omega)]
      exact hR
  | succ m ih =>
    intro n j M K hik hn hf hR hK
    obtain ⟨n, rfl⟩ : ∃ m, n = m + 1 := ⟨n - 1, by omega⟩
    have hj : j < as.length := by omega
    obtain ⟨b1, b2, b3⟩ := hA.2 j as[j] (List.getElem?_eq_getElem hj)
    have hoka : okA S as[j] := hok _ (List.getElem_mem hj)
    obtain ⟨M1, g1, g2, g3⟩ := gK_perform_ok d hv (hf.eh e) hR hK (by omega) hoka
    rw [tC_doAgain_8, hf.1 58 (by omega), hA.1, if_pos (nI_lt hj (by omega)), b_ok (by omega) (by omega), b_ok (by omega) (by omega), b_ok (by omega) (by omega), hf.1 59 (by omega), hf.1 60 (by omega), hf.1 61 (by omega), b1, b2, b3, g1, r0_ok, nI_1]
    obtain ⟨M', e1, e2, e3⟩ := ih n (j + 1) M1 (kAct S as[j] K) (by omega) (by omega) (hf.tr g3) g2 (VK_act hv hK hoka (by omega))
    refine ⟨M', e1, e2, ?_⟩
    rw [List.drop_eq_getElem_cons hj]
    exact e3
theorem gC_doAgain_ok (d : Nat) {k o : Nat} {h h1 S : am_H} {as : List K_A} {mr : Int32} (hv : VH S) (h2 : (h 0 2).toNatClampNeg = o) (hh : am_up (am_up (am_up h k 0 (nI o)) k 1 mr) k 14 0 = h1) (e : EH k o h1 S) (hA : RAc 58 h1 as) (hok : ∀ a ∈ as, okA S a) (hl : as.length ≤ 40) :
    ∃ h', am_g (d + 5) 82 [vr 6 0, vr 1 k, vi mr] h = some (h', none) ∧ RC k h' S (kAll S as) ∧ frC k h1 h' := by
  obtain ⟨M1, g1, g2, g3⟩ := gK_begin_ok (d + 2) hv hh e
  obtain ⟨M2, f1, f2, f3⟩ := again_a d (mr := mr) hv e hA hok hl as.length 999999 0 M1 (kIni S) (by omega) (by omega) g3 g2 (VK_ini hv)
  refine ⟨M2, ?_, f3, f2⟩
  rw [gC_doAgain, h2, g1, r0_ok, ← nI_0, f1]
theorem EH_set {o : Nat} {h S : am_H} {x : Int32} (ho : o ≤ 17) (e : EH 32 o h S) (h1 : h 32 1 = -4) : EH 32 o (am_up (am_up (am_up h 32 0 (nI o)) 32 1 (-4)) 32 14 x) S := by
  unfold EH at *
  have q0 : (am_up (am_up (am_up h 32 0 (nI o)) 32 1 (-4)) 32 14 x) 32 0 = nI o := by simp [up_a]
  have q1 : (am_up (am_up (am_up h 32 0 (nI o)) 32 1 (-4)) 32 14 x) 32 1 = h 32 1 := by simp [up_a, h1]
  have qo : ∀ c, c < 32 → (am_up (am_up (am_up h 32 0 (nI o)) 32 1 (-4)) 32 14 x) c = h c := fun c hc => by rw [up_n (by omega), up_n (by omega), up_n (by omega)]
  rw [q0, q1, qo o (by omega), qo (o + 4) (by omega), qo (o + 5) (by omega), qo (o + 6) (by omega), qo (o + 7) (by omega), qo (o + 8) (by omega), qo (o + 9) (by omega), qo (o + 10) (by omega), qo (o + 11) (by omega)]
  exact ⟨⟨rfl, e.1.2⟩, e.2⟩
section AGAIN
variable {h S : am_H} {o o' : Nat} {tx : List Nat} {as as' : List K_A} {ks ks' : List (List K_A)} {ss : List K_A}
/-- other acts, done again on both sides: hA and SA are the two states with the new acts (and what is kept of them) -/
theorem again_pair {hA SA : am_H} (c : CI h S o o' tx as ks ss) (m : MI S tx as ks ss) (v : VI S tx as ks ss) (h0 : ∀ j, j ≠ 9 → hA 0 j = h 0 j) (hc : ∀ c, 1 ≤ c → c < 82 → ¬ (58 ≤ c ∧ c ≤ 69) → hA c = h c) (hRA : RAc 58 hA as')
    (hks : hA 0 9 = nI ks'.length ∧ (∀ l, ks'[0]? = some l → RAc 62 hA l) ∧ ∀ l, ks'[1]? = some l → RAc 66 hA l)
    (sc : ∀ c, 83 ≤ c → c ≤ 123 → ¬ (100 ≤ c ∧ c ≤ 103) → SA c = S c) (s82 : ∀ j, j ≠ 22 → SA 82 j = S 82 j) (hRM : RAm SA 0 as') (hkm : SA 82 22 = nI ks'.length ∧ ∀ (b : Nat) (l : List K_A), ks'[b]? = some l → RAm SA (b + 1) l)
    (hok : as'.length ≤ 40 ∧ ∀ a ∈ as', okA S a) (hokk : ks'.length ≤ 2 ∧ ∀ l ∈ ks', l.length ≤ 40 ∧ ∀ a ∈ l, okA S a) :
    ∃ h1 S1, am_g 6 82 [vr 6 0, vr 1 32, vi (-4)] hA = some (h1, none) ∧ am_g 6 123 [vr 7 82] SA = some (S1, none) ∧ (∀ c, ¬ (32 ≤ c ∧ c ≤ 44) → h1 c = hA c) ∧ (∀ c, ¬ (108 ≤ c ∧ c ≤ 118) → S1 c = SA c) ∧ CI h1 S1 o o' tx as' ks' ss ∧ MI S1 tx as' ks' ss ∧ VI S1 tx as' ks' ss := by
  have hv := m.1
  have ho := c.1.1
  have sSA : sH S SA := fun c q1 q2 => sc c (by omega) (by omega) (by omega)
  have hvA : VH SA := VH_congr sSA hv
  have eA : EH 32 o hA S := by
    have e0 := c.eh hv
    unfold EH at e0 ⊢
    rw [hc 32 (by omega) (by omega) (by omega), hc o (by omega) (by omega) (by omega), hc (o + 4) (by omega) (by omega) (by omega), hc (o + 5) (by omega) (by omega) (by omega), hc (o + 6) (by omega) (by omega) (by omega), hc (o + 7) (by omega) (by omega) (by omega), hc (o + 8) (by omega) (by omega) (by omega), hc (o + 9) (by omega) (by omega) (by omega), hc (o + 10) (by omega) (by omega) (by omega), hc (o + 11) (by omega) (by omega) (by omega)]
    exact e0
  have h321 : hA 32 1 = -4 := by rw [hc 32 (by omega) (by omega) (by omega)]; exact c.2.2.2.1.2.1
  obtain ⟨hB, hHB⟩ : ∃ hB, am_up (am_up (am_up hA 32 0 (nI o)) 32 1 (-4)) 32 14 0 = hB := ⟨_, rfl⟩
  have eB : EH 32 o hB S := by rw [← hHB]; exact EH_set (by omega) eA h321
  have hBo : ∀ c, c ≠ 32 → hB c = hA c := fun c hc => by rw [← hHB, up_n hc, up_n hc, up_n hc]
  obtain ⟨h1, g1, g2, g3⟩ := gC_doAgain_ok 1 hv (by rw [h0 2 (by omega)]; exact c.oo) hHB eB (RAc_c (fun c q1 q2 => hBo c (by omega)) hRA) hok.2 hok.1
  obtain ⟨S1, f1, f2, f3⟩ := gM_goAll_ok 1 hvA hRM (fun a ha => sSA.ok (hok.2 a ha)) hok.1
  have sS1 : sH S S1 := fun c q1 q2 => by rw [f2 c (by omega)]; exact sSA c q1 q2
  have hall : ∀ c, ¬ (32 ≤ c ∧ c ≤ 44) → h1 c = hA c := fun c hc => by rw [g3.1 c (by omega)]; exact hBo c (by omega)
  refine ⟨h1, S1, g1, f1, hall, f2, ?_, ?_, ?_⟩
  · obtain ⟨c1, c2, c3, ⟨c4, c5, c6⟩, c7, ⟨c8, c9, c10⟩, c11, c12⟩ := c
    have hh : ∀ c, 1 ≤ c → c < 82 → ¬ (32 ≤ c ∧ c ≤ 44) → ¬ (58 ≤ c ∧ c ≤ 69) → h1 c = h c := fun c q1 q2 q3 q4 => by rw [hall c q3]; exact hc c q1 q2 q4
    have q0 := hall 0 (by omega)
    refine ⟨⟨c1.1, by rw [q0, h0 2 (by omega)]; exact c1.2.1, by rw [q0, h0 3 (by omega)]; exact c1.2.2⟩, by rw [q0, h0 1 (by omega), hh 1 (by omega) (by omega) (by omega) (by omega)]; exact c2, RH_c (fun c q1 q2 => hh c (by omega) (by omega) (by omega) (by omega)) sS1 c3, ⟨?_, ?_, ?_⟩, RAc_c (fun c q1 q2 => hall c (by omega)) hRA, ⟨by rw [q0]; exact hks.1, fun l hl => RAc_c (fun c q1 q2 => hall c (by omega)) (hks.2.1 l hl), fun l hl => RAc_c (fun c q1 q2 => hall c (by omega)) (hks.2.2 l hl)⟩, by rw [hh 70 (by omega) (by omega) (by omega) (by omega), hh 71 (by omega) (by omega) (by omega) (by omega), hh 72 (by omega) (by omega) (by omega) (by omega), hh 73 (by omega) (by omega) (by omega) (by omega)]; exact c11, by rw [hh 79 (by omega) (by omega) (by omega) (by omega)]; exact c12⟩
    · rw [g3.2 0 (by omega), ← hHB]; simp [up_a]
    · rw [g3.2 1 (by omega), ← hHB]; simp [up_a]
    · rw [sS1.ka]
      exact RC_c (fun _ _ _ => rfl) sS1.eP sS1.eT g2
  · obtain ⟨m1, m2, m3, m4, ⟨m5, m6⟩, m7⟩ := m
    have hh : ∀ c, 83 ≤ c → c ≤ 123 → ¬ (100 ≤ c ∧ c ≤ 103) → ¬ (108 ≤ c ∧ c ≤ 118) → S1 c = S c := fun c q1 q2 q3 q4 => by rw [f2 c q4]; exact sc c q1 q2 q3
    have q0 := f2 82 (by omega)
    refine ⟨VH_congr sS1 m1, by rw [q0, s82 0 (by omega), hh 83 (by omega) (by omega) (by omega) (by omega)]; exact m2, ?_, RAm_congr (fun c q1 q2 => f2 c (by omega)) hRM, ⟨by rw [q0]; exact hkm.1, fun b l hl => RAm_congr (fun c q1 q2 => f2 c (by omega)) (hkm.2 b l hl)⟩, by rw [q0, s82 23 (by omega), hh 104 (by omega) (by omega) (by omega) (by omega), hh 105 (by omega) (by omega) (by omega) (by omega), hh 106 (by omega) (by omega) (by omega) (by omega)]; exact m7⟩
    rw [sS1.ka, ← sSA.ka]
    exact f3
  · obtain ⟨v1, v2, v3, v4⟩ := v
    have : VI S tx as' ks' ss := ⟨v1, hok, hokk, v4⟩
    exact sS1.vi this
end AGAIN
theorem get_dl {α : Type} {l : List α} {x : α} {j : Nat} (h : l.dropLast[j]? = some x) : l[j]? = some x := by
  rw [List.getElem?_dropLast] at h
  split at h
  · exact h
  · cases h
theorem P_undo : Pr 63 140 [] := by
  intro h S o o' tx as ks ss c m v
  rw [gC_undo, gM_undo, c.2.2.2.2.1.1, m.2.2.2.1.1]
  have hal := v.2.1.1
  by_cases e : as.length = 0
  · rw [e, nI_0, if_pos rfl, if_pos rfl]
    exact ⟨h, S, _, rfl, rfl, fun _ _ => rfl, fun _ _ => rfl, o, o', tx, as, ks, ss, c, m, v⟩
  · have hne : ¬ nI as.length = 0 := nI_ne0 (by omega) (by omega)
    have hdl : as.dropLast.length = as.length - 1 := by simp
    rw [if_neg hne, if_neg hne, nI_sub1 (by omega)]
    obtain ⟨h1, S1, g1, g2, g3, g4, g5, g6, g7⟩ := again_pair (as' := as.dropLast) (ks' := ks) (hA := am_up h 58 3 (nI (as.length - 1))) (SA := am_up S 100 0 (nI (as.length - 1))) c m v (fun j hj => by rw [up_n (by omega)]) (fun c q1 q2 q3 => by rw [up_n (by omega)])
      ⟨by rw [up_s, hdl], fun j x hx => by rw [up_n (by omega), up_n (by omega), up_n (by omega)]; exact c.2.2.2.2.1.2 j x (get_dl hx)⟩
      ⟨by rw [up_n (by omega)]; exact c.2.2.2.2.2.1.1, fun l hl => RAc_c (fun c q1 q2 => by rw [up_n (by omega)]) (c.2.2.2.2.2.1.2.1 l hl), fun l hl => RAc_c (fun c q1 q2 => by rw [up_n (by omega)]) (c.2.2.2.2.2.1.2.2 l hl)⟩
      (fun c q1 q2 q3 => by rw [up_n (by omega)]) (fun j hj => by rw [up_n (by omega)])
      ⟨by rw [up_s, hdl], fun j x hx => by rw [up_n (by omega), up_n (by omega), up_n (by omega)]; exact m.2.2.2.1.2 j x (get_dl hx)⟩
      ⟨by rw [up_n (by omega)]; exact m.2.2.2.2.1.1, fun b l hl => by
        obtain ⟨k1, k2⟩ := m.2.2.2.2.1.2 b l hl
        exact ⟨by rw [up_d (by omega)]; exact k1, fun j x hx => by rw [up_n (by omega), up_n (by omega), up_n (by omega)]; exact k2 j x hx⟩⟩
      ⟨by omega, fun a ha => v.2.1.2 a ((List.dropLast_sublist as).subset ha)⟩ v.2.2.1
    rw [g1, g2, r0_ok, r0_ok]
    refine ⟨h1, S1, nI (as.length - 1), by rw [g5.2.2.2.2.1.1, hdl], by rw [g6.2.2.2.1.1, hdl], fun c hc => by rw [g3 c (by omega), up_n (by omega)], fun c hc => by rw [g4 c (by omega), up_n (by omega)], o, o', tx, _, ks, ss, g5, g6, g7⟩
