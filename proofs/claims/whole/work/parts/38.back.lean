theorem P_back : Pr 79 162 [] := by
  intro h S o o' tx as ks ss c m v
  have hk2 := v.2.2.1.1
  rw [gC_back, gM_back, c.2.2.2.2.2.1.1, m.2.2.2.2.1.1]
  by_cases e : ks.length = 0
  · rw [e, nI_0, if_pos rfl, if_pos rfl]
    exact ⟨h, S, _, rfl, rfl, fun _ _ => rfl, fun _ _ => rfl, o, o', tx, as, ks, ss, c, m, v⟩
  · have hne : ¬ nI ks.length = 0 := nI_ne0 (by omega) (by omega)
    have hlt : ks.length - 1 < ks.length := by omega
    obtain ⟨l, hl⟩ : ∃ l, ks[ks.length - 1]? = some l := ⟨_, List.getElem?_eq_getElem hlt⟩
    obtain ⟨hll, hlok⟩ := v.2.2.1.2 l (List.mem_of_getElem? hl)
    obtain ⟨a, ha, hRa⟩ : ∃ a, a = 58 + 4 * ks.length ∧ RAc a h l := by
      have : ks.length = 1 ∨ ks.length = 2 := by omega
      rcases this with q | q
      · exact ⟨62, by omega, c.2.2.2.2.2.1.2.1 l (by rw [q] at hl; exact hl)⟩
      · exact ⟨66, by omega, c.2.2.2.2.2.1.2.2 l (by rw [q] at hl; exact hl)⟩
    have hRm : RAm S ks.length l := by
      have := m.2.2.2.2.1.2 (ks.length - 1) l hl
      rw [show ks.length - 1 + 1 = ks.length by omega] at this
      exact this
    have hdl : ks.dropLast.length = ks.length - 1 := by simp
    rw [if_neg hne, if_neg hne, nI_sub1 (by omega)]
    obtain ⟨h1, g1, g2, g3, g4⟩ := gA_copy_ok 5 (a0 := 58) (a1 := a) (h := am_up h 0 9 (nI (ks.length - 1))) (n := l.length) (by omega) hll (by rw [up_n (by omega)]; exact hRa.1)
    obtain ⟨S1, f1, f2, f3, f4⟩ := gM_copy_ok 5 (a := ks.length) (b := 0) (l := l) (by omega) (by omega) (by omega) hll hRm
    rw [nI_0] at f1
    rw [f1, r0_ok]
    have s22 : S1 82 22 = nI ks.length := by rw [f2 82 (by omega)]; exact m.2.2.2.2.1.1
    rw [s22, nI_sub1 (by omega)]
    have hR58 : RAc 58 h1 l := by
      refine RAc_copy (h := am_up h 0 9 (nI (ks.length - 1))) (a1 := a) (RAc_c (fun c q1 q2 => by rw [up_n (by omega)]) hRa) g3 g4
    obtain ⟨h2, S2, b1, b2, b3, b4, b5, b6, b7⟩ := again_pair (as' := l) (ks' := ks.dropLast) (hA := h1) (SA := am_up S1 82 22 (nI (ks.length - 1))) c m v (fun j hj => by rw [g2 0 (by omega), up_d hj]) (fun c q1 q2 q3 => by rw [g2 c (by omega), up_n (by omega)]) hR58
      ⟨by rw [g2 0 (by omega), up_s, hdl], fun l' hl' => RAc_c (fun c q1 q2 => by rw [g2 c (by omega), up_n (by omega)]) (c.2.2.2.2.2.1.2.1 l' (get_dl hl')), fun l' hl' => RAc_c (fun c q1 q2 => by rw [g2 c (by omega), up_n (by omega)]) (c.2.2.2.2.2.1.2.2 l' (get_dl hl'))⟩
      (fun c q1 q2 q3 => by rw [up_n (by omega), f2 c (by omega)]) (fun j hj => by rw [up_d hj, f2 82 (by omega)])
      (RAm_congr (fun c q1 q2 => by rw [up_n (by omega)]) f3)
      ⟨by rw [up_s, hdl], fun b l' hl' => RAm_congr (S := S1) (fun c q1 q2 => by rw [up_n (by omega)]) (by
        have hb : b < ks.dropLast.length := (List.getElem?_eq_some_iff.mp hl').1
        exact f4 (b + 1) l' (by omega) (by omega) (v.2.2.1.2 l' (List.mem_of_getElem? (get_dl hl'))).1 (m.2.2.2.2.1.2 b l' (get_dl hl')))⟩
      ⟨hll, hlok⟩ ⟨by omega, fun l' hl' => v.2.2.1.2 l' ((List.dropLast_sublist ks).subset hl')⟩
    rw [b2, r0_ok]
    have fin : ∃ (h1' S1' : am_H) (v' : Int32), some (h2, some (h2 0 9)) = some (h1', some v') ∧ some (S2, some (S2 82 22)) = some (S1', some v') ∧ (∀ c, 82 ≤ c → h1' c = h c) ∧ (∀ c, c < 82 → S1' c = S c) ∧
        ∃ (o1 o1' : Nat) (tx1 : List Nat) (as1 : List K_A) (ks1 : List (List K_A)) (ss1 : List K_A), CI h1' S1' o1 o1' tx1 as1 ks1 ss1 ∧ MI S1' tx1 as1 ks1 ss1 ∧ VI S1' tx1 as1 ks1 ss1 :=
      ⟨h2, S2, nI (ks.length - 1), by rw [b5.2.2.2.2.2.1.1, hdl], by rw [b6.2.2.2.2.1.1, hdl], fun c hc => by rw [b3 c (by omega), g2 c (by omega), up_n (by omega)], fun c hc => by rw [b4 c (by omega), up_n (by omega), f2 c (by omega)], o, o', tx, _, _, ss, b5, b6, b7⟩
    have : ks.length = 1 ∨ ks.length = 2 := by omega
    rcases this with q | q
    · have ea : a = 62 := by omega
      subst ea
      have q0 : nI (ks.length - 1) = 0 := by rw [q]; rfl
      rw [if_pos q0, g1, r0_ok, b1, r0_ok]
      exact fin
    · have ea : a = 66 := by omega
      subst ea
      have q0 : ¬ nI (ks.length - 1) = 0 := nI_ne0 (by omega) (by omega)
      rw [if_neg q0, g1, r0_ok, b1, r0_ok]
      exact fin
