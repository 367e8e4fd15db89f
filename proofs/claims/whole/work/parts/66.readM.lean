/-! THE REFERENCE READS: the whole text -/
section RM3
variable {tx : List Nat}
theorem gM_figures_ok (d : Nat) {N p : Nat} {M : am_H} (hN : N ≤ 4) (hp : p ≤ tx.length) (T : tM tx M p) :
    (pNs tx N p = none → ∃ M', am_g (d + 2) 103 [vr 7 82, vi (nI N)] M = some (M', some 0) ∧ fr7 M M') ∧
    (∀ l p', pNs tx N p = some (l, p') → ∃ (M' : am_H), am_g (d + 2) 103 [vr 7 82, vi (nI N)] M = some (M', some 1) ∧ tM tx M' p' ∧ fr7 M M' ∧ ∀ i, i < N → M' 107 i = nI (l.getD i 0)) := by
  obtain ⟨k1, k2⟩ := numsM (tx := tx) d hN N 999999 0 p M none none (by omega) (by omega) hp T
  rw [nI_0] at k1 k2
  rw [gM_figures]
  refine ⟨k1, fun l p' z => ?_⟩
  obtain ⟨M', g1, g2, g3, g4, g5⟩ := k2 l p' z
  obtain ⟨b1, -, -, -⟩ := pNs_b z hp
  refine ⟨M', g1, g2, g3, fun i hi => ?_⟩
  have := g5 i (l.getD i 0) (by
    rw [List.getD_eq_getElem?_getD, List.getElem?_eq_getElem (by omega)]
    rfl)
  rw [show 0 + i = i by omega] at this
  exact this
/-- what an item does in the reference -/
def oM (tx : List Nat) (M : am_H) (R : am_Z) (res : Option (am_H × Nat)) : Prop := (res = none → ∃ M', R = some (M', some 0) ∧ fM M M') ∧ (∀ B' p', res = some (B', p') → ∃ M', R = some (M', some 1) ∧ fM M M' ∧ tM tx M' p' ∧ M1 M' B')
theorem tM_same {M M' : am_H} {p : Nat} (T : tM tx M p) (h2 : M' 82 = M 82) (h3 : M' 83 = M 83) : tM tx M' p := ⟨by rw [h3]; exact T.1, by rw [h2]; exact T.2.1, by rw [h2]; exact T.2.2⟩
theorem oM_no {M M3 : am_H} (f : fM M M3) : oM tx M (some (M3, some 0)) none := ⟨fun _ => ⟨M3, rfl, f⟩, fun B' p' z => by cases z⟩
theorem oM_yes {M M3 B' : am_H} {p' : Nat} (f : fM M M3) (T : tM tx M3 p') (m : M1 M3 B') : oM tx M (some (M3, some 1)) (some (B', p')) := ⟨fun z => (by cases z), fun B2 p2 z => by cases z; exact ⟨M3, rfl, f, T, m⟩⟩
theorem itemM (d : Nat) {p : Nat} {M B : am_H} (hp : p < tx.length) (T : tM tx M p) (v : VB B) (m : M1 M B) : oM tx M (am_g (d + 3) 104 [vr 7 82] M) (pItem tx p B) := by
  have hl := T.1.2.1
  have tb := tL_b T p
  have f0 : fr7 M (am_up M 82 27 (nI (p + 1))) := fun c j h1 h2 => by rw [up_a, if_neg (fun z => h1 z)]
  have T0 : tM tx (am_up M 82 27 (nI (p + 1))) (p + 1) := T.fr f0 (by rw [up_s])
  have hR := v.1.2
  have hD := v.2.1.2
  have hP := v.2.2.1.2
  have hT := v.2.2.2.1.2
  rw [gM_item, T.2.2, gM_letterAt_ok (d + 1) T (by omega), r1_ok, T.2.2, nI_1]
  have le : ∀ k, k < 128 → ((nI (tL tx p) = nI k) ↔ tL tx p = k) := fun k hk => nI_eq (by omega) (by omega)
  simp only [le 100 (by omega), le 112 (by omega), le 114 (by omega), le 116 (by omega), le 119 (by omega)]
  generalize am_up M 82 27 (nI (p + 1)) = M0 at f0 T0
  unfold pItem
  generalize hc : tL tx p = c at tb
  -- the numbers, or none
  have nums : ∀ N, N ≤ 4 → nOf c = N → ∀ K : am_H → am_Z, (∀ l p' (M3 : am_H), pNs tx N (p + 1) = some (l, p') → tM tx M3 p' → fr7 M M3 → M1 M3 B → (∀ i, i < N → M3 107 i = nI (l.getD i 0)) → (∀ i, l.getD i 0 ≤ 99) → oM tx M (K M3) (match bAdd B c (l.getD 0 0) (l.getD 1 0) (l.getD 2 0) (l.getD 3 0) with
      | none => none
      | some B' => some (B', p'))) → oM tx M (am_r1 (am_g (d + 2) 103 [vr 7 82, vi (nI N)] M0) fun h3 v4 => if v4 = 0 then some (h3, some 0) else K h3) (match pNs tx (nOf c) (p + 1) with
      | none => none
      | some (l, p') => match bAdd B c (l.getD 0 0) (l.getD 1 0) (l.getD 2 0) (l.getD 3 0) with
        | none => none
        | some B' => some (B', p')) := by
    intro N hN hcN K hK
    rw [hcN]
    obtain ⟨k1, k2⟩ := gM_figures_ok d hN (show p + 1 ≤ tx.length by omega) T0
    cases q : pNs tx N (p + 1) with
    | none =>
      obtain ⟨M', g1, g2⟩ := k1 q
      rw [g1, r1_ok, if_pos rfl]
      exact oM_no (f0.tr g2).fm
    | some w =>
      obtain ⟨l, p'⟩ := w
      obtain ⟨M3, g1, g2, g3, g4⟩ := k2 l p' q
      obtain ⟨-, -, -, b4⟩ := pNs_b q (by omega)
      rw [g1, r1_ok, if_neg (by decide)]
      exact hK l p' M3 q g2 (f0.tr g3) (M1_7 (f0.tr g3) m) g4 (fun i => getD_b b4 i)
  by_cases c1 : c = 100
  · subst c1
    rw [if_pos rfl]
    refine nums 4 (by omega) rfl _ (fun l p' M3 q T3 f3 m3 h7 b => ?_)
    have e84 : M3 84 1 = nI (nR B) := m3.1.1.trans v.1.1
    have e88 : M3 88 1 = nI (nD B) := m3.1.2.1.trans v.2.1.1
    rw [h7 0 (by omega), h7 1 (by omega), h7 2 (by omega), h7 3 (by omega), e84, e88]
    have b0 := b 0
    have b1 := b 1
    have b2 := b 2
    have b3 := b 3
    generalize l.getD 0 0 = v0 at *
    generalize l.getD 1 0 = v1 at *
    generalize l.getD 2 0 = v2 at *
    generalize l.getD 3 0 = v3 at *
    have l1 : (nI (nD B) = 8) ↔ nD B = 8 := nI_eq (b := 8) (by omega) (by omega)
    have l2 : (nI v0 < nI (nR B)) ↔ v0 < nR B := nI_ltI (by omega) (by omega)
    have l3 : (nI v1 < nI (nR B)) ↔ v1 < nR B := nI_ltI (by omega) (by omega)
    have l4 : (nI v0 = nI v1) ↔ v0 = v1 := nI_eq (by omega) (by omega)
    have l5 : ((1 : Int32) < nI v2) ↔ 1 < v2 := nI_ltI (a := 1) (by omega) (by omega)
    have l6 : ((24 : Int32) < nI v3) ↔ 24 < v3 := nI_ltI (a := 24) (by omega) (by omega)
    simp only [l1, l2, l3, l4, l5, l6]
    unfold bAdd
    rw [if_pos (show (100 : Nat) = 100 from rfl)]
    by_cases C : nD B < 8 ∧ v0 < nR B ∧ v1 < nR B ∧ v0 ≠ v1 ∧ v2 ≤ 1 ∧ v3 ≤ 24
    · rw [if_pos C, if_neg (by omega), if_pos C.2.1, if_pos C.2.2.1, if_neg C.2.2.2.1, if_neg (by omega), if_neg (by omega)]
      obtain ⟨M', g1, g2, g3, g4, g5⟩ := addDoorM (d + 1) v m3 C.1 v0 v1 (f := v2) (s := v3) b2
      rw [g1, r0_ok]
      exact oM_yes (f3.fm.tr g2) (tM_same T3 g3 g4) g5
    · rw [if_neg C]
      have no := oM_no (tx := tx) f3.fm
      split
      · exact no
      · split
        · split
          · split
            · exact no
            · split
              · exact no
              · split
                · exact no
                · exact absurd ⟨by omega, by omega, by omega, by omega, by omega, by omega⟩ C
          · exact no
        · exact no
  · rw [if_neg c1]
    by_cases c2 : c = 112
    · subst c2
      rw [if_pos rfl]
      refine nums 2 (by omega) rfl _ (fun l p' M3 q T3 f3 m3 h7 b => ?_)
      have e84 : M3 84 1 = nI (nR B) := m3.1.1.trans v.1.1
      have e92 : M3 92 1 = nI (nP B) := m3.1.2.2.1.trans v.2.2.1.1
      rw [h7 0 (by omega), h7 1 (by omega), e84, e92]
      have b0 := b 0
      have b1 := b 1
      generalize l.getD 0 0 = v0 at *
      generalize l.getD 1 0 = v1 at *
      have l1 : (nI (nP B) = 4) ↔ nP B = 4 := nI_eq (b := 4) (by omega) (by omega)
      have l2 : (nI v0 < nI (nR B)) ↔ v0 < nR B := nI_ltI (by omega) (by omega)
      have i1 : (4 : Int32) + nI (nP B) = nI (4 + nP B) := by rw [show (4 : Int32) = nI 4 from rfl, nI_add]
      simp only [l1, l2, i1]
      unfold bAdd
      rw [if_neg (show ¬ (112 : Nat) = 100 by omega), if_pos (show (112 : Nat) = 112 from rfl)]
      by_cases C : nP B < 4 ∧ v0 < nR B
      · rw [if_pos C, if_neg (by omega), if_pos C.2, b_ok (by omega) (by omega), b_ok (by omega) (by omega), nI_1]
        obtain ⟨g1, g2⟩ := personM v m3 C.1 v0 v1
        exact oM_yes (f3.fm.tr g1) (tM_same T3 (by rw [up_n (by omega), up_n (by omega), up_n (by omega)]) (by rw [up_n (by omega), up_n (by omega), up_n (by omega)])) g2
      · rw [if_neg C]
        have no := oM_no (tx := tx) f3.fm
        split
        · exact no
        · split
          · exact absurd ⟨by omega, by omega⟩ C
          · exact no
    · rw [if_neg c2]
      by_cases c3 : c = 114
      · subst c3
        rw [if_pos rfl]
        refine nums 3 (by omega) rfl _ (fun l p' M3 q T3 f3 m3 h7 b => ?_)
        have e84 : M3 84 1 = nI (nR B) := m3.1.1.trans v.1.1
        have i0 := gM_in_ok (d + 1) (M3 107 0) 1 4 M3
        have i1 := gM_in_ok (d + 1) (M3 107 1) 1 4 M3
        rw [i0, r1_ok, i1, r1_ok, h7 0 (by omega), h7 1 (by omega), h7 2 (by omega), e84]
        have b0 := b 0
        have b1 := b 1
        have b2 := b 2
        generalize l.getD 0 0 = v0 at *
        generalize l.getD 1 0 = v1 at *
        generalize l.getD 2 0 = v2 at *
        have l1 : (nI (nR B) = 6) ↔ nR B = 6 := nI_eq (b := 6) (by omega) (by omega)
        have in14 : ∀ x, x ≤ 99 → ((yn (¬ nI x < 1 ∧ ¬ 4 < nI x) = 0) ↔ ¬ (1 ≤ x ∧ x ≤ 4)) := fun x hx => by
          rw [yn_0, show (nI x < 1) ↔ x < 1 from nI_ltI (b := 1) (by omega) (by omega), show ((4 : Int32) < nI x) ↔ 4 < x from nI_ltI (a := 4) (by omega) (by omega)]
          omega
        have l2 : ((23 : Int32) < nI v2) ↔ 23 < v2 := nI_ltI (a := 23) (by omega) (by omega)
        simp only [l1, l2, in14 v0 b0, in14 v1 b1]
        unfold bAdd
        rw [if_neg (show ¬ (114 : Nat) = 100 by omega), if_neg (show ¬ (114 : Nat) = 112 by omega), if_pos (show (114 : Nat) = 114 from rfl)]
        by_cases C : nR B < 6 ∧ (1 ≤ v0 ∧ v0 ≤ 4) ∧ (1 ≤ v1 ∧ v1 ≤ 4) ∧ v2 ≤ 23
        · rw [if_pos C, if_neg (by omega), if_neg (by omega), if_neg (by omega), if_neg (by omega)]
          obtain ⟨M', g1, g2, g3, g4, g5⟩ := addRoomM (d + 1) v m3 C.1 v0 v1 v2
          rw [g1, r0_ok]
          exact oM_yes (f3.fm.tr g2) (tM_same T3 g3 g4) g5
        · rw [if_neg C]
          have no := oM_no (tx := tx) f3.fm
          split
          · exact no
          · split
            · exact no
            · split
              · exact no
              · split
                · exact no
                · exact absurd ⟨by omega, by omega, by omega, by omega⟩ C
      · rw [if_neg c3]
        by_cases c4 : c = 116
        · subst c4
          rw [if_pos rfl]
          refine nums 3 (by omega) rfl _ (fun l p' M3 q T3 f3 m3 h7 b => ?_)
          have e84 : M3 84 1 = nI (nR B) := m3.1.1.trans v.1.1
          have e95 : M3 95 1 = nI (nT B) := m3.1.2.2.2.1.trans v.2.2.2.1.1
          rw [h7 0 (by omega), h7 1 (by omega), h7 2 (by omega), e84, e95]
          have b0 := b 0
          have b1 := b 1
          have b2 := b 2
          generalize l.getD 0 0 = v0 at *
          generalize l.getD 1 0 = v1 at *
          generalize l.getD 2 0 = v2 at *
          have l1 : (nI (nT B) = 5) ↔ nT B = 5 := nI_eq (b := 5) (by omega) (by omega)
          have l2 : (nI v0 < nI (nR B)) ↔ v0 < nR B := nI_ltI (by omega) (by omega)
          have l3 : ((3 : Int32) < nI v1) ↔ 3 < v1 := nI_ltI (a := 3) (by omega) (by omega)
          have l4 : (nI v2 < 1) ↔ v2 < 1 := nI_ltI (b := 1) (by omega) (by omega)
          have i1 : (5 : Int32) + nI (nT B) = nI (5 + nT B) := by rw [show (5 : Int32) = nI 5 from rfl, nI_add]
          simp only [l1, l2, l3, l4, i1]
          unfold bAdd
          rw [if_neg (show ¬ (116 : Nat) = 100 by omega), if_neg (show ¬ (116 : Nat) = 112 by omega), if_neg (show ¬ (116 : Nat) = 114 by omega), if_pos (show (116 : Nat) = 116 from rfl)]
          by_cases C : nT B < 5 ∧ v0 < nR B ∧ v1 ≤ 3 ∧ 1 ≤ v2
          · rw [if_pos C, if_neg (by omega), if_pos C.2.1, if_neg (by omega), if_neg (by omega), b_ok (by omega) (by omega), b_ok (by omega) (by omega), b_ok (by omega) (by omega), nI_1]
            obtain ⟨g1, g2⟩ := thingM v m3 C.1 v0 v1 v2
            exact oM_yes (f3.fm.tr g1) (tM_same T3 (by rw [up_n (by omega), up_n (by omega), up_n (by omega), up_n (by omega)]) (by rw [up_n (by omega), up_n (by omega), up_n (by omega), up_n (by omega)])) g2
          · rw [if_neg C]
            have no := oM_no (tx := tx) f3.fm
            split
            · exact no
            · split
              · split
                · exact no
                · split
                  · exact no
                  · exact absurd ⟨by omega, by omega, by omega, by omega⟩ C
              · exact no
        · rw [if_neg c4]
          by_cases c5 : c = 119
          · subst c5
            rw [if_pos rfl]
            refine nums 1 (by omega) rfl _ (fun l p' M3 q T3 f3 m3 h7 b => ?_)
            rw [h7 0 (by omega)]
            have b0 := b 0
            generalize l.getD 0 0 = v0 at *
            have l3 : ((3 : Int32) < nI v0) ↔ 3 < v0 := nI_ltI (a := 3) (by omega) (by omega)
            simp only [l3]
            unfold bAdd
            rw [if_neg (show ¬ (119 : Nat) = 100 by omega), if_neg (show ¬ (119 : Nat) = 112 by omega), if_neg (show ¬ (119 : Nat) = 114 by omega), if_neg (show ¬ (119 : Nat) = 116 by omega), if_pos (show (119 : Nat) = 119 from rfl)]
            by_cases C : v0 ≤ 3
            · rw [if_pos C, if_neg (by omega)]
              obtain ⟨g1, g2⟩ := crossM m3 v0
              exact oM_yes (f3.fm.tr g1) (tM_same T3 (by rw [up_n (by omega)]) (by rw [up_n (by omega)])) g2
            · rw [if_neg C, if_pos (by omega)]
              exact oM_no f3.fm
          · rw [if_neg c5]
            have hn : nOf c = 0 := by unfold nOf; rw [if_neg c1, if_neg c2, if_neg c3, if_neg c4, if_neg c5]
            have hb : ∀ a b e f, bAdd B c a b e f = none := fun a b e f => by unfold bAdd; rw [if_neg c1, if_neg c2, if_neg c3, if_neg c4, if_neg c5]
            rw [hn, show pNs tx 0 (p + 1) = some ([], p + 1) from rfl]
            dsimp only
            rw [hb]
            exact oM_no f0.fm
theorem readAllM_loop (d : Nat) : ∀ (f n p : Nat) (M B : am_H) (u1 : Option am_V), tx.length + 1 ≤ p + f → p ≤ tx.length → f < n → tM tx M p → VB B → M1 M B →
    ∃ M', rM_readAll (d + 3) n 7 [some (vr 7 82), u1] M = some (M', some (aN (pAll tx f p B).1)) ∧ fM M M' ∧ ((pAll tx f p B).1 = none → M1 M' (pAll tx f p B).2 ∧ VB (pAll tx f p B).2) := by
  intro f
  induction f with
  | zero => intro n p M B u1 h1 h2; omega
  | succ f ih =>
    intro n p M B u1 h1 h2 hn T v m
    have hl := T.1.2.1
    obtain ⟨n, rfl⟩ : ∃ z, n = z + 1 := ⟨n - 1, by omega⟩
    rw [tM_readAll_7, T.2.2, T.2.1]
    unfold pAll
    by_cases hlt : p < tx.length
    · rw [if_pos hlt, if_pos (nI_lt hlt (by omega))]
      obtain ⟨k1, k2⟩ := itemM d hlt T v m
      cases q : pItem tx p B with
      | none =>
        dsimp only
        obtain ⟨M', g1, g2⟩ := k1 q
        refine ⟨M', ?_, g2, fun z => by cases z⟩
        rw [g1, r1_ok, if_pos rfl]
        rfl
      | some w =>
        obtain ⟨B', p'⟩ := w
        dsimp only
        obtain ⟨M2, g1, g2, g3, g4⟩ := k2 _ _ q
        obtain ⟨b1, b2, b3⟩ := pItem_b v hlt q
        obtain ⟨M', e1, e2, e3⟩ := ih n p' M2 B' (some (vi (nI p))) (by omega) b3 (by omega) g3 b1 g4
        refine ⟨M', ?_, g2.tr e2, e3⟩
        rw [g1, r1_ok, if_neg (by decide), e1]
    · rw [if_neg hlt, if_neg (nI_nlt (by omega) (by omega))]
      exact ⟨M, rfl, fun _ _ _ _ _ => rfl, fun _ => ⟨m, v⟩⟩
theorem gM_readAll_ok (d : Nat) {S : am_H} (T : tOK tx (S 83)) (hlen : S 82 0 = nI tx.length) : ∃ M', am_g (d + 4) 105 [vr 7 82] S = some (M', some (aN (pAll tx (tx.length + 1) 0 B00).1)) ∧ fM S M' ∧ ((pAll tx (tx.length + 1) 0 B00).1 = none → M1 M' (pAll tx (tx.length + 1) 0 B00).2 ∧ VB (pAll tx (tx.length + 1) 0 B00).2) := by
  have hl := T.2.1
  have b1 : ∀ f, am_b 2 1 f = f 1 := fun f => b_ok (n := 2) (j := 1) (by omega) (by omega) f
  have f0 : fM S (am_up (am_up (am_up (am_up (am_up (am_up S 84 1 0) 88 1 0) 92 1 0) 95 1 0) 99 1 1) 82 27 0) := fun c j h1 h2 h3 => by
    unfold bk at h3
    rw [up_a, if_neg (fun z => h1 z), up_a, if_neg (by omega), up_a, if_neg (by omega), up_a, if_neg (by omega), up_a, if_neg (by omega), up_a, if_neg (by omega)]
  have T0 : tM tx (am_up (am_up (am_up (am_up (am_up (am_up S 84 1 0) 88 1 0) 92 1 0) 95 1 0) 99 1 1) 82 27 0) 0 := by
    refine ⟨?_, ?_, by rw [up_s]; rfl⟩
    · rw [up_n (by omega), up_n (by omega), up_n (by omega), up_n (by omega), up_n (by omega), up_n (by omega)]; exact T
    · rw [up_d (by omega), up_n (by omega), up_n (by omega), up_n (by omega), up_n (by omega), up_n (by omega)]; exact hlen
  have m0 : M1 (am_up (am_up (am_up (am_up (am_up (am_up S 84 1 0) 88 1 0) 92 1 0) 95 1 0) 99 1 1) 82 27 0) B00 := by
    refine ⟨⟨?_, ?_, ?_, ?_, ?_⟩, fun r hr => absurd hr (Nat.not_lt_zero _), fun r hr => absurd hr (Nat.not_lt_zero _), fun r hr => absurd hr (Nat.not_lt_zero _), fun r hr => absurd hr (Nat.not_lt_zero _)⟩ <;> simp [up_a, B00]
  obtain ⟨M', g1, g2, g3⟩ := readAllM_loop (tx := tx) d (tx.length + 1) 999999 0 _ B00 none (by omega) (by omega) (by omega) T0 VB_00 m0
  refine ⟨M', ?_, f0.tr g2, g3⟩
  rw [gM_readAll, gM_noHouse]
  simp only [b1]
  rw [r0_ok, g1]
end RM3
