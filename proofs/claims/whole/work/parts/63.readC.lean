/-! THE CLASS READS: the whole text -/
def aN : Option Nat → Int32
  | none => -4
  | some q => nI q
theorem m4_n2 {n : Nat} (h : n ≤ 1000) : ¬ nI n = -4 := fun z => by
  have q := congrArg Int32.toInt z
  rw [nI_toInt (by omega), show ((-4 : Int32)).toInt = -4 from rfl] at q
  omega
section RC3
variable {tx : List Nat} {o : Nat}
theorem nOf_le (c : Nat) : nOf c ≤ 4 := by
  unfold nOf
  repeat (split; omega)
  omega
theorem gH_numbersOf_ok (d : Nat) {c : Nat} (hc : c < 128) (h : am_H) : am_g (d + 1) 20 [vi (nI c)] h = some (h, some (nI (nOf c))) := by
  have l : ∀ k, k < 128 → ((nI c = nI k) ↔ c = k) := fun k hk => nI_eq (by omega) (by omega)
  rw [gH_numbersOf]
  simp only [l 100 (by omega), l 112 (by omega), l 114 (by omega), l 116 (by omega), l 119 (by omega)]
  unfold nOf
  repeat (split; rfl)
  rfl
theorem addItemC (d : Nat) {h B : am_H} (v : VB B) (rh : RH o h B) {c : Nat} (hc : c < 128) {l : List Nat} (hl : ∀ i, i < nOf c → h (o + 14) i = nI (l.getD i 0)) (hb : ∀ x ∈ l, x ≤ 99) :
    (bAdd B c (l.getD 0 0) (l.getD 1 0) (l.getD 2 0) (l.getD 3 0) = none → am_g (d + 2) 23 [vr 2 o, vi (nI c)] h = some (h, some 0)) ∧
    (∀ B', bAdd B c (l.getD 0 0) (l.getD 1 0) (l.getD 2 0) (l.getD 3 0) = some B' → ∃ h', am_g (d + 2) 23 [vr 2 o, vi (nI c)] h = some (h', some 1) ∧ frH o h h' ∧ RH o h' B') := by
  have le : ∀ k, k < 128 → ((nI c = nI k) ↔ c = k) := fun k hk => nI_eq (by omega) (by omega)
  have b := getD_b hb
  rw [gH_addItem]
  simp only [le 100 (by omega), le 112 (by omega), le 114 (by omega), le 116 (by omega), le 119 (by omega)]
  have w1 : ∀ x : am_H, (if (1 : Int32) &&& 1 = 1 then (some (x, some 1) : am_Z) else none) = some (x, some 1) := fun x => by rw [if_pos (by decide)]
  have w0 : ∀ x : am_H, (if (0 : Int32) &&& 1 = 0 then (some (x, some 0) : am_Z) else none) = some (x, some 0) := fun x => by rw [if_pos (by decide)]
  unfold bAdd
  by_cases c1 : c = 100
  · subst c1
    rw [if_pos rfl, if_pos rfl, hl 0 (by decide), hl 1 (by decide), hl 2 (by decide), hl 3 (by decide)]
    obtain ⟨k1, k2⟩ := addDoorC d v rh (b 0) (b 1) (b 2) (b 3)
    split
    · rename_i q
      refine ⟨fun z => (by cases z), fun B' z => ?_⟩
      cases z
      obtain ⟨h', g1, g2, g3⟩ := k2 q
      exact ⟨h', by rw [g1, r1_ok, w1], g2, g3⟩
    · rename_i q
      exact ⟨fun _ => by rw [k1 q, r1_ok, w0], fun B' z => by cases z⟩
  · rw [if_neg c1, if_neg c1]
    by_cases c2 : c = 112
    · subst c2
      rw [if_pos rfl, if_pos rfl, hl 0 (by decide), hl 1 (by decide)]
      obtain ⟨k1, k2⟩ := addPersonC d v rh (b 0) (b 1)
      split
      · rename_i q
        refine ⟨fun z => (by cases z), fun B' z => ?_⟩
        cases z
        obtain ⟨h', g1, g2, g3⟩ := k2 q
        exact ⟨h', by rw [g1, r1_ok, w1], g2, g3⟩
      · rename_i q
        exact ⟨fun _ => by rw [k1 q, r1_ok, w0], fun B' z => by cases z⟩
    · rw [if_neg c2, if_neg c2]
      by_cases c3 : c = 114
      · subst c3
        rw [if_pos rfl, if_pos rfl, hl 0 (by decide), hl 1 (by decide), hl 2 (by decide)]
        obtain ⟨k1, k2⟩ := addRoomC d v rh (b 0) (b 1) (b 2)
        split
        · rename_i q
          refine ⟨fun z => (by cases z), fun B' z => ?_⟩
          cases z
          obtain ⟨h', g1, g2, g3⟩ := k2 q
          exact ⟨h', by rw [g1, r1_ok, w1], g2, g3⟩
        · rename_i q
          exact ⟨fun _ => by rw [k1 q, r1_ok, w0], fun B' z => by cases z⟩
      · rw [if_neg c3, if_neg c3]
        by_cases c4 : c = 116
        · subst c4
          rw [if_pos rfl, if_pos rfl, hl 0 (by decide), hl 1 (by decide), hl 2 (by decide)]
          obtain ⟨k1, k2⟩ := addThingC d v rh (b 0) (b 1) (b 2)
          split
          · rename_i q
            refine ⟨fun z => (by cases z), fun B' z => ?_⟩
            cases z
            obtain ⟨h', g1, g2, g3⟩ := k2 q
            exact ⟨h', by rw [g1, r1_ok, w1], g2, g3⟩
          · rename_i q
            exact ⟨fun _ => by rw [k1 q, r1_ok, w0], fun B' z => by cases z⟩
        · rw [if_neg c4, if_neg c4]
          by_cases c5 : c = 119
          · subst c5
            rw [if_pos rfl, if_pos rfl, hl 0 (by decide)]
            obtain ⟨k1, k2⟩ := setCrossingC d rh (b 0)
            split
            · rename_i q
              refine ⟨fun z => (by cases z), fun B' z => ?_⟩
              cases z
              obtain ⟨h', g1, g2, g3⟩ := k2 q
              exact ⟨h', by rw [g1, r1_ok, w1], g2, g3⟩
            · rename_i q
              exact ⟨fun _ => by rw [k1 q, r1_ok, w0], fun B' z => by cases z⟩
          · rw [if_neg c5, if_neg c5]
            exact ⟨fun _ => rfl, fun B' z => by cases z⟩
theorem pItem_b {p p' : Nat} {B B' : am_H} (v : VB B) (hp : p < tx.length) (h : pItem tx p B = some (B', p')) : VB B' ∧ p < p' ∧ p' ≤ tx.length := by
  unfold pItem at h
  cases q : pNs tx (nOf (tL tx p)) (p + 1) with
  | none => rw [q] at h; cases h
  | some w =>
    obtain ⟨l, p1⟩ := w
    rw [q] at h
    dsimp only at h
    obtain ⟨b1, b2, b3, b4⟩ := pNs_b q (by omega)
    cases q2 : bAdd B (tL tx p) (l.getD 0 0) (l.getD 1 0) (l.getD 2 0) (l.getD 3 0) with
    | none => rw [q2] at h; cases h
    | some B1 =>
      rw [q2] at h
      cases h
      exact ⟨VB_add v (getD_b b4 1) (getD_b b4 2) q2, by omega, b3⟩
theorem readItemC (d : Nat) (ho : 2 ≤ o) {h B : am_H} (T : tOK tx (h 1)) (v : VB B) (rh : RH o h B) {p : Nat} (hp : p < tx.length) :
    (pItem tx p B = none → ∃ h', am_g (d + 3) 19 [vr 2 o, vr 9 1, vi (nI tx.length), vi (nI p)] h = some (h', some (-4)) ∧ frH o h h') ∧
    (∀ B' p', pItem tx p B = some (B', p') → ∃ h', am_g (d + 3) 19 [vr 2 o, vr 9 1, vi (nI tx.length), vi (nI p)] h = some (h', some (nI p')) ∧ frH o h h' ∧ RH o h' B') := by
  have hl := T.2.1
  obtain ⟨a1, a2⟩ := T.at hp
  have hN := nOf_le (tL tx p)
  obtain ⟨k1, k2⟩ := numsC (d + 1) ho hN (nI p) (nI (tL tx p)) (nOf (tL tx p)) 999999 0 (p + 1) h none (by omega) (by omega) (by omega) T
  rw [nI_0] at k1 k2
  rw [gH_readItem, b_ok (by omega) (by omega), a1, gH_numbersOf_ok (d + 1) a2, r1_ok, nI_1]
  unfold pItem
  cases q : pNs tx (nOf (tL tx p)) (p + 1) with
  | none =>
    dsimp only
    obtain ⟨h', g1, g2⟩ := k1 q
    exact ⟨fun _ => ⟨h', g1, fun c hc => g2 c (by omega)⟩, fun B' p' z => by cases z⟩
  | some w =>
    obtain ⟨l, p1⟩ := w
    dsimp only
    obtain ⟨b1, b2, b3, b4⟩ := pNs_b q (by omega)
    obtain ⟨h1, u, g1, g2, g3, g4⟩ := k2 l p1 q
    have f1 : frH o h h1 := fun c hc => g2 c (by omega)
    have rh1 : RH o h1 B := RH_c (fun c q1 q2 => g2 c (by omega)) (fun _ _ _ => rfl) rh
    obtain ⟨n2, hn2⟩ : ∃ z, 999999 - nOf (tL tx p) = z + 1 := ⟨999999 - nOf (tL tx p) - 1, by omega⟩
    rw [hn2] at g1
    obtain ⟨c1, c2⟩ := addItemC d v rh1 a2 (l := l) (fun i hi => by
      have := g4 i (l.getD i 0) (by
        rw [List.getD_eq_getElem?_getD, List.getElem?_eq_getElem (by omega)]
        rfl)
      rw [show 0 + i = i by omega] at this
      exact this) b4
    rw [g1, tH_readItem_14, if_neg (nI_nlt (Nat.le_refl _) (by omega))]
    cases q2 : bAdd B (tL tx p) (l.getD 0 0) (l.getD 1 0) (l.getD 2 0) (l.getD 3 0) with
    | none =>
      dsimp only
      refine ⟨fun _ => ⟨h1, ?_, f1⟩, fun B' p' z => by cases z⟩
      rw [c1 q2, r1_ok, if_pos rfl]
    | some B1 =>
      dsimp only
      refine ⟨fun z => (by cases z), fun B' p' z => ?_⟩
      cases z
      obtain ⟨h', e1, e2, e3⟩ := c2 _ q2
      exact ⟨h', by rw [e1, r1_ok, if_neg (by decide)], f1.tr e2, e3⟩
theorem readTextC_loop (d : Nat) (ho : 2 ≤ o) : ∀ (f n k p : Nat) (h B : am_H) (u5 : Option am_V), tx.length + 1 ≤ p + f → k ≤ p → p ≤ tx.length → f < n → tOK tx (h 1) → VB B → RH o h B →
    ∃ h', rH_readText (d + 3) n 20 [some (vr 2 o), some (vr 9 1), some (vi (nI tx.length)), some (vi (nI p)), some (vi (nI k)), u5] h = some (h', some (aN (pAll tx f p B).1)) ∧ frH o h h' ∧ ((pAll tx f p B).1 = none → RH o h' (pAll tx f p B).2 ∧ VB (pAll tx f p B).2) := by
  intro f
  induction f with
  | zero => intro n k p h B u5 h1 h2 h3; omega
  | succ f ih =>
    intro n k p h B u5 h1 h2 h3 hn T v rh
    have hl := T.2.1
    obtain ⟨n, rfl⟩ : ∃ z, n = z + 1 := ⟨n - 1, by omega⟩
    rw [tH_readText_20]
    unfold pAll
    by_cases hlt : p < tx.length
    · rw [if_pos hlt, if_pos (nI_lt (by omega) (by omega)), if_pos (nI_lt hlt (by omega))]
      obtain ⟨k1, k2⟩ := readItemC d ho T v rh hlt
      cases q : pItem tx p B with
      | none =>
        dsimp only
        obtain ⟨h', g1, g2⟩ := k1 q
        refine ⟨h', ?_, g2, fun z => by cases z⟩
        rw [g1, r1_ok, if_pos rfl]
        rfl
      | some w =>
        obtain ⟨B', p'⟩ := w
        dsimp only
        obtain ⟨h1, g1, g2, g3⟩ := k2 B' p' q
        obtain ⟨b1, b2, b3⟩ := pItem_b v hlt q
        obtain ⟨h', e1, e2, e3⟩ := ih n (k + 1) p' h1 B' (some (vi (nI p'))) (by omega) (by omega) b3 (by omega) (by rw [g2 1 (by omega)]; exact T) b1 g3
        refine ⟨h', ?_, g2.tr e2, e3⟩
        rw [g1, r1_ok, if_neg (m4_n2 (by omega)), nI_1, e1]
    · rw [if_neg hlt]
      refine ⟨h, ?_, fun _ _ => rfl, fun _ => ⟨rh, v⟩⟩
      split
      · rw [if_neg (nI_nlt (by omega) (by omega))]
        rfl
      · rfl
theorem gH_readText_ok (d : Nat) (ho : 2 ≤ o) {h : am_H} (T : tOK tx (h 1)) : ∃ h', am_g (d + 4) 18 [vr 2 o, vr 9 1, vi (nI tx.length)] h = some (h', some (aN (pAll tx (tx.length + 1) 0 B00).1)) ∧ frH o h h' ∧ ((pAll tx (tx.length + 1) 0 B00).1 = none → RH o h' (pAll tx (tx.length + 1) 0 B00).2 ∧ VB (pAll tx (tx.length + 1) 0 B00).2) := by
  have hl := T.2.1
  have rh0 : RH o (am_up (am_up (am_up (am_up (am_up h o 14 0) o 15 0) o 16 0) o 17 0) o 18 1) B00 := by
    refine ⟨⟨?_, ?_, ?_, ?_, ?_⟩, fun r hr => absurd hr (Nat.not_lt_zero _), fun r hr => absurd hr (Nat.not_lt_zero _), fun r hr => absurd hr (Nat.not_lt_zero _), fun r hr => absurd hr (Nat.not_lt_zero _)⟩
    · rw [up_d (by omega), up_d (by omega), up_d (by omega), up_d (by omega), up_s]; rfl
    · rw [up_d (by omega), up_d (by omega), up_d (by omega), up_s]; rfl
    · rw [up_d (by omega), up_d (by omega), up_s]; rfl
    · rw [up_d (by omega), up_s]; rfl
    · rw [up_s]; rfl
  obtain ⟨h', g1, g2, g3⟩ := readTextC_loop (tx := tx) d ho (tx.length + 1) 999999 0 0 _ B00 none (by omega) (by omega) (by omega) (by omega) (by rw [up_n (by omega), up_n (by omega), up_n (by omega), up_n (by omega), up_n (by omega)]; exact T) VB_00 rh0
  refine ⟨h', ?_, fun c hc => by rw [g2 c hc, up_n (by omega), up_n (by omega), up_n (by omega), up_n (by omega), up_n (by omega)], g3⟩
  rw [nI_0] at g1
  rw [gH_readText, g1]
end RC3
