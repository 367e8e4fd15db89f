/-! THE CLASS READS: items -/
def frH (o : Nat) (h h' : am_H) : Prop := ∀ c, ¬ (o ≤ c ∧ c ≤ o + 14) → h' c = h c
theorem frH.tr {o : Nat} {h h' h'' : am_H} (a : frH o h h') (b : frH o h' h'') : frH o h h'' := fun c hc => (b c hc).trans (a c hc)
section RC2
variable {tx : List Nat} {h B : am_H} {o : Nat}
theorem addRoomC (d : Nat) (v : VB B) (rh : RH o h B) {p q w : Nat} (hp : p ≤ 99) (hq : q ≤ 99) (hw : w ≤ 99) :
    (¬ (nR B < 6 ∧ (1 ≤ p ∧ p ≤ 4) ∧ (1 ≤ q ∧ q ≤ 4) ∧ w ≤ 23) → am_g (d + 1) 24 [vr 2 o, vi (nI p), vi (nI q), vi (nI w)] h = some (h, some 0)) ∧
    ((nR B < 6 ∧ (1 ≤ p ∧ p ≤ 4) ∧ (1 ≤ q ∧ q ≤ 4) ∧ w ≤ 23) → ∃ h', am_g (d + 1) 24 [vr 2 o, vi (nI p), vi (nI q), vi (nI w)] h = some (h', some 1) ∧ frH o h h' ∧ RH o h' (bR B p q w)) := by
  have e14 : h o 14 = nI (nR B) := rh.1.1.trans v.1.1
  have hR := v.1.2
  rw [gH_addRoom, e14]
  have l6 : (nI (nR B) < 6) ↔ nR B < 6 := nI_ltI (b := 6) (by omega) (by omega)
  have lp1 : (nI p < 1) ↔ p < 1 := nI_ltI (b := 1) (by omega) (by omega)
  have lp4 : ((4 : Int32) < nI p) ↔ 4 < p := nI_ltI (a := 4) (by omega) (by omega)
  have lq1 : (nI q < 1) ↔ q < 1 := nI_ltI (b := 1) (by omega) (by omega)
  have lq4 : ((4 : Int32) < nI q) ↔ 4 < q := nI_ltI (a := 4) (by omega) (by omega)
  have lw : (nI w < 24) ↔ w < 24 := nI_ltI (b := 24) (by omega) (by omega)
  simp only [l6, lp1, lp4, lq1, lq4, lw]
  constructor
  · intro hn
    split
    · split
      · rfl
      · split
        · rfl
        · split
          · rfl
          · split
            · rfl
            · split
              · exact absurd ⟨by omega, by omega, by omega, by omega⟩ hn
              · rfl
    · rfl
  · intro hy
    rw [if_pos hy.1, if_neg (by omega), if_neg (by omega), if_neg (by omega), if_neg (by omega), if_pos (by omega)]
    rw [b_ok hy.1 (by omega), up_n (by omega), e14, b_ok hy.1 (by omega), up_n (by omega), up_n (by omega), e14, b_ok hy.1 (by omega), if_neg (nI_ne0 (by omega) (by omega)), up_n (by omega), up_n (by omega), up_n (by omega), e14, b_ok hy.1 (by omega), if_neg (nI_ne0 (by omega) (by omega)), up_n (by omega), up_n (by omega), up_n (by omega), up_n (by omega), e14, b_ok hy.1 (by omega), up_n (by omega), up_n (by omega), up_n (by omega), up_n (by omega), up_n (by omega), e14, nI_1]
    refine ⟨_, rfl, fun c hc => by rw [up_n (by omega), up_n (by omega), up_n (by omega), up_n (by omega), up_n (by omega), up_n (by omega)], ?_⟩
    obtain ⟨r1, r2, r3, r4, r5⟩ := rh
    obtain ⟨n1, n2, n3, n4⟩ := bR_n hR p q w
    have c := fun c h => bR_c (B := B) (p := p) (q := q) (o := w) (c := c) h
    refine ⟨⟨?_, ?_, ?_, ?_, ?_⟩, fun r hr => ?_, fun e he => ?_, fun i hi => ?_, fun t ht => ?_⟩
    · rw [up_s]; unfold bR; rw [up_s]
    · rw [up_d (by omega), up_n (by omega), up_n (by omega), up_n (by omega), up_n (by omega), up_n (by omega), c 88 (by omega)]; exact r1.2.1
    · rw [up_d (by omega), up_n (by omega), up_n (by omega), up_n (by omega), up_n (by omega), up_n (by omega), c 92 (by omega)]; exact r1.2.2.1
    · rw [up_d (by omega), up_n (by omega), up_n (by omega), up_n (by omega), up_n (by omega), up_n (by omega), c 95 (by omega)]; exact r1.2.2.2.1
    · rw [up_d (by omega), up_n (by omega), up_n (by omega), up_n (by omega), up_n (by omega), up_n (by omega), c 99 (by omega)]; exact r1.2.2.2.2
    · obtain ⟨j1, j2, j3⟩ := bR_j (B := B) p q w r
      unfold hOf
      rw [j1, j2, j3]
      by_cases e : r = nR B
      · simp [up_a, e]
      · have hr' : r < nR B := by omega
        have := r2 r hr'
        unfold hOf at this
        simpa [up_a, e] using this
    · rw [c 89 (by omega), c 90 (by omega), c 91 (by omega)]
      rw [n2] at he
      have := r3 e he
      simpa [up_a] using this
    · rw [c 93 (by omega), c 94 (by omega)]
      rw [n3] at hi
      have := r4 i hi
      simpa [up_a] using this
    · rw [c 96 (by omega), c 97 (by omega), c 98 (by omega)]
      rw [n4] at ht
      have := r5 t ht
      simpa [up_a] using this
theorem addDoorC (d : Nat) (v : VB B) (rh : RH o h B) {a b f s : Nat} (ha : a ≤ 99) (hb : b ≤ 99) (hf : f ≤ 99) (hs : s ≤ 99) :
    (¬ (nD B < 8 ∧ a < nR B ∧ b < nR B ∧ a ≠ b ∧ f ≤ 1 ∧ s ≤ 24) → am_g (d + 1) 25 [vr 2 o, vi (nI a), vi (nI b), vi (nI f), vi (nI s)] h = some (h, some 0)) ∧
    ((nD B < 8 ∧ a < nR B ∧ b < nR B ∧ a ≠ b ∧ f ≤ 1 ∧ s ≤ 24) → ∃ h', am_g (d + 1) 25 [vr 2 o, vi (nI a), vi (nI b), vi (nI f), vi (nI s)] h = some (h', some 1) ∧ frH o h h' ∧ RH o h' (bD B a b (if f = 0 then nI s else -(nI s)))) := by
  have e14 : h o 14 = nI (nR B) := rh.1.1.trans v.1.1
  have e15 : h o 15 = nI (nD B) := rh.1.2.1.trans v.2.1.1
  have hR := v.1.2
  have hD := v.2.1.2
  rw [gH_addDoor, e14, e15]
  have l1 : (nI (nD B) < 8) ↔ nD B < 8 := nI_ltI (b := 8) (by omega) (by omega)
  have l2 : (nI a < nI (nR B)) ↔ a < nR B := nI_ltI (by omega) (by omega)
  have l3 : (nI b < nI (nR B)) ↔ b < nR B := nI_ltI (by omega) (by omega)
  have l4 : (nI a = nI b) ↔ a = b := nI_eq (by omega) (by omega)
  have l5 : ((1 : Int32) < nI f) ↔ 1 < f := nI_ltI (a := 1) (by omega) (by omega)
  have l6 : ((24 : Int32) < nI s) ↔ 24 < s := nI_ltI (a := 24) (by omega) (by omega)
  have l7 : (nI f = 0) ↔ f = 0 := nI_eq (b := 0) (by omega) (by omega)
  simp only [l1, l2, l3, l4, l5, l6, l7]
  constructor
  · intro hn
    split
    · split
      · split
        · split
          · rfl
          · split
            · rfl
            · split
              · rfl
              · exact absurd ⟨by omega, by omega, by omega, by omega, by omega, by omega⟩ hn
        · rfl
      · rfl
    · rfl
  · intro hy
    rw [if_pos hy.1, if_pos hy.2.1, if_pos hy.2.2.1, if_neg hy.2.2.2.1, if_neg (by omega), if_neg (by omega), b_ok hy.1 (by omega), up_n (by omega), e15, b_ok hy.1 (by omega)]
    have fin : ∀ l : Int32, l = (if f = 0 then nI s else -(nI s)) → ∃ h', (am_b 8 (am_up (am_up h (o + 6) (nD B) (nI a)) (o + 7) (nD B) (nI b) o 15) fun j3 => some (am_up (am_up (am_up (am_up h (o + 6) (nD B) (nI a)) (o + 7) (nD B) (nI b)) (o + 8) j3 l) o 15 (am_up (am_up (am_up h (o + 6) (nD B) (nI a)) (o + 7) (nD B) (nI b)) (o + 8) j3 l o 15 + 1), some 1)) = some (h', some 1) ∧ frH o h h' ∧ RH o h' (bD B a b (if f = 0 then nI s else -(nI s))) := by
      intro l hl
      rw [up_n (by omega), up_n (by omega), e15, b_ok hy.1 (by omega), up_n (by omega), up_n (by omega), up_n (by omega), e15, nI_1, ← hl]
      refine ⟨_, rfl, fun c hc => by rw [up_n (by omega), up_n (by omega), up_n (by omega), up_n (by omega)], ?_⟩
      obtain ⟨r1, r2, r3, r4, r5⟩ := rh
      obtain ⟨n1, n2, n3, n4⟩ := bD_n hD a b l
      have c := fun c h => bD_c (B := B) (a := a) (b := b) (l := l) (c := c) h
      refine ⟨⟨?_, ?_, ?_, ?_, ?_⟩, fun r hr => ?_, fun e he => ?_, fun i hi => ?_, fun t ht => ?_⟩
      · rw [up_d (by omega), up_n (by omega), up_n (by omega), up_n (by omega), c 84 (by omega)]; exact r1.1
      · rw [up_s]; unfold bD; rw [up_s]
      · rw [up_d (by omega), up_n (by omega), up_n (by omega), up_n (by omega), c 92 (by omega)]; exact r1.2.2.1
      · rw [up_d (by omega), up_n (by omega), up_n (by omega), up_n (by omega), c 95 (by omega)]; exact r1.2.2.2.1
      · rw [up_d (by omega), up_n (by omega), up_n (by omega), up_n (by omega), c 99 (by omega)]; exact r1.2.2.2.2
      · rw [n1] at hr
        have := r2 r hr
        unfold hOf at *
        rw [c 85 (by omega), c 86 (by omega), c 87 (by omega)]
        simpa [up_a] using this
      · obtain ⟨j1, j2, j3⟩ := bD_j (B := B) a b l e
        rw [j1, j2, j3]
        by_cases q : e = nD B
        · simp [up_a, q]
        · have := r3 e (by omega)
          simpa [up_a, q] using this
      · rw [c 93 (by omega), c 94 (by omega)]
        rw [n3] at hi
        have := r4 i hi
        simpa [up_a] using this
      · rw [c 96 (by omega), c 97 (by omega), c 98 (by omega)]
        rw [n4] at ht
        have := r5 t ht
        simpa [up_a] using this
    by_cases q : f = 0
    · rw [if_pos q]
      exact fin (nI s) (by rw [if_pos q])
    · rw [if_neg q]
      exact fin (-(nI s)) (by rw [if_neg q])
theorem addPersonC (d : Nat) (v : VB B) (rh : RH o h B) {r a : Nat} (hr : r ≤ 99) (ha : a ≤ 99) :
    (¬ (nP B < 4 ∧ r < nR B) → am_g (d + 1) 26 [vr 2 o, vi (nI r), vi (nI a)] h = some (h, some 0)) ∧
    ((nP B < 4 ∧ r < nR B) → ∃ h', am_g (d + 1) 26 [vr 2 o, vi (nI r), vi (nI a)] h = some (h', some 1) ∧ frH o h h' ∧ RH o h' (bP B r a)) := by
  have e14 : h o 14 = nI (nR B) := rh.1.1.trans v.1.1
  have e16 : h o 16 = nI (nP B) := rh.1.2.2.1.trans v.2.2.1.1
  have hR := v.1.2
  have hP := v.2.2.1.2
  rw [gH_addPerson, e14, e16]
  have l1 : (nI (nP B) < 4) ↔ nP B < 4 := nI_ltI (b := 4) (by omega) (by omega)
  have l2 : (nI r < nI (nR B)) ↔ r < nR B := nI_ltI (by omega) (by omega)
  simp only [l1, l2]
  constructor
  · intro hn
    split
    · split
      · exact absurd ⟨by omega, by omega⟩ hn
      · rfl
    · rfl
  · intro hy
    rw [if_pos hy.1, if_pos hy.2, b_ok hy.1 (by omega), up_n (by omega), e16, b_ok hy.1 (by omega), up_n (by omega), up_n (by omega), e16, nI_1]
    refine ⟨_, rfl, fun c hc => by rw [up_n (by omega), up_n (by omega), up_n (by omega)], ?_⟩
    obtain ⟨r1, r2, r3, r4, r5⟩ := rh
    obtain ⟨n1, n2, n3, n4⟩ := bP_n hP r a
    have c := fun c h => bP_c (B := B) (r := r) (a := a) (c := c) h
    refine ⟨⟨?_, ?_, ?_, ?_, ?_⟩, fun r' hr => ?_, fun e he => ?_, fun i hi => ?_, fun t ht => ?_⟩
    · rw [up_d (by omega), up_n (by omega), up_n (by omega), c 84 (by omega)]; exact r1.1
    · rw [up_d (by omega), up_n (by omega), up_n (by omega), c 88 (by omega)]; exact r1.2.1
    · rw [up_s]; unfold bP; rw [up_s]
    · rw [up_d (by omega), up_n (by omega), up_n (by omega), c 95 (by omega)]; exact r1.2.2.2.1
    · rw [up_d (by omega), up_n (by omega), up_n (by omega), c 99 (by omega)]; exact r1.2.2.2.2
    · rw [n1] at hr
      have := r2 r' hr
      unfold hOf at *
      rw [c 85 (by omega), c 86 (by omega), c 87 (by omega)]
      simpa [up_a] using this
    · rw [c 89 (by omega), c 90 (by omega), c 91 (by omega)]
      rw [n2] at he
      have := r3 e he
      simpa [up_a] using this
    · obtain ⟨j1, j2⟩ := bP_j (B := B) r a i
      rw [j1, j2]
      by_cases q : i = nP B
      · simp [up_a, q]
      · have := r4 i (by omega)
        simpa [up_a, q] using this
    · rw [c 96 (by omega), c 97 (by omega), c 98 (by omega)]
      rw [n4] at ht
      have := r5 t ht
      simpa [up_a] using this
theorem addThingC (d : Nat) (v : VB B) (rh : RH o h B) {r k n : Nat} (hr : r ≤ 99) (hk : k ≤ 99) (hn : n ≤ 99) :
    (¬ (nT B < 5 ∧ r < nR B ∧ k ≤ 3 ∧ 1 ≤ n) → am_g (d + 1) 27 [vr 2 o, vi (nI r), vi (nI k), vi (nI n)] h = some (h, some 0)) ∧
    ((nT B < 5 ∧ r < nR B ∧ k ≤ 3 ∧ 1 ≤ n) → ∃ h', am_g (d + 1) 27 [vr 2 o, vi (nI r), vi (nI k), vi (nI n)] h = some (h', some 1) ∧ frH o h h' ∧ RH o h' (bT B r k n)) := by
  have e14 : h o 14 = nI (nR B) := rh.1.1.trans v.1.1
  have e17 : h o 17 = nI (nT B) := rh.1.2.2.2.1.trans v.2.2.2.1.1
  have hR := v.1.2
  have hT := v.2.2.2.1.2
  rw [gH_addThing, e14, e17]
  have l1 : (nI (nT B) < 5) ↔ nT B < 5 := nI_ltI (b := 5) (by omega) (by omega)
  have l2 : (nI r < nI (nR B)) ↔ r < nR B := nI_ltI (by omega) (by omega)
  have l3 : ((3 : Int32) < nI k) ↔ 3 < k := nI_ltI (a := 3) (by omega) (by omega)
  have l4 : (nI n < 1) ↔ n < 1 := nI_ltI (b := 1) (by omega) (by omega)
  simp only [l1, l2, l3, l4]
  constructor
  · intro hn
    split
    · split
      · split
        · rfl
        · split
          · rfl
          · exact absurd ⟨by omega, by omega, by omega, by omega⟩ hn
      · rfl
    · rfl
  · intro hy
    rw [if_pos hy.1, if_pos hy.2.1, if_neg (by omega), if_neg (by omega), b_ok hy.1 (by omega), up_n (by omega), e17, b_ok hy.1 (by omega), up_n (by omega), up_n (by omega), e17, b_ok hy.1 (by omega), up_n (by omega), up_n (by omega), up_n (by omega), e17, nI_1]
    refine ⟨_, rfl, fun c hc => by rw [up_n (by omega), up_n (by omega), up_n (by omega), up_n (by omega)], ?_⟩
    obtain ⟨r1, r2, r3, r4, r5⟩ := rh
    obtain ⟨n1, n2, n3, n4⟩ := bT_n hT r k n
    have c := fun c h => bT_c (B := B) (r := r) (k := k) (n := n) (c := c) h
    refine ⟨⟨?_, ?_, ?_, ?_, ?_⟩, fun r' hr => ?_, fun e he => ?_, fun i hi => ?_, fun t ht => ?_⟩
    · rw [up_d (by omega), up_n (by omega), up_n (by omega), up_n (by omega), c 84 (by omega)]; exact r1.1
    · rw [up_d (by omega), up_n (by omega), up_n (by omega), up_n (by omega), c 88 (by omega)]; exact r1.2.1
    · rw [up_d (by omega), up_n (by omega), up_n (by omega), up_n (by omega), c 92 (by omega)]; exact r1.2.2.1
    · rw [up_s]; unfold bT; rw [up_s]
    · rw [up_d (by omega), up_n (by omega), up_n (by omega), up_n (by omega), c 99 (by omega)]; exact r1.2.2.2.2
    · rw [n1] at hr
      have := r2 r' hr
      unfold hOf at *
      rw [c 85 (by omega), c 86 (by omega), c 87 (by omega)]
      simpa [up_a] using this
    · rw [c 89 (by omega), c 90 (by omega), c 91 (by omega)]
      rw [n2] at he
      have := r3 e he
      simpa [up_a] using this
    · rw [c 93 (by omega), c 94 (by omega)]
      rw [n3] at hi
      have := r4 i hi
      simpa [up_a] using this
    · obtain ⟨j1, j2, j3⟩ := bT_j (B := B) r k n t
      rw [j1, j2, j3]
      by_cases q : t = nT B
      · simp [up_a, q]
      · have := r5 t (by omega)
        simpa [up_a, q] using this
theorem setCrossingC (d : Nat) (rh : RH o h B) {w : Nat} (hw : w ≤ 99) :
    (¬ w ≤ 3 → am_g (d + 1) 28 [vr 2 o, vi (nI w)] h = some (h, some 0)) ∧ (w ≤ 3 → ∃ h', am_g (d + 1) 28 [vr 2 o, vi (nI w)] h = some (h', some 1) ∧ frH o h h' ∧ RH o h' (bW B w)) := by
  rw [gH_setCrossing]
  have l3 : ((3 : Int32) < nI w) ↔ 3 < w := nI_ltI (a := 3) (by omega) (by omega)
  simp only [l3]
  constructor
  · intro hn
    rw [if_pos (by omega)]
  · intro hy
    rw [if_neg (by omega)]
    refine ⟨_, rfl, fun c hc => by rw [up_n (by omega)], ?_⟩
    obtain ⟨r1, r2, r3, r4, r5⟩ := rh
    obtain ⟨n1, n2, n3, n4⟩ := bW_n (B := B) w
    have c := fun c h => bW_c (B := B) (w := w) (c := c) h
    unfold RH hOf
    rw [n1, n2, n3, n4, c 84 (by omega), c 85 (by omega), c 86 (by omega), c 87 (by omega), c 88 (by omega), c 89 (by omega), c 90 (by omega), c 91 (by omega), c 92 (by omega), c 93 (by omega), c 94 (by omega), c 95 (by omega), c 96 (by omega), c 97 (by omega), c 98 (by omega)]
    unfold hOf at r2
    have u : ∀ k, am_up h o 18 (nI w) (o + (k + 1)) = h (o + (k + 1)) := fun k => up_n (by omega)
    refine ⟨⟨?_, ?_, ?_, ?_, ?_⟩, ?_, ?_, ?_, ?_⟩
    · rw [up_d (by omega)]; exact r1.1
    · rw [up_d (by omega)]; exact r1.2.1
    · rw [up_d (by omega)]; exact r1.2.2.1
    · rw [up_d (by omega)]; exact r1.2.2.2.1
    · rw [up_s]; unfold bW; rw [up_s]
    · rw [u 0, u 1, u 2, u 3, u 4]; exact r2
    · rw [u 5, u 6, u 7]; exact r3
    · rw [u 8, u 9]; exact r4
    · rw [u 10, u 11, u 12]; exact r5
end RC2
