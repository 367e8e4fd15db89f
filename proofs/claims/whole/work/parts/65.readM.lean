/-! THE REFERENCE READS: items -/
def bk (c j : Nat) : Prop := ((c = 84 ∨ c = 88 ∨ c = 92 ∨ c = 95 ∨ c = 99) ∧ j = 1) ∨ ((c = 85 ∨ c = 86 ∨ c = 87) ∧ 6 ≤ j) ∨ ((c = 89 ∨ c = 90 ∨ c = 91) ∧ 8 ≤ j) ∨ ((c = 93 ∨ c = 94) ∧ 4 ≤ j) ∨ ((c = 96 ∨ c = 97 ∨ c = 98) ∧ 5 ≤ j)
/-- only what is read into has changed -/
def fM (M M' : am_H) : Prop := ∀ c j, ¬ (c = 82 ∧ j = 27) → c ≠ 107 → ¬ bk c j → M' c j = M c j
theorem fM.tr {M M' M'' : am_H} (a : fM M M') (b : fM M' M'') : fM M M'' := fun c j h1 h2 h3 => (b c j h1 h2 h3).trans (a c j h1 h2 h3)
theorem fr7.fm {M M' : am_H} (a : fr7 M M') : fM M M' := fun c j h1 h2 _ => a c j h1 h2
/-- the house that is read, at its places behind the one that is lived in -/
def M1 (M B : am_H) : Prop :=
  (M 84 1 = B 84 0 ∧ M 88 1 = B 88 0 ∧ M 92 1 = B 92 0 ∧ M 95 1 = B 95 0 ∧ M 99 1 = B 99 0) ∧
  (∀ r, r < nR B → M 85 (6 + r) = B 85 r ∧ M 86 (6 + r) = B 86 r ∧ M 87 (6 + r) = B 87 r) ∧
  (∀ e, e < nD B → M 89 (8 + e) = B 89 e ∧ M 90 (8 + e) = B 90 e ∧ M 91 (8 + e) = B 91 e) ∧
  (∀ i, i < nP B → M 93 (4 + i) = B 93 i ∧ M 94 (4 + i) = B 94 i) ∧
  ∀ t, t < nT B → M 96 (5 + t) = B 96 t ∧ M 97 (5 + t) = B 97 t ∧ M 98 (5 + t) = B 98 t
theorem M1_7 {M M' B : am_H} (f : fr7 M M') (m : M1 M B) : M1 M' B := by
  have e : ∀ c, 84 ≤ c → c ≤ 99 → M' c = M c := fun c h1 h2 => funext fun j => f c j (by omega) (by omega)
  unfold M1
  rw [e 84 (by omega) (by omega), e 85 (by omega) (by omega), e 86 (by omega) (by omega), e 87 (by omega) (by omega), e 88 (by omega) (by omega), e 89 (by omega) (by omega), e 90 (by omega) (by omega), e 91 (by omega) (by omega), e 92 (by omega) (by omega), e 93 (by omega) (by omega), e 94 (by omega) (by omega), e 95 (by omega) (by omega), e 96 (by omega) (by omega), e 97 (by omega) (by omega), e 98 (by omega) (by omega), e 99 (by omega) (by omega)]
  exact m
section RM2
variable {M B : am_H}
theorem addRoomM (d : Nat) (v : VB B) (m : M1 M B) (hr : nR B < 6) (p q w : Nat) : ∃ M', am_g (d + 1) 98 [vr 7 82, vi 1, vi (nI p), vi (nI q), vi (nI w)] M = some (M', none) ∧ fM M M' ∧ M' 82 = M 82 ∧ M' 83 = M 83 ∧ M1 M' (bR B p q w) := by
  have e84 : M 84 1 = nI (nR B) := m.1.1.trans v.1.1
  have i1 : (6 : Int32) * 1 + nI (nR B) = nI (6 + nR B) := by rw [show (6 : Int32) * 1 = nI 6 from rfl, nI_add]
  have b1 : ∀ f, am_b 2 1 f = f 1 := fun f => b_ok (n := 2) (j := 1) (by omega) (by omega) f
  have b2 : ∀ f, am_b 12 (nI (6 + nR B)) f = f (6 + nR B) := fun f => b_ok (by omega) (by omega) f
  rw [gM_addRoom]
  simp only [b1, e84, i1, b2]
  rw [nI_1]
  refine ⟨_, rfl, fun c j h1 h2 h3 => ?_, by rw [up_n (by omega), up_n (by omega), up_n (by omega), up_n (by omega)], by rw [up_n (by omega), up_n (by omega), up_n (by omega), up_n (by omega)], ?_⟩
  · unfold bk at h3
    rw [up_a, if_neg (by omega), up_a, if_neg (by omega), up_a, if_neg (by omega), up_a, if_neg (by omega)]
  · obtain ⟨r1, r2, r3, r4, r5⟩ := m
    obtain ⟨n1, n2, n3, n4⟩ := bR_n v.1.2 p q w
    have c := fun c h => bR_c (B := B) (p := p) (q := q) (o := w) (c := c) h
    unfold M1
    rw [n1, n2, n3, n4, c 88 (by omega), c 89 (by omega), c 90 (by omega), c 91 (by omega), c 92 (by omega), c 93 (by omega), c 94 (by omega), c 95 (by omega), c 96 (by omega), c 97 (by omega), c 98 (by omega), c 99 (by omega)]
    refine ⟨⟨by rw [up_s]; unfold bR; rw [up_s], ?_, ?_, ?_, ?_⟩, fun r hr' => ?_, fun e he => ?_, fun i hi => ?_, fun t ht => ?_⟩
    · simpa [up_a] using r1.2.1
    · simpa [up_a] using r1.2.2.1
    · simpa [up_a] using r1.2.2.2.1
    · simpa [up_a] using r1.2.2.2.2
    · obtain ⟨j1, j2, j3⟩ := bR_j (B := B) p q w r
      rw [j1, j2, j3]
      by_cases e : r = nR B
      · simp [up_a, e]
      · have := r2 r (by omega)
        simpa [up_a, e] using this
    · simpa [up_a] using r3 e he
    · simpa [up_a] using r4 i hi
    · simpa [up_a] using r5 t ht
theorem addDoorM (d : Nat) (v : VB B) (m : M1 M B) (hd : nD B < 8) (a b : Nat) {f s : Nat} (hf : f ≤ 99) : ∃ M', am_g (d + 1) 99 [vr 7 82, vi 1, vi (nI a), vi (nI b), vi (nI f), vi (nI s)] M = some (M', none) ∧ fM M M' ∧ M' 82 = M 82 ∧ M' 83 = M 83 ∧ M1 M' (bD B a b (if f = 0 then nI s else -(nI s))) := by
  have e88 : M 88 1 = nI (nD B) := m.1.2.1.trans v.2.1.1
  have i1 : (8 : Int32) * 1 + nI (nD B) = nI (8 + nD B) := by rw [show (8 : Int32) * 1 = nI 8 from rfl, nI_add]
  have b1 : ∀ f, am_b 2 1 f = f 1 := fun f => b_ok (n := 2) (j := 1) (by omega) (by omega) f
  have b2 : ∀ f, am_b 16 (nI (8 + nD B)) f = f (8 + nD B) := fun f => b_ok (by omega) (by omega) f
  have l7 : (nI f = 0) ↔ f = 0 := nI_eq (b := 0) (by omega) (by omega)
  rw [gM_addDoor]
  simp only [b1, e88, i1, b2, l7]
  rw [nI_1]
  have fin : ∀ l : Int32, l = (if f = 0 then nI s else -(nI s)) → ∃ M', (some (am_up (am_up (am_up (am_up M 89 (8 + nD B) (nI a)) 90 (8 + nD B) (nI b)) 91 (8 + nD B) l) 88 1 (nI (nD B + 1)), none) : am_Z) = some (M', none) ∧ fM M M' ∧ M' 82 = M 82 ∧ M' 83 = M 83 ∧ M1 M' (bD B a b (if f = 0 then nI s else -(nI s))) := by
    intro l hl
    rw [← hl]
    refine ⟨_, rfl, fun c j h1 h2 h3 => ?_, by rw [up_n (by omega), up_n (by omega), up_n (by omega), up_n (by omega)], by rw [up_n (by omega), up_n (by omega), up_n (by omega), up_n (by omega)], ?_⟩
    · unfold bk at h3
      rw [up_a, if_neg (by omega), up_a, if_neg (by omega), up_a, if_neg (by omega), up_a, if_neg (by omega)]
    · obtain ⟨r1, r2, r3, r4, r5⟩ := m
      obtain ⟨n1, n2, n3, n4⟩ := bD_n v.2.1.2 a b l
      have c := fun c h => bD_c (B := B) (a := a) (b := b) (l := l) (c := c) h
      unfold M1
      rw [n1, n2, n3, n4, c 84 (by omega), c 85 (by omega), c 86 (by omega), c 87 (by omega), c 92 (by omega), c 93 (by omega), c 94 (by omega), c 95 (by omega), c 96 (by omega), c 97 (by omega), c 98 (by omega), c 99 (by omega)]
      refine ⟨⟨?_, by rw [up_s]; unfold bD; rw [up_s], ?_, ?_, ?_⟩, fun r hr' => ?_, fun e he => ?_, fun i hi => ?_, fun t ht => ?_⟩
      · simpa [up_a] using r1.1
      · simpa [up_a] using r1.2.2.1
      · simpa [up_a] using r1.2.2.2.1
      · simpa [up_a] using r1.2.2.2.2
      · simpa [up_a] using r2 r hr'
      · obtain ⟨j1, j2, j3⟩ := bD_j (B := B) a b l e
        rw [j1, j2, j3]
        by_cases q : e = nD B
        · simp [up_a, q]
        · have := r3 e (by omega)
          simpa [up_a, q] using this
      · simpa [up_a] using r4 i hi
      · simpa [up_a] using r5 t ht
  by_cases q : f = 0
  · rw [if_pos q]
    exact fin (nI s) (by rw [if_pos q])
  · rw [if_neg q]
    exact fin (-(nI s)) (by rw [if_neg q])
theorem personM (v : VB B) (m : M1 M B) (hp : nP B < 4) (r a : Nat) : fM M (am_up (am_up (am_up M 93 (4 + nP B) (nI r)) 94 (4 + nP B) (nI a)) 92 1 (nI (nP B + 1))) ∧ M1 (am_up (am_up (am_up M 93 (4 + nP B) (nI r)) 94 (4 + nP B) (nI a)) 92 1 (nI (nP B + 1))) (bP B r a) := by
  refine ⟨fun c j h1 h2 h3 => ?_, ?_⟩
  · unfold bk at h3
    rw [up_a, if_neg (by omega), up_a, if_neg (by omega), up_a, if_neg (by omega)]
  · obtain ⟨r1, r2, r3, r4, r5⟩ := m
    obtain ⟨n1, n2, n3, n4⟩ := bP_n v.2.2.1.2 r a
    have c := fun c h => bP_c (B := B) (r := r) (a := a) (c := c) h
    unfold M1
    rw [n1, n2, n3, n4, c 84 (by omega), c 85 (by omega), c 86 (by omega), c 87 (by omega), c 88 (by omega), c 89 (by omega), c 90 (by omega), c 91 (by omega), c 95 (by omega), c 96 (by omega), c 97 (by omega), c 98 (by omega), c 99 (by omega)]
    refine ⟨⟨?_, ?_, by rw [up_s]; unfold bP; rw [up_s], ?_, ?_⟩, fun r' hr' => ?_, fun e he => ?_, fun i hi => ?_, fun t ht => ?_⟩
    · simpa [up_a] using r1.1
    · simpa [up_a] using r1.2.1
    · simpa [up_a] using r1.2.2.2.1
    · simpa [up_a] using r1.2.2.2.2
    · simpa [up_a] using r2 r' hr'
    · simpa [up_a] using r3 e he
    · obtain ⟨j1, j2⟩ := bP_j (B := B) r a i
      rw [j1, j2]
      by_cases q : i = nP B
      · simp [up_a, q]
      · have := r4 i (by omega)
        simpa [up_a, q] using this
    · simpa [up_a] using r5 t ht
theorem thingM (v : VB B) (m : M1 M B) (ht0 : nT B < 5) (r k n : Nat) : fM M (am_up (am_up (am_up (am_up M 96 (5 + nT B) (nI r)) 97 (5 + nT B) (nI k)) 98 (5 + nT B) (nI n)) 95 1 (nI (nT B + 1))) ∧ M1 (am_up (am_up (am_up (am_up M 96 (5 + nT B) (nI r)) 97 (5 + nT B) (nI k)) 98 (5 + nT B) (nI n)) 95 1 (nI (nT B + 1))) (bT B r k n) := by
  refine ⟨fun c j h1 h2 h3 => ?_, ?_⟩
  · unfold bk at h3
    rw [up_a, if_neg (by omega), up_a, if_neg (by omega), up_a, if_neg (by omega), up_a, if_neg (by omega)]
  · obtain ⟨r1, r2, r3, r4, r5⟩ := m
    obtain ⟨n1, n2, n3, n4⟩ := bT_n v.2.2.2.1.2 r k n
    have c := fun c h => bT_c (B := B) (r := r) (k := k) (n := n) (c := c) h
    unfold M1
    rw [n1, n2, n3, n4, c 84 (by omega), c 85 (by omega), c 86 (by omega), c 87 (by omega), c 88 (by omega), c 89 (by omega), c 90 (by omega), c 91 (by omega), c 92 (by omega), c 93 (by omega), c 94 (by omega), c 99 (by omega)]
    refine ⟨⟨?_, ?_, ?_, by rw [up_s]; unfold bT; rw [up_s], ?_⟩, fun r' hr' => ?_, fun e he => ?_, fun i hi => ?_, fun t ht => ?_⟩
    · simpa [up_a] using r1.1
    · simpa [up_a] using r1.2.1
    · simpa [up_a] using r1.2.2.1
    · simpa [up_a] using r1.2.2.2.2
    · simpa [up_a] using r2 r' hr'
    · simpa [up_a] using r3 e he
    · simpa [up_a] using r4 i hi
    · obtain ⟨j1, j2, j3⟩ := bT_j (B := B) r k n t
      rw [j1, j2, j3]
      by_cases q : t = nT B
      · simp [up_a, q]
      · have := r5 t (by omega)
        simpa [up_a, q] using this
theorem crossM (m : M1 M B) (w : Nat) : fM M (am_up M 99 1 (nI w)) ∧ M1 (am_up M 99 1 (nI w)) (bW B w) := by
  refine ⟨fun c j h1 h2 h3 => ?_, ?_⟩
  · unfold bk at h3
    rw [up_a, if_neg (by omega)]
  · obtain ⟨r1, r2, r3, r4, r5⟩ := m
    obtain ⟨n1, n2, n3, n4⟩ := bW_n (B := B) w
    have c := fun c h => bW_c (B := B) (w := w) (c := c) h
    unfold M1
    rw [n1, n2, n3, n4, c 84 (by omega), c 85 (by omega), c 86 (by omega), c 87 (by omega), c 88 (by omega), c 89 (by omega), c 90 (by omega), c 91 (by omega), c 92 (by omega), c 93 (by omega), c 94 (by omega), c 95 (by omega), c 96 (by omega), c 97 (by omega), c 98 (by omega)]
    have u : ∀ k, k ≠ 99 → am_up M 99 1 (nI w) k = M k := fun k hk => up_n hk
    rw [u 84 (by omega), u 85 (by omega), u 86 (by omega), u 87 (by omega), u 88 (by omega), u 89 (by omega), u 90 (by omega), u 91 (by omega), u 92 (by omega), u 93 (by omega), u 94 (by omega), u 95 (by omega), u 96 (by omega), u 97 (by omega), u 98 (by omega)]
    exact ⟨⟨r1.1, r1.2.1, r1.2.2.1, r1.2.2.2.1, by rw [up_s]; unfold bW; rw [up_s]⟩, r2, r3, r4, r5⟩
end RM2
