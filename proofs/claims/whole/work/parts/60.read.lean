/-! THE TEXT, read purely -/
def tL (tx : List Nat) (k : Nat) : Nat := (tx[k]?).getD 0
abbrev dg (tx : List Nat) (k : Nat) : Prop := 48 ≤ tL tx k ∧ tL tx k ≤ 57
/-- a number at p, and the sign c behind it: the number, and the place behind -/
def pN (tx : List Nat) (p c : Nat) : Option (Nat × Nat) :=
  if dg tx p then (if dg tx (p + 1) then (if tL tx (p + 2) = c then some (10 * (tL tx p - 48) + (tL tx (p + 1) - 48), p + 3) else none) else (if tL tx (p + 1) = c then some (tL tx p - 48, p + 2) else none)) else none
def pNs (tx : List Nat) : Nat → Nat → Option (List Nat × Nat)
  | 0, p => some ([], p)
  | n + 1, p => match pN tx p (if n = 0 then 59 else 44) with
    | none => none
    | some (v, p') => match pNs tx n p' with
      | none => none
      | some (l, p'') => some (v :: l, p'')
def nOf (c : Nat) : Nat := if c = 100 then 4 else if c = 112 then 2 else if c = 114 then 3 else if c = 116 then 3 else if c = 119 then 1 else 0
/-- a house with one thing more: B is read at the places of the reference's house -/
def bR (B : am_H) (p q o : Nat) : am_H := am_up (am_up (am_up (am_up B 85 (nR B) (nI p)) 86 (nR B) (nI q)) 87 (nR B) (nI o)) 84 0 (nI (nR B + 1))
def bD (B : am_H) (a b : Nat) (l : Int32) : am_H := am_up (am_up (am_up (am_up B 89 (nD B) (nI a)) 90 (nD B) (nI b)) 91 (nD B) l) 88 0 (nI (nD B + 1))
def bP (B : am_H) (r a : Nat) : am_H := am_up (am_up (am_up B 93 (nP B) (nI r)) 94 (nP B) (nI a)) 92 0 (nI (nP B + 1))
def bT (B : am_H) (r k n : Nat) : am_H := am_up (am_up (am_up (am_up B 96 (nT B) (nI r)) 97 (nT B) (nI k)) 98 (nT B) (nI n)) 95 0 (nI (nT B + 1))
def bW (B : am_H) (w : Nat) : am_H := am_up B 99 0 (nI w)
def bAdd (B : am_H) (c v0 v1 v2 v3 : Nat) : Option am_H :=
  if c = 100 then (if nD B < 8 ∧ v0 < nR B ∧ v1 < nR B ∧ v0 ≠ v1 ∧ v2 ≤ 1 ∧ v3 ≤ 24 then some (bD B v0 v1 (if v2 = 0 then nI v3 else -(nI v3))) else none)
  else if c = 112 then (if nP B < 4 ∧ v0 < nR B then some (bP B v0 v1) else none)
  else if c = 114 then (if nR B < 6 ∧ (1 ≤ v0 ∧ v0 ≤ 4) ∧ (1 ≤ v1 ∧ v1 ≤ 4) ∧ v2 ≤ 23 then some (bR B v0 v1 v2) else none)
  else if c = 116 then (if nT B < 5 ∧ v0 < nR B ∧ v1 ≤ 3 ∧ 1 ≤ v2 then some (bT B v0 v1 v2) else none)
  else if c = 119 then (if v0 ≤ 3 then some (bW B v0) else none)
  else none
def pItem (tx : List Nat) (p : Nat) (B : am_H) : Option (am_H × Nat) := match pNs tx (nOf (tL tx p)) (p + 1) with
  | none => none
  | some (l, p') => match bAdd B (tL tx p) (l.getD 0 0) (l.getD 1 0) (l.getD 2 0) (l.getD 3 0) with
    | none => none
    | some B' => some (B', p')
def pAll (tx : List Nat) : Nat → Nat → am_H → Option Nat × am_H
  | 0, _, B => (none, B)
  | n + 1, p, B => if p < tx.length then (match pItem tx p B with
    | none => (some p, B)
    | some (B', p') => pAll tx n p' B') else (none, B)
def B00 : am_H := fun c j => if c = 99 ∧ j = 0 then 1 else 0
/-- the house is as a text may tell it, so far -/
def VB (S : am_H) : Prop :=
  (S 84 0 = nI (nR S) ∧ nR S ≤ 6) ∧ (S 88 0 = nI (nD S) ∧ nD S ≤ 8) ∧ (S 92 0 = nI (nP S) ∧ nP S ≤ 4) ∧ (S 95 0 = nI (nT S) ∧ nT S ≤ 5) ∧
  (∃ w, w ≤ 3 ∧ S 99 0 = nI w) ∧
  (∀ r, r < nR S → ∃ p q o, (1 ≤ p ∧ p ≤ 4) ∧ (1 ≤ q ∧ q ≤ 4) ∧ o ≤ 23 ∧ S 85 r = nI p ∧ S 86 r = nI q ∧ S 87 r = nI o) ∧
  (∀ d, d < nD S → ∃ a b, a < nR S ∧ b < nR S ∧ a ≠ b ∧ S 89 d = nI a ∧ S 90 d = nI b ∧ -24 ≤ (S 91 d).toInt ∧ (S 91 d).toInt ≤ 24) ∧
  (∀ i, i < nP S → ∃ r a, r < nR S ∧ a ≤ 99 ∧ S 93 i = nI r ∧ S 94 i = nI a) ∧
  (∀ t, t < nT S → ∃ r k n, r < nR S ∧ k ≤ 3 ∧ (1 ≤ n ∧ n ≤ 99) ∧ S 96 t = nI r ∧ S 97 t = nI k ∧ S 98 t = nI n)
theorem nR_of {B : am_H} {n : Nat} (h : B 84 0 = nI n) (hn : n < 100) : nR B = n := by unfold nR; rw [h, nI_rm hn]
theorem nD_of {B : am_H} {n : Nat} (h : B 88 0 = nI n) (hn : n < 100) : nD B = n := by unfold nD; rw [h, nI_rm hn]
theorem nP_of {B : am_H} {n : Nat} (h : B 92 0 = nI n) (hn : n < 100) : nP B = n := by unfold nP; rw [h, nI_rm hn]
theorem nT_of {B : am_H} {n : Nat} (h : B 95 0 = nI n) (hn : n < 100) : nT B = n := by unfold nT; rw [h, nI_rm hn]
section CNT
variable {B : am_H}
theorem bR_n (h : nR B ≤ 6) (p q o : Nat) : nR (bR B p q o) = nR B + 1 ∧ nD (bR B p q o) = nD B ∧ nP (bR B p q o) = nP B ∧ nT (bR B p q o) = nT B :=
  ⟨nR_of (by unfold bR; rw [up_s]) (by omega), by unfold nD bR; simp only [up_a]; rfl, by unfold nP bR; simp only [up_a]; rfl, by unfold nT bR; simp only [up_a]; rfl⟩
theorem bD_n (h : nD B ≤ 8) (a b : Nat) (l : Int32) : nR (bD B a b l) = nR B ∧ nD (bD B a b l) = nD B + 1 ∧ nP (bD B a b l) = nP B ∧ nT (bD B a b l) = nT B :=
  ⟨by unfold nR bD; simp only [up_a]; rfl, nD_of (by unfold bD; rw [up_s]) (by omega), by unfold nP bD; simp only [up_a]; rfl, by unfold nT bD; simp only [up_a]; rfl⟩
theorem bP_n (h : nP B ≤ 4) (r a : Nat) : nR (bP B r a) = nR B ∧ nD (bP B r a) = nD B ∧ nP (bP B r a) = nP B + 1 ∧ nT (bP B r a) = nT B :=
  ⟨by unfold nR bP; simp only [up_a]; rfl, by unfold nD bP; simp only [up_a]; rfl, nP_of (by unfold bP; rw [up_s]) (by omega), by unfold nT bP; simp only [up_a]; rfl⟩
theorem bT_n (h : nT B ≤ 5) (r k n : Nat) : nR (bT B r k n) = nR B ∧ nD (bT B r k n) = nD B ∧ nP (bT B r k n) = nP B ∧ nT (bT B r k n) = nT B + 1 :=
  ⟨by unfold nR bT; simp only [up_a]; rfl, by unfold nD bT; simp only [up_a]; rfl, by unfold nP bT; simp only [up_a]; rfl, nT_of (by unfold bT; rw [up_s]) (by omega)⟩
theorem bW_n (w : Nat) : nR (bW B w) = nR B ∧ nD (bW B w) = nD B ∧ nP (bW B w) = nP B ∧ nT (bW B w) = nT B :=
  ⟨by unfold nR bW; simp only [up_a]; rfl, by unfold nD bW; simp only [up_a]; rfl, by unfold nP bW; simp only [up_a]; rfl, by unfold nT bW; simp only [up_a]; rfl⟩
/-- in other cells nothing has changed -/
theorem bR_c {p q o c : Nat} (h : c ≠ 84 ∧ c ≠ 85 ∧ c ≠ 86 ∧ c ≠ 87) : bR B p q o c = B c := by unfold bR; rw [up_n h.1, up_n h.2.2.2, up_n h.2.2.1, up_n h.2.1]
theorem bD_c {a b c : Nat} {l : Int32} (h : c ≠ 88 ∧ c ≠ 89 ∧ c ≠ 90 ∧ c ≠ 91) : bD B a b l c = B c := by unfold bD; rw [up_n h.1, up_n h.2.2.2, up_n h.2.2.1, up_n h.2.1]
theorem bP_c {r a c : Nat} (h : c ≠ 92 ∧ c ≠ 93 ∧ c ≠ 94) : bP B r a c = B c := by unfold bP; rw [up_n h.1, up_n h.2.2, up_n h.2.1]
theorem bT_c {r k n c : Nat} (h : c ≠ 95 ∧ c ≠ 96 ∧ c ≠ 97 ∧ c ≠ 98) : bT B r k n c = B c := by unfold bT; rw [up_n h.1, up_n h.2.2.2, up_n h.2.2.1, up_n h.2.1]
theorem bW_c {w c : Nat} (h : c ≠ 99) : bW B w c = B c := by unfold bW; rw [up_n h]
theorem bR_j (p q o j : Nat) : bR B p q o 85 j = (if j = nR B then nI p else B 85 j) ∧ bR B p q o 86 j = (if j = nR B then nI q else B 86 j) ∧ bR B p q o 87 j = (if j = nR B then nI o else B 87 j) := by
  unfold bR; simp [up_a]
theorem bD_j (a b : Nat) (l : Int32) (j : Nat) : bD B a b l 89 j = (if j = nD B then nI a else B 89 j) ∧ bD B a b l 90 j = (if j = nD B then nI b else B 90 j) ∧ bD B a b l 91 j = (if j = nD B then l else B 91 j) := by
  unfold bD; simp [up_a]
theorem bP_j (r a j : Nat) : bP B r a 93 j = (if j = nP B then nI r else B 93 j) ∧ bP B r a 94 j = (if j = nP B then nI a else B 94 j) := by
  unfold bP; simp [up_a]
theorem bT_j (r k n j : Nat) : bT B r k n 96 j = (if j = nT B then nI r else B 96 j) ∧ bT B r k n 97 j = (if j = nT B then nI k else B 97 j) ∧ bT B r k n 98 j = (if j = nT B then nI n else B 98 j) := by
  unfold bT; simp [up_a]
theorem VB_00 : VB B00 := by
  have h0 : nR B00 = 0 := rfl
  have h1 : nD B00 = 0 := rfl
  have h2 : nP B00 = 0 := rfl
  have h3 : nT B00 = 0 := rfl
  unfold VB
  rw [h0, h1, h2, h3]
  exact ⟨⟨rfl, by omega⟩, ⟨rfl, by omega⟩, ⟨rfl, by omega⟩, ⟨rfl, by omega⟩, ⟨1, by omega, rfl⟩, fun r hr => by omega, fun r hr => by omega, fun r hr => by omega, fun r hr => by omega⟩
theorem VB_R (v : VB B) {p q o : Nat} (h : nR B < 6 ∧ (1 ≤ p ∧ p ≤ 4) ∧ (1 ≤ q ∧ q ≤ 4) ∧ o ≤ 23) : VB (bR B p q o) := by
  obtain ⟨v1, v2, v3, v4, v5, v6, v7, v8, v9⟩ := v
  obtain ⟨n1, n2, n3, n4⟩ := bR_n v1.2 p q o
  have c := fun c h => bR_c (B := B) (p := p) (q := q) (o := o) (c := c) h
  unfold VB
  rw [n1, n2, n3, n4, c 88 (by omega), c 89 (by omega), c 90 (by omega), c 91 (by omega), c 92 (by omega), c 93 (by omega), c 94 (by omega), c 95 (by omega), c 96 (by omega), c 97 (by omega), c 98 (by omega), c 99 (by omega)]
  refine ⟨⟨by unfold bR; rw [up_s], by omega⟩, v2, v3, v4, v5, fun r hr => ?_, fun d hd => ?_, fun i hi => ?_, fun t ht => ?_⟩
  · obtain ⟨j1, j2, j3⟩ := bR_j (B := B) p q o r
    rw [j1, j2, j3]
    by_cases e : r = nR B
    · rw [if_pos e, if_pos e, if_pos e]
      exact ⟨p, q, o, h.2.1, h.2.2.1, h.2.2.2, rfl, rfl, rfl⟩
    · rw [if_neg e, if_neg e, if_neg e]
      exact v6 r (by omega)
  · obtain ⟨a, b, w1, w2, w3⟩ := v7 d hd
    exact ⟨a, b, by omega, by omega, w3⟩
  · obtain ⟨a, b, w1, w3⟩ := v8 i hi
    exact ⟨a, b, by omega, w3⟩
  · obtain ⟨a, b, n, w1, w3⟩ := v9 t ht
    exact ⟨a, b, n, by omega, w3⟩
theorem VB_D (v : VB B) {a b : Nat} {l : Int32} (h : nD B < 8 ∧ a < nR B ∧ b < nR B ∧ a ≠ b) (hl : -24 ≤ l.toInt ∧ l.toInt ≤ 24) : VB (bD B a b l) := by
  obtain ⟨v1, v2, v3, v4, v5, v6, v7, v8, v9⟩ := v
  obtain ⟨n1, n2, n3, n4⟩ := bD_n v2.2 a b l
  have c := fun c h => bD_c (B := B) (a := a) (b := b) (l := l) (c := c) h
  unfold VB
  rw [n1, n2, n3, n4, c 84 (by omega), c 85 (by omega), c 86 (by omega), c 87 (by omega), c 92 (by omega), c 93 (by omega), c 94 (by omega), c 95 (by omega), c 96 (by omega), c 97 (by omega), c 98 (by omega), c 99 (by omega)]
  refine ⟨v1, ⟨by unfold bD; rw [up_s], by omega⟩, v3, v4, v5, v6, fun d hd => ?_, v8, v9⟩
  obtain ⟨j1, j2, j3⟩ := bD_j (B := B) a b l d
  rw [j1, j2, j3]
  by_cases e : d = nD B
  · rw [if_pos e, if_pos e, if_pos e]
    exact ⟨a, b, h.2.1, h.2.2.1, h.2.2.2, rfl, rfl, hl⟩
  · rw [if_neg e, if_neg e, if_neg e]
    exact v7 d (by omega)
theorem VB_P (v : VB B) {r a : Nat} (h : nP B < 4 ∧ r < nR B) (ha : a ≤ 99) : VB (bP B r a) := by
  obtain ⟨v1, v2, v3, v4, v5, v6, v7, v8, v9⟩ := v
  obtain ⟨n1, n2, n3, n4⟩ := bP_n v3.2 r a
  have c := fun c h => bP_c (B := B) (r := r) (a := a) (c := c) h
  unfold VB
  rw [n1, n2, n3, n4, c 84 (by omega), c 85 (by omega), c 86 (by omega), c 87 (by omega), c 88 (by omega), c 89 (by omega), c 90 (by omega), c 91 (by omega), c 95 (by omega), c 96 (by omega), c 97 (by omega), c 98 (by omega), c 99 (by omega)]
  refine ⟨v1, v2, ⟨by unfold bP; rw [up_s], by omega⟩, v4, v5, v6, v7, fun i hi => ?_, v9⟩
  obtain ⟨j1, j2⟩ := bP_j (B := B) r a i
  rw [j1, j2]
  by_cases e : i = nP B
  · rw [if_pos e, if_pos e]
    exact ⟨r, a, h.2, ha, rfl, rfl⟩
  · rw [if_neg e, if_neg e]
    exact v8 i (by omega)
theorem VB_T (v : VB B) {r k n : Nat} (h : nT B < 5 ∧ r < nR B ∧ k ≤ 3 ∧ 1 ≤ n) (hn : n ≤ 99) : VB (bT B r k n) := by
  obtain ⟨v1, v2, v3, v4, v5, v6, v7, v8, v9⟩ := v
  obtain ⟨n1, n2, n3, n4⟩ := bT_n v4.2 r k n
  have c := fun c h => bT_c (B := B) (r := r) (k := k) (n := n) (c := c) h
  unfold VB
  rw [n1, n2, n3, n4, c 84 (by omega), c 85 (by omega), c 86 (by omega), c 87 (by omega), c 88 (by omega), c 89 (by omega), c 90 (by omega), c 91 (by omega), c 92 (by omega), c 93 (by omega), c 94 (by omega), c 99 (by omega)]
  refine ⟨v1, v2, v3, ⟨by unfold bT; rw [up_s], by omega⟩, v5, v6, v7, v8, fun t ht => ?_⟩
  obtain ⟨j1, j2, j3⟩ := bT_j (B := B) r k n t
  rw [j1, j2, j3]
  by_cases e : t = nT B
  · rw [if_pos e, if_pos e, if_pos e]
    exact ⟨r, k, n, h.2.1, h.2.2.1, ⟨h.2.2.2, hn⟩, rfl, rfl, rfl⟩
  · rw [if_neg e, if_neg e, if_neg e]
    exact v9 t (by omega)
theorem VB_W (v : VB B) {w : Nat} (h : w ≤ 3) : VB (bW B w) := by
  obtain ⟨v1, v2, v3, v4, v5, v6, v7, v8, v9⟩ := v
  obtain ⟨n1, n2, n3, n4⟩ := bW_n (B := B) w
  have c := fun c h => bW_c (B := B) (w := w) (c := c) h
  unfold VB
  rw [n1, n2, n3, n4, c 84 (by omega), c 85 (by omega), c 86 (by omega), c 87 (by omega), c 88 (by omega), c 89 (by omega), c 90 (by omega), c 91 (by omega), c 92 (by omega), c 93 (by omega), c 94 (by omega), c 95 (by omega), c 96 (by omega), c 97 (by omega), c 98 (by omega)]
  exact ⟨v1, v2, v3, v4, ⟨w, h, by unfold bW; rw [up_s]⟩, v6, v7, v8, v9⟩
theorem l24 {s : Nat} (h : s ≤ 24) (f : Nat) : -24 ≤ (if f = 0 then nI s else -(nI s)).toInt ∧ (if f = 0 then nI s else -(nI s)).toInt ≤ 24 := by
  have := nI_toInt (n := s) (by omega)
  split
  · omega
  · rw [ti_neg (by omega)]; omega
theorem VB_add (v : VB B) {c v0 v1 v2 v3 : Nat} {B' : am_H} (h1 : v1 ≤ 99) (h2 : v2 ≤ 99) (h : bAdd B c v0 v1 v2 v3 = some B') : VB B' := by
  unfold bAdd at h
  split at h
  · split at h
    · rename_i q; cases h; exact VB_D v ⟨q.1, q.2.1, q.2.2.1, q.2.2.2.1⟩ (l24 q.2.2.2.2.2 _)
    · cases h
  · split at h
    · split at h
      · rename_i q; cases h; exact VB_P v q h1
      · cases h
    · split at h
      · split at h
        · rename_i q; cases h; exact VB_R v q
        · cases h
      · split at h
        · split at h
          · rename_i q; cases h; exact VB_T v q h2
          · cases h
        · split at h
          · split at h
            · rename_i q; cases h; exact VB_W v q
            · cases h
          · cases h
end CNT
theorem tL_lt {tx : List Nat} {k : Nat} (h : tL tx k ≠ 0) : k < tx.length := by
  unfold tL at h
  rcases Nat.lt_or_ge k tx.length with q | q
  · exact q
  · rw [List.getElem?_eq_none q] at h
    exact absurd rfl h
theorem tL_get {tx : List Nat} {k : Nat} (h : k < tx.length) : tx[k]? = some (tL tx k) := by
  unfold tL
  rw [List.getElem?_eq_getElem h]
  rfl
theorem pN_b {tx : List Nat} {p c v p' : Nat} (hc : c ≠ 0) (h : pN tx p c = some (v, p')) : v ≤ 99 ∧ p < p' ∧ p' ≤ tx.length := by
  unfold pN at h
  split at h
  · split at h
    · split at h
      · rename_i q1 q2 q3
        cases h
        have := tL_lt (tx := tx) (k := p + 2) (by rw [q3]; exact hc)
        omega
      · cases h
    · split at h
      · rename_i q1 q2 q3
        cases h
        have := tL_lt (tx := tx) (k := p + 1) (by rw [q3]; exact hc)
        omega
      · cases h
  · cases h
theorem pNs_1 {tx : List Nat} {n p : Nat} (q : pN tx p (if n = 0 then 59 else 44) = none) : pNs tx (n + 1) p = none := by
  unfold pNs
  rw [q]
theorem pNs_2 {tx : List Nat} {n p v p1 : Nat} (q : pN tx p (if n = 0 then 59 else 44) = some (v, p1)) (q2 : pNs tx n p1 = none) : pNs tx (n + 1) p = none := by
  unfold pNs
  rw [q]
  dsimp only
  rw [q2]
theorem pNs_3 {tx : List Nat} {n p v p1 p2 : Nat} {l : List Nat} (q : pN tx p (if n = 0 then 59 else 44) = some (v, p1)) (q2 : pNs tx n p1 = some (l, p2)) : pNs tx (n + 1) p = some (v :: l, p2) := by
  unfold pNs
  rw [q]
  dsimp only
  rw [q2]
theorem pNs_b {tx : List Nat} : ∀ {n p : Nat} {l : List Nat} {p' : Nat}, pNs tx n p = some (l, p') → p ≤ tx.length → l.length = n ∧ p ≤ p' ∧ p' ≤ tx.length ∧ ∀ x ∈ l, x ≤ 99 := by
  intro n
  induction n with
  | zero =>
    intro p l p' h hp
    unfold pNs at h
    cases h
    exact ⟨rfl, by omega, hp, fun x hx => by cases hx⟩
  | succ n ih =>
    intro p l p' h hp
    unfold pNs at h
    cases q : pN tx p (if n = 0 then 59 else 44) with
    | none => rw [q] at h; cases h
    | some w =>
      obtain ⟨v, p1⟩ := w
      rw [q] at h
      dsimp only at h
      have b := pN_b (by split <;> omega) q
      cases q2 : pNs tx n p1 with
      | none => rw [q2] at h; cases h
      | some w2 =>
        obtain ⟨l1, p2⟩ := w2
        rw [q2] at h
        cases h
        obtain ⟨i1, i2, i3, i4⟩ := ih q2 b.2.2
        refine ⟨by simp [i1], by omega, i3, fun x hx => ?_⟩
        rcases List.mem_cons.mp hx with rfl | hx
        · exact b.1
        · exact i4 x hx
theorem getD_b {l : List Nat} (h : ∀ x ∈ l, x ≤ 99) (i : Nat) : l.getD i 0 ≤ 99 := by
  rw [List.getD_eq_getElem?_getD]
  cases q : l[i]? with
  | none => simp
  | some x => exact h x (List.mem_of_getElem? q)
