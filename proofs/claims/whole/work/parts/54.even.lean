/-! EVEN: the distances of the rooms -/
abbrev E_T : Type := Nat → Option Int
section EVEN
variable {S : am_H}
def eS (S : am_H) (E : E_T) (e : Nat) : E_T := match E (dA S e), E (dB S e) with
  | some x, none => fun j => if j = dB S e then some (x + (S 91 e).toInt) else E j
  | none, some y => fun j => if j = dA S e then some (y - (S 91 e).toInt) else E j
  | _, _ => E
theorem eS_1 {E : E_T} {e : Nat} {x : Int} (h : E (dA S e) = some x) (h' : E (dB S e) = none) : eS S E e = fun j => if j = dB S e then some (x + (S 91 e).toInt) else E j := by
  unfold eS; rw [h, h']
theorem eS_2 {E : E_T} {e : Nat} {y : Int} (h : E (dA S e) = none) (h' : E (dB S e) = some y) : eS S E e = fun j => if j = dA S e then some (y - (S 91 e).toInt) else E j := by
  unfold eS; rw [h, h']
theorem eS_3 {E : E_T} {e : Nat} {x y : Int} (h : E (dA S e) = some x) (h' : E (dB S e) = some y) : eS S E e = E := by
  unfold eS; rw [h, h']
theorem eS_4 {E : E_T} {e : Nat} (h : E (dA S e) = none) (h' : E (dB S e) = none) : eS S E e = E := by
  unfold eS; rw [h, h']
def eP (S : am_H) : Nat → Nat → E_T → E_T
  | 0, _, E => E
  | q + 1, e, E => eP S q (e + 1) (eS S E e)
def eN (S : am_H) : Nat → E_T → E_T
  | 0, E => E
  | k + 1, E => eN S k (eP S (nD S) 0 E)
/-- how many of the first n rooms are known -/
def eC (E : E_T) : Nat → Nat
  | 0 => 0
  | n + 1 => (if (E n).isSome then 1 else 0) + eC E n
def eX (E E' : E_T) : Prop := ∀ j z, E j = some z → E' j = some z
theorem eX.tr {E E' E'' : E_T} (a : eX E E') (b : eX E' E'') : eX E E'' := fun j z h => b j z (a j z h)
theorem eC_le {E E' : E_T} (h : eX E E') : ∀ n, eC E n ≤ eC E' n := by
  intro n
  induction n with
  | zero => exact Nat.le_refl _
  | succ n ih =>
    unfold eC
    cases q : E n with
    | none => simp; omega
    | some z => rw [h n z q]; simp; omega
theorem eC_lt {E E' : E_T} (h : eX E E') {j : Nat} (h1 : E j = none) (h2 : (E' j).isSome = true) : ∀ n, j < n → eC E n < eC E' n := by
  intro n
  induction n with
  | zero => intro q; omega
  | succ n ih =>
    intro q
    unfold eC
    by_cases e : n = j
    · subst e
      have := eC_le h n
      rw [h1, h2]
      simp
      omega
    · have := ih (by omega)
      cases q : E n with
      | none => simp; omega
      | some z => rw [h n z q]; simp; omega
theorem eC_all {E : E_T} : ∀ n, n ≤ eC E n → ∀ j, j < n → (E j).isSome = true := by
  have le : ∀ n, eC E n ≤ n := by
    intro n
    induction n with
    | zero => exact Nat.le_refl _
    | succ n ih => unfold eC; split <;> omega
  intro n
  induction n with
  | zero => intro _ j hj; omega
  | succ n ih =>
    intro h j hj
    have := le n
    unfold eC at h
    by_cases q : (E n).isSome = true
    · rw [if_pos q] at h
      by_cases e : j = n
      · rw [e]; exact q
      · exact ih (by omega) j (by omega)
    · rw [if_neg q] at h
      omega
theorem eS_x (E : E_T) (e : Nat) : eX E (eS S E e) := by
  intro j z hj
  cases qa : E (dA S e) with
  | none =>
    cases qb : E (dB S e) with
    | none => rw [eS_4 qa qb]; exact hj
    | some y =>
      rw [eS_2 qa qb]
      show (if j = dA S e then _ else _) = _
      rw [if_neg (fun q => by rw [q, qa] at hj; cases hj)]
      exact hj
  | some x =>
    cases qb : E (dB S e) with
    | none =>
      rw [eS_1 qa qb]
      show (if j = dB S e then _ else _) = _
      rw [if_neg (fun q => by rw [q, qb] at hj; cases hj)]
      exact hj
    | some y => rw [eS_3 qa qb]; exact hj
theorem eP_x : ∀ (q e : Nat) (E : E_T), eX E (eP S q e E) := by
  intro q
  induction q with
  | zero => intro e E j z h; exact h
  | succ q ih => intro e E; exact (eS_x E e).tr (ih _ _)
theorem eN_x : ∀ (k : Nat) (E : E_T), eX E (eN S k E) := by
  intro k
  induction k with
  | zero => intro E j z h; exact h
  | succ k ih => intro E; exact (eP_x _ _ E).tr (ih _)
theorem eS_c (hv : VH S) {e : Nat} (he : e < nD S) (E : E_T) : eS S E e = E ∨ eC E (nR S) < eC (eS S E e) (nR S) := by
  obtain ⟨-, -, h3, h4, -⟩ := dAB hv he
  cases qa : E (dA S e) with
  | none =>
    cases qb : E (dB S e) with
    | none => exact Or.inl (eS_4 qa qb)
    | some y =>
      refine Or.inr (eC_lt (eS_x E e) qa ?_ _ h3)
      rw [eS_2 qa qb]
      simp
  | some x =>
    cases qb : E (dB S e) with
    | none =>
      refine Or.inr (eC_lt (eS_x E e) qb ?_ _ h4)
      rw [eS_1 qa qb]
      simp
    | some y => exact Or.inl (eS_3 qa qb)
theorem eP_c (hv : VH S) : ∀ (q e : Nat) (E : E_T), e + q ≤ nD S → eP S q e E = E ∨ eC E (nR S) < eC (eP S q e E) (nR S) := by
  intro q
  induction q with
  | zero => intro e E _; exact Or.inl rfl
  | succ q ih =>
    intro e E h
    show eP S q (e + 1) (eS S E e) = E ∨ eC E (nR S) < eC (eP S q (e + 1) (eS S E e)) (nR S)
    rcases eS_c hv (show e < nD S by omega) E with z | z
    · rw [z]
      exact ih (e + 1) E (by omega)
    · have := eC_le (eP_x (S := S) q (e + 1) (eS S E e)) (nR S)
      exact Or.inr (by omega)
theorem eP_all (hv : VH S) {E : E_T} (h : ∀ j, j < nR S → (E j).isSome = true) : ∀ (q e : Nat), e + q ≤ nD S → eP S q e E = E := by
  intro q
  induction q with
  | zero => intro e _; rfl
  | succ q ih =>
    intro e he
    obtain ⟨-, -, h3, h4, -⟩ := dAB hv (show e < nD S by omega)
    show eP S q (e + 1) (eS S E e) = E
    obtain ⟨x, hx⟩ := Option.isSome_iff_exists.mp (h _ h3)
    obtain ⟨y, hy⟩ := Option.isSome_iff_exists.mp (h _ h4)
    rw [eS_3 hx hy]
    exact ih (e + 1) (by omega)
theorem eN_fix {E : E_T} (h : eP S (nD S) 0 E = E) : ∀ k, eN S k E = E := by
  intro k
  induction k with
  | zero => rfl
  | succ k ih => show eN S k (eP S (nD S) 0 E) = E; rw [h]; exact ih
theorem eN_done (hv : VH S) : ∀ (m : Nat) (E : E_T), nR S ≤ eC E (nR S) + m → eP S (nD S) 0 (eN S m E) = eN S m E := by
  intro m
  induction m with
  | zero => intro E h; exact eP_all hv (eC_all _ h) _ _ (by omega)
  | succ m ih =>
    intro E h
    show eP S (nD S) 0 (eN S m (eP S (nD S) 0 E)) = eN S m (eP S (nD S) 0 E)
    rcases eP_c hv (nD S) 0 E (by omega) with z | z
    · rw [z, eN_fix z, z]
    · exact ih _ (by omega)
theorem eN_add : ∀ (a b : Nat) (E : E_T), eN S (a + b) E = eN S b (eN S a E) := by
  intro a
  induction a with
  | zero => intro b E; rw [Nat.zero_add]; rfl
  | succ a ih => intro b E; rw [show a + 1 + b = a + b + 1 by omega]; exact ih b _
/-- one round fewer than rooms is as good as six -/
theorem eN_6 (hv : VH S) {E : E_T} (h : 1 ≤ eC E (nR S)) : eN S (nR S - 1) E = eN S 6 E := by
  have hR := hv.1.2
  have z := eN_done hv (nR S - 1) E (by omega)
  have := eN_add (S := S) (nR S - 1) (6 - (nR S - 1)) E
  rw [show nR S - 1 + (6 - (nR S - 1)) = 6 by omega] at this
  rw [this, eN_fix z]
/-- cells say the distances -/
def rE (nv : Int32) (B : Int) (E : E_T) (f : Nat → Int32) : Prop := ∀ j, j < 6 → (E j = none ∧ f j = nv) ∨ (∃ z, E j = some z ∧ (f j).toInt = z ∧ -B ≤ z ∧ z ≤ B)
theorem rE_mono {nv : Int32} {B B' : Int} {E : E_T} {f : Nat → Int32} (h : B ≤ B') (r : rE nv B E f) : rE nv B' E f := fun j hj => by
  rcases r j hj with q | ⟨z, q1, q2, q3, q4⟩
  · exact Or.inl q
  · exact Or.inr ⟨z, q1, q2, by omega, by omega⟩
theorem led24 (hv : VH S) {e : Nat} (he : e < nD S) : -24 ≤ (S 91 e).toInt ∧ (S 91 e).toInt ≤ 24 := by
  obtain ⟨a, b, -, -, -, -, -, h1, h2⟩ := hv.2.2.2.2.2.2.1 e he
  exact ⟨h1, h2⟩
theorem rE_1 (hv : VH S) {nv : Int32} {B : Int} {E : E_T} {f : Nat → Int32} {e : Nat} (he : e < nD S) (hB : 0 ≤ B ∧ B ≤ 100000) (r : rE nv B E f) {x : Int} (ha : E (dA S e) = some x) (hb : E (dB S e) = none) : rE nv (B + 24) (eS S E e) (upd f (dB S e) (f (dA S e) + S 91 e)) := by
  have hR := hv.1.2.2
  obtain ⟨-, -, h3, h4, h5⟩ := dAB hv he
  have hl := led24 hv he
  have hx : (f (dA S e)).toInt = x ∧ -B ≤ x ∧ x ≤ B := by
    rcases r _ (show dA S e < 6 by omega) with q | ⟨z, q1, q2, q3⟩
    · rw [q.1] at ha; cases ha
    · rw [q1] at ha; cases ha; exact ⟨q2, q3⟩
  intro j hj
  rw [eS_1 ha hb]
  by_cases q : j = dB S e
  · refine Or.inr ⟨x + (S 91 e).toInt, by show (if j = dB S e then _ else _) = _; rw [if_pos q], ?_, by omega, by omega⟩
    rw [q, pk_us, ti_add] <;> omega
  · rw [pk_un q]
    show ((if j = dB S e then _ else _) = _ ∧ _) ∨ ∃ z, (if j = dB S e then _ else _) = _ ∧ _
    rw [if_neg q]
    exact rE_mono (by omega) r j hj
theorem rE_2 (hv : VH S) {nv : Int32} {B : Int} {E : E_T} {f : Nat → Int32} {e : Nat} (he : e < nD S) (hB : 0 ≤ B ∧ B ≤ 100000) (r : rE nv B E f) {y : Int} (ha : E (dA S e) = none) (hb : E (dB S e) = some y) : rE nv (B + 24) (eS S E e) (upd f (dA S e) (f (dB S e) - S 91 e)) := by
  have hR := hv.1.2.2
  obtain ⟨-, -, h3, h4, h5⟩ := dAB hv he
  have hl := led24 hv he
  have hx : (f (dB S e)).toInt = y ∧ -B ≤ y ∧ y ≤ B := by
    rcases r _ (show dB S e < 6 by omega) with q | ⟨z, q1, q2, q3⟩
    · rw [q.1] at hb; cases hb
    · rw [q1] at hb; cases hb; exact ⟨q2, q3⟩
  intro j hj
  rw [eS_2 ha hb]
  by_cases q : j = dA S e
  · refine Or.inr ⟨y - (S 91 e).toInt, by show (if j = dA S e then _ else _) = _; rw [if_pos q], ?_, by omega, by omega⟩
    rw [q, pk_us, ti_sub] <;> omega
  · rw [pk_un q]
    show ((if j = dA S e then _ else _) = _ ∧ _) ∨ ∃ z, (if j = dA S e then _ else _) = _ ∧ _
    rw [if_neg q]
    exact rE_mono (by omega) r j hj
/-- known or not, by the cell -/
theorem rE_k {nv : Int32} {B : Int} {E : E_T} {f : Nat → Int32} (hn : B < nv.toInt) (r : rE nv B E f) {j : Nat} (hj : j < 6) : (E j = none ∧ f j = nv ∧ ¬ f j < nv) ∨ (∃ z, E j = some z ∧ ¬ f j = nv ∧ f j < nv) := by
  rcases r j hj with ⟨q1, q2⟩ | ⟨z, q1, q2, q3, q4⟩
  · exact Or.inl ⟨q1, q2, by rw [q2]; exact fun w => Int32.lt_irrefl w⟩
  · exact Or.inr ⟨z, q1, fun w => by rw [w] at q2; omega, by rw [Int32.lt_iff_toInt_lt]; omega⟩
theorem up_id (h : am_H) (c j : Nat) : am_up h c j (h c j) = h := by
  funext c' j'
  rw [up_a]
  split
  · rename_i q; rw [q.1, q.2]
  · rfl
theorem up_f (h : am_H) (c j : Nat) (x : Int32) : am_up h c j x c = upd (h c) j x := up_c h c j x
theorem spreadC_step (d n : Nat) (hv : VH S) {o : Nat} {h : am_H} (rh : RH o h S) {B : Int} {E : E_T} (hB : 0 ≤ B ∧ B ≤ 100000) (r : rE 536870912 B E (h 75)) {e : Nat} (he : e < nD S) (x2 : Int32) (u4 u5 : Option am_V) : ∃ (w4 w5 : Option am_V) (h' : am_H), rW_spread d (n + 1) 10 [some (vr 5 74), some (vr 2 o), some (vi x2), some (vi (nI e)), u4, u5] h = rW_spread d n 10 [some (vr 5 74), some (vr 2 o), some (vi x2), some (vi (nI (e + 1))), w4, w5] h' ∧ (∀ c, c ≠ 75 → h' c = h c) ∧ rE 536870912 (B + 24) (eS S E e) (h' 75) := by
  have hR := hv.1.2.2
  have hD := hv.2.1
  obtain ⟨a1, a2, a3, a4, a5⟩ := dAB hv he
  have e1 : ((536870912 : Int32)).toInt = 536870912 := rfl
  have s6 : h (o + 6) e = nI (dA S e) := (rh.2.2.1 e he).1.trans a1
  have s7 : h (o + 7) e = nI (dB S e) := (rh.2.2.1 e he).2.1.trans a2
  have s8 : h (o + 8) e = S 91 e := (rh.2.2.1 e he).2.2
  have b1 : ∀ f, am_b 8 (nI e) f = f e := fun f => b_ok (by omega) (by omega) f
  have b2 : ∀ f, am_b 6 (nI (dA S e)) f = f (dA S e) := fun f => b_ok (by omega) (by omega) f
  have b3 : ∀ f, am_b 6 (nI (dB S e)) f = f (dB S e) := fun f => b_ok (by omega) (by omega) f
  rw [tW_spread_10, rh.1.2.1, hD.1, if_pos (nI_lt he (by omega)), nI_1]
  simp only [b1, s6, s7, s8, b2, b3]
  rcases rE_k (by omega) r (show dA S e < 6 by omega) with ⟨qa, ka, -⟩ | ⟨x, qa, ka, -⟩
  · rw [if_pos ka]
    rcases rE_k (by omega) r (show dB S e < 6 by omega) with ⟨qb, kb, -⟩ | ⟨y, qb, kb, -⟩
    · rw [if_pos kb]
      exact ⟨_, _, h, rfl, fun _ _ => rfl, by rw [eS_4 qa qb]; exact rE_mono (by omega) r⟩
    · rw [if_neg kb, if_pos ka]
      refine ⟨_, _, _, rfl, fun c hc => up_n hc, ?_⟩
      rw [up_f]
      exact rE_2 hv he hB r qa qb
  · rw [if_neg ka]
    rcases rE_k (by omega) r (show dB S e < 6 by omega) with ⟨qb, kb, -⟩ | ⟨y, qb, kb, -⟩
    · rw [if_pos kb]
      refine ⟨_, _, _, rfl, fun c hc => up_n hc, ?_⟩
      rw [up_f]
      exact rE_1 hv he hB r qa qb
    · rw [if_neg kb, if_neg kb, if_neg ka]
      exact ⟨_, _, h, rfl, fun _ _ => rfl, by rw [eS_3 qa qb]; exact rE_mono (by omega) r⟩
theorem evenM_step (d n : Nat) (hv : VH S) {M : am_H} (fr : ∀ c, c ≠ 120 → M c = S c) {B : Int} {E : E_T} (hB : 0 ≤ B ∧ B ≤ 100000) (r : rE 1000000 B E (M 120)) {e : Nat} (he : e < nD S) (x1 x2 x3 : Int32) (u5 u6 : Option am_V) : ∃ (w5 w6 : Option am_V) (M' : am_H), rM_even d (n + 1) 44 [some (vr 7 82), some (vi x1), some (vi x2), some (vi x3), some (vi (nI e)), u5, u6] M = rM_even d n 44 [some (vr 7 82), some (vi x1), some (vi x2), some (vi x3), some (vi (nI (e + 1))), w5, w6] M' ∧ (∀ c, c ≠ 120 → M' c = S c) ∧ rE 1000000 (B + 24) (eS S E e) (M' 120) := by
  have hR := hv.1.2.2
  have hD := hv.2.1
  obtain ⟨a1, a2, a3, a4, a5⟩ := dAB hv he
  have e1 : ((1000000 : Int32)).toInt = 1000000 := rfl
  have s6 : M 89 e = nI (dA S e) := by rw [fr 89 (by omega)]; exact a1
  have s7 : M 90 e = nI (dB S e) := by rw [fr 90 (by omega)]; exact a2
  have s8 : M 91 e = S 91 e := by rw [fr 91 (by omega)]
  have b1 : ∀ f, am_b 16 (nI e) f = f e := fun f => b_ok (by omega) (by omega) f
  have b2 : ∀ f, am_b 6 (nI (dA S e)) f = f (dA S e) := fun f => b_ok (by omega) (by omega) f
  have b3 : ∀ f, am_b 6 (nI (dB S e)) f = f (dB S e) := fun f => b_ok (by omega) (by omega) f
  rw [tM_even_44, fr 88 (by omega), hD.1, if_pos (nI_lt he (by omega)), nI_1]
  simp only [b1, s6, s7, s8, b2, b3, up_id]
  rcases rE_k (by omega) r (show dA S e < 6 by omega) with ⟨qa, ka, la⟩ | ⟨x, qa, ka, la⟩
  · rw [if_neg la]
    rcases rE_k (by omega) r (show dB S e < 6 by omega) with ⟨qb, kb, lb⟩ | ⟨y, qb, kb, lb⟩
    · rw [if_neg lb]
      exact ⟨_, _, M, rfl, fr, by rw [eS_4 qa qb]; exact rE_mono (by omega) r⟩
    · rw [if_pos lb, if_pos ka]
      refine ⟨_, _, _, rfl, fun c hc => (up_n hc).trans (fr c hc), ?_⟩
      rw [up_f]
      exact rE_2 hv he hB r qa qb
  · rw [if_pos la]
    rcases rE_k (by omega) r (show dB S e < 6 by omega) with ⟨qb, kb, lb⟩ | ⟨y, qb, kb, lb⟩
    · rw [if_pos kb]
      have hn := rE_1 hv he hB r qa qb
      have hnb : M 120 (dA S e) + S 91 e < 1000000 := by
        rcases rE_k (by omega) hn (show dB S e < 6 by omega) with ⟨z, -⟩ | ⟨z, -, -, w⟩
        · rw [eS_1 qa qb] at z
          simp at z
        · rw [pk_us] at w
          exact w
      rw [up_s, if_pos hnb, up_d a5, if_neg ka]
      refine ⟨_, _, _, rfl, fun c hc => (up_n hc).trans (fr c hc), ?_⟩
      rw [up_f]
      exact hn
    · rw [if_neg kb, if_pos lb, if_neg ka]
      exact ⟨_, _, M, rfl, fr, by rw [eS_3 qa qb]; exact rE_mono (by omega) r⟩
end EVEN
