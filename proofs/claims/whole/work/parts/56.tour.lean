/-! ROUND: the tables by what was stayed in and where one is -/
theorem bm_or : ∀ a, a < 64 → ∀ r, r < 6 → nI a ||| ((1 : Int32) <<< (nI r &&& 31)) = nI (a ||| 2 ^ r) ∧ a ||| 2 ^ r < 64 := by decide +kernel
theorem bm_has : ∀ a, a < 64 → ∀ r, r < 6 → (((nI a >>> (nI r &&& 31)) &&& 1 = 1) ↔ a.testBit r = true) := by decide +kernel
theorem bm_not : ∀ m, m < 64 → ∀ a, a < 64 → nI m &&& (nI a ^^^ (-1)) = nI (m &&& (63 - a)) ∧ m &&& (63 - a) < 64 := by decide +kernel
theorem bm_63 : ∀ a, a < 64 → ∀ r, r < 6 → (63 - a).testBit r = !a.testBit r := by decide +kernel
theorem bm_c {m a r : Nat} (hm : m < 64) (ha : a < 64) (hr : r < 6) : (((nI m &&& (nI a ^^^ (-1))) >>> (nI r &&& 31)) &&& 1 = 1) ↔ (m.testBit r = true ∧ ¬ a.testBit r = true) := by
  obtain ⟨h1, h2⟩ := bm_not m hm a ha
  rw [h1, bm_has _ h2 r hr, Nat.testBit_and, bm_63 a ha r hr]
  cases m.testBit r <;> cases a.testBit r <;> decide
theorem sub_or {m a r : Nat} (h : a &&& m = a) (hr : m.testBit r = true) : (a ||| 2 ^ r) &&& m = a ||| 2 ^ r := by
  refine Nat.eq_of_testBit_eq fun i => ?_
  have hi : (a.testBit i && m.testBit i) = a.testBit i := by rw [← Nat.testBit_and, h]
  rw [Nat.testBit_and, Nat.testBit_or, Nat.testBit_two_pow]
  by_cases q : r = i
  · subst q
    rw [hr]
    simp
  · rw [show decide (r = i) = false from decide_eq_false q]
    simp only [Bool.or_false]
    exact hi
theorem sub_le {m a : Nat} (h : a &&& m = a) : a ≤ m := by
  have := Nat.and_le_right (n := a) (m := m)
  omega
/-- a value comes there, if it is lower -/
def xR (E : E_T) (j : Nat) (w : Int) : E_T := fun i => if i = j then some (match E j with
  | none => w
  | some z => if w < z then w else z) else E i
def rT (nv : Int32) (B : Int) (E : E_T) (f : Nat → Int32) : Prop := ∀ j, j < 384 → (E j = none ∧ f j = nv) ∨ (∃ z, E j = some z ∧ (f j).toInt = z ∧ -B ≤ z ∧ z ≤ B)
theorem rT_mono {nv : Int32} {B B' : Int} {E : E_T} {f : Nat → Int32} (h : B ≤ B') (r : rT nv B E f) : rT nv B' E f := fun j hj => by
  rcases r j hj with q | ⟨z, q1, q2, q3, q4⟩
  · exact Or.inl q
  · exact Or.inr ⟨z, q1, q2, by omega, by omega⟩
theorem rT_k {nv : Int32} {B : Int} {E : E_T} {f : Nat → Int32} (hn : B < nv.toInt) (r : rT nv B E f) {j : Nat} (hj : j < 384) : (E j = none ∧ f j = nv ∧ ¬ f j < nv) ∨ (∃ z, E j = some z ∧ (f j).toInt = z ∧ (-B ≤ z ∧ z ≤ B) ∧ ¬ f j = nv ∧ f j < nv) := by
  rcases r j hj with ⟨q1, q2⟩ | ⟨z, q1, q2, q3, q4⟩
  · exact Or.inl ⟨q1, q2, by rw [q2]; exact fun w => Int32.lt_irrefl w⟩
  · exact Or.inr ⟨z, q1, q2, ⟨q3, q4⟩, fun w => by rw [w] at q2; omega, by rw [Int32.lt_iff_toInt_lt]; omega⟩
theorem rT_x {nv : Int32} {B B' : Int} {E : E_T} {f : Nat → Int32} (hn : B' < nv.toInt) (hB : B ≤ B') (r : rT nv B E f) {j : Nat} (hj : j < 384) {w : Int32} (hw : -B' ≤ w.toInt ∧ w.toInt ≤ B') : rT nv B' (xR E j w.toInt) (upd f j (if w < f j then w else f j)) := by
  intro i hi
  unfold xR
  by_cases q : i = j
  · subst q
    rw [if_pos rfl, pk_us]
    rcases r i hi with ⟨q1, q2⟩ | ⟨z, q1, q2, q3, q4⟩
    · rw [q1, q2, if_pos (show w < nv by rw [Int32.lt_iff_toInt_lt]; omega)]
      exact Or.inr ⟨w.toInt, rfl, rfl, hw.1, hw.2⟩
    · rw [q1]
      refine Or.inr ⟨_, rfl, ?_, ?_, ?_⟩
      · show _ = (if w.toInt < z then w.toInt else z)
        by_cases e : w < f i
        · rw [if_pos e, if_pos (by rw [Int32.lt_iff_toInt_lt] at e; omega)]
        · rw [if_neg e, if_neg (by rw [Int32.lt_iff_toInt_lt] at e; omega)]
          exact q2
      · show -B' ≤ (if w.toInt < z then w.toInt else z)
        split <;> omega
      · show (if w.toInt < z then w.toInt else z) ≤ B'
        split <;> omega
  · rw [if_neg q, pk_un q]
    exact rT_mono hB r i hi
section TOUR
variable {S : am_H}
/-- an hour in the room, or none -/
def sY (S : am_H) (m : Nat) (E : E_T) (a r : Nat) : E_T := if m.testBit r = true ∧ ¬ a.testBit r = true then (match E (6 * a + r) with
  | none => E
  | some z => xR E (6 * (a ||| 2 ^ r) + r) (z + (hOf S r).toInt)) else E
def sI (S : am_H) (m a : Nat) : Nat → Nat → E_T → E_T
  | 0, _, E => E
  | q + 1, r, E => sI S m a q (r + 1) (sY S m E a r)
def sO (S : am_H) (m : Nat) : Nat → Nat → E_T → E_T
  | 0, _, E => E
  | q + 1, a, E => sO S m q (a + 1) (sI S m a (nR S) 0 E)
/-- only parts of the set, only rooms -/
def eD (S : am_H) (m : Nat) (E : E_T) : Prop := ∀ j, (E j).isSome = true → j < 384 ∧ (j / 6) &&& m = j / 6 ∧ j % 6 < nR S
theorem eD_sY (hv : VH S) {m a r : Nat} {E : E_T} (ha : a < 64) (hr : r < nR S) (h : eD S m E) : eD S m (sY S m E a r) := by
  have hR := hv.1.2.2
  unfold sY
  split
  · rename_i c
    cases q : E (6 * a + r) with
    | none => exact h
    | some z =>
      have h1 := h (6 * a + r) (by rw [q]; rfl)
      rw [show (6 * a + r) / 6 = a by omega] at h1
      have h2 := bm_or a ha r (by omega)
      intro j hj
      show j < 384 ∧ (j / 6) &&& m = j / 6 ∧ j % 6 < nR S
      by_cases e : j = 6 * (a ||| 2 ^ r) + r
      · rw [e, show (6 * (a ||| 2 ^ r) + r) / 6 = a ||| 2 ^ r by omega, show (6 * (a ||| 2 ^ r) + r) % 6 = r by omega]
        exact ⟨by omega, sub_or h1.2.1 c.1, hr⟩
      · have hj : (xR E (6 * (a ||| 2 ^ r) + r) (z + (hOf S r).toInt) j).isSome = true := hj
        unfold xR at hj
        rw [if_neg e] at hj
        exact h j hj
  · exact h
theorem eD_sI (hv : VH S) {m a : Nat} (ha : a < 64) : ∀ (q r : Nat) (E : E_T), r + q ≤ nR S → eD S m E → eD S m (sI S m a q r E) := by
  intro q
  induction q with
  | zero => intro r E _ h; exact h
  | succ q ih => intro r E hr h; exact ih _ _ (by omega) (eD_sY hv ha (by omega) h)
theorem eD_sO (hv : VH S) {m : Nat} : ∀ (q a : Nat) (E : E_T), a + q ≤ 64 → eD S m E → eD S m (sO S m q a E) := by
  intro q
  induction q with
  | zero => intro a E _ h; exact h
  | succ q ih => intro a E ha h; exact ih _ _ (by omega) (eD_sI hv (by omega) _ _ _ (by omega) h)
theorem sY_id {m a r : Nat} {E : E_T} (h : eD S m E) (ha : m ≤ a) (hr : r < 6) : sY S m E a r = E := by
  unfold sY
  split
  · rename_i c
    cases q : E (6 * a + r) with
    | none => rfl
    | some z =>
      have h1 := (h (6 * a + r) (by rw [q]; rfl)).2.1
      rw [show (6 * a + r) / 6 = a by omega] at h1
      have := sub_le h1
      have e : a = m := by omega
      rw [e] at c
      exact absurd c.1 c.2
  · rfl
theorem sI_id (hv : VH S) {m a : Nat} {E : E_T} (h : eD S m E) (ha : m ≤ a) : ∀ (q r : Nat), r + q ≤ nR S → sI S m a q r E = E := by
  have hR := hv.1.2.2
  intro q
  induction q with
  | zero => intro r _; rfl
  | succ q ih =>
    intro r hr
    show sI S m a q (r + 1) (sY S m E a r) = E
    rw [sY_id h ha (by omega)]
    exact ih _ (by omega)
theorem sO_id (hv : VH S) {m : Nat} {E : E_T} (h : eD S m E) : ∀ (q a : Nat), m ≤ a → sO S m q a E = E := by
  intro q
  induction q with
  | zero => intro a _; rfl
  | succ q ih =>
    intro a ha
    show sO S m q (a + 1) (sI S m a (nR S) 0 E) = E
    rw [sI_id hv h ha _ _ (by omega)]
    exact ih _ (by omega)
theorem sO_add {m : Nat} : ∀ (q q' a : Nat) (E : E_T), sO S m (q + q') a E = sO S m q' (a + q) (sO S m q a E) := by
  intro q
  induction q with
  | zero => intro q' a E; rw [Nat.zero_add]; rfl
  | succ q ih =>
    intro q' a E
    rw [show q + 1 + q' = q + q' + 1 by omega, show a + (q + 1) = a + 1 + q by omega]
    exact ih _ _ _
theorem sO_64 (hv : VH S) {m : Nat} {E : E_T} (hm : m < 64) (h : eD S m E) : sO S m 64 0 E = sO S m m 0 E := by
  have := sO_add (S := S) (m := m) m (64 - m) 0 E
  rw [show m + (64 - m) = 64 by omega] at this
  rw [this, sO_id hv (eD_sO hv _ _ _ (by omega) h) _ _ (by omega)]
def frT (h h' : am_H) : Prop := (∀ c, ¬ (79 ≤ c ∧ c ≤ 81) → h' c = h c)
theorem frT.tr {h h' h'' : am_H} (a : frT h h') (b : frT h' h'') : frT h h'' := fun c hc => (b c hc).trans (a c hc)
theorem RH_t {o : Nat} {h h' : am_H} (ho : o ≤ 17) (f : frT h h') (rh : RH o h S) : RH o h' S := RH_c (fun c q1 q2 => f c (by omega)) (fun _ _ _ => rfl) rh
/-- the class's stays, a room -/
theorem stayC_step (d n : Nat) (hv : VH S) {o A m a r : Nat} {h : am_H} (rh : RH o h S) (h0 : h 79 0 = nI A) (hA : A = 80 ∨ A = 81) (hm : m < 64) (ha : a < m) (hr : r < nR S) {B : Int} {E : E_T} (hB : 0 ≤ B ∧ B ≤ 900000) (t : rT 536870912 B E (h A)) (u5 u6 : Option am_V) :
    ∃ (w5 w6 : Option am_V) (h' : am_H), rT_stayOrNot (d + 1) (n + 1) 9 [some (vr 4 79), some (vr 2 o), some (vi (nI m)), some (vi (nI a)), some (vi (nI r)), u5, u6] h = rT_stayOrNot (d + 1) n 9 [some (vr 4 79), some (vr 2 o), some (vi (nI m)), some (vi (nI a)), some (vi (nI (r + 1))), w5, w6] h' ∧ (∀ c, c ≠ A → h' c = h c) ∧ rT 536870912 (B + 48) (sY S m E a r) (h' A) := by
  have hR := hv.1
  have e1 : ((536870912 : Int32)).toInt = 536870912 := rfl
  obtain ⟨k, hk1, hk2, hk⟩ := hOf_nI hv hr
  have i1 : nI a * 6 + nI r = nI (6 * a + r) := by rw [show (6 : Int32) = nI 6 from rfl, pk_mul, nI_add, Nat.mul_comm]
  obtain ⟨o1, o2⟩ := bm_or a (by omega) r (by omega)
  have i2 : (nI a ||| ((1 : Int32) <<< (nI r &&& 31))) * 6 + nI r = nI (6 * (a ||| 2 ^ r) + r) := by rw [o1, show (6 : Int32) = nI 6 from rfl, pk_mul, nI_add, Nat.mul_comm]
  have b1 : ∀ f, am_b 384 (nI (6 * a + r)) f = f (6 * a + r) := fun f => b_ok (by omega) (by omega) f
  have b2 : ∀ f, am_b 384 (nI (6 * (a ||| 2 ^ r) + r)) f = f (6 * (a ||| 2 ^ r) + r) := fun f => b_ok (by omega) (by omega) f
  have hAn : (h 79 0).toNatClampNeg = A := by rw [h0, nI_clamp (by omega)]
  have h4 : h (o + 4) r = hOf S r := (rh.2.1 r hr).2.2.2.1
  rw [tT_stayOrNot_9, rh.1.1, hR.1, if_pos (nI_lt hr (by omega)), nI_1, i1, b1, hAn, i2]
  simp only [b2]
  rw [b_ok (show r < 6 by omega) (by omega), h4]
  rcases rT_k (by omega) t (show 6 * a + r < 384 by omega) with ⟨q1, q2, -⟩ | ⟨z, q1, q2, q3, q4, -⟩
  · rw [if_pos q2]
    refine ⟨_, _, h, rfl, fun _ _ => rfl, ?_⟩
    unfold sY
    rw [q1]
    split <;> exact rT_mono (by omega) t
  · rw [if_neg q4]
    by_cases c : m.testBit r = true ∧ ¬ a.testBit r = true
    · rw [if_pos ((bm_c hm (by omega) (by omega)).mpr c), gJ_min]
      have hh : (hOf S r).toInt = k := by rw [hk, nI_toInt (by omega)]
      have hs : (h A (6 * a + r) + hOf S r).toInt = z + (hOf S r).toInt := by rw [ti_add] <;> omega
      have key := rT_x (B' := B + 48) (by omega) (by omega) t (show 6 * (a ||| 2 ^ r) + r < 384 by omega) (w := h A (6 * a + r) + hOf S r) (by omega)
      have e : sY S m E a r = xR E (6 * (a ||| 2 ^ r) + r) (h A (6 * a + r) + hOf S r).toInt := by
        unfold sY
        rw [if_pos c, q1, hs]
      rw [e]
      by_cases l : h A (6 * a + r) + hOf S r < h A (6 * (a ||| 2 ^ r) + r)
      · rw [if_pos l, r1_ok]
        rw [if_pos l] at key
        refine ⟨_, _, _, rfl, fun c hc => up_n hc, ?_⟩
        rw [up_f]
        exact key
      · rw [if_neg l, r1_ok]
        rw [if_neg l] at key
        refine ⟨_, _, _, rfl, fun c hc => up_n hc, ?_⟩
        rw [up_f]
        exact key
    · rw [if_neg (fun w => c ((bm_c hm (by omega) (by omega)).mp w))]
      refine ⟨_, _, h, rfl, fun _ _ => rfl, ?_⟩
      unfold sY
      rw [if_neg c]
      exact rT_mono (by omega) t
/-- the reference's stays, a room -/
theorem stayM_step (d n : Nat) (hv : VH S) {m a r : Nat} {M : am_H} (fr : ∀ c, ¬ (119 ≤ c ∧ c ≤ 122) → M c = S c) (hm : m < 64) (ha : a < 64) (hr : r < nR S) {B : Int} {E : E_T} (hB : 0 ≤ B ∧ B ≤ 900000) (t : rT 1000000 B E (M 121)) (u4 u5 u6 : Option am_V) :
    ∃ (w4 w5 w6 : Option am_V) (M' : am_H), rM_layStays (d + 1) (n + 1) 9 [some (vr 7 82), some (vi (nI m)), some (vi (nI a)), some (vi (nI r)), u4, u5, u6] M = rM_layStays (d + 1) n 9 [some (vr 7 82), some (vi (nI m)), some (vi (nI a)), some (vi (nI (r + 1))), w4, w5, w6] M' ∧ (∀ c, c ≠ 121 → M' c = M c) ∧ rT 1000000 (B + 48) (sY S m E a r) (M' 121) := by
  have hR := hv.1
  have e1 : ((1000000 : Int32)).toInt = 1000000 := rfl
  have hS : sH S M := fun c q1 q2 => fr c (by omega)
  have hvM : VH M := VH_congr hS hv
  have hrM : r < nR M := by rw [hS.eR]; exact hr
  have hOM : hOf M r = hOf S r := by unfold hOf; rw [fr 86 (by omega), fr 85 (by omega)]
  obtain ⟨k, hk1, hk2, hk⟩ := hOf_nI hv hr
  have i1 : (6 : Int32) * nI a + nI r = nI (6 * a + r) := by rw [show (6 : Int32) = nI 6 from rfl, pk_mul, nI_add]
  obtain ⟨o1, o2⟩ := bm_or a (by omega) r (by omega)
  have i2 : (6 : Int32) * (nI a ||| ((1 : Int32) <<< (nI r &&& 31))) + nI r = nI (6 * (a ||| 2 ^ r) + r) := by rw [o1, show (6 : Int32) = nI 6 from rfl, pk_mul, nI_add]
  have b1 : ∀ f, am_b 384 (nI (6 * a + r)) f = f (6 * a + r) := fun f => b_ok (by omega) (by omega) f
  have b2 : ∀ f, am_b 384 (nI (6 * (a ||| 2 ^ r) + r)) f = f (6 * (a ||| 2 ^ r) + r) := fun f => b_ok (by omega) (by omega) f
  have hm' : hb (nI m) r ↔ m.testBit r = true := bm_has m hm r (by omega)
  have ha' : hb (nI a) r ↔ a.testBit r = true := bm_has a ha r (by omega)
  rw [tM_layStays_9, fr 84 (by omega), hR.1, if_pos (nI_lt hr (by omega)), nI_1, i1, i2, has_ok, r1_ok]
  by_cases c1 : m.testBit r = true
  · rw [if_neg (fun z => yn_0.mp z (hm'.mpr c1)), has_ok, r1_ok]
    by_cases c2 : a.testBit r = true
    · rw [if_neg (fun z => yn_0.mp z (ha'.mpr c2)), b1, gM_hourOf_ok d hvM hrM, r1_ok]
      refine ⟨_, _, _, M, rfl, fun _ _ => rfl, ?_⟩
      unfold sY
      rw [if_neg (fun z => z.2 c2)]
      exact rT_mono (by omega) t
    · rw [if_pos (yn_0.mpr (fun z => c2 (ha'.mp z)))]
      simp only [b1]
      rw [gM_hourOf_ok d hvM hrM, r1_ok, hOM, b2]
      rcases rT_k (by omega) t (show 6 * a + r < 384 by omega) with ⟨q1, q2, q3⟩ | ⟨z, q1, q2, q3, -, q4⟩
      · rw [if_neg q3, r1_ok]
        refine ⟨_, _, _, M, rfl, fun _ _ => rfl, ?_⟩
        unfold sY
        rw [q1]
        split <;> exact rT_mono (by omega) t
      · rw [if_pos q4]
        have hh : (hOf S r).toInt = k := by rw [hk, nI_toInt (by omega)]
        have hs : (M 121 (6 * a + r) + hOf S r).toInt = z + (hOf S r).toInt := by rw [ti_add] <;> omega
        have key := rT_x (B' := B + 48) (by omega) (by omega) t (show 6 * (a ||| 2 ^ r) + r < 384 by omega) (w := M 121 (6 * a + r) + hOf S r) (by omega)
        have e : sY S m E a r = xR E (6 * (a ||| 2 ^ r) + r) (M 121 (6 * a + r) + hOf S r).toInt := by
          unfold sY
          rw [if_pos ⟨c1, c2⟩, q1, hs]
        rw [e]
        by_cases l : M 121 (6 * a + r) + hOf S r < M 121 (6 * (a ||| 2 ^ r) + r)
        · rw [if_pos l, b2]
          rw [if_pos l] at key
          refine ⟨_, _, _, _, rfl, fun c hc => up_n hc, ?_⟩
          rw [up_f]
          exact key
        · rw [if_neg l]
          rw [if_neg l] at key
          refine ⟨_, _, _, M, rfl, fun _ _ => rfl, ?_⟩
          have : upd (M 121) (6 * (a ||| 2 ^ r) + r) (M 121 (6 * (a ||| 2 ^ r) + r)) = M 121 := by
            have := up_id M 121 (6 * (a ||| 2 ^ r) + r)
            rw [← up_f, this]
          rw [this] at key
          exact key
  · rw [if_pos (yn_0.mpr (fun z => c1 (hm'.mp z))), b1, gM_hourOf_ok d hvM hrM, r1_ok]
    refine ⟨_, _, _, M, rfl, fun _ _ => rfl, ?_⟩
    unfold sY
    rw [if_neg (fun z => c1 z.1)]
    exact rT_mono (by omega) t
end TOUR
