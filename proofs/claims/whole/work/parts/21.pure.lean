/-! THE PURE COURSE: persons, things and visits by the acts; the house is read off the reference's cells -/
def nR (S : am_H) : Nat := (S 84 0).toNatClampNeg
def nD (S : am_H) : Nat := (S 88 0).toNatClampNeg
def nP (S : am_H) : Nat := (S 92 0).toNatClampNeg
def nT (S : am_H) : Nat := (S 95 0).toNatClampNeg
/-- the house is as a text may tell it -/
def VH (S : am_H) : Prop :=
  (S 84 0 = nI (nR S) ∧ 1 ≤ nR S ∧ nR S ≤ 6) ∧ (S 88 0 = nI (nD S) ∧ nD S ≤ 8) ∧ (S 92 0 = nI (nP S) ∧ 1 ≤ nP S ∧ nP S ≤ 4) ∧ (S 95 0 = nI (nT S) ∧ nT S ≤ 5) ∧
  (∃ w, w ≤ 3 ∧ S 99 0 = nI w) ∧
  (∀ r, r < nR S → ∃ p q o, (1 ≤ p ∧ p ≤ 4) ∧ (1 ≤ q ∧ q ≤ 4) ∧ o ≤ 23 ∧ S 85 r = nI p ∧ S 86 r = nI q ∧ S 87 r = nI o) ∧
  (∀ d, d < nD S → ∃ a b, a < nR S ∧ b < nR S ∧ a ≠ b ∧ S 89 d = nI a ∧ S 90 d = nI b ∧ -24 ≤ (S 91 d).toInt ∧ (S 91 d).toInt ≤ 24) ∧
  (∀ i, i < nP S → ∃ r a, r < nR S ∧ a ≤ 99 ∧ S 93 i = nI r ∧ S 94 i = nI a) ∧
  (∀ t, t < nT S → ∃ r k n, r < nR S ∧ k ≤ 3 ∧ (1 ≤ n ∧ n ≤ 99) ∧ S 96 t = nI r ∧ S 97 t = nI k ∧ S 98 t = nI n)
theorem VH_congr {S S' : am_H} (h : ∀ c, 84 ≤ c → c ≤ 99 → S' c = S c) (hv : VH S) : VH S' := by
  have e84 := h 84 (by omega) (by omega)
  have e85 := h 85 (by omega) (by omega)
  have e86 := h 86 (by omega) (by omega)
  have e87 := h 87 (by omega) (by omega)
  have e88 := h 88 (by omega) (by omega)
  have e89 := h 89 (by omega) (by omega)
  have e90 := h 90 (by omega) (by omega)
  have e91 := h 91 (by omega) (by omega)
  have e92 := h 92 (by omega) (by omega)
  have e93 := h 93 (by omega) (by omega)
  have e94 := h 94 (by omega) (by omega)
  have e95 := h 95 (by omega) (by omega)
  have e96 := h 96 (by omega) (by omega)
  have e97 := h 97 (by omega) (by omega)
  have e98 := h 98 (by omega) (by omega)
  have e99 := h 99 (by omega) (by omega)
  unfold VH nR nD nP nT at *
  rw [e84, e85, e86, e87, e88, e89, e90, e91, e92, e93, e94, e95, e96, e97, e98, e99]
  exact hv
abbrev K_V : Type := Nat × Int32 × Int32 × Int32
abbrev K_T : Type := am_H × List K_V
/-- ticks of an hour of a room -/
def hOf (S : am_H) (r : Nat) : Int32 := (12 * S 86 r) / S 85 r
def oBy (S : am_H) (r : Nat) (x : Int32) : Int32 := (x * S 85 r) * (12 / S 86 r)
def rmOf (K : K_T) (i : Nat) : Nat := (K.1 0 i).toNatClampNeg
/-- the latest visit of a person ends at t -/
def vSet (i : Nat) (t : Int32) : List K_V → List K_V
  | [] => []
  | (w, r, a, b) :: l => if w = i then (w, r, a, t) :: l else (w, r, a, b) :: vSet i t l
/-- how many visits of a person -/
def cV (i : Nat) : List K_V → Nat
  | [] => 0
  | (w, _) :: l => (if w = i then 1 else 0) + cV i l
def kBy (S : am_H) (i : Nat) (x : Int32) (K : K_T) : K_T :=
  (fun f j => if f = 1 ∧ j = i then K.1 1 i + x * hOf S (rmOf K i) else if f = 2 ∧ j = i then K.1 2 i + x else if f = 6 ∧ K.1 4 j = nI i then K.1 6 j + 144 * x else K.1 f j, vSet i (K.1 1 i + x * hOf S (rmOf K i)) K.2)
def kIn (i : Nat) (r : Int32) (K : K_T) : K_T := (am_up K.1 0 i r, (i, r, K.1 1 i, K.1 1 i) :: K.2)
abbrev bes (S : am_H) (d : Nat) (r : Int32) : Prop := S 89 d = r ∨ S 90 d = r
def led (S : am_H) (d : Nat) (r : Int32) : Int32 := if S 89 d = r then S 91 d else -(S 91 d)
def byd (S : am_H) (d : Nat) (r : Int32) : Int32 := if S 89 d = r then S 90 d else S 89 d
/-- behind the hours of going: through the door -/
def kDo (S : am_H) (i d : Nat) (K : K_T) : K_T := kIn i (byd S d (K.1 0 i)) (am_up K.1 1 i (K.1 1 i + 12 * led S d (K.1 0 i)), K.2)
def kGo (S : am_H) (i d : Nat) (K : K_T) : K_T := if bes S d (K.1 0 i) then kDo S i d (kBy S i (S 99 0) K) else K
def kTk (S : am_H) (i t : Nat) (K : K_T) : K_T := if K.1 3 t = K.1 0 i ∧ ¬ K.1 1 i < K.1 5 t then (am_up (am_up (am_up K.1 6 t (K.1 6 t + oBy S (rmOf K i) (K.1 1 i - K.1 5 t))) 3 t (-4)) 4 t (nI i), K.2) else K
def kPt (i t : Nat) (K : K_T) : K_T := if K.1 4 t = nI i then (am_up (am_up (am_up K.1 4 t (-4)) 3 t (K.1 0 i)) 5 t (K.1 1 i), K.2) else K
/-- an act: kind, who, what -/
abbrev K_A : Type := Nat × Nat × Nat
def kAct (S : am_H) (a : K_A) (K : K_T) : K_T := match a with
  | (0, i, w) => kBy S i (nI w) K
  | (1, i, w) => kGo S i w K
  | (2, i, w) => kTk S i w K
  | (_, i, w) => kPt i w K
def vIni (S : am_H) : Nat → List K_V
  | 0 => []
  | n + 1 => (n, S 93 n, 0, 0) :: vIni S n
def kIni (S : am_H) : K_T := (fun f j => match f with
  | 0 => S 93 j
  | 1 => 0
  | 2 => S 94 j
  | 3 => S 96 j
  | 4 => -4
  | _ => 0, vIni S (nP S))
def kAll (S : am_H) (as : List K_A) : K_T := as.foldl (fun K a => kAct S a K) (kIni S)
/-- an act that may be -/
def okA (S : am_H) (a : K_A) : Prop := a.2.1 < nP S ∧ ((a.1 = 0 ∧ 1 ≤ a.2.2 ∧ a.2.2 ≤ 24) ∨ (a.1 = 1 ∧ a.2.2 < nD S) ∨ (a.1 = 2 ∧ a.2.2 < nT S) ∨ (a.1 = 3 ∧ a.2.2 < nT S))
/-- what holds of a course: ticks between -B and B, ages to A, n goings at most -/
def VKg (S : am_H) (B A : Int) (n : Nat) (K : K_T) : Prop :=
  (∀ i, i < nP S → (∃ r, r < nR S ∧ K.1 0 i = nI r) ∧ (-B ≤ (K.1 1 i).toInt ∧ (K.1 1 i).toInt ≤ B) ∧ (0 ≤ (K.1 2 i).toInt ∧ (K.1 2 i).toInt ≤ A) ∧ 1 ≤ cV i K.2 ∧ cV i K.2 ≤ 1 + n) ∧
  (∀ t, t < nT S → ((∃ r, r < nR S ∧ K.1 3 t = nI r) ∧ K.1 4 t = -4 ∨ K.1 3 t = -4 ∧ ∃ i, i < nP S ∧ K.1 4 t = nI i) ∧ (-B ≤ (K.1 5 t).toInt ∧ (K.1 5 t).toInt ≤ B)) ∧
  K.2.length ≤ nP S + n ∧ ∀ v ∈ K.2, v.1 < nP S ∧ (∃ r, r < nR S ∧ v.2.1 = nI r) ∧ (-B ≤ v.2.2.1.toInt ∧ v.2.2.1.toInt ≤ B) ∧ (-B ≤ v.2.2.2.toInt ∧ v.2.2.2.toInt ≤ B)
def VK (S : am_H) (n : Nat) (K : K_T) : Prop := VKg S (1152 * n) (99 + 24 * n) n K
/-! numbers -/
theorem ti_add {x y : Int32} (h1 : -2147483648 ≤ x.toInt + y.toInt) (h2 : x.toInt + y.toInt < 2147483648) : (x + y).toInt = x.toInt + y.toInt := by
  rw [Int32.toInt_add]
  unfold Int.bmod
  dsimp only
  split <;> omega
theorem ti_sub {x y : Int32} (h1 : -2147483648 ≤ x.toInt - y.toInt) (h2 : x.toInt - y.toInt < 2147483648) : (x - y).toInt = x.toInt - y.toInt := by
  rw [Int32.toInt_sub]
  unfold Int.bmod
  dsimp only
  split <;> omega
theorem ti_mul {x y : Int32} (h1 : -2147483648 ≤ x.toInt * y.toInt) (h2 : x.toInt * y.toInt < 2147483648) : (x * y).toInt = x.toInt * y.toInt := by
  rw [Int32.toInt_mul]
  generalize x.toInt * y.toInt = z at *
  unfold Int.bmod
  dsimp only
  split <;> omega
theorem ti_neg {x : Int32} (h1 : -2147483648 < x.toInt) : (-x).toInt = -x.toInt := by
  have e : -x = 0 - x := by simp
  have := Int32.toInt_lt x
  rw [e, ti_sub (by simp; omega) (by simp; omega)]
  simp
theorem ti_12 : (12 : Int32).toInt = 12 := rfl
/-- the hour of a room: 3 to 48 ticks -/
theorem hOf_nI {S : am_H} (hv : VH S) {r : Nat} (hr : r < nR S) : ∃ k, 3 ≤ k ∧ k ≤ 48 ∧ hOf S r = nI k := by
  obtain ⟨p, q, o, hp, hq, -, h1, h2, -⟩ := hv.2.2.2.2.2.1 r hr
  refine ⟨12 * q / p, ?_, ?_, ?_⟩
  · have : p = 1 ∨ p = 2 ∨ p = 3 ∨ p = 4 := by omega
    rcases this with rfl | rfl | rfl | rfl <;> omega
  · have : p = 1 ∨ p = 2 ∨ p = 3 ∨ p = 4 := by omega
    rcases this with rfl | rfl | rfl | rfl <;> omega
  · unfold hOf
    rw [h1, h2, show (12 : Int32) = nI 12 from rfl, pk_mul, pk_div (by omega) (by omega) (by omega)]
theorem VKg_mono {S : am_H} {B A B' A' : Int} {n n' : Nat} {K : K_T} (h : VKg S B A n K) (hB : B ≤ B') (hA : A ≤ A') (hn : n ≤ n') : VKg S B' A' n' K := by
  obtain ⟨h1, h2, h3, h4⟩ := h
  refine ⟨fun i hi => ?_, fun t ht => ?_, by omega, fun v hv => ?_⟩
  · obtain ⟨a, b, c, d, e⟩ := h1 i hi
    exact ⟨a, by omega, by omega, d, by omega⟩
  · obtain ⟨a, b⟩ := h2 t ht
    exact ⟨a, by omega⟩
  · obtain ⟨a, b, c, d⟩ := h4 v hv
    exact ⟨a, b, by omega, by omega⟩
theorem vSet_c (i j : Nat) (t : Int32) : ∀ l, cV i (vSet j t l) = cV i l := by
  intro l
  induction l with
  | nil => rfl
  | cons v l ih =>
    obtain ⟨w, r, a, b⟩ := v
    unfold vSet
    split
    · rfl
    · simp [cV, ih]
theorem vSet_l (j : Nat) (t : Int32) : ∀ l, (vSet j t l).length = l.length := by
  intro l
  induction l with
  | nil => rfl
  | cons v l ih =>
    obtain ⟨w, r, a, b⟩ := v
    unfold vSet
    split
    · rfl
    · simp [ih]
theorem vSet_m (j : Nat) (t : Int32) : ∀ (l : List K_V) (v : K_V), v ∈ vSet j t l → ∃ v' ∈ l, v.1 = v'.1 ∧ v.2.1 = v'.2.1 ∧ v.2.2.1 = v'.2.2.1 ∧ (v.2.2.2 = v'.2.2.2 ∨ v.2.2.2 = t) := by
  intro l
  induction l with
  | nil => intro v hv; cases hv
  | cons x l ih =>
    intro v hv
    obtain ⟨w, r, a, b⟩ := x
    unfold vSet at hv
    split at hv
    · rcases List.mem_cons.mp hv with rfl | hv
      · exact ⟨_, List.mem_cons_self, rfl, rfl, rfl, Or.inr rfl⟩
      · exact ⟨v, List.mem_cons_of_mem _ hv, rfl, rfl, rfl, Or.inl rfl⟩
    · rcases List.mem_cons.mp hv with rfl | hv
      · exact ⟨_, List.mem_cons_self, rfl, rfl, rfl, Or.inl rfl⟩
      · obtain ⟨v', h1, h2⟩ := ih v hv
        exact ⟨v', List.mem_cons_of_mem _ h1, h2⟩
theorem nI_rm {r : Nat} (h : r < 100) : (nI r).toNatClampNeg = r := nI_clamp (by omega)
theorem VKg_by {S : am_H} {B A : Int} {n : Nat} {K : K_T} (hv : VH S) (h : VKg S B A n K) {i w : Nat} (hi : i < nP S) (hw : w ≤ 24) (hB0 : 0 ≤ B) (hB : B ≤ 100000) (hA : A ≤ 100000) : VKg S (B + 48 * w) (A + w) n (kBy S i (nI w) K) := by
  obtain ⟨h1, h2, h3, h4⟩ := h
  obtain ⟨⟨r, hr, hri⟩, ht, ha, hc⟩ := h1 i hi
  have hR := hv.1.2.2
  have hrm : rmOf K i = r := by unfold rmOf; rw [hri, nI_rm (by omega)]
  obtain ⟨k, hk1, hk2, hk⟩ := hOf_nI hv (r := r) hr
  have hwk : w * k ≤ 48 * w := by rw [Nat.mul_comm 48]; exact Nat.mul_le_mul_left _ hk2
  have htk : (K.1 1 i + nI w * hOf S (rmOf K i)).toInt = (K.1 1 i).toInt + ((w * k : Nat) : Int) := by
    rw [hrm, hk, pk_mul, ti_add, nI_toInt (by omega)] <;> rw [nI_toInt (by omega)] <;> omega
  have hag : (K.1 2 i + nI w).toInt = (K.1 2 i).toInt + w := by
    rw [ti_add, nI_toInt (by omega)] <;> rw [nI_toInt (by omega)] <;> omega
  have e0 : ∀ j, (kBy S i (nI w) K).1 0 j = K.1 0 j := fun j => by simp [kBy]
  have e1 : ∀ j, (kBy S i (nI w) K).1 1 j = if j = i then K.1 1 i + nI w * hOf S (rmOf K i) else K.1 1 j := fun j => by simp [kBy]
  have e2 : ∀ j, (kBy S i (nI w) K).1 2 j = if j = i then K.1 2 i + nI w else K.1 2 j := fun j => by simp [kBy]
  have e3 : ∀ j, (kBy S i (nI w) K).1 3 j = K.1 3 j := fun j => by simp [kBy]
  have e4 : ∀ j, (kBy S i (nI w) K).1 4 j = K.1 4 j := fun j => by simp [kBy]
  have e5 : ∀ j, (kBy S i (nI w) K).1 5 j = K.1 5 j := fun j => by simp [kBy]
  have ev : (kBy S i (nI w) K).2 = vSet i (K.1 1 i + nI w * hOf S (rmOf K i)) K.2 := rfl
  refine ⟨fun j hj => ?_, fun t ht' => ?_, by rw [ev, vSet_l]; exact h3, fun v hv' => ?_⟩
  · obtain ⟨b1, b2, b3, b4⟩ := h1 j hj
    rw [e0, e1, e2, ev, vSet_c]
    refine ⟨b1, ?_, ?_, b4⟩
    · split
      · rw [htk]; omega
      · omega
    · split
      · rw [hag]; omega
      · omega
  · obtain ⟨b1, b2⟩ := h2 t ht'
    rw [e3, e4, e5]
    exact ⟨b1, by omega⟩
  · rw [ev] at hv'
    obtain ⟨v', hm, q1, q2, q3, q4⟩ := vSet_m _ _ _ _ hv'
    obtain ⟨b1, b2, b3, b4⟩ := h4 v' hm
    rw [q1, q2, q3]
    refine ⟨b1, b2, by omega, ?_⟩
    rcases q4 with q | q
    · rw [q]; omega
    · rw [q, htk]; omega
theorem led_b {S : am_H} (hv : VH S) {d : Nat} (hd : d < nD S) (r : Int32) : -24 ≤ (led S d r).toInt ∧ (led S d r).toInt ≤ 24 := by
  obtain ⟨a, b, -, -, -, -, -, h1, h2⟩ := hv.2.2.2.2.2.2.1 d hd
  unfold led
  split
  · exact ⟨h1, h2⟩
  · rw [ti_neg (by omega)]; omega
theorem byd_b {S : am_H} (hv : VH S) {d : Nat} (hd : d < nD S) (r : Int32) : ∃ b, b < nR S ∧ byd S d r = nI b := by
  obtain ⟨a, b, h1, h2, -, h3, h4, -, -⟩ := hv.2.2.2.2.2.2.1 d hd
  unfold byd
  split
  · exact ⟨b, h2, h4⟩
  · exact ⟨a, h1, h3⟩
theorem VKg_do {S : am_H} {B A : Int} {n : Nat} {K : K_T} (hv : VH S) (h : VKg S B A n K) {i d : Nat} (hi : i < nP S) (hd : d < nD S) (hB0 : 0 ≤ B) (hB : B ≤ 100000) : VKg S (B + 288) A (n + 1) (kDo S i d K) := by
  obtain ⟨h1, h2, h3, h4⟩ := h
  obtain ⟨-, ht, ha, hc⟩ := h1 i hi
  obtain ⟨b, hb, hbn⟩ := byd_b hv hd (K.1 0 i)
  have hl := led_b hv hd (K.1 0 i)
  have h12 : (12 * led S d (K.1 0 i)).toInt = 12 * (led S d (K.1 0 i)).toInt := by
    rw [ti_mul] <;> rw [ti_12] <;> omega
  have htk : (K.1 1 i + 12 * led S d (K.1 0 i)).toInt = (K.1 1 i).toInt + 12 * (led S d (K.1 0 i)).toInt := by
    rw [ti_add] <;> rw [h12] <;> omega
  have e0 : ∀ j, (kDo S i d K).1 0 j = if j = i then nI b else K.1 0 j := fun j => by simp [kDo, kIn, up_a, hbn]
  have e1 : ∀ j, (kDo S i d K).1 1 j = if j = i then K.1 1 i + 12 * led S d (K.1 0 i) else K.1 1 j := fun j => by simp [kDo, kIn, up_a]
  have e2 : ∀ f j, 2 ≤ f → (kDo S i d K).1 f j = K.1 f j := fun f j hf => by
    have q0 : ¬ f = 0 := by omega
    have q1 : ¬ f = 1 := by omega
    simp [kDo, kIn, up_a, q0, q1]
  have ev : (kDo S i d K).2 = (i, nI b, K.1 1 i + 12 * led S d (K.1 0 i), K.1 1 i + 12 * led S d (K.1 0 i)) :: K.2 := by simp [kDo, kIn, up_a, hbn]
  refine ⟨fun j hj => ?_, fun t ht' => ?_, by rw [ev]; simp; omega, fun v hv' => ?_⟩
  · obtain ⟨b1, b2, b3, b4⟩ := h1 j hj
    rw [e0, e1, e2 2 j (by omega), ev]
    refine ⟨?_, ?_, b3, ?_⟩
    · split
      · exact ⟨b, hb, rfl⟩
      · exact b1
    · split
      · rw [htk]; omega
      · omega
    · simp only [cV]
      split <;> omega
  · obtain ⟨b1, b2⟩ := h2 t ht'
    rw [e2 3 t (by omega), e2 4 t (by omega), e2 5 t (by omega)]
    exact ⟨b1, by omega⟩
  · rw [ev] at hv'
    rcases List.mem_cons.mp hv' with rfl | hv'
    · refine ⟨hi, ⟨b, hb, rfl⟩, ?_, ?_⟩ <;> rw [htk] <;> omega
    · obtain ⟨b1, b2, b3, b4⟩ := h4 v hv'
      exact ⟨b1, b2, by omega, by omega⟩
theorem m4_ne {r : Nat} (h : r < 100) : ¬ (nI r = (-4 : Int32)) := by
  intro q
  have := congrArg Int32.toInt q
  rw [nI_toInt (by omega)] at this
  have e : ((-4 : Int32)).toInt = -4 := rfl
  omega
theorem VKg_tk {S : am_H} {B A : Int} {n : Nat} {K : K_T} (h : VKg S B A n K) {i t : Nat} (hi : i < nP S) (hw : t < nT S) : VKg S B A n (kTk S i t K) := by
  unfold kTk
  split
  · obtain ⟨h1, h2, h3, h4⟩ := h
    refine ⟨fun j hj => ?_, fun t' ht' => ?_, h3, h4⟩
    · have := h1 j hj
      simpa [up_a] using this
    · obtain ⟨b1, b2⟩ := h2 t' ht'
      by_cases e : t' = t
      · subst e
        refine ⟨Or.inr ⟨by simp [up_a], i, hi, by simp [up_a]⟩, by simpa [up_a] using b2⟩
      · simp only [up_a, e]
        simpa using ⟨b1, b2⟩
  · exact h
theorem VKg_pt {S : am_H} {B A : Int} {n : Nat} {K : K_T} (h : VKg S B A n K) {i t : Nat} (hi : i < nP S) (hw : t < nT S) : VKg S B A n (kPt i t K) := by
  unfold kPt
  split
  · obtain ⟨h1, h2, h3, h4⟩ := h
    obtain ⟨c1, c2, -⟩ := h1 i hi
    refine ⟨fun j hj => ?_, fun t' ht' => ?_, h3, h4⟩
    · have := h1 j hj
      simpa [up_a] using this
    · obtain ⟨b1, b2⟩ := h2 t' ht'
      by_cases e : t' = t
      · subst e
        refine ⟨Or.inl ⟨by simpa [up_a] using c1, by simp [up_a]⟩, by simpa [up_a] using c2⟩
      · simp only [up_a, e]
        simpa using ⟨b1, b2⟩
  · exact h
theorem VK_act {S : am_H} {n : Nat} {K : K_T} (hv : VH S) (h : VK S n K) {a : K_A} (ha : okA S a) (hn : n < 40) : VK S (n + 1) (kAct S a K) := by
  obtain ⟨k, i, w⟩ := a
  obtain ⟨hi, hk⟩ := ha
  have hi : i < nP S := hi
  unfold VK at *
  rcases hk with ⟨e, h1, h2⟩ | ⟨e, h1⟩ | ⟨e, h1⟩ | ⟨e, h1⟩
  · have e : k = 0 := e
    subst e
    have h2 : w ≤ 24 := h2
    exact VKg_mono (VKg_by hv h hi h2 (by omega) (by omega) (by omega)) (by push_cast; omega) (by push_cast; omega) (by omega)
  · have e : k = 1 := e
    subst e
    have h1 : w < nD S := h1
    obtain ⟨x, hx, hx2⟩ := hv.2.2.2.2.1
    show VKg S _ _ _ (kGo S i w K)
    unfold kGo
    split
    · rw [hx2]
      exact VKg_mono (VKg_do hv (VKg_by hv h hi (w := x) (by omega) (by omega) (by omega) (by omega)) hi h1 (by omega) (by omega)) (by push_cast; omega) (by push_cast; omega) (by omega)
    · exact VKg_mono h (by push_cast; omega) (by push_cast; omega) (by omega)
  · have e : k = 2 := e
    subst e
    exact VKg_mono (VKg_tk h hi h1) (by push_cast; omega) (by push_cast; omega) (by omega)
  · have e : k = 3 := e
    subst e
    exact VKg_mono (VKg_pt h hi h1) (by push_cast; omega) (by push_cast; omega) (by omega)
theorem vIni_c (S : am_H) (i : Nat) : ∀ n, cV i (vIni S n) = if i < n then 1 else 0 := by
  intro n
  induction n with
  | zero => rfl
  | succ n ih =>
    simp only [vIni, cV, ih]
    by_cases h1 : n = i
    · subst h1; simp
    · by_cases h2 : i < n
      · simp [h1, h2]; omega
      · have : ¬ i < n + 1 := by omega
        simp [h1, h2, this]
theorem vIni_l (S : am_H) : ∀ n, (vIni S n).length = n := by
  intro n
  induction n with
  | zero => rfl
  | succ n ih => simp [vIni, ih]
theorem vIni_m (S : am_H) : ∀ n, ∀ v ∈ vIni S n, v.1 < n ∧ v.2 = (S 93 v.1, 0, 0) := by
  intro n
  induction n with
  | zero => intro v hv; cases hv
  | succ n ih =>
    intro v hv
    rcases List.mem_cons.mp hv with rfl | hv
    · exact ⟨by simp, rfl⟩
    · have := ih v hv
      exact ⟨by omega, this.2⟩
theorem VK_ini {S : am_H} (hv : VH S) : VK S 0 (kIni S) := by
  have z : ((0 : Int32)).toInt = 0 := rfl
  refine ⟨fun i hi => ?_, fun t ht => ?_, by show (vIni S (nP S)).length ≤ _; rw [vIni_l]; omega, fun v hv' => ?_⟩
  · obtain ⟨r, a, h1, h2, h3, h4⟩ := hv.2.2.2.2.2.2.2.1 i hi
    have hc : cV i (vIni S (nP S)) = 1 := by rw [vIni_c, if_pos hi]
    refine ⟨⟨r, h1, h3⟩, by show _ ∧ ((0 : Int32)).toInt ≤ _; simp [kIni], ?_, ?_⟩
    · show 0 ≤ (S 94 i).toInt ∧ (S 94 i).toInt ≤ _
      rw [h4, nI_toInt (by omega)]; omega
    · show 1 ≤ cV i (vIni S (nP S)) ∧ cV i (vIni S (nP S)) ≤ _
      rw [hc]; omega
  · obtain ⟨r, k, n, h1, h2, h3, h4, -⟩ := hv.2.2.2.2.2.2.2.2 t ht
    exact ⟨Or.inl ⟨⟨r, h1, h4⟩, rfl⟩, by simp [kIni]⟩
  · obtain ⟨h1, h2⟩ := vIni_m S _ v hv'
    obtain ⟨r, a, h3, -, h4, -⟩ := hv.2.2.2.2.2.2.2.1 v.1 h1
    rw [h2]
    exact ⟨h1, ⟨r, h3, h4⟩, by simp, by simp⟩
theorem VK_all {S : am_H} (hv : VH S) : ∀ (as : List K_A), (∀ a ∈ as, okA S a) → as.length ≤ 40 → VK S as.length (kAll S as) := by
  have key : ∀ (as : List K_A) (n : Nat) (K : K_T), VK S n K → (∀ a ∈ as, okA S a) → n + as.length ≤ 40 → VK S (n + as.length) (as.foldl (fun K a => kAct S a K) K) := by
    intro as
    induction as with
    | nil => intro n K h _ _; exact h
    | cons a as ih =>
      intro n K h ha hl
      have hl : n + (as.length + 1) ≤ 40 := hl
      have := ih (n + 1) (kAct S a K) (VK_act hv h (ha a List.mem_cons_self) (by omega)) (fun b hb => ha b (List.mem_cons_of_mem _ hb)) (by omega)
      rw [show n + (a :: as).length = n + 1 + as.length by simp; omega]
      exact this
  intro as ha hl
  have := key as 0 (kIni S) (VK_ini hv) ha (by omega)
  rw [Nat.zero_add] at this
  exact this
