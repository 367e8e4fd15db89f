/-! THE CLASS READS -/
def tOK (tx : List Nat) (f : Nat → Int32) : Prop := (∀ (j x : Nat), tx[j]? = some x → f j = nI x) ∧ tx.length ≤ 200 ∧ ∀ x ∈ tx, x < 128
section RC1
variable {tx : List Nat} {h : am_H}
theorem tOK.at {f : Nat → Int32} (T : tOK tx f) {k : Nat} (hk : k < tx.length) : f k = nI (tL tx k) ∧ tL tx k < 128 := by
  have := tL_get hk
  exact ⟨T.1 k _ this, T.2.2 _ (List.mem_of_getElem? this)⟩
theorem fig_step (d n : Nat) (T : tOK tx (h 1)) (x2 : Int32) {c k : Nat} (hc : c < 2) (hk : k ≤ tx.length + 2) : rH_figuresAt d (n + 1) 5 [some (vr 9 1), some (vi (nI tx.length)), some (vi x2), some (vi (nI c)), some (vi (nI k))] h = if dg tx k then rH_figuresAt d n 5 [some (vr 9 1), some (vi (nI tx.length)), some (vi x2), some (vi (nI (c + 1))), some (vi (nI (k + 1)))] h else some (h, some (nI c)) := by
  have hl := T.2.1
  rw [tH_figuresAt_5]
  by_cases hlt : k < tx.length
  · obtain ⟨a1, a2⟩ := T.at hlt
    rw [if_pos (nI_lt hlt (by omega)), if_pos (show nI c < 2 from nI_lt (b := 2) hc (by omega)), b_ok (by omega) (by omega), b_ok (by omega) (by omega), a1, nI_1, nI_1]
    by_cases q1 : tL tx k < 48
    · rw [if_pos (show nI (tL tx k) < 48 from nI_lt (b := 48) q1 (by omega)), if_neg (fun z => by omega)]
    · rw [if_neg (show ¬ nI (tL tx k) < 48 from nI_nlt (b := 48) (by omega) (by omega))]
      by_cases q2 : 57 < tL tx k
      · rw [if_pos (show (57 : Int32) < nI (tL tx k) from nI_lt (a := 57) q2 (by omega)), if_neg (fun z => by omega)]
      · rw [if_neg (show ¬ (57 : Int32) < nI (tL tx k) from nI_nlt (a := 57) (by omega) (by omega)), if_pos ⟨by omega, by omega⟩]
  · rw [if_neg (nI_nlt (by omega) (by omega)), if_neg (fun z => hlt (tL_lt (by omega)))]
def nf (tx : List Nat) (p : Nat) : Nat := if dg tx p then (if dg tx (p + 1) then 2 else 1) else 0
theorem gH_figuresAt_ok (d : Nat) (T : tOK tx (h 1)) {p : Nat} (hp : p ≤ tx.length) : am_g (d + 1) 21 [vr 9 1, vi (nI tx.length), vi (nI p)] h = some (h, some (nI (nf tx p))) := by
  have hl := T.2.1
  rw [gH_figuresAt, show (999999 : Nat) = 999998 + 1 from rfl, ← nI_0, fig_step d _ T _ (by omega) (by omega)]
  unfold nf
  by_cases q1 : dg tx p
  · rw [if_pos q1, if_pos q1, show (999998 : Nat) = 999997 + 1 from rfl, fig_step d _ T _ (by omega) (by omega)]
    by_cases q2 : dg tx (p + 1)
    · rw [if_pos q2, if_pos q2, show (999997 : Nat) = 999996 + 1 from rfl, tH_figuresAt_5]
      split
      · rw [if_neg (by decide)]
      · rfl
    · rw [if_neg q2, if_neg q2]
  · rw [if_neg q1, if_neg q1]
theorem num_step (d n : Nat) (T : tOK tx (h 1)) {p f v i : Nat} (hi : i < f) (hf : f ≤ 2) (hd : dg tx (p + i)) : rH_numberAt d (n + 1) 5 [some (vr 9 1), some (vi (nI p)), some (vi (nI f)), some (vi (nI v)), some (vi (nI i))] h = rH_numberAt d n 5 [some (vr 9 1), some (vi (nI p)), some (vi (nI f)), some (vi (nI (10 * v + (tL tx (p + i) - 48)))), some (vi (nI (i + 1)))] h := by
  have hl := T.2.1
  have hlt := tL_lt (tx := tx) (k := p + i) (by omega)
  obtain ⟨a1, a2⟩ := T.at hlt
  rw [tH_numberAt_5, if_pos (nI_lt hi (by omega)), nI_add, b_ok (by omega) (by omega), a1, nI_1, show (48 : Int32) = nI 48 from rfl, pk_sub hd.1, show (10 : Int32) = nI 10 from rfl, pk_mul, nI_add]
theorem gH_numberAt_1 (d : Nat) (T : tOK tx (h 1)) {p : Nat} (hd : dg tx p) : am_g (d + 1) 22 [vr 9 1, vi (nI p), vi (nI 1)] h = some (h, some (nI (tL tx p - 48))) := by
  rw [gH_numberAt, show (999999 : Nat) = 999998 + 1 from rfl, ← nI_0, num_step d _ T (p := p) (i := 0) (by omega) (by omega) hd, show (999998 : Nat) = 999997 + 1 from rfl, tH_numberAt_5, if_neg (by decide)]
  simp
theorem gH_numberAt_2 (d : Nat) (T : tOK tx (h 1)) {p : Nat} (hd : dg tx p) (hd2 : dg tx (p + 1)) : am_g (d + 1) 22 [vr 9 1, vi (nI p), vi (nI 2)] h = some (h, some (nI (10 * (tL tx p - 48) + (tL tx (p + 1) - 48)))) := by
  rw [gH_numberAt, show (999999 : Nat) = 999998 + 1 from rfl, ← nI_0, num_step d _ T (p := p) (i := 0) (by omega) (by omega) hd, show (999998 : Nat) = 999997 + 1 from rfl, num_step d _ T (p := p) (i := 0 + 1) (by omega) (by omega) hd2, show (999997 : Nat) = 999996 + 1 from rfl, tH_numberAt_5, if_neg (by decide)]
  simp
theorem numC (d n : Nat) (T : tOK tx (h 1)) {o k N p q : Nat} (ho : 2 ≤ o) (hk : k + 1 + q = N) (hN : N ≤ 4) (hp : p ≤ tx.length) (x3 x4 : Int32) (u8 : Option am_V) :
    (pN tx p (if q = 0 then 59 else 44) = none → ∃ h', rH_readItem (d + 1) (n + 1) 14 [some (vr 2 o), some (vr 9 1), some (vi (nI tx.length)), some (vi x3), some (vi x4), some (vi (nI N)), some (vi (nI p)), some (vi (nI k)), u8] h = some (h', some (-4)) ∧ ∀ c, c ≠ o + 14 → h' c = h c) ∧
    (∀ v p', pN tx p (if q = 0 then 59 else 44) = some (v, p') → ∃ u, rH_readItem (d + 1) (n + 1) 14 [some (vr 2 o), some (vr 9 1), some (vi (nI tx.length)), some (vi x3), some (vi x4), some (vi (nI N)), some (vi (nI p)), some (vi (nI k)), u8] h = rH_readItem (d + 1) n 14 [some (vr 2 o), some (vr 9 1), some (vi (nI tx.length)), some (vi x3), some (vi x4), some (vi (nI N)), some (vi (nI p')), some (vi (nI (k + 1))), u] (am_up h (o + 14) k (nI v))) := by
  have hl := T.2.1
  have hlt : nI k < nI N := nI_lt (by omega) (by omega)
  have key : ∀ f V, 1 ≤ f → f ≤ 2 → nf tx p = f → am_g (d + 1) 22 [vr 9 1, vi (nI p), vi (nI f)] h = some (h, some (nI V)) → ∀ c, c = (if q = 0 then 59 else 44) →
      (¬ tL tx (p + f) = c → ∃ h', rH_readItem (d + 1) (n + 1) 14 [some (vr 2 o), some (vr 9 1), some (vi (nI tx.length)), some (vi x3), some (vi x4), some (vi (nI N)), some (vi (nI p)), some (vi (nI k)), u8] h = some (h', some (-4)) ∧ ∀ c, c ≠ o + 14 → h' c = h c) ∧
      (tL tx (p + f) = c → ∃ u, rH_readItem (d + 1) (n + 1) 14 [some (vr 2 o), some (vr 9 1), some (vi (nI tx.length)), some (vi x3), some (vi x4), some (vi (nI N)), some (vi (nI p)), some (vi (nI k)), u8] h = rH_readItem (d + 1) n 14 [some (vr 2 o), some (vr 9 1), some (vi (nI tx.length)), some (vi x3), some (vi x4), some (vi (nI N)), some (vi (nI (p + f + 1))), some (vi (nI (k + 1))), u] (am_up h (o + 14) k (nI V))) := by
    intro f V f1 f2 hf hV c hc
    have hcc : c = 59 ∨ c = 44 := by rw [hc]; split <;> omega
    rw [tH_readItem_14, if_pos hlt, gH_figuresAt_ok d T hp, r1_ok, hf, if_neg (nI_ne0 (by omega) (by omega)), hV, r1_ok, b_ok (show k < 4 by omega) (by omega), nI_add, nI_1, nI_1]
    by_cases hin : p + f < tx.length
    · obtain ⟨a1, a2⟩ := T.at hin
      rw [if_pos (nI_lt hin (by omega)), b_ok (by omega) (by omega), up_n (by omega), a1]
      by_cases hq : q = 0
      · have c59 : c = 59 := by rw [hc, if_pos hq]
        subst c59
        rw [if_neg (nI_nlt (by omega) (by omega))]
        refine ⟨fun z => ?_, fun z => ?_⟩
        · rw [if_neg (show ¬ nI (tL tx (p + f)) = 59 from nI_ne (b := 59) z (by omega) (by omega))]
          exact ⟨_, rfl, fun c hc => up_n hc⟩
        · rw [if_pos (show nI (tL tx (p + f)) = 59 by rw [z]; rfl)]
          exact ⟨_, rfl⟩
      · have c44 : c = 44 := by rw [hc, if_neg hq]
        subst c44
        rw [if_pos (nI_lt (by omega) (by omega))]
        refine ⟨fun z => ?_, fun z => ?_⟩
        · rw [if_neg (show ¬ nI (tL tx (p + f)) = 44 from nI_ne (b := 44) z (by omega) (by omega))]
          exact ⟨_, rfl, fun c hc => up_n hc⟩
        · rw [if_pos (show nI (tL tx (p + f)) = 44 by rw [z]; rfl)]
          exact ⟨_, rfl⟩
    · rw [if_neg (nI_nlt (by omega) (by omega))]
      refine ⟨fun z => ⟨_, rfl, fun c hc => up_n hc⟩, fun z => absurd (tL_lt (tx := tx) (k := p + f) (by omega)) hin⟩
  by_cases q1 : dg tx p
  · by_cases q2 : dg tx (p + 1)
    · obtain ⟨k1, k2⟩ := key 2 _ (by omega) (by omega) (by unfold nf; rw [if_pos q1, if_pos q2]) (gH_numberAt_2 d T q1 q2) _ rfl
      unfold pN
      rw [if_pos q1, if_pos q2]
      by_cases z : tL tx (p + 2) = (if q = 0 then 59 else 44)
      · rw [if_pos z]
        refine ⟨fun w => (by cases w), fun v p' w => ?_⟩
        cases w
        exact k2 z
      · rw [if_neg z]
        exact ⟨fun _ => k1 z, fun v p' w => by cases w⟩
    · obtain ⟨k1, k2⟩ := key 1 _ (by omega) (by omega) (by unfold nf; rw [if_pos q1, if_neg q2]) (gH_numberAt_1 d T q1) _ rfl
      unfold pN
      rw [if_pos q1, if_neg q2]
      by_cases z : tL tx (p + 1) = (if q = 0 then 59 else 44)
      · rw [if_pos z]
        refine ⟨fun w => (by cases w), fun v p' w => ?_⟩
        cases w
        exact k2 z
      · rw [if_neg z]
        exact ⟨fun _ => k1 z, fun v p' w => by cases w⟩
  · unfold pN
    rw [if_neg q1]
    refine ⟨fun _ => ⟨h, ?_, fun _ _ => rfl⟩, fun v p' w => by cases w⟩
    rw [tH_readItem_14, if_pos hlt, gH_figuresAt_ok d T hp, r1_ok, show nf tx p = 0 by unfold nf; rw [if_neg q1], if_pos (show nI 0 = 0 from rfl)]
theorem numsC (d : Nat) {o N : Nat} (ho : 2 ≤ o) (hN : N ≤ 4) (x3 x4 : Int32) : ∀ (q n k p : Nat) (h : am_H) (u8 : Option am_V), k + q = N → q < n → p ≤ tx.length → tOK tx (h 1) →
    (pNs tx q p = none → ∃ h', rH_readItem (d + 1) n 14 [some (vr 2 o), some (vr 9 1), some (vi (nI tx.length)), some (vi x3), some (vi x4), some (vi (nI N)), some (vi (nI p)), some (vi (nI k)), u8] h = some (h', some (-4)) ∧ ∀ c, c ≠ o + 14 → h' c = h c) ∧
    (∀ l p', pNs tx q p = some (l, p') → ∃ (h' : am_H) (u : Option am_V), rH_readItem (d + 1) n 14 [some (vr 2 o), some (vr 9 1), some (vi (nI tx.length)), some (vi x3), some (vi x4), some (vi (nI N)), some (vi (nI p)), some (vi (nI k)), u8] h = rH_readItem (d + 1) (n - q) 14 [some (vr 2 o), some (vr 9 1), some (vi (nI tx.length)), some (vi x3), some (vi x4), some (vi (nI N)), some (vi (nI p')), some (vi (nI N)), u] h' ∧ (∀ c, c ≠ o + 14 → h' c = h c) ∧ (∀ i, i < k → h' (o + 14) i = h (o + 14) i) ∧ ∀ i x, l[i]? = some x → h' (o + 14) (k + i) = nI x) := by
  intro q
  induction q with
  | zero =>
    intro n k p h u8 hk hn hp T
    have : k = N := by omega
    subst this
    refine ⟨fun z => (by unfold pNs at z; cases z), fun l p' z => ?_⟩
    unfold pNs at z
    cases z
    exact ⟨h, u8, rfl, fun _ _ => rfl, fun _ _ => rfl, fun i x hx => by simp at hx⟩
  | succ q ih =>
    intro n k p h u8 hk hn hp T
    obtain ⟨n, rfl⟩ : ∃ z, n = z + 1 := ⟨n - 1, by omega⟩
    obtain ⟨a1, a2⟩ := numC d n T (o := o) (k := k) (N := N) (p := p) (q := q) ho (by omega) hN hp x3 x4 u8
    cases e : pN tx p (if q = 0 then 59 else 44) with
    | none =>
      rw [pNs_1 e]
      exact ⟨fun _ => a1 e, fun l p' z => by cases z⟩
    | some w =>
      obtain ⟨v, p1⟩ := w
      obtain ⟨u, g⟩ := a2 v p1 e
      have b := pN_b (by split <;> omega) e
      obtain ⟨c1, c2⟩ := ih n (k + 1) p1 (am_up h (o + 14) k (nI v)) u (by omega) (by omega) b.2.2 (by rw [up_n (by omega)]; exact T)
      rw [g]
      cases e2 : pNs tx q p1 with
      | none =>
        rw [pNs_2 e e2]
        refine ⟨fun _ => ?_, fun l p' z => by cases z⟩
        obtain ⟨h', k1, k2⟩ := c1 e2
        exact ⟨h', k1, fun c hc => (k2 c hc).trans (up_n hc)⟩
      | some w2 =>
        obtain ⟨l, p2⟩ := w2
        rw [pNs_3 e e2]
        refine ⟨fun z => (by cases z), fun l' p' z => ?_⟩
        cases z
        obtain ⟨h', u', k1, k2, k3, k4⟩ := c2 l p2 e2
        refine ⟨h', u', by rw [k1, show n + 1 - (q + 1) = n - q by omega], fun c hc => (k2 c hc).trans (up_n hc), fun i hi => ?_, fun i x hx => ?_⟩
        · rw [k3 i (by omega), up_d (by omega)]
        · cases i with
          | zero =>
            simp at hx
            subst hx
            show h' (o + 14) k = nI v; rw [k3 k (by omega), up_s]
          | succ i =>
            simp at hx
            rw [show k + (i + 1) = k + 1 + i by omega]
            exact k4 i x hx
end RC1
