/-! PACES by what was seen -/
def shB (p t : Int32) : Int32 := (t * (p / 4 + 1)) / (am_rem p 4 + 1)
def stB (r p : Int32) : List K_A → Bool
  | [] => true
  | x :: l => (if nI x.1 = r then decide (shB p (nI x.2.1) = nI x.2.2) else true) && stB r p l
theorem rem4 : ∀ q, q < 16 → ¬ am_rem (nI q) 4 + 1 = 0 ∧ ¬ am_rem (nI q) 4 + 1 < 1 := by decide +kernel
theorem shownBy_ok (d : Nat) {q : Nat} (hq : q < 16) (t : Int32) (h : am_H) : am_g (d + 2) 38 [vi (nI q), vi t] h = some (h, some (shB (nI q) t)) := by
  obtain ⟨h1, h2⟩ := rem4 q hq
  rw [gS_shownBy, max_ok, r1_ok, if_neg h2, if_neg h1]
  rfl
theorem onBy_ok (d : Nat) {q : Nat} (hq : q < 16) (t : Int32) (h : am_H) : am_g (d + 1) 154 [vi (nI q), vi t] h = some (h, some (shB (nI q) t)) := by
  obtain ⟨h1, h2⟩ := rem4 q hq
  rw [gM_onBy, if_neg h1]
  rfl
section PACES
variable {h S : am_H} {o o' : Nat} {tx : List Nat} {as : List K_A} {ks : List (List K_A)} {ss : List K_A}
theorem still_loop (d : Nat) (c : CI h S o o' tx as ks ss) (hl : ss.length ≤ 8) (r : Int32) {q : Nat} (hq : q < 16) : ∀ (k n j : Nat), j + k = ss.length → k < n → rS_isStillSo (d + 2) n 3 [some (vr 3 70), some (vi r), some (vi (nI q)), some (vi (nI j))] h = some (h, some (yn (stB r (nI q) (ss.drop j) = true))) := by
  intro k
  induction k with
  | zero =>
    intro n j hj hn
    obtain ⟨n, rfl⟩ : ∃ z, n = z + 1 := ⟨n - 1, by omega⟩
    rw [tS_isStillSo_3, c.2.2.2.2.2.2.1.1, if_neg (nI_nlt (by omega) (by omega)), List.drop_of_length_le (by omega)]
    rfl
  | succ k ih =>
    intro n j hj hn
    obtain ⟨n, rfl⟩ : ∃ z, n = z + 1 := ⟨n - 1, by omega⟩
    have hjl : j < ss.length := by omega
    obtain ⟨b1, b2, b3⟩ := c.2.2.2.2.2.2.1.2 j ss[j] (List.getElem?_eq_getElem hjl)
    rw [tS_isStillSo_3, c.2.2.2.2.2.2.1.1, if_pos (nI_lt hjl (by omega)), b_ok (by omega) (by omega), b_ok (by omega) (by omega), b1, b2, shownBy_ok d hq, r1_ok, b_ok (by omega) (by omega), b3, nI_1, ih n (j + 1) (by omega) (by omega), List.drop_eq_getElem_cons hjl]
    by_cases e1 : nI ss[j].1 = r
    · rw [if_pos e1]
      by_cases e2 : shB (nI q) (nI ss[j].2.1) = nI ss[j].2.2
      · rw [if_pos e2]
        congr 3
        apply yn_congr
        simp [stB, e1, e2]
      · rw [if_neg e2]
        have : ¬ stB r (nI q) (ss[j] :: ss.drop (j + 1)) = true := by simp [stB, e1, e2]
        rw [yn_0.mpr this]
    · rw [if_neg e1]
      congr 3
      apply yn_congr
      simp [stB, e1]
/-- the set of the paces that are still so -/
def pcs (r : Int32) (ss : List K_A) : Nat → Nat → Int32 → Int32
  | _, 0, x => x
  | p, k + 1, x => pcs r ss (p + 1) k (if stB r (nI p) ss = true then x ||| ((1 : Int32) <<< (nI p &&& 31)) else x)
theorem pacesC_loop (d : Nat) (c : CI h S o o' tx as ks ss) (hl : ss.length ≤ 8) (r : Int32) : ∀ (k n p : Nat) (x : Int32), p + k = 16 → k < n → rS_pacesOf (d + 3) n 5 [some (vr 3 70), some (vi r), some (vi x), some (vi (nI p))] h = some (h, some (pcs r ss p k x)) := by
  intro k
  induction k with
  | zero =>
    intro n p x hp hn
    obtain ⟨n, rfl⟩ : ∃ z, n = z + 1 := ⟨n - 1, by omega⟩
    have : p = 16 := by omega
    subst this
    rw [tS_pacesOf_5, if_neg (by decide)]
    rfl
  | succ k ih =>
    intro n p x hp hn
    obtain ⟨n, rfl⟩ : ∃ z, n = z + 1 := ⟨n - 1, by omega⟩
    have hlt : nI p < 16 := nI_lt (b := 16) (by omega) (by omega)
    have hs := still_loop d c hl r (q := p) (by omega) ss.length 999999 0 (by omega) (by omega)
    rw [nI_0, List.drop_zero] at hs
    rw [tS_pacesOf_5, if_pos hlt, gS_isStillSo, hs, r1_ok, nI_1]
    unfold pcs
    by_cases e : stB r (nI p) ss = true
    · rw [if_neg (fun q => yn_0.mp q e), if_pos e, ih n (p + 1) _ (by omega) (by omega)]
    · rw [if_pos (yn_0.mpr e), if_neg e, ih n (p + 1) _ (by omega) (by omega)]
theorem pacesM_in (d : Nat) (m : MI S tx as ks ss) (hl : ss.length ≤ 8) (r x : Int32) {p : Nat} (hp : p < 16) : ∀ (k n j : Nat) (f : Bool), j + k = ss.length → k < n → ∃ f' x', (f' = (f && stB r (nI p) (ss.drop j))) ∧
    rM_pacesOf (d + 1) n 13 [some (vr 7 82), some (vi r), some (vi x), some (vi (nI p)), some (vi (if f then 1 else 0)), some (vi (nI j))] S = rM_pacesOf (d + 1) (n - k - 1) 5 [some (vr 7 82), some (vi r), some (vi (if f' then x ||| ((1 : Int32) <<< (nI p &&& 31)) else x)), some (vi (nI (p + 1))), some (vi (if f' then 1 else 0)), some (vi x')] S := by
  intro k
  induction k with
  | zero =>
    intro n j f hj hn
    obtain ⟨n, rfl⟩ : ∃ z, n = z + 1 := ⟨n - 1, by omega⟩
    refine ⟨f, nI j, by rw [List.drop_of_length_le (by omega)]; simp [stB], ?_⟩
    rw [tM_pacesOf_13, m.2.2.2.2.2.1, if_neg (nI_nlt (by omega) (by omega)), nI_1]
    cases f with
    | true => rw [if_neg (by decide)]; rfl
    | false => rw [if_pos (by decide), Int32.or_zero]; rfl
  | succ k ih =>
    intro n j f hj hn
    obtain ⟨n, rfl⟩ : ∃ z, n = z + 1 := ⟨n - 1, by omega⟩
    have hjl : j < ss.length := by omega
    obtain ⟨b1, b2, b3⟩ := m.2.2.2.2.2.2 j ss[j] (List.getElem?_eq_getElem hjl)
    have hdrop : ss.drop j = ss[j] :: ss.drop (j + 1) := List.drop_eq_getElem_cons hjl
    have go : ∀ f2 : Bool, (f && stB r (nI p) (ss.drop j)) = (f2 && stB r (nI p) (ss.drop (j + 1))) → ∃ f' x', (f' = (f && stB r (nI p) (ss.drop j))) ∧
        rM_pacesOf (d + 1) n 13 [some (vr 7 82), some (vi r), some (vi x), some (vi (nI p)), some (vi (if f2 then 1 else 0)), some (vi (nI (j + 1)))] S = rM_pacesOf (d + 1) (n + 1 - (k + 1) - 1) 5 [some (vr 7 82), some (vi r), some (vi (if f' then x ||| ((1 : Int32) <<< (nI p &&& 31)) else x)), some (vi (nI (p + 1))), some (vi (if f' then 1 else 0)), some (vi x')] S := by
      intro f2 hf2
      obtain ⟨f', x', g1, g2⟩ := ih n (j + 1) f2 (by omega) (by omega)
      refine ⟨f', x', by rw [hf2]; exact g1, ?_⟩
      rw [g2, show n + 1 - (k + 1) - 1 = n - k - 1 by omega]
    rw [tM_pacesOf_13, m.2.2.2.2.2.1, if_pos (nI_lt hjl (by omega)), nI_1]
    cases f with
    | false =>
      rw [if_pos (by decide)]
      exact go false (by simp)
    | true =>
      rw [if_neg (by decide), b_ok (by omega) (by omega), b_ok (by omega) (by omega), b1, b2, onBy_ok d hp, r1_ok, b_ok (by omega) (by omega), b3]
      by_cases e1 : nI ss[j].1 = r
      · rw [if_pos e1]
        by_cases e2 : shB (nI p) (nI ss[j].2.1) = nI ss[j].2.2
        · rw [if_pos e2]
          exact go true (by rw [hdrop]; simp [stB, e1, e2])
        · rw [if_neg e2]
          exact go false (by rw [hdrop]; simp [stB, e1, e2])
      · rw [if_neg e1]
        exact go true (by rw [hdrop]; simp [stB, e1])
theorem pacesM_loop (d : Nat) (m : MI S tx as ks ss) (hl : ss.length ≤ 8) (r : Int32) : ∀ (k n p : Nat) (x : Int32) (u4 u5 : Option am_V), p + k = 16 → 10 * k < n → rM_pacesOf (d + 1) n 5 [some (vr 7 82), some (vi r), some (vi x), some (vi (nI p)), u4, u5] S = some (S, some (pcs r ss p k x)) := by
  intro k
  induction k with
  | zero =>
    intro n p x u4 u5 hp hn
    obtain ⟨n, rfl⟩ : ∃ z, n = z + 1 := ⟨n - 1, by omega⟩
    have : p = 16 := by omega
    subst this
    rw [tM_pacesOf_5, if_neg (by decide)]
    rfl
  | succ k ih =>
    intro n p x u4 u5 hp hn
    obtain ⟨n, rfl⟩ : ∃ z, n = z + 1 := ⟨n - 1, by omega⟩
    have hlt : nI p < 16 := nI_lt (b := 16) (by omega) (by omega)
    obtain ⟨f', x', g1, g2⟩ := pacesM_in d m hl r x (p := p) (by omega) ss.length n 0 true (by omega) (by omega)
    rw [nI_0, if_pos rfl] at g2
    rw [tM_pacesOf_5, if_pos hlt, g2, ih _ (p + 1) _ _ _ (by omega) (by omega)]
    rw [List.drop_zero, Bool.true_and] at g1
    rw [g1]
    rfl
theorem gS_pacesOf_ok (d : Nat) (c : CI h S o o' tx as ks ss) (hl : ss.length ≤ 8) (r : Int32) : am_g (d + 4) 35 [vr 3 70, vi r] h = some (h, some (pcs r ss 0 16 0)) := by
  have := pacesC_loop d c hl r 16 999999 0 0 (by omega) (by omega)
  rw [nI_0] at this
  rw [gS_pacesOf, this]
theorem gM_pacesOf_ok (d : Nat) (m : MI S tx as ks ss) (hl : ss.length ≤ 8) (r : Int32) : am_g (d + 2) 155 [vr 7 82, vi r] S = some (S, some (pcs r ss 0 16 0)) := by
  have := pacesM_loop d m hl r 16 999999 0 0 none none (by omega) (by omega)
  rw [nI_0] at this
  rw [gM_pacesOf, this]
end PACES
theorem P_paces (x : Int32) : Pr 74 156 [vi x] := by
  refine Pr_q fun h S o o' tx as ks ss c m v => ?_
  have hv := m.1
  have hR := hv.1.2.2
  rw [gC_paces, gM_paces, gC_isRoom_ok 4 hv c, gM_isRoom_ok 4 hv, r1_ok, r1_ok]
  rcases ix_c (x := x) (n := nR S) (by omega) with hx | ⟨r, hr, rfl⟩
  · rw [if_pos (ix_no hx), if_pos (ix_no hx)]
    exact ⟨_, rfl, rfl⟩
  · rw [if_neg (ix_yes hr (by omega)), if_neg (ix_yes hr (by omega)), gS_pacesOf_ok 2 c v.2.2.2.1, gM_pacesOf_ok 4 m v.2.2.2.1, r1_ok, r1_ok]
    exact ⟨_, rfl, rfl⟩
