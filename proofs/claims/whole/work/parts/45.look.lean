/-! THE LOOK THAT TELLS MOST -/
theorem and1 (a b : Int32) : ((a &&& b) &&& 1 = 1) ↔ (a &&& 1 = 1 ∧ b &&& 1 = 1) := by
  have e : (a &&& b) &&& 1 = (a &&& 1) &&& (b &&& 1) := by
    rw [Int32.and_assoc a 1, ← Int32.and_assoc 1 b 1, Int32.and_comm 1 b, Int32.and_assoc b 1 1, Int32.and_self, ← Int32.and_assoc]
  rw [e]
  obtain ⟨i, hi, hi2⟩ := pk_andE a (m := 1) 1 rfl
  obtain ⟨j, hj, hj2⟩ := pk_andE b (m := 1) 1 rfl
  rw [hi2, hj2]
  have h1 : i = 0 ∨ i = 1 := by omega
  have h2 : j = 0 ∨ j = 1 := by omega
  rcases h1 with rfl | rfl <;> rcases h2 with rfl | rfl <;> decide
/-- the pace p is in the set -/
abbrev hb (x : Int32) (p : Nat) : Prop := (x >>> (nI p &&& 31)) &&& 1 = 1
def aC (x t : Int32) (p : Nat) : Nat → Nat → Nat → Nat
  | _, 0, a => a
  | q, k + 1, a => aC x t p (q + 1) k (if hb x p ∧ hb x q ∧ shB (nI p) t = shB (nI q) t then a + 1 else a)
theorem aC_le (x t : Int32) (p : Nat) : ∀ (k q a : Nat), aC x t p q k a ≤ a + k := by
  intro k
  induction k with
  | zero => intro q a; exact Nat.le_refl _
  | succ k ih =>
    intro q a
    unfold aC
    split
    · have := ih (q + 1) (a + 1); omega
    · have := ih (q + 1) a; omega
def mA (x t : Int32) : Nat → Nat → Nat → Nat
  | _, 0, m => m
  | p, k + 1, m => mA x t (p + 1) k (if m < aC x t p 0 16 0 then aC x t p 0 16 0 else m)
theorem mA_le (x t : Int32) : ∀ (k p m : Nat), m ≤ 16 → mA x t p k m ≤ 16 := by
  intro k
  induction k with
  | zero => intro p m h; exact h
  | succ k ih =>
    intro p m h
    unfold mA
    have := aC_le x t p 16 0 0
    split
    · exact ih _ _ (by omega)
    · exact ih _ _ h
theorem alC_loop (d : Nat) (h : am_H) (x t x3 : Int32) {p : Nat} (hp : p < 16) : ∀ (k n q a : Nat) (u7 : Option am_V), q + k = 16 → k < n → a + k ≤ 100 → ∃ u, rS_mostAlike (d + 2) n 13 [some (vr 3 70), some (vi x), some (vi t), some (vi x3), some (vi (nI p)), some (vi (nI a)), some (vi (nI q)), u7] h = rS_mostAlike (d + 2) (n - k) 13 [some (vr 3 70), some (vi x), some (vi t), some (vi x3), some (vi (nI p)), some (vi (nI (aC x t p q k a))), some (vi (nI 16)), u] h := by
  intro k
  induction k with
  | zero =>
    intro n q a u7 hq hn ha
    have : q = 16 := by omega
    subst this
    exact ⟨u7, rfl⟩
  | succ k ih =>
    intro n q a u7 hq hn ha
    obtain ⟨n, rfl⟩ : ∃ z, n = z + 1 := ⟨n - 1, by omega⟩
    have hlt : nI q < 16 := nI_lt (b := 16) (by omega) (by omega)
    rw [tS_mostAlike_13, if_pos hlt, nI_1, nI_1, show n + 1 - (k + 1) = n - k by omega, shownBy_ok d hp, r1_ok, shownBy_ok d (q := q) (by omega), r1_ok]
    unfold aC
    by_cases e1 : ((x >>> (nI p &&& 31)) &&& (x >>> (nI q &&& 31))) &&& 1 = 1
    · rw [if_pos e1]
      have e1' := (and1 _ _).mp e1
      by_cases e2 : shB (nI p) t = shB (nI q) t
      · rw [if_pos e2, if_pos ⟨e1'.1, e1'.2, e2⟩]
        exact ih n (q + 1) (a + 1) _ (by omega) (by omega) (by omega)
      · rw [if_neg e2, if_neg (fun z => e2 z.2.2)]
        exact ih n (q + 1) a _ (by omega) (by omega) (by omega)
    · rw [if_neg e1, if_neg (fun z => e1 ((and1 _ _).mpr ⟨z.1, z.2.1⟩))]
      exact ih n (q + 1) a _ (by omega) (by omega) (by omega)
theorem maC_loop (d : Nat) (h : am_H) (x t : Int32) : ∀ (k n p m : Nat) (u5 u6 u7 : Option am_V), p + k = 16 → 20 * k < n → m ≤ 16 → rS_mostAlike (d + 2) n 5 [some (vr 3 70), some (vi x), some (vi t), some (vi (nI m)), some (vi (nI p)), u5, u6, u7] h = some (h, some (nI (mA x t p k m))) := by
  intro k
  induction k with
  | zero =>
    intro n p m u5 u6 u7 hp hn hm
    obtain ⟨n, rfl⟩ : ∃ z, n = z + 1 := ⟨n - 1, by omega⟩
    have : p = 16 := by omega
    subst this
    rw [tS_mostAlike_5, if_neg (by decide)]
    rfl
  | succ k ih =>
    intro n p m u5 u6 u7 hp hn hm
    obtain ⟨n, rfl⟩ : ∃ z, n = z + 1 := ⟨n - 1, by omega⟩
    have hlt : nI p < 16 := nI_lt (b := 16) (by omega) (by omega)
    obtain ⟨u, g⟩ := alC_loop d h x t (nI m) (p := p) (by omega) 16 n 0 0 u7 (by omega) (by omega) (by omega)
    rw [nI_0] at g
    have hal := aC_le x t p 16 0 0
    rw [tS_mostAlike_5, if_pos hlt, g]
    obtain ⟨n2, hn2⟩ : ∃ z, n - 16 = z + 1 := ⟨n - 16 - 1, by omega⟩
    rw [hn2, tS_mostAlike_13, if_neg (show ¬ nI 16 < 16 by decide), max_ok, r1_ok, nI_1]
    conv => rhs; unfold mA
    by_cases e : m < aC x t p 0 16 0
    · rw [if_pos (nI_lt e (by omega)), if_pos e, ih n2 (p + 1) _ _ _ _ (by omega) (by omega) (by omega)]
    · rw [if_neg (nI_nlt (by omega) (by omega)), if_neg e, ih n2 (p + 1) _ _ _ _ (by omega) (by omega) hm]
theorem gS_mostAlike_ok (d : Nat) (h : am_H) (x t : Int32) : am_g (d + 3) 37 [vr 3 70, vi x, vi t] h = some (h, some (nI (mA x t 0 16 0))) := by
  have := maC_loop d h x t 16 999999 0 0 none none none (by omega) (by omega) (by omega)
  rw [nI_0] at this
  rw [gS_mostAlike, this]
theorem has_ok (d : Nat) (x : Int32) (p : Nat) (S : am_H) : am_g (d + 1) 96 [vi x, vi (nI p)] S = some (S, some (yn (hb x p))) := by
  rw [gM_has]
  unfold yn
  split <;> rfl
theorem alM_loop (d : Nat) (S : am_H) (x1 x2 x x4 x5 t x7 : Int32) {p : Nat} (hp : p < 16) : ∀ (k n q a : Nat), q + k = 16 → k < n → a + k ≤ 100 → rM_look (d + 1) n 41 [some (vr 7 82), some (vi x1), some (vi x2), some (vi x), some (vi x4), some (vi x5), some (vi t), some (vi x7), some (vi (nI p)), some (vi (nI a)), some (vi (nI q))] S = rM_look (d + 1) (n - k) 41 [some (vr 7 82), some (vi x1), some (vi x2), some (vi x), some (vi x4), some (vi x5), some (vi t), some (vi x7), some (vi (nI p)), some (vi (nI (aC x t p q k a))), some (vi (nI 16))] S := by
  intro k
  induction k with
  | zero =>
    intro n q a hq hn ha
    have : q = 16 := by omega
    subst this
    rfl
  | succ k ih =>
    intro n q a hq hn ha
    obtain ⟨n, rfl⟩ : ∃ z, n = z + 1 := ⟨n - 1, by omega⟩
    have hlt : nI q < 16 := nI_lt (b := 16) (by omega) (by omega)
    have z0 : nI a + 0 = nI a := Int32.add_zero _
    rw [tM_look_41, if_pos hlt, has_ok, r1_ok, has_ok, r1_ok, onBy_ok d hp, r1_ok, onBy_ok d (q := q) (by omega), r1_ok, z0, nI_1, nI_1, show n + 1 - (k + 1) = n - k by omega]
    unfold aC
    by_cases e1 : hb x p
    · rw [if_neg (fun z => yn_0.mp z e1)]
      by_cases e2 : hb x q
      · rw [if_neg (fun z => yn_0.mp z e2)]
        by_cases e3 : shB (nI p) t = shB (nI q) t
        · rw [if_pos e3, if_pos ⟨e1, e2, e3⟩]
          exact ih n (q + 1) (a + 1) (by omega) (by omega) (by omega)
        · rw [if_neg e3, if_neg (fun z => e3 z.2.2)]
          exact ih n (q + 1) a (by omega) (by omega) (by omega)
      · rw [if_pos (yn_0.mpr e2), if_neg (fun z => e2 z.2.1)]
        exact ih n (q + 1) a (by omega) (by omega) (by omega)
    · rw [if_pos (yn_0.mpr e1), if_neg (fun z => e1 z.1)]
      exact ih n (q + 1) a (by omega) (by omega) (by omega)
theorem maM_loop (d : Nat) (S : am_H) (x1 x2 x x4 x5 t : Int32) : ∀ (k n p m : Nat) (u9 u10 : Option am_V), p + k = 16 → 20 * k < n → m ≤ 16 → ∃ n2 u v, n - 20 * k ≤ n2 ∧ rM_look (d + 1) n 33 [some (vr 7 82), some (vi x1), some (vi x2), some (vi x), some (vi x4), some (vi x5), some (vi t), some (vi (nI m)), some (vi (nI p)), u9, u10] S = rM_look (d + 1) n2 33 [some (vr 7 82), some (vi x1), some (vi x2), some (vi x), some (vi x4), some (vi x5), some (vi t), some (vi (nI (mA x t p k m))), some (vi (nI 16)), u, v] S := by
  intro k
  induction k with
  | zero =>
    intro n p m u9 u10 hp hn hm
    have : p = 16 := by omega
    subst this
    exact ⟨n, u9, u10, by omega, rfl⟩
  | succ k ih =>
    intro n p m u9 u10 hp hn hm
    obtain ⟨n, rfl⟩ : ∃ z, n = z + 1 := ⟨n - 1, by omega⟩
    have hlt : nI p < 16 := nI_lt (b := 16) (by omega) (by omega)
    have g := alM_loop d S x1 x2 x x4 x5 t (nI m) (p := p) (by omega) 16 n 0 0 (by omega) (by omega) (by omega)
    rw [nI_0] at g
    have hal := aC_le x t p 16 0 0
    obtain ⟨n2, hn2⟩ : ∃ z, n - 16 = z + 1 := ⟨n - 16 - 1, by omega⟩
    rw [tM_look_33, if_pos hlt, g, hn2, tM_look_41, if_neg (show ¬ nI 16 < 16 by decide), nI_1]
    conv => arg 1; ext a; arg 1; ext b; arg 1; ext c; rw [show mA x t p (k + 1) m = mA x t (p + 1) k (if m < aC x t p 0 16 0 then aC x t p 0 16 0 else m) from rfl]
    by_cases e : m < aC x t p 0 16 0
    · rw [if_pos (nI_lt e (by omega)), if_pos e]
      obtain ⟨n3, u, v, w1, w2⟩ := ih n2 (p + 1) (aC x t p 0 16 0) (some (vi (nI (aC x t p 0 16 0)))) (some (vi (nI 16))) (by omega) (by omega) (by omega)
      exact ⟨n3, u, v, by omega, w2⟩
    · rw [if_neg (nI_nlt (by omega) (by omega)), if_neg e]
      obtain ⟨n3, u, v, w1, w2⟩ := ih n2 (p + 1) m (some (vi (nI (aC x t p 0 16 0)))) (some (vi (nI 16))) (by omega) (by omega) hm
      exact ⟨n3, u, v, by omega, w2⟩
