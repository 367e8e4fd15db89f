/-! THE HOUSE LIVED IN IS THE SAME, though another was read -/
def sB (S S' : am_H) : Prop :=
  (S' 84 0 = S 84 0 ∧ S' 88 0 = S 88 0 ∧ S' 92 0 = S 92 0 ∧ S' 95 0 = S 95 0 ∧ S' 99 0 = S 99 0) ∧
  (∀ r, r < nR S → S' 85 r = S 85 r ∧ S' 86 r = S 86 r ∧ S' 87 r = S 87 r) ∧
  (∀ e, e < nD S → S' 89 e = S 89 e ∧ S' 90 e = S 90 e ∧ S' 91 e = S 91 e) ∧
  (∀ i, i < nP S → S' 93 i = S 93 i ∧ S' 94 i = S 94 i) ∧
  ∀ t, t < nT S → S' 96 t = S 96 t ∧ S' 97 t = S 97 t ∧ S' 98 t = S 98 t
section SB
variable {S S' : am_H}
theorem sB.eR (s : sB S S') : nR S' = nR S := by unfold nR; rw [s.1.1]
theorem sB.eD (s : sB S S') : nD S' = nD S := by unfold nD; rw [s.1.2.1]
theorem sB.eP (s : sB S S') : nP S' = nP S := by unfold nP; rw [s.1.2.2.1]
theorem sB.eT (s : sB S S') : nT S' = nT S := by unfold nT; rw [s.1.2.2.2.1]
theorem sB.hh (s : sB S S') {r : Nat} (hr : r < nR S) : hOf S' r = hOf S r := by
  obtain ⟨a, b, -⟩ := s.2.1 r hr
  unfold hOf
  rw [a, b]
theorem sB.vh (s : sB S S') (hv : VH S) : VH S' := by
  obtain ⟨v1, v2, v3, v4, v5, v6, v7, v8, v9⟩ := hv
  unfold VH
  rw [s.eR, s.eD, s.eP, s.eT, s.1.1, s.1.2.1, s.1.2.2.1, s.1.2.2.2.1, s.1.2.2.2.2]
  refine ⟨v1, v2, v3, v4, v5, fun r hr => ?_, fun d hd => ?_, fun i hi => ?_, fun t ht => ?_⟩
  · obtain ⟨a, b, c⟩ := s.2.1 r hr
    rw [a, b, c]; exact v6 r hr
  · obtain ⟨a, b, c⟩ := s.2.2.1 d hd
    rw [a, b, c]; exact v7 d hd
  · obtain ⟨a, b⟩ := s.2.2.2.1 i hi
    rw [a, b]; exact v8 i hi
  · obtain ⟨a, b, c⟩ := s.2.2.2.2 t ht
    rw [a, b, c]; exact v9 t ht
theorem sB.rh (s : sB S S') {o : Nat} {h h' : am_H} (hc : ∀ c, o ≤ c → c ≤ o + 13 → h' c = h c) (r : RH o h S) : RH o h' S' := by
  obtain ⟨r1, r2, r3, r4, r5⟩ := r
  unfold RH
  rw [s.eR, s.eD, s.eP, s.eT, s.1.1, s.1.2.1, s.1.2.2.1, s.1.2.2.2.1, s.1.2.2.2.2, hc o (by omega) (by omega), hc (o + 1) (by omega) (by omega), hc (o + 2) (by omega) (by omega), hc (o + 3) (by omega) (by omega), hc (o + 4) (by omega) (by omega), hc (o + 5) (by omega) (by omega), hc (o + 6) (by omega) (by omega), hc (o + 7) (by omega) (by omega), hc (o + 8) (by omega) (by omega), hc (o + 9) (by omega) (by omega), hc (o + 10) (by omega) (by omega), hc (o + 11) (by omega) (by omega), hc (o + 12) (by omega) (by omega), hc (o + 13) (by omega) (by omega)]
  refine ⟨r1, fun r hr => ?_, fun d hd => ?_, fun i hi => ?_, fun t ht => ?_⟩
  · obtain ⟨a, b, c⟩ := s.2.1 r hr
    rw [a, b, c, s.hh hr]; exact r2 r hr
  · obtain ⟨a, b, c⟩ := s.2.2.1 d hd
    rw [a, b, c]; exact r3 d hd
  · obtain ⟨a, b⟩ := s.2.2.2.1 i hi
    rw [a, b]; exact r4 i hi
  · obtain ⟨a, b, c⟩ := s.2.2.2.2 t ht
    rw [a, b, c]; exact r5 t ht
theorem sB.ok (s : sB S S') {a : K_A} (ha : okA S a) : okA S' a := by
  unfold okA at *
  rw [s.eP, s.eD, s.eT]
  exact ha
theorem sB.vi (s : sB S S') {tx : List Nat} {as : List K_A} {ks : List (List K_A)} {ss : List K_A} (v : VI S tx as ks ss) : VI S' tx as ks ss := by
  obtain ⟨v1, ⟨v2, v3⟩, ⟨v4, v5⟩, v6⟩ := v
  refine ⟨v1, ⟨v2, fun a ha => s.ok (v3 a ha)⟩, ⟨v4, fun l hl => ⟨(v5 l hl).1, fun a ha => s.ok ((v5 l hl).2 a ha)⟩⟩, ?_⟩
  rw [s.eR]
  exact v6
/-- two courses that say the same of all that is there -/
def eK (S : am_H) (K K' : K_T) : Prop := (∀ i, i < nP S → ∀ f, f ≤ 2 → K'.1 f i = K.1 f i) ∧ (∀ t, t < nT S → ∀ f, 3 ≤ f → f ≤ 6 → K'.1 f t = K.1 f t) ∧ K'.2 = K.2
theorem eK_up {K K' : K_T} (e : eK S K K') (f j : Nat) (v : Int32) : eK S (am_up K.1 f j v, K.2) (am_up K'.1 f j v, K'.2) :=
  ⟨fun i hi g hg => by dsimp only; rw [up_a, up_a, e.1 i hi g hg], fun i hi g hg hg' => by dsimp only; rw [up_a, up_a, e.2.1 i hi g hg hg'], e.2.2⟩
theorem eK_by (s : sB S S') {K K' : K_T} (e : eK S K K') {i : Nat} (hi : i < nP S) (hr : rmOf K i < nR S) (x : Int32) : eK S (kBy S i x K) (kBy S' i x K') := by
  have e0 : rmOf K' i = rmOf K i := by unfold rmOf; rw [e.1 i hi 0 (by omega)]
  have eh : hOf S' (rmOf K' i) = hOf S (rmOf K i) := by rw [e0, s.hh hr]
  refine ⟨fun j hj f hf => ?_, fun t ht f h1 h2 => ?_, ?_⟩
  · have f6 : ¬ f = 6 := by omega
    simp only [kBy, f6, false_and, if_false]
    rw [eh, e.1 i hi 1 (by omega), e.1 i hi 2 (by omega), e.1 j hj f hf]
  · have g1 : ¬ f = 1 := by omega
    have g2 : ¬ f = 2 := by omega
    simp only [kBy, g1, g2, false_and, if_false]
    rw [e.2.1 t ht 4 (by omega) (by omega), e.2.1 t ht 6 (by omega) (by omega), e.2.1 t ht f h1 h2]
  · show vSet i _ K'.2 = vSet i _ K.2
    rw [eh, e.1 i hi 1 (by omega), e.2.2]
theorem eK_in {K K' : K_T} (e : eK S K K') {i : Nat} (hi : i < nP S) (r : Int32) : eK S (kIn i r K) (kIn i r K') := by
  obtain ⟨u1, u2, -⟩ := eK_up e 0 i r
  exact ⟨u1, u2, by show _ :: _ = _ :: _; rw [e.1 i hi 1 (by omega), e.2.2]⟩
theorem eK_act (s : sB S S') (hv : VH S) {n : Nat} {K K' : K_T} (hK : VK S n K) (e : eK S K K') {a : K_A} (ha : okA S a) : eK S (kAct S a K) (kAct S' a K') := by
  obtain ⟨k, i, w⟩ := a
  obtain ⟨hi, hk⟩ := ha
  have hi : i < nP S := hi
  have hR := hv.1.2.2
  obtain ⟨r, hr, hri⟩ := (hK.1 i hi).1
  have hrm : rmOf K i = r := by unfold rmOf; rw [hri, nI_rm (by omega)]
  have e0 : rmOf K' i = rmOf K i := by unfold rmOf; rw [e.1 i hi 0 (by omega)]
  rcases hk with ⟨z, h1, h2⟩ | ⟨z, h1⟩ | ⟨z, h1⟩ | ⟨z, h1⟩
  · have z : k = 0 := z
    subst z
    exact eK_by s e hi (show rmOf K i < nR S by rw [hrm]; exact hr) _
  · have z : k = 1 := z
    subst z
    have h1 : w < nD S := h1
    obtain ⟨d1, d2, d3⟩ := s.2.2.1 w h1
    show eK S (kGo S i w K) (kGo S' i w K')
    have q0 := e.1 i hi 0 (by omega)
    unfold kGo bes
    rw [d1, d2, q0, s.1.2.2.2.2]
    split
    · have b := eK_by s e hi (show rmOf K i < nR S by rw [hrm]; exact hr) (S 99 0)
      have b0 := b.1 i hi 0 (by omega)
      have b1 := b.1 i hi 1 (by omega)
      unfold kDo byd led
      rw [d1, d2, d3, b0, b1]
      exact eK_in (eK_up b _ _ _) hi _
    · exact e
  · have z : k = 2 := z
    subst z
    have h1 : w < nT S := h1
    show eK S (kTk S i w K) (kTk S' i w K')
    obtain ⟨d1, d2, d3⟩ := s.2.1 r hr
    have eo : ∀ x, oBy S' (rmOf K' i) x = oBy S (rmOf K i) x := fun x => by rw [e0, hrm]; unfold oBy; rw [d1, d2]
    unfold kTk
    rw [eo, e.1 i hi 0 (by omega), e.1 i hi 1 (by omega), e.2.1 w h1 3 (by omega) (by omega), e.2.1 w h1 5 (by omega) (by omega), e.2.1 w h1 6 (by omega) (by omega)]
    split
    · exact eK_up (eK_up (eK_up e _ _ _) _ _ _) _ _ _
    · exact e
  · have z : k = 3 := z
    subst z
    have h1 : w < nT S := h1
    show eK S (kPt i w K) (kPt i w K')
    unfold kPt
    rw [e.1 i hi 0 (by omega), e.1 i hi 1 (by omega), e.2.1 w h1 4 (by omega) (by omega)]
    split
    · exact eK_up (eK_up (eK_up e _ _ _) _ _ _) _ _ _
    · exact e
theorem eK_ini (s : sB S S') : eK S (kIni S) (kIni S') := by
  refine ⟨fun i hi f hf => ?_, fun t ht f h1 h2 => ?_, ?_⟩
  · have : f = 0 ∨ f = 1 ∨ f = 2 := by omega
    rcases this with rfl | rfl | rfl
    · exact (s.2.2.2.1 i hi).1
    · rfl
    · exact (s.2.2.2.1 i hi).2
  · have : f = 3 ∨ f = 4 ∨ f = 5 ∨ f = 6 := by omega
    rcases this with rfl | rfl | rfl | rfl
    · exact (s.2.2.2.2 t ht).1
    · rfl
    · rfl
    · rfl
  · show vIni S' (nP S') = vIni S (nP S)
    rw [s.eP]
    have : ∀ n, n ≤ nP S → vIni S' n = vIni S n := by
      intro n
      induction n with
      | zero => intro _; rfl
      | succ n ih => intro hn; unfold vIni; rw [ih (by omega), (s.2.2.2.1 n (by omega)).1]
    exact this _ (Nat.le_refl _)
theorem eK_all (s : sB S S') (hv : VH S) (as : List K_A) (hok : ∀ a ∈ as, okA S a) (hl : as.length ≤ 40) : eK S (kAll S as) (kAll S' as) := by
  have key : ∀ (as : List K_A) (n : Nat) (K K' : K_T), VK S n K → eK S K K' → (∀ a ∈ as, okA S a) → n + as.length ≤ 40 → eK S (as.foldl (fun K a => kAct S a K) K) (as.foldl (fun K a => kAct S' a K) K') := by
    intro as
    induction as with
    | nil => intro n K K' _ e _ _; exact e
    | cons a as ih =>
      intro n K K' h e ha hl
      have hl : n + (as.length + 1) ≤ 40 := hl
      exact ih (n + 1) (kAct S a K) (kAct S' a K') (VK_act hv h (ha a List.mem_cons_self) (by omega)) (eK_act s hv h e (ha a List.mem_cons_self)) (fun b hb => ha b (List.mem_cons_of_mem _ hb)) (by omega)
  exact key as 0 _ _ (VK_ini hv) (eK_ini s) hok (by omega)
theorem eK_rc (s : sB S S') {k : Nat} {h h' : am_H} {K K' : K_T} (e : eK S K K') (hc : ∀ c, k ≤ c → c ≤ k + 12 → h' c = h c) (r : RC k h S K) : RC k h' S' K' := by
  obtain ⟨r1, r2, r3, r4⟩ := RC_c hc s.eP s.eT r
  refine ⟨fun i hi => ?_, fun t ht => ?_, by rw [e.2.2]; exact r3, by rw [e.2.2]; exact r4⟩
  · have hi' : i < nP S := by rw [← s.eP]; exact hi
    rw [e.1 i hi' 0 (by omega), e.1 i hi' 1 (by omega), e.1 i hi' 2 (by omega), e.2.2]
    exact r1 i hi
  · have ht' : t < nT S := by rw [← s.eT]; exact ht
    rw [e.2.1 t ht' 3 (by omega) (by omega), e.2.1 t ht' 4 (by omega) (by omega), e.2.1 t ht' 5 (by omega) (by omega), e.2.1 t ht' 6 (by omega) (by omega)]
    exact r2 t ht
theorem eK_rm (s : sB S S') {K K' : K_T} (e : eK S K K') (hc : ∀ c, 108 ≤ c → c ≤ 118 → S' c = S c) (r : RM S K) : RM S' K' := by
  obtain ⟨r1, r2, r3⟩ := RM_c hc s.eP s.eT r
  refine ⟨fun i hi => ?_, fun t ht => ?_, by rw [e.2.2]; exact r3⟩
  · have hi' : i < nP S := by rw [← s.eP]; exact hi
    rw [e.1 i hi' 0 (by omega), e.1 i hi' 1 (by omega), e.1 i hi' 2 (by omega), e.2.2]
    exact r1 i hi
  · have ht' : t < nT S := by rw [← s.eT]; exact ht
    rw [e.2.1 t ht' 3 (by omega) (by omega), e.2.1 t ht' 4 (by omega) (by omega), e.2.1 t ht' 5 (by omega) (by omega), e.2.1 t ht' 6 (by omega) (by omega)]
    exact r2 t ht
theorem fM.sb (hv : VH S) (f : fM S S') : sB S S' := by
  have h1 := hv.1.2.2
  have h2 := hv.2.1.2
  have h3 := hv.2.2.1.2.2
  have h4 := hv.2.2.2.1.2
  have g : ∀ c j, 84 ≤ c → c ≤ 99 → ¬ bk c j → S' c j = S c j := fun c j q1 q2 q3 => f c j (by omega) (by omega) q3
  refine ⟨⟨g 84 0 (by omega) (by omega) (by unfold bk; omega), g 88 0 (by omega) (by omega) (by unfold bk; omega), g 92 0 (by omega) (by omega) (by unfold bk; omega), g 95 0 (by omega) (by omega) (by unfold bk; omega), g 99 0 (by omega) (by omega) (by unfold bk; omega)⟩, fun r hr => ⟨g 85 r (by omega) (by omega) (by unfold bk; omega), g 86 r (by omega) (by omega) (by unfold bk; omega), g 87 r (by omega) (by omega) (by unfold bk; omega)⟩, fun r hr => ⟨g 89 r (by omega) (by omega) (by unfold bk; omega), g 90 r (by omega) (by omega) (by unfold bk; omega), g 91 r (by omega) (by omega) (by unfold bk; omega)⟩, fun r hr => ⟨g 93 r (by omega) (by omega) (by unfold bk; omega), g 94 r (by omega) (by omega) (by unfold bk; omega)⟩, fun r hr => ⟨g 96 r (by omega) (by omega) (by unfold bk; omega), g 97 r (by omega) (by omega) (by unfold bk; omega), g 98 r (by omega) (by omega) (by unfold bk; omega)⟩⟩
theorem fM.cell (f : fM S S') {c : Nat} (h1 : c ≠ 82) (h2 : c ≠ 107) (h3 : ¬ (84 ≤ c ∧ c ≤ 99)) : S' c = S c := funext fun j => f c j (by omega) h2 (by unfold bk; omega)
end SB
section FLT
variable {h S : am_H} {o o' : Nat} {tx : List Nat} {as : List K_A} {ks : List (List K_A)} {ss : List K_A}
/-- both have read: all else is as it was -/
theorem read_inv {h' S' : am_H} (c : CI h S o o' tx as ks ss) (m : MI S tx as ks ss) (v : VI S tx as ks ss) (f : frH o' h h') (g : fM S S') : CI h' S' o o' tx as ks ss ∧ MI S' tx as ks ss ∧ VI S' tx as ks ss := by
  have hv := m.1
  have s := g.sb hv
  have e := eK_all s hv as v.2.1.2 v.2.1.1
  have ho := c.1.1
  have hc : ∀ c, ¬ (o' ≤ c ∧ c ≤ o' + 14) → h' c = h c := f
  refine ⟨?_, ?_, s.vi v⟩
  · obtain ⟨c1, c2, c3, ⟨c4, c5, c6⟩, c7, ⟨c8, c9, c10⟩, c11, c12⟩ := c
    refine ⟨by rw [hc 0 (by omega)]; exact c1, by rw [hc 0 (by omega), hc 1 (by omega)]; exact c2, s.rh (fun c q1 q2 => hc c (by omega)) c3, ⟨by rw [hc 32 (by omega)]; exact c4, by rw [hc 32 (by omega)]; exact c5, eK_rc s e (fun c q1 q2 => hc c (by omega)) c6⟩, RAc_c (fun c q1 q2 => hc c (by omega)) c7, ⟨by rw [hc 0 (by omega)]; exact c8, fun l hl => RAc_c (fun c q1 q2 => hc c (by omega)) (c9 l hl), fun l hl => RAc_c (fun c q1 q2 => hc c (by omega)) (c10 l hl)⟩, by rw [hc 70 (by omega), hc 71 (by omega), hc 72 (by omega), hc 73 (by omega)]; exact c11, by rw [hc 79 (by omega)]; exact c12⟩
  · obtain ⟨m1, m2, m3, m4, ⟨m5, m6⟩, m7⟩ := m
    have k82 : ∀ j, j ≠ 27 → S' 82 j = S 82 j := fun j hj => g 82 j (by omega) (by omega) (by unfold bk; omega)
    have k : ∀ c, 100 ≤ c → c ≠ 107 → S' c = S c := fun c q1 q2 => g.cell (by omega) q2 (by omega)
    refine ⟨s.vh m1, by rw [k82 0 (by omega), g.cell (c := 83) (by omega) (by omega) (by omega)]; exact m2, eK_rm s e (fun c q1 q2 => k c (by omega) (by omega)) m3, RAm_congr (fun c q1 q2 => k c (by omega) (by omega)) m4, ⟨by rw [k82 22 (by omega)]; exact m5, fun b l hl => RAm_congr (fun c q1 q2 => k c (by omega) (by omega)) (m6 b l hl)⟩, by rw [k82 23 (by omega), k 104 (by omega) (by omega), k 105 (by omega) (by omega), k 106 (by omega) (by omega)]; exact m7⟩
theorem CI.tok (c : CI h S o o' tx as ks ss) (v : VI S tx as ks ss) : tOK tx (h 1) := ⟨c.2.1.2, v.1.1, fun x hx => by have := v.1.2 x hx; omega⟩
theorem MI.tok (m : MI S tx as ks ss) (v : VI S tx as ks ss) : tOK tx (S 83) := ⟨m.2.1.2, v.1.1, fun x hx => by have := v.1.2 x hx; omega⟩
theorem CI.o'' (c : CI h S o o' tx as ks ss) : (h 0 3).toNatClampNeg = o' := by
  have := c.1.1
  rw [c.1.2.2, nI_clamp (by omega)]
end FLT
theorem P_fault : Pr 51 106 [] := by
  intro h S o o' tx as ks ss c m v
  have ho := c.1.1
  obtain ⟨h', g1, g2, -⟩ := gH_readText_ok 2 (o := o') (by omega) (c.tok v)
  obtain ⟨S', f1, f2, -⟩ := gM_readAll_ok 2 (m.tok v) m.2.1.1
  obtain ⟨i1, i2, i3⟩ := read_inv c m v g2 f2
  rw [gC_fault, gM_fault, c.o'', c.2.1.1, g1, f1, r1_ok, r1_ok]
  refine ⟨h', S', _, rfl, rfl, fun c hc => g2 c (by omega), fun c hc => f2.cell (by omega) (by omega) (by omega), o, o', tx, as, ks, ss, i1, i2, i3⟩
