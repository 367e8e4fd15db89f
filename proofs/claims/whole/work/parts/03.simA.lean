/-! SMALL INVERSIONS -/
theorem am_pi_some {st : List am_V} {k : Int32 → List am_V → am_Z} {Z : am_H × Option Int32} (h : am_pi st k = some Z) : ∃ x r, st = vi x :: r ∧ k x r = some Z := by
  match st, h with
  | Sum.inl x :: r, h => exact ⟨x, r, rfl, h⟩
theorem am_pa_some {st : List am_V} {k : Nat → Nat → List am_V → am_Z} {Z : am_H × Option Int32} (h : am_pa st k = some Z) : ∃ t a r, st = vr t a :: r ∧ k t a r = some Z := by
  match st, h with
  | Sum.inr (Sum.inl (t, a)) :: r, h => exact ⟨t, a, r, rfl, h⟩
theorem am_pl_some {st : List am_V} {k : Int64 → List am_V → am_Z} {Z : am_H × Option Int32} (h : am_pl st k = some Z) : ∃ x r, st = vl x :: r ∧ k x r = some Z := by
  match st, h with
  | Sum.inr (Sum.inr x) :: r, h => exact ⟨x, r, rfl, h⟩
theorem am_2_some {st : List am_V} {k : Int32 → Int32 → List am_V → am_Z} {Z : am_H × Option Int32} (h : am_2 st k = some Z) : ∃ a b r, st = vi b :: vi a :: r ∧ k a b r = some Z := by
  obtain ⟨b, r, rfl, h1⟩ := am_pi_some h
  obtain ⟨a, r, rfl, h2⟩ := am_pi_some h1
  exact ⟨a, b, r, rfl, h2⟩
theorem am_2l_some {st : List am_V} {k : Int64 → Int64 → List am_V → am_Z} {Z : am_H × Option Int32} (h : am_2l st k = some Z) : ∃ a b r, st = vl b :: vl a :: r ∧ k a b r = some Z := by
  obtain ⟨b, r, rfl, h1⟩ := am_pl_some h
  obtain ⟨a, r, rfl, h2⟩ := am_pl_some h1
  exact ⟨a, b, r, rfl, h2⟩
theorem am_ldi_some {l : am_L} {i : Nat} {k : Int32 → am_Z} {Z : am_H × Option Int32} (h : am_ldi l i k = some Z) : ∃ x, am_ix l i = some (vi x) ∧ k x = some Z := by
  unfold am_ldi at h
  split at h
  · rename_i x hx; exact ⟨x, hx, h⟩
  · cases h
theorem am_lda_some {l : am_L} {i : Nat} {k : Nat → Nat → am_Z} {Z : am_H × Option Int32} (h : am_lda l i k = some Z) : ∃ t a, am_ix l i = some (vr t a) ∧ k t a = some Z := by
  unfold am_lda at h
  split at h
  · rename_i t a hx; exact ⟨t, a, hx, h⟩
  · cases h
theorem am_ldl_some {l : am_L} {i : Nat} {k : Int64 → am_Z} {Z : am_H × Option Int32} (h : am_ldl l i k = some Z) : ∃ x, am_ix l i = some (vl x) ∧ k x = some Z := by
  unfold am_ldl at h
  split at h
  · rename_i x hx; exact ⟨x, hx, h⟩
  · cases h
theorem am_b_some {n : Nat} {i : Int32} {k : Nat → am_Z} {Z : am_H × Option Int32} (h : am_b n i k = some Z) : vp_in i n ∧ k i.toNatClampNeg = some Z := by
  unfold am_b at h
  split at h
  · cases h
  · rename_i q; exact ⟨q, h⟩
theorem am_if_some {c : Prop} [Decidable c] {k : am_Z} {Z : am_H × Option Int32} (h : (if c then k else none) = some Z) : c ∧ k = some Z := by
  split at h
  · rename_i q; exact ⟨q, h⟩
  · cases h
theorem am_ifn_some {c : Prop} [Decidable c] {k : am_Z} {Z : am_H × Option Int32} (h : (if c then none else k) = some Z) : ¬ c ∧ k = some Z := by
  split at h
  · cases h
  · rename_i q; exact ⟨q, h⟩
theorem am_r1_some {r : am_Z} {k : am_H → Int32 → am_Z} {Z : am_H × Option Int32} (h : am_r1 r k = some Z) : ∃ h' x, r = some (h', some x) ∧ k h' x = some Z := by
  match r, h with
  | some (h', some x), h => exact ⟨h', x, rfl, h⟩
theorem am_r0_some {r : am_Z} {k : am_H → am_Z} {Z : am_H × Option Int32} (h : am_r0 r k = some Z) : ∃ h', r = some (h', none) ∧ k h' = some Z := by
  match r, h with
  | some (h', none), h => exact ⟨h', rfl, h⟩
theorem am_tk_some {Z : am_H × Option Int32} {k : List am_V → List am_V → am_Z} : ∀ {n : Nat} {st as : List am_V}, am_tk n st as k = some Z → ∃ ts r, st = ts ++ r ∧ ts.length = n ∧ k (ts.reverse ++ as) r = some Z := by
  intro n
  induction n with
  | zero => intro st as h; exact ⟨[], st, rfl, rfl, h⟩
  | succ n ih =>
    intro st as h
    match st, h with
    | v :: st, h =>
      obtain ⟨ts, r, rfl, hl, hk⟩ := ih (st := st) h
      exact ⟨v :: ts, r, rfl, by simp [hl], by simpa using hk⟩
theorem am_cats_sum (b0 bS : Nat) : ∀ (r : List am_V), ((r.map (am_cv b0 bS)).map fun v => v.category).sum = am_cats r := by
  intro r
  induction r with
  | nil => rfl
  | cons v r ih => simp only [List.map_cons, List.sum_cons, am_cats, ih, am_cv_cat]
theorem am_rcv_some {ci : Nat} {as : List am_V} {k : am_Z} {Z : am_H × Option Int32} (h : am_rcv true ci as k = some Z) : ∃ a as', as = vr ci a :: as' ∧ k = some Z := by
  match as, h with
  | Sum.inr (Sum.inl (t, a)) :: as', h =>
    have h : (if t = ci then k else none) = some Z := h
    obtain ⟨rfl, h1⟩ := am_if_some h
    exact ⟨a, as', rfl, h1⟩
theorem am_rcv_any {v : Bool} {ci : Nat} {as : List am_V} {k : am_Z} {Z : am_H × Option Int32} (h : am_rcv v ci as k = some Z) : k = some Z := by
  cases v with
  | false => exact h
  | true => obtain ⟨a, as', -, h1⟩ := am_rcv_some h; exact h1
theorem am_nxt {l : List am_W} {n : Nat} (h : am_pcI l (n : Int) = true) : am_pc l = n := by
  have := am_pcI_pc h
  omega
theorem am_split {mt : Nat → am_M} {own : String} {cc : ByteArray} {tb rest : List am_W} {nL pc len : Nat} {rt : Option FieldType} {ins : Instr} {aux : List Nat} {q : Int32} (h : am_chk mt own cc tb nL rt (pc, len, ins, aux, q) rest = true) (hn : ins ≠ .nop) :
    decode cc pc = .ok (ins, len) ∧ (am_sw? ins = true ∨ len = am_il ins) ∧ am_xck mt own tb nL rt pc len ins aux q rest = true := by
  unfold am_chk at h
  split at h
  rename_i e
  cases e
  split at h
  · exact absurd rfl hn
  · simp only [Bool.and_eq_true, Bool.or_eq_true, beq_iff_eq] at h
    exact ⟨of_decide_eq_true h.1.1, h.1.2, h.2⟩
theorem am_split1 {mt : Nat → am_M} {own : String} {cc : ByteArray} {tb rest : List am_W} {nL pc len : Nat} {rt : Option FieldType} {ins : Instr} {aux : List Nat} {q : Int32} (h : am_chk mt own cc tb nL rt (pc, len, ins, aux, q) rest = true) (hn : ins ≠ .nop) (hs : am_sw? ins = false) :
    decode cc pc = .ok (ins, am_il ins) ∧ am_xck mt own tb nL rt pc (am_il ins) ins aux q rest = true := by
  obtain ⟨h1, h2, h3⟩ := am_split h hn
  rw [hs] at h2
  have h2 : len = am_il ins := by simpa using h2
  subst h2
  exact ⟨h1, h3⟩
/-! WHAT A METHOD'S CONTRACT SAYS -/
/-- the room of a level -/
def am_rm (d : Nat) : Room := { frames := d, cells := 0, slots := 0, locals := 35 * d }
def am_mw (mt : Nat → am_M) (z : Nat) : List Cond := Cond.code (mt z).1 (mt z).2.1 (mt z).2.2.1 (mt z).2.2.2.1 :: am_tbl
abbrev am_A (b0 : Nat) : Nat → Prop := fun q => b0 ≤ q
def am_Pc (b0 nC : Nat) (D : va_G) (cI cH : ClassId) (as : List am_V) (h : am_H) : Array Value → State → Prop := fun v U => v = (as.map (am_cv b0 0)).toArray ∧ va_P D am_cls (am_w b0 cI cH nC h) U.heap ∧ va_K D am_cls [(cI, .int), (cH, .char)] U
def am_Qc (b0 nC : Nat) (D : va_G) (cI cH : ClassId) (h : am_H) (r : Option Int32) : Array Value → State → Outcome → State → Prop := match r with
  | some v => va_Qi (fun x (_ : Unit) => x = v ∧ am_wf nC h) (fun _ t => va_P D am_cls (am_w b0 cI cH nC h) t.heap) (am_A b0)
  | none => va_Qv (fun (_ : Unit) => am_wf nC h) (fun _ t => va_P D am_cls (am_w b0 cI cH nC h) t.heap) (am_A b0)
/-- what G answers, the methods do, in the room of level d -/
def am_GO (l : Launch) (mt : Nat → am_M) (b0 nC : Nat) (D : va_G) (cI cH : ClassId) (d : Nat) (G : Nat → List am_V → am_H → am_Z) : Prop :=
  ∀ (z : Nat) (as : List am_V) (h h' : am_H) (r : Option Int32), G z as h = some (h', r) → (∀ v ∈ as, am_ok nC False v) → am_wf nC h →
    Met l (mt z).1 (am_mw mt z) (am_rm d) (am_Pc b0 nC D cI cH as h) (am_Qc b0 nC D cI cH h' r) 0 0 (am_A b0)
/-- what is known of the methods of the table -/
def am_mck (q : am_M) : Bool := match q with
  | (y, bs, ml, rt, st, g) => decide (y.cls ≠ "java/lang/invoke/MethodHandle") && decide (y.cls ≠ "java/lang/invoke/VarHandle") && decide (ml ≤ 16) && plainFor y && (match g with
    | w0 :: w1 :: w2 :: w3 :: _ => am_word w0 (.code y bs ml rt) && am_word w3 (.initialized y.cls) && (if st then am_word w1 (.static y) else am_word w1 (.instanceMethod y) && am_word w2 (.selects y.cls y y))
    | _ => false)
def am_MT (mt : Nat → am_M) : Prop := ∀ z, am_mck (mt z) = true
theorem am_goodIn {Ts ws : List Cond} (hT : ∀ w ∈ am_tbl, w ∈ Ts) (h : ∀ w ∈ ws, w ∈ am_tbl) : GoodIn Ts ws := fun w hw => ⟨hT w (h w hw), good_of_word (List.mem_filter.mp (h w hw)).2⟩
theorem am_n8_cv {b0 bS : Nat} : ∀ {as : List am_V}, am_n8 as = true → as.map (am_cv b0 bS) = as.map (am_cv b0 0) := by
  intro as
  induction as with
  | nil => intro _; rfl
  | cons v as ih =>
    intro h
    rcases v with x | ⟨t, a⟩ | x
    · simp only [List.map_cons, ih (show am_n8 as = true from h)]
      rfl
    · have h : (if t = 8 then false else am_n8 as) = true := h
      split at h
      · cases h
      · rename_i ht
        simp only [List.map_cons, ih h, am_cv, ht, if_false]
    · simp only [List.map_cons, ih (show am_n8 as = true from h)]
      rfl
theorem am_n8_ok {nC : Nat} {sc : Prop} : ∀ {as : List am_V}, am_n8 as = true → (∀ v ∈ as, am_ok nC sc v) → ∀ v ∈ as, am_ok nC False v := by
  intro as
  induction as with
  | nil => intro _ _ v hv; cases hv
  | cons w as ih =>
    intro h hk v hv
    have htl : ∀ v ∈ as, am_ok nC sc v := fun v hv => hk v (List.mem_cons_of_mem _ hv)
    rcases w with x | ⟨t, a⟩ | x
    · rcases List.mem_cons.mp hv with rfl | hv
      · trivial
      · exact ih (show am_n8 as = true from h) htl v hv
    · have h : (if t = 8 then false else am_n8 as) = true := h
      split at h
      · cases h
      · rename_i ht
        rcases List.mem_cons.mp hv with rfl | hv
        · have := hk _ List.mem_cons_self
          simp only [am_ok, ht, if_false] at this ⊢
          exact this
        · exact ih h htl v hv
    · rcases List.mem_cons.mp hv with rfl | hv
      · trivial
      · exact ih (show am_n8 as = true from h) htl v hv
section SIM
variable {p : Program} {l : Launch} {e : Env} {R : Room} {s : State} {m : MethodId} {args : Array Value} {below : List Frame} {meth : Method} {c : Code} {cells slots : Nat} {Q : State → Prop}
variable {mt : Nat → am_M} {own : String} {cc : ByteArray} {tb : List am_W} {nL b0 bS nC L d : Nat} {xs : Nat → Int32} {D : va_G} {cI cH : ClassId} {sc : Prop} {rt : Option FieldType} {G : Nat → List am_V → am_H → am_Z}
/-- what holds throughout a method's walk -/
def am_Cx (p : Program) (s : State) (m : MethodId) (args : Array Value) (c : Code) (R : Room) (mt : Nat → am_M) (own : String) (cc : ByteArray) (tb : List am_W) (nL b0 bS nC L d : Nat) (xs : Nat → Int32) (D : va_G) (cI cH : ClassId) (sc : Prop) (rt : Option FieldType) : Prop :=
  p.tables.exec = Jvm.exec ∧ c.code = cc ∧ c.maxLocals = nL ∧ s.vm.findClass own = some m.cls ∧ (∀ w ∈ am_tbl, w.before args s = true) ∧ va_K D am_cls [(cI, .int), (cH, .char)] s ∧ am_chks mt own cc tb nL rt tb = true ∧ am_clo nC = true ∧ nC < 1000 ∧ (d + 1 ≤ R.frames ∧ 35 * d + 35 ≤ R.locals) ∧ (sc → va_X bS L xs s s.heap ∧ bS < s.heap.size ∧ ¬ b0 ≤ bS) ∧ am_MT mt
/-- what holds of a frame -/
def am_S (s : State) (nL b0 bS nC : Nat) (D : va_G) (cI cH : ClassId) (sc : Prop) (ls : am_L) (st : List am_V) (h : am_H) (sl : Array Slot) (H : Heap) (locs : List Loc) : Prop :=
  am_LR (am_cv b0 bS) nL ls sl ∧ (∀ i v, am_ix ls i = some v → am_ok nC sc v) ∧ (∀ v ∈ st, am_ok nC sc v) ∧ va_P D am_cls (am_w b0 cI cH nC h) H ∧ am_wf nC h ∧ va_S (am_A b0) s.heap H locs
theorem am_S.stk {ls : am_L} {st st' : List am_V} {h : am_H} {sl : Array Slot} {H : Heap} {locs : List Loc} (S : am_S s nL b0 bS nC D cI cH sc ls st h sl H locs) (hs : ∀ v ∈ st', am_ok nC sc v) : am_S s nL b0 bS nC D cI cH sc ls st' h sl H locs := ⟨S.1, S.2.1, hs, S.2.2.2⟩
theorem am_S.tl {ls : am_L} {v : am_V} {st : List am_V} {h : am_H} {sl : Array Slot} {H : Heap} {locs : List Loc} (S : am_S s nL b0 bS nC D cI cH sc ls (v :: st) h sl H locs) : am_S s nL b0 bS nC D cI cH sc ls st h sl H locs := S.stk fun w hw => S.2.2.1 w (List.mem_cons_of_mem _ hw)
theorem am_S.ps {ls : am_L} {v : am_V} {st : List am_V} {h : am_H} {sl : Array Slot} {H : Heap} {locs : List Loc} (S : am_S s nL b0 bS nC D cI cH sc ls st h sl H locs) (hv : am_ok nC sc v) : am_S s nL b0 bS nC D cI cH sc ls (v :: st) h sl H locs := S.stk fun w hw => (List.mem_cons.mp hw).elim (fun e => e ▸ hv) (S.2.2.1 w)
theorem am_S.hd {ls : am_L} {v : am_V} {st : List am_V} {h : am_H} {sl : Array Slot} {H : Heap} {locs : List Loc} (S : am_S s nL b0 bS nC D cI cH sc ls (v :: st) h sl H locs) : am_ok nC sc v := S.2.2.1 v List.mem_cons_self
theorem am_S.loc {ls ls' : am_L} {st : List am_V} {h : am_H} {sl sl' : Array Slot} {H : Heap} {locs : List Loc} (S : am_S s nL b0 bS nC D cI cH sc ls st h sl H locs) (h1 : am_LR (am_cv b0 bS) nL ls' sl') (h2 : ∀ i v, am_ix ls' i = some v → am_ok nC sc v) : am_S s nL b0 bS nC D cI cH sc ls' st h sl' H locs := ⟨h1, h2, S.2.2⟩
theorem am_okst {ls : am_L} {i : Nat} {v : am_V} (h : ∀ i v, am_ix ls i = some v → am_ok nC sc v) (hv : am_ok nC sc v) : ∀ j w, am_ix (am_st ls i (some v)) j = some w → am_ok nC sc w := by
  intro j w hw
  rw [am_ix_st] at hw
  split at hw
  · cases hw; exact hv
  · exact h j w hw
theorem am_okst0 {ls : am_L} {i : Nat} (h : ∀ i v, am_ix ls i = some v → am_ok nC sc v) : ∀ j w, am_ix (am_st ls i none) j = some w → am_ok nC sc w := by
  intro j w hw
  rw [am_ix_st] at hw
  split at hw
  · cases hw
  · exact h j w hw
/-- from the next row on -/
def am_Nx (p : Program) (l : Launch) (e : Env) (R : Room) (s : State) (m : MethodId) (args : Array Value) (below : List Frame) (meth : Method) (c : Code) (cells slots : Nat) (Q : State → Prop) (nL b0 bS nC : Nat) (D : va_G) (cI cH : ClassId) (sc : Prop) (n : Nat) (k : am_L → List am_V → am_H → am_Z) (Z : am_H × Option Int32) : Prop :=
  ∀ (ls : am_L) (st : List am_V) (h : am_H) (sl : Array Slot) (H : Heap) (locs : List Loc), k ls st h = some Z → am_S s nL b0 bS nC D cI cH sc ls st h sl H locs → W p l e R s m args below meth c H locs cells slots Q (F0 m n sl (st.map (am_cv b0 bS)))
/-- a reference to a cell that stands -/
theorem am_obj {h : am_H} {a t : Nat} (hok : am_ok nC sc (vr t a)) (h8 : t ≠ 8) : a < nC ∧ am_ct a = t := by
  simpa [am_ok, h8] using hok
theorem am_at_obj {h : am_H} {a t : Nat} (ha : a < nC) (ht : am_ct a = t) (h8 : t < 8) : (am_w b0 cI cH nC h)[a]? = some (b0 + a, .inr (t, (List.range (am_nf t)).map (fun j => am_fv b0 t a j (h a j)))) := by
  rw [am_w_get ha]
  simp [am_en, ht, h8]
theorem am_at_int {h : am_H} {a t : Nat} (ha : a < nC) (ht : am_ct a = t) (h8 : 100 ≤ t) : (am_w b0 cI cH nC h)[a]? = some (b0 + a, .inl (cI, t - 100, .inl (h a))) := by
  rw [am_w_get ha]
  have h1 : ¬ t < 8 := by omega
  have h2 : ¬ t = 9 := by omega
  simp [am_en, ht, h1, h2]
theorem am_at_chr {h : am_H} {a : Nat} (ha : a < nC) (ht : am_ct a = 9) : (am_w b0 cI cH nC h)[a]? = some (b0 + a, .inl (cH, 200, .inl (h a))) := by
  rw [am_w_get ha]
  simp [am_en, ht]
theorem am_en_int {a t : Nat} (ht : am_ct a = t) (h8 : 100 ≤ t) (f : Nat → Int32) : am_en b0 cI cH a f = .inl (cI, t - 100, .inl f) := by
  have h1 : ¬ t < 8 := by omega
  have h2 : ¬ t = 9 := by omega
  simp [am_en, ht, h1, h2]
theorem am_en_chr {a : Nat} (ht : am_ct a = 9) (f : Nat → Int32) : am_en b0 cI cH a f = .inl (cH, 200, .inl f) := by
  simp [am_en, ht]
/-- the new world behind a write into a cell -/
theorem am_S.wr {ls : am_L} {st : List am_V} {h : am_H} {sl : Array Slot} {H H1 : Heap} {locs locs1 : List Loc} {a : Nat} {f : Nat → Int32} (S : am_S s nL b0 bS nC D cI cH sc ls st h sl H locs) {en : va_E} (hen : am_en b0 cI cH a f = en)
    (hP : va_P D am_cls ((am_w b0 cI cH nC h).set a (b0 + a, en)) H1) (hw : am_wf nC (va_up h a f)) (hS : va_S (am_A b0) s.heap H1 locs1) : am_S s nL b0 bS nC D cI cH sc ls st (va_up h a f) sl H1 locs1 := by
  refine ⟨S.1, S.2.1, S.2.2.1, ?_, hw, hS⟩
  rw [← hen, am_w_set] at hP
  exact hP
end SIM
theorem am_cin : ∀ {ci : Nat} {C : String} {T : u_T} {N : Nat}, am_cls[ci]? = some (C, T, N) → (∀ w ∈ u_ws C T N, w ∈ am_tbl) ∧ ∃ y : Nat → FieldType, (∀ k, k < N → parseFieldDescriptor (T k).2.2.1 = some (y k)) ∧ ∀ a, a < N → ∀ b, b < N → a ≠ b → (T a).2.1 ≠ (T b).2.1 := by
  intro ci C T N h
  match ci, h with
  | 0, h => cases h; exact ⟨am_i0, am_y0, am_y0_ok, am_n0⟩
  | 1, h => cases h; exact ⟨am_i1, am_y1, am_y1_ok, am_n1⟩
  | 2, h => cases h; exact ⟨am_i2, am_y2, am_y2_ok, am_n2⟩
  | 3, h => cases h; exact ⟨am_i3, am_y3, am_y3_ok, am_n3⟩
  | 4, h => cases h; exact ⟨am_i4, am_y4, am_y4_ok, am_n4⟩
  | 5, h => cases h; exact ⟨am_i5, am_y5, am_y5_ok, am_n5⟩
  | 6, h => cases h; exact ⟨am_i6, am_y6, am_y6_ok, am_n6⟩
  | 7, h => cases h; exact ⟨am_i7, am_y7, am_y7_ok, am_n7⟩
  | k + 8, h => simp [am_cls] at h
theorem am_fck_spec {own : String} {idx kd ci sl tg off wi : Nat} {x : List Nat} (h : am_fck own idx (kd :: ci :: sl :: tg :: off :: wi :: x) = true) :
    ∃ C T N, am_cls[ci]? = some (C, T, N) ∧ sl < N ∧ N = am_nf ci ∧ (T sl).1 = C ∧ am_ft ci sl = (kd, tg, off) ∧ ci < 8 ∧ kd ≤ 2 ∧ tg ≠ 8 ∧ Cond.fieldLink own idx C (T sl).2.1 (T sl).2.2.1 ∈ am_tbl := by
  unfold am_fck at h
  dsimp only at h
  split at h
  · rename_i C T N hc
    simp only [Bool.and_eq_true, decide_eq_true_eq] at h
    obtain ⟨⟨⟨⟨⟨⟨⟨h1, h2⟩, h3⟩, h4⟩, h5⟩, h6⟩, h7⟩, h8⟩ := h
    exact ⟨C, T, N, hc, h1, h2, h3, h4, h5, h6, h7, am_word_mem h8⟩
  · cases h
theorem am_fck_aux {own : String} {idx : Nat} {aux : List Nat} (h : am_fck own idx aux = true) : ∃ kd ci sl tg off wi x, aux = kd :: ci :: sl :: tg :: off :: wi :: x := by
  match aux, h with
  | kd :: ci :: sl :: tg :: off :: wi :: x, _ => exact ⟨kd, ci, sl, tg, off, wi, x, rfl⟩
theorem am_fv_set {b0 t a sl : Nat} {f : Nat → Int32} {x : Int32} {v : Value} (hv : am_fv b0 t a sl x = v) : ((List.range (am_nf t)).map (fun j => am_fv b0 t a j (f j))).set sl v = (List.range (am_nf t)).map (fun j => am_fv b0 t a j (upd f sl x j)) := by
  apply List.ext_getElem?
  intro i
  by_cases hi : i < am_nf t
  · by_cases e : sl = i
    · subst e
      rw [List.getElem?_set_self (by simpa using hi)]
      simp [hi, upd, hv]
    · rw [List.getElem?_set_ne e]
      have : i ≠ sl := fun q => e q.symm
      simp [hi, upd, this]
  · simp [hi]
theorem am_narO {C : String} {a : Nat} : narrow (.object C) (.ref a) = .ref a ∧ fits (.object C) (.ref a) = true := ⟨rfl, rfl⟩
theorem am_narA {t : FieldType} {a : Nat} : narrow (.array t) (.ref a) = .ref a ∧ fits (.array t) (.ref a) = true := ⟨rfl, rfl⟩
theorem am_cp1 : Cond.native arraycopyName ∈ am_tbl := am_word_mem (i := 701) (by decide +kernel)
theorem am_cp2 : Cond.static arraycopyName ∈ am_tbl := am_word_mem (i := 700) (by decide +kernel)
theorem am_cp3 : Cond.initialized "java/lang/System" ∈ am_tbl := am_word_mem (i := 76) (by decide +kernel)
theorem am_tsw {x : Int32} {dd pc : Nat} {tb : List am_W} {k : Nat → am_Z} {r : am_H × Option Int32} : ∀ (os : List Int) (v : Nat) (l : List Nat), am_tsk tb pc v os l = true → v + os.length ≤ 2 ^ 31 → am_sw x dd k l = some r →
    (∃ (j : Nat) (t : Nat) (o : Int), x.toInt = (v : Int) + j ∧ os[j]? = some o ∧ k t = some r ∧ am_pcI (am_drp t tb) ((pc : Int) + o) = true) ∨ ((x.toInt < (v : Int) ∨ (v : Int) + os.length ≤ x.toInt) ∧ k dd = some r) := by
  intro os
  induction os with
  | nil =>
    intro v l h hv hs
    match l, h, hs with
    | [], _, hs => exact Or.inr ⟨by simp; omega, hs⟩
  | cons o os ih =>
    intro v l h hv hs
    match l, h, hs with
    | v' :: t :: l, h, hs =>
      simp only [am_tsk, Bool.and_eq_true, beq_iff_eq] at h
      obtain ⟨⟨h1, h2⟩, h3⟩ := h
      subst h1
      have hlen : (o :: os).length = os.length + 1 := rfl
      have hv1 : v' < 2 ^ 31 := by omega
      unfold am_sw at hs
      split at hs
      · rename_i e
        refine Or.inl ⟨0, t, o, ?_, rfl, hs, h2⟩
        rw [e, nI_toInt hv1]
        simp
      · rename_i e
        rcases ih (v' + 1) l h3 (by omega) hs with ⟨j, t', o', a1, a2, a3, a4⟩ | ⟨a1, a2⟩
        · exact Or.inl ⟨j + 1, t', o', by rw [a1]; push_cast; omega, by simpa using a2, a3, a4⟩
        · refine Or.inr ⟨?_, a2⟩
          have hne : x.toInt ≠ (v' : Int) := by
            intro q
            apply e
            apply Int32.toInt.inj
            rw [q, nI_toInt hv1]
          push_cast at a1
          rw [hlen]
          push_cast
          omega
theorem am_lsw {x : Int32} {dd pc : Nat} {tb : List am_W} {k : Nat → am_Z} {r : am_H × Option Int32} {df : Int} (hd : am_pcI (am_drp dd tb) ((pc : Int) + df) = true) : ∀ (os : List (Int × Int)) (l : List Nat), am_lsk tb pc os l = true → am_sw x dd k l = some r →
    ∃ t : Nat, am_pcI (am_drp t tb) ((pc : Int) + Op.lookupswitch.offset os df x.toInt) = true ∧ k t = some r := by
  intro os
  induction os with
  | nil =>
    intro l h hs
    match l, h, hs with
    | [], _, hs => exact ⟨dd, hd, hs⟩
  | cons o os ih =>
    intro l h hs
    match o, l, h, hs with
    | (a, o), v :: t :: l, h, hs =>
      simp only [am_lsk, Bool.and_eq_true, decide_eq_true_eq] at h
      obtain ⟨⟨⟨h1, h0⟩, h2⟩, h3⟩ := h
      unfold am_sw at hs
      rw [Op.lookupswitch.offset_cons]
      split at hs
      · rename_i e
        have : a = x.toInt := by rw [e, nI_toInt h0, h1]
        rw [if_pos this]
        exact ⟨t, h2, hs⟩
      · rename_i e
        have : ¬ a = x.toInt := by
          intro q
          apply e
          apply Int32.toInt.inj
          rw [nI_toInt h0, ← q, h1]
        rw [if_neg this]
        exact ih l h3 hs
theorem am_ick_aux {mt : Nat → am_M} {own : String} {st : Bool} {idx : Nat} {aux : List Nat} (h : am_ick mt own st idx aux = true) : ∃ z n rv ci wi x, aux = z :: n :: rv :: ci :: wi :: x ∧ (mt z).2.2.2.2.1 = st ∧ (st = false → am_cls[ci]?.map (fun q => q.1) = some (mt z).1.cls) ∧ Cond.methodLink own idx (mt z).1 ∈ am_tbl ∧ (parseMethodDescriptor (mt z).1.desc).map (fun d => d.parameters.length) = some (if st then n else n - 1) ∧ (st = false → 0 < n) ∧ ((mt z).2.2.2.1 = none ↔ rv = 0) := by
  match aux, h with
  | z :: n :: rv :: ci :: wi :: x, h =>
    simp only [am_ick, Bool.and_eq_true, Bool.or_eq_true, decide_eq_true_eq] at h
    obtain ⟨⟨⟨⟨⟨h1, h2⟩, h3⟩, h4⟩, h5⟩, h6⟩ := h
    refine ⟨z, n, rv, ci, wi, x, rfl, h1, fun e => ?_, am_word_mem h3, h4, fun e => ?_, h6⟩
    · rw [e] at h2
      simpa using h2
    · rw [e] at h5
      simpa using h5
/-- what the table says of a method -/
theorem am_mck_spec {q : am_M} (h : am_mck q = true) : q.1.cls ≠ "java/lang/invoke/MethodHandle" ∧ q.1.cls ≠ "java/lang/invoke/VarHandle" ∧ q.2.2.1 ≤ 16 ∧ plainFor q.1 = true ∧ Cond.code q.1 q.2.1 q.2.2.1 q.2.2.2.1 ∈ am_tbl ∧ Cond.initialized q.1.cls ∈ am_tbl ∧ (q.2.2.2.2.1 = true → Cond.static q.1 ∈ am_tbl) ∧ (q.2.2.2.2.1 = false → Cond.instanceMethod q.1 ∈ am_tbl ∧ Cond.selects q.1.cls q.1 q.1 ∈ am_tbl) := by
  obtain ⟨y, bs, ml, rt, st, g⟩ := q
  simp only [am_mck, Bool.and_eq_true, decide_eq_true_eq] at h
  obtain ⟨⟨⟨⟨h1, h2⟩, h3⟩, h4⟩, h5⟩ := h
  split at h5
  · rename_i w0 w1 w2 w3 x
    simp only [Bool.and_eq_true] at h5
    obtain ⟨⟨h6, h7⟩, h8⟩ := h5
    refine ⟨h1, h2, h3, h4, am_word_mem h6, am_word_mem h7, fun e => ?_, fun e => ?_⟩
    · have e : st = true := e
      subst e
      exact am_word_mem h8
    · have e : st = false := e
      subst e
      simp only [Bool.false_eq_true, if_false, Bool.and_eq_true] at h8
      exact ⟨am_word_mem h8.1, am_word_mem h8.2⟩
  · cases h5
section SIM
variable {p : Program} {l : Launch} {e : Env} {R : Room} {s : State} {m : MethodId} {args : Array Value} {below : List Frame} {meth : Method} {c : Code} {cells slots : Nat} {Q : State → Prop}
variable {mt : Nat → am_M} {own : String} {cc : ByteArray} {tb : List am_W} {nL b0 bS nC L d : Nat} {xs : Nat → Int32} {D : va_G} {cI cH : ClassId} {sc : Prop} {rt : Option FieldType} {G : Nat → List am_V → am_H → am_Z}
variable {ls : am_L} {st : List am_V} {h : am_H} {sl : Array Slot} {H : Heap} {locs : List Loc} {Z : am_H × Option Int32} {n : Nat} {k : am_L → List am_V → am_H → am_Z} {pc idx : Nat} {aux : List Nat}
/-- getfield -/
theorem am_sget (C : am_Cx p s m args c R mt own cc tb nL b0 bS nC L d xs D cI cH sc rt) (hN : am_Nx p l e R s m args below meth c cells slots Q nL b0 bS nC D cI cH sc (pc + 3) k Z) (hd : decode cc pc = .ok (.getfield idx, 3)) (hf : am_fck own idx aux = true) {nx : List am_W → am_L → List am_V → am_H → am_Z} {rest : List am_W} (hk : nx rest = k)
    (hE : am_get nx aux rest ls st h = some Z) (S : am_S s nL b0 bS nC D cI cH sc ls st h sl H locs) : W p l e R s m args below meth c H locs cells slots Q (F0 m pc sl (st.map (am_cv b0 bS))) := by
  obtain ⟨hx, hb, hml, hown, hts, hK, hchk, hclo, hnC, hroom, hsc, hmt⟩ := C
  obtain ⟨kd, ci, sl', tg, off, wi, x, rfl⟩ := am_fck_aux hf
  obtain ⟨Cn, T, N, hc, h1, h2, h3, h4, h5, h6, h7, h8⟩ := am_fck_spec hf
  obtain ⟨t, o, r, rfl, hE1⟩ := am_pa_some hE
  obtain ⟨rfl, hE2⟩ := am_if_some hE1
  subst hk
  have ht8 : t ≠ 8 := by omega
  obtain ⟨ho, hct⟩ := am_obj (h := h) S.hd ht8
  have hst : (vr t o :: r).map (am_cv b0 bS) = .ref (b0 + o) :: r.map (am_cv b0 bS) := by simp [am_cv, ht8]
  rw [hst]
  obtain ⟨hin, -⟩ := am_cin hc
  refine va_get (v := am_fv b0 t o sl' (h o sl')) hx hb hts hin hown hK S.2.2.2.1 o (am_at_obj ho hct h5) hc sl' h1 (hts _ h8) (fun x hx => by rw [h3] at hx; exact hx) (by simp [← h2, h1]) hd ?_
  match kd, h4, h6, hE2 with
  | 0, h4, _, hE =>
    have : am_fv b0 t o sl' (h o sl') = .int (h o sl') := by simp [am_fv, h4]
    rw [this]
    exact hN _ _ _ _ _ _ hE (S.tl.ps trivial)
  | 1, h4, _, hE =>
    have : am_fv b0 t o sl' (h o sl') = am_cv b0 bS (vr tg (o + off)) := by simp [am_fv, h4, am_cv, h7]
    rw [this]
    have hcl := am_clo_of hclo ho (by rw [hct]; exact h5) (j := sl') (by rw [hct, ← h2]; exact h1) (by rw [hct]; exact h4)
    exact hN _ _ _ _ _ _ hE (S.tl.ps (by simpa [am_ok, h7] using hcl))
  | 2, h4, _, hE =>
    have : am_fv b0 t o sl' (h o sl') = am_cv b0 bS (vr tg (h o sl').toNatClampNeg) := by simp [am_fv, h4, am_cv, h7]
    rw [this]
    have hcl := S.2.2.2.2.1 o ho (by rw [hct]; exact h5) sl' (by rw [hct, ← h2]; exact h1) _ _ (by rw [hct]; exact h4)
    exact hN _ _ _ _ _ _ hE (S.tl.ps (by simpa [am_ok, h7] using hcl))
  | kd + 3, _, h6, _ => omega
/-- putfield -/
theorem am_sput (C : am_Cx p s m args c R mt own cc tb nL b0 bS nC L d xs D cI cH sc rt) (hN : am_Nx p l e R s m args below meth c cells slots Q nL b0 bS nC D cI cH sc (pc + 3) k Z) (hd : decode cc pc = .ok (.putfield idx, 3)) (hf : am_fck own idx aux = true) (hp : am_pck aux = true) {nx : List am_W → am_L → List am_V → am_H → am_Z} {rest : List am_W} (hk : nx rest = k)
    (hE : am_put nx aux rest ls st h = some Z) (S : am_S s nL b0 bS nC D cI cH sc ls st h sl H locs) : W p l e R s m args below meth c H locs cells slots Q (F0 m pc sl (st.map (am_cv b0 bS))) := by
  obtain ⟨hx, hb, hml, hown, hts, hK, hchk, hclo, hnC, hroom, hsc, hmt⟩ := C
  obtain ⟨kd, ci, sl', tg, off, wi, x, rfl⟩ := am_fck_aux hf
  obtain ⟨Cn, T, N, hc, h1, h2, h3, h4, h5, h6, h7, h8⟩ := am_fck_spec hf
  subst hk
  obtain ⟨hin, y0, hy0, hnm⟩ := am_cin hc
  unfold am_pck at hp
  dsimp only at hp
  rw [hc] at hp
  dsimp only at hp
  simp only [Bool.and_eq_true, decide_eq_true_eq] at hp
  obtain ⟨hfin, hp⟩ := hp
  match kd, h4, h6, hE, hp with
  | 0, h4, _, hE, hp =>
    obtain ⟨x, r, rfl, hE1⟩ := am_pi_some hE
    obtain ⟨t, o, r, rfl, hE2⟩ := am_pa_some hE1
    obtain ⟨rfl, hE3⟩ := am_if_some hE2
    have ht8 : t ≠ 8 := by omega
    obtain ⟨ho, hct⟩ := am_obj (h := h) S.tl.hd ht8
    have hst : (vi x :: vr t o :: r).map (am_cv b0 bS) = .int x :: .ref (b0 + o) :: r.map (am_cv b0 bS) := by simp [am_cv, ht8]
    rw [hst]
    refine va_put (v := .int x) (ty := .int) hx hb hts hin y0 hy0 hnm hown hK S.2.2.2.1 (am_w_D b0 cI cH nC h) S.2.2.2.2.2 o (am_at_obj ho hct h5) hc sl' h1 (hts _ h8) (fun x hx => by rw [h3] at hx; exact hx) hfin (of_decide_eq_true hp) rfl rfl (by simp [← h2, h1]) hd (fun H1 locs1 hP1 hD1 hS1 => ?_)
    refine hN _ _ _ _ _ _ hE3 (am_S.wr S.tl.tl (f := upd (h o) sl' x) ?_ hP1 (am_wf_int S.2.2.2.2.1 (by rw [hct, h4]; intro t off q; cases q)) hS1)
    simp only [am_en, hct, h5, if_true]
    rw [am_fv_set (x := x) (by simp [am_fv, h4])]
  | 1, _, _, hE, _ => cases hE
  | 2, h4, _, hE, hp =>
    obtain ⟨t', a, r, rfl, hE4⟩ := am_pa_some hE
    obtain ⟨t, o, r, rfl, hE5⟩ := am_pa_some hE4
    obtain ⟨rfl, hE6⟩ := am_if_some hE5
    obtain ⟨rfl, hE7⟩ := am_if_some hE6
    have ht8 : t ≠ 8 := by omega
    obtain ⟨ho, hct⟩ := am_obj (h := h) S.tl.hd ht8
    obtain ⟨ha, hca⟩ := am_obj (h := h) S.hd h7
    have hst : (vr t' a :: vr t o :: r).map (am_cv b0 bS) = .ref (b0 + a) :: .ref (b0 + o) :: r.map (am_cv b0 bS) := by simp [am_cv, ht8, h7]
    rw [hst]
    have ha31 : a < 2 ^ 31 := by omega
    obtain ⟨ty, hty, hn, hfi⟩ : ∃ ty, parseFieldDescriptor (T sl').2.2.1 = some ty ∧ narrow ty (.ref (b0 + a)) = .ref (b0 + a) ∧ fits ty (.ref (b0 + a)) = true := by
      have hp : (match parseFieldDescriptor (T sl').2.2.1 with
        | some (.object _) => true
        | some (.array _) => true
        | _ => false) = true := hp
      split at hp
      · rename_i ty hty; exact ⟨_, hty, rfl, rfl⟩
      · rename_i ty hty; exact ⟨_, hty, rfl, rfl⟩
      · cases hp
    refine va_put (v := .ref (b0 + a)) (ty := ty) hx hb hts hin y0 hy0 hnm hown hK S.2.2.2.1 (am_w_D b0 cI cH nC h) S.2.2.2.2.2 o (am_at_obj ho hct h5) hc sl' h1 (hts _ h8) (fun x hx => by rw [h3] at hx; exact hx) hfin hty hn hfi (by simp [← h2, h1]) hd (fun H1 locs1 hP1 hD1 hS1 => ?_)
    refine hN _ _ _ _ _ _ hE7 (am_S.wr S.tl.tl (f := upd (h o) sl' (nI a)) ?_ hP1 (am_wf_ref S.2.2.2.2.1 (by rw [hct]; exact h4) ha ha31 hca) hS1)
    simp only [am_en, hct, h5, if_true]
    rw [am_fv_set (x := nI a) (by simp [am_fv, h4, nI_clamp ha31])]
  | kd + 3, _, h6, _, _ => omega
/-- the copy of a row -/
theorem am_scpy (C : am_Cx p s m args c R mt own cc tb nL b0 bS nC L d xs D cI cH sc rt) (hN : am_Nx p l e R s m args below meth c cells slots Q nL b0 bS nC D cI cH sc (pc + 3) k Z) (hd : decode cc pc = .ok (.invokestatic idx, 3)) (hw : Cond.methodLink own idx arraycopyName ∈ am_tbl) {nx : List am_W → am_L → List am_V → am_H → am_Z} {rest : List am_W} (hk : nx rest = k)
    (hE : am_cpy nx rest ls st h = some Z) (S : am_S s nL b0 bS nC D cI cH sc ls st h sl H locs) : W p l e R s m args below meth c H locs cells slots Q (F0 m pc sl (st.map (am_cv b0 bS))) := by
  obtain ⟨hx, hb, hml, hown, hts, hK, hchk, hclo, hnC, hroom, hsc, hmt⟩ := C
  subst hk
  obtain ⟨n, r, rfl, hE1⟩ := am_pi_some hE
  obtain ⟨dp, r, rfl, hE2⟩ := am_pi_some hE1
  obtain ⟨t1, a1, r, rfl, hE3⟩ := am_pa_some hE2
  obtain ⟨sp, r, rfl, hE4⟩ := am_pi_some hE3
  obtain ⟨t0, a0, r, rfl, hE5⟩ := am_pa_some hE4
  obtain ⟨ht0, hE6⟩ := am_ifn_some hE5
  obtain ⟨ht1, hE7⟩ := am_ifn_some hE6
  obtain ⟨hcat, hE8⟩ := am_ifn_some hE7
  obtain ⟨hin, hE9⟩ := am_ifn_some hE8
  have e0 : t0 ≠ 8 := by omega
  have e1 : t1 ≠ 8 := by omega
  obtain ⟨ho0, hc0⟩ := am_obj (h := h) S.tl.tl.tl.tl.hd e0
  obtain ⟨ho1, hc1⟩ := am_obj (h := h) S.tl.tl.hd e1
  have hst : (vi n :: vi dp :: vr t1 a1 :: vi sp :: vr t0 a0 :: r).map (am_cv b0 bS) = .int n :: .int dp :: .ref (b0 + a1) :: .int sp :: .ref (b0 + a0) :: r.map (am_cv b0 bS) := by simp [am_cv, e0, e1]
  rw [hst]
  simp only [not_or, Nat.not_lt] at hin
  obtain ⟨i1, i2, i3, i4, i5⟩ := hin
  refine va_copyi (ty := .int) hx hb (hml.trans S.1.2.1.symm) hown (hts _ hw) (hts _ am_cp1) (hts _ am_cp2) (hts _ am_cp3) hK S.2.2.2.1 (am_w_D b0 cI cH nC h) S.2.2.2.2.2 a0 a1 0 0 (am_at_int ho0 hc0 (by omega)) (am_at_int ho1 hc1 (by omega)) rfl rfl rfl i1 i2 i3 i4 i5 (fun _ _ => rfl) (by omega) ?_ hd (fun H1 locs1 hP1 hD1 hS1 => ?_)
  · have hq := am_cats_sum b0 bS r
    have hq2 : (List.map (fun v => Value.category v) (List.map (am_cv b0 bS) r)).sum = am_cats r := hq
    have hnw : nativeFrameWords "java/lang/System" "arraycopy" 5 = 7 := by decide
    rw [hq2, hnw]
    omega
  · refine hN _ _ _ _ _ _ hE9 (am_S.wr S.tl.tl.tl.tl.tl (f := va_cpy (h a0) (h a1) sp.toNatClampNeg dp.toNatClampNeg n.toNatClampNeg) (am_en_int hc1 (by omega) _) hP1 (am_wf_arr S.2.2.2.2.1 (by omega)) hS1)
/-- what comes back from a call -/
theorem am_back {h' : am_H} {r' : Option Int32} {st0 rest : List am_V} {a : Array Value} (hr : va_Run p l e R s m args below meth c H locs cells slots 0 0 (F0 m pc sl (st0.map (am_cv b0 bS))) (rest.map (am_cv b0 bS)) (am_Qc b0 nC D cI cH h' r' a) (am_A b0)) (S : am_S s nL b0 bS nC D cI cH sc ls rest h sl H locs)
    (hN : am_Nx p l e R s m args below meth c cells slots Q nL b0 bS nC D cI cH sc (pc + 3) k Z) (hk : k ls (match r' with | some x => vi x :: rest | none => rest) h' = some Z) : W p l e R s m args below meth c H locs cells slots Q (F0 m pc sl (st0.map (am_cv b0 bS))) := by
  match r', hr, hk with
  | some v, hr, hk =>
    refine va_calli (a := a) (A0 := am_A b0) (H0 := s.heap) hr S.2.2.2.2.2 (fun _ _ h => h) (fun _ h => h) (fun r u t H1 locs1 ht hvm hp hB hz hq hS1 => ?_)
    obtain ⟨rfl, hwf⟩ := hp
    refine hN _ _ _ _ _ _ hk ⟨S.1, S.2.1, ?_, by rw [← ht]; exact hB, hwf, hS1⟩
    intro w hw
    rcases List.mem_cons.mp hw with rfl | hw
    · trivial
    · exact S.2.2.1 w hw
  | none, hr, hk =>
    refine va_callv (a := a) (A0 := am_A b0) (H0 := s.heap) hr S.2.2.2.2.2 (fun _ _ h => h) (fun _ h => h) (fun u t H1 locs1 ht hvm hp hB hz hq hS1 => ?_)
    exact hN _ _ _ _ _ _ hk ⟨S.1, S.2.1, S.2.2.1, by rw [← ht]; exact hB, hp, hS1⟩
theorem am_blind {as : List am_V} : FrameBlind (am_Pc b0 nC D cI cH as h) := fun a U g mk q => ⟨q.1, q.2.1, va_K.moved (u := U) (U := U.calling g mk a) (Vm.Alike.refl U.vm) q.2.2⟩
/-- a call -/
theorem am_sinv (C : am_Cx p s m args c R mt own cc tb nL b0 bS nC L d xs D cI cH sc rt) (hG : am_GO l mt b0 nC D cI cH d G) (hcs : cells ≤ R.cells ∧ slots ≤ R.slots) (hN : am_Nx p l e R s m args below meth c cells slots Q nL b0 bS nC D cI cH sc (pc + 3) k Z) (v : Bool) (hd : decode cc pc = .ok (if v then .invokevirtual idx else .invokestatic idx, 3)) (hi : am_ick mt own (!v) idx aux = true) {nx : List am_W → am_L → List am_V → am_H → am_Z} {rest : List am_W} (hk : nx rest = k)
    (hE : am_inv G nx v aux rest ls st h = some Z) (S : am_S s nL b0 bS nC D cI cH sc ls st h sl H locs) : W p l e R s m args below meth c H locs cells slots Q (F0 m pc sl (st.map (am_cv b0 bS))) := by
  have C0 := C
  obtain ⟨hx, hb, hml, hown, hts, hK, hchk, hclo, hnC, hroom, hsc, hmt⟩ := C
  subst hk
  obtain ⟨z, n, rv, ci, wi, x, rfl, i1, i2, i3, i4, i5, i6⟩ := am_ick_aux hi
  obtain ⟨ts, r, rfl, hlen, hE1⟩ := am_tk_some hE
  obtain ⟨hcat, hE2⟩ := am_ifn_some hE1
  obtain ⟨hn8, hE3⟩ := am_ifn_some hE2
  have hn8 : am_n8 (ts.reverse ++ []) = true := by simpa using hn8
  rw [List.append_nil] at hn8 hE3
  obtain ⟨m1, m2, m3, m4, m5, m6, m7, m8⟩ := am_mck_spec (hmt z)
  have hok : ∀ v ∈ ts.reverse, am_ok nC sc v := fun v hv => S.2.2.1 v (List.mem_append_left _ (List.mem_reverse.mp hv))
  have hok0 := am_n8_ok hn8 hok
  have Sr : am_S s nL b0 bS nC D cI cH sc ls r h sl H locs := S.stk fun w hw => S.2.2.1 w (List.mem_append_right _ hw)
  have hW : 2 * (F0 m pc sl ((ts ++ r).map (am_cv b0 bS))).monitorRoom + ((r.map (am_cv b0 bS)).map fun v => v.category).sum ≤ 8 := lv_room (by rw [am_cats_sum]; omega)
  have hws : ∀ w ∈ am_mw mt z, w ∈ am_tbl := fun w hw => (List.mem_cons.mp hw).elim (fun e => e ▸ m5) id
  have hR : (am_rm d).frames + 1 ≤ R.frames ∧ 8 + ((mt z).2.2.1 + 11) + (am_rm d).locals ≤ R.locals := by
    refine ⟨hroom.1, ?_⟩
    show 8 + ((mt z).2.2.1 + 11) + 35 * d ≤ R.locals
    omega
  have hpre : ∀ U : State, U.heap = H → s.WarmedH U.vm → am_Pc b0 nC D cI cH ts.reverse h (ts.reverse.map (am_cv b0 bS)).toArray U := fun U hU hWm => ⟨by rw [am_n8_cv hn8], by rw [hU]; exact S.2.2.2.1, va_K.moved hWm.alike hK⟩
  -- the answer
  have key : ∀ rv : Nat, (match rv with
      | 0 => am_r0 (G z ts.reverse h) fun h => nx rest ls r h
      | _ => am_r1 (G z ts.reverse h) fun h x => nx rest ls (vi x :: r) h) = some Z → ∃ h' r', G z ts.reverse h = some (h', r') ∧ nx rest ls (match r' with | some x => vi x :: r | none => r) h' = some Z := by
    intro rv hq
    cases rv with
    | zero => obtain ⟨h', a1, a2⟩ := am_r0_some hq; exact ⟨h', none, a1, a2⟩
    | succ rv => obtain ⟨h', x, a1, a2⟩ := am_r1_some hq; exact ⟨h', some x, a1, a2⟩
  obtain ⟨h', r', hGz, hk⟩ := key rv (am_rcv_any hE3)
  have hM := hG z ts.reverse h h' r' hGz hok0 S.2.2.2.2.1
  have hCB : CallB R s args own idx (mt z).1 (mt z).2.1 (mt z).2.2.1 (mt z).2.2.2.1 (am_mw mt z) (am_rm d) 0 0 (if (!v) then n else n - 1) :=
    callB_of (Ts := am_tbl) (ws := am_mw mt z) (if (!v) then n else n - 1) hts (am_goodIn (fun w h => h) hws) rfl rfl rfl (hts _ m6) (hts _ i3) ⟨m1, m2, i4⟩ hR
  have hf : cells + 0 ≤ R.cells ∧ slots + 0 ≤ R.slots := hcs
  match v, hE3, hd, i1, i2, i5, hCB with
  | false, hE, hd, i1, i2, i5, hCB =>
    have hrun := va_runS (p := p) (e := e) (below := below) (meth := meth) (H := H) (locs := locs) (cells := cells) (slots := slots) (Ts := am_tbl) (g := F0 m pc sl ((ts ++ r).map (am_cv b0 bS))) (As := ts.reverse.map (am_cv b0 bS)) (rest := r.map (am_cv b0 bS)) ⟨hx, hb, hml, hown, hts⟩ hM ⟨hCB, hts _ (m7 i1)⟩ ⟨am_blind, hpre⟩ rfl (by simp [hlen]) S.1.2.1 (by simp [List.map_reverse]) hW hd hf
    exact am_back hrun Sr hN hk
  | true, hE, hd, i1, i2, i5, hCB =>
    obtain ⟨a, as, htr, -⟩ := am_rcv_some hE
    have hcl := i2 rfl
    obtain ⟨q, hq, hq1⟩ := Option.map_eq_some_iff.mp hcl
    have ht8 : ci < 8 := by
      have := (List.getElem?_eq_some_iff.mp hq).1
      simpa [am_cls] using this
    have hne : ci ≠ 8 := by omega
    have hrok : am_ok nC sc (vr ci a) := hok _ (by rw [htr]; exact List.mem_cons_self)
    obtain ⟨ha, hct⟩ := am_obj (h := h) hrok hne
    have hts' : ts = as.reverse ++ [vr ci a] := by
      have := congrArg List.reverse htr
      simpa using this
    have hrv := va_recv hK S.2.2.2.1 hq (am_at_obj ha hct ht8)
    rw [hq1] at hrv
    have hcv : ts.reverse.map (am_cv b0 bS) = .ref (b0 + a) :: as.map (am_cv b0 bS) := by
      rw [htr]
      simp [am_cv, hne]
    rw [hcv] at hpre
    have hrun := va_runV (p := p) (e := e) (below := below) (meth := meth) (H := H) (locs := locs) (cells := cells) (slots := slots) (Ts := am_tbl) (g := F0 m pc sl ((ts ++ r).map (am_cv b0 bS))) (b := b0 + a) (As := as.map (am_cv b0 bS)) (rest := r.map (am_cv b0 bS)) ⟨hx, hb, hml, hown, hts⟩ hM ⟨hCB, hts _ (m8 i1).1, hts _ (m8 i1).2⟩ ⟨am_blind, hrv, hpre⟩ rfl (by rw [hts'] at hlen; simp at hlen; simp; omega) S.1.2.1 (by rw [hts']; simp [List.map_reverse, am_cv, hne]) hW hd hf
    exact am_back hrun Sr hN hk
end SIM
