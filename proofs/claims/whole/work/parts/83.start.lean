/-! THE LAW, from its entry -/
/-! THE CLAIM OUT OF ONE WALK OF THE LAW'S BODY. Your part is whole_start (and what it stands on); all else here is the same for every law, but numbers. -/
def R_law : String := "RoomsOfHoursLaw"
def lw_P (b : Addr) (xs : List Int32) (args : Array Value) (s : State) : Prop := args = #[.ref b] ∧ s.IntsAt b xs ∧ xs.length ≤ 320 ∧ (Jvm.Cond.and given_1 narrow_1).before args s = true
def lw_Q (_ : Array Value) (s : State) (o : Outcome) (t : State) : Prop := o = .returned (some (.int 1)) ∧ Framed s o t [] 124 4203
def lw_Z (below : List Frame) (a : Array Value) (s : State) : State → Prop := fun t => ∃ o, t.status = .running ∧ Ended t below o ∧ lw_Q a s o t
/-- the law's own end, with 1 on the stack, nothing written that was there before, its room as the claim has it -/
theorem lw_ret {p : Program} {l : Launch} {e : Env} {s : State} {m : MethodId} {below : List Frame} {meth : Method} {c : Code} {b : Nat} (hx : p.tables.exec = Jvm.exec) (hb : c.code = code) (hr : meth.sig.returnType = ret) (hlocks : meth.locks = false) {pc : Nat} {H : Heap} {ls : Array Slot} (hdg : decode code pc = .ok (.ireturn, 1)) : W p l e room_1 s m #[Value.ref b] below meth c H [] 124 4203 (lw_Z below #[Value.ref b] s) (F0 m pc ls [.int 1]) := by
  intro T hT X
  obtain ⟨fs, hret, hrun, hended, hW, hframe⟩ := X.leave (v := some (.int 1)) (hlocks := hlocks) (fun h => by rw [hr] at h; cases h)
  have hmeth' : T.vm.method? m = some meth := X.method'
  refine ⟨T.setFrames fs, ?_, .returned (some (.int 1)), hrun, hended, rfl, ⟨_, rfl⟩, hW, hframe⟩
  jvm_step X.here [X.here.top, hx, hb, hdg, hmeth', hr, ret, narrow_b1]
  (try refine ⟨rfl, ?_⟩); (try refine ⟨rfl, ?_⟩)
  first | (intro acts; rw [hret _ acts rfl rfl rfl]) | rw [hret _ _ rfl rfl rfl]
  exact Steps.refl _
/-- what holds at the law's entry: the machine, the code, the tables' words (any of lw_tbl by 'hts w (by decide +kernel)'), the script of L ints xs at the cell b, what the Statement gives of the start (any of its parts by flat_of_before) -/
def lw_At (p : Program) (s : State) (m : MethodId) (meth : Method) (c : Code) (b L : Nat) (xs : Nat → Int32) : Prop :=
  p.tables.exec = Jvm.exec ∧ c.code = code ∧ meth.sig.returnType = ret ∧ c.maxLocals = 4 ∧ s.vm.findClass R_law = some m.cls ∧ (∀ w ∈ lw_tbl, w.before #[Value.ref b] s = true) ∧ va_X b L xs s s.heap ∧ b < s.heap.size ∧ meth.locks = false ∧ (Jvm.Cond.and given_1 narrow_1).before #[Value.ref b] s = true
theorem an_K {args : Array Value} {s : State} {ty : FieldType} (h : (Cond.arrayClass ty).before args s = true) : ∃ cA : ClassId, ArrOfT s cA ty ∧ s.vm.findClass ("[" ++ ty.toString) = some cA := by
  obtain ⟨cA, kA, comp, h1, h2, h3⟩ := Cond.arrayClass_spec h
  exact ⟨cA, fun n z => ⟨fun k h => (by cases h), kA, h2, comp, h3⟩, h1⟩
/-- what the tables and the start say: the classes, the text constant -/
theorem start_K {s : State} {b : Nat} (hts : ∀ w ∈ lw_tbl, w.before #[Value.ref b] s = true) : ∃ (D : va_G) (cI cH : ClassId), va_K D am_cls [(cI, .int), (cH, .char)] s := by
  have htsA : ∀ w ∈ am_tbl, w.before #[Value.ref b] s = true := fun w hw => hts w (List.mem_filter.mp hw).1
  obtain ⟨c0, i0, k0⟩ := u_known (C := am_R0) (T := am_T0) (N := 4) (n := 4) htsA am_i0 (htsA _ (am_word_mem (i := 245) (by decide +kernel)))
  obtain ⟨c1, i1, k1⟩ := u_known (C := am_R1) (T := am_T1) (N := 15) (n := 15) htsA am_i1 (htsA _ (am_word_mem (i := 183) (by decide +kernel)))
  obtain ⟨c2, i2, k2⟩ := u_known (C := am_R2) (T := am_T2) (N := 19) (n := 19) htsA am_i2 (htsA _ (am_word_mem (i := 86) (by decide +kernel)))
  obtain ⟨c3, i3, k3⟩ := u_known (C := am_R3) (T := am_T3) (N := 4) (n := 4) htsA am_i3 (htsA _ (am_word_mem (i := 268) (by decide +kernel)))
  obtain ⟨c4, i4, k4⟩ := u_known (C := am_R4) (T := am_T4) (N := 4) (n := 4) htsA am_i4 (htsA _ (am_word_mem (i := 309) (by decide +kernel)))
  obtain ⟨c5, i5, k5⟩ := u_known (C := am_R5) (T := am_T5) (N := 4) (n := 4) htsA am_i5 (htsA _ (am_word_mem (i := 288) (by decide +kernel)))
  obtain ⟨c6, i6, k6⟩ := u_known (C := am_R6) (T := am_T6) (N := 13) (n := 13) htsA am_i6 (htsA _ (am_word_mem (i := 78) (by decide +kernel)))
  obtain ⟨c7, i7, k7⟩ := u_known (C := am_R7) (T := am_T7) (N := 45) (n := 45) htsA am_i7 (htsA _ (am_word_mem (i := 838) (by decide +kernel)))
  obtain ⟨cI, aI, nI1⟩ := an_K (ty := .int) (htsA _ (am_word_mem (i := 181) (by decide +kernel)))
  obtain ⟨cH, aH, nH1⟩ := an_K (ty := .char) (htsA _ (am_word_mem (i := 180) (by decide +kernel)))
  refine ⟨(fun k => match k with | 0 => c0 | 1 => c1 | 2 => c2 | 3 => c3 | 4 => c4 | 5 => c5 | 6 => c6 | _ => c7, fun k => match k with | 0 => i0 | 1 => i1 | 2 => i2 | 3 => i3 | 4 => i4 | 5 => i5 | 6 => i6 | _ => i7), cI, cH, fun k q hq => ?_, fun k q hq => ?_⟩
  · match k, hq with
    | 0, hq => cases hq; exact k0
    | 1, hq => cases hq; exact k1
    | 2, hq => cases hq; exact k2
    | 3, hq => cases hq; exact k3
    | 4, hq => cases hq; exact k4
    | 5, hq => cases hq; exact k5
    | 6, hq => cases hq; exact k6
    | 7, hq => cases hq; exact k7
    | k + 8, hq => simp [am_cls] at hq
  · match k, hq with
    | 0, hq => cases hq; exact ⟨aI, nI1⟩
    | 1, hq => cases hq; exact ⟨aH, nH1⟩
    | k + 2, hq => simp at hq
set_option maxHeartbeats 4000000 in
set_option maxRecDepth 100000 in
theorem start_S {s : State} {b : Nat} (hts : ∀ w ∈ lw_tbl, w.before #[Value.ref b] s = true) (hgv : (Jvm.Cond.and given_1 narrow_1).before #[Value.ref b] s = true) : ∃ (adK adV : Nat → Nat) (vF : Value), sx (am_A s.heap.size) adK adV vF s s.heap ∧ vk_R am_R6 69 sx_t (adK 0) s := by
  have hs := flat_of_before _ hgv
  have hA : ∀ a : Nat, a < s.heap.size → ¬ am_A s.heap.size a := fun a h z => Nat.not_le.mpr h z
  have hm : ∀ j, j < 75 → (Cond.eq (.elem (.field (.string "RoomsOfHours" 69) "java/lang/String" "value" "[B") (.int (Int32.ofNat j))) (.int (sx_B.getD j 0))) ∈ flatC (Jvm.Cond.and given_1 narrow_1) := by decide +kernel
  obtain ⟨adK, adV, hV, hT⟩ := vk_Sof (N := 1) (tm := fun _ => .string "RoomsOfHours" 69) (len := [75]) (byt := [sx_B]) (A := am_A s.heap.size) (args := #[Value.ref b]) (s := s) (fun i hi => by rw [show i = 0 by omega]; decide)
    (fun i _ => hs _ (by decide +kernel)) (fun i _ => hs _ (by decide +kernel)) (fun i _ => hs _ (by decide +kernel)) (fun i hi => by
      have : i = 0 := by omega
      subst this
      exact hs _ (by decide +kernel)) (fun i hi j hj => by
      have : i = 0 := by omega
      subst this
      exact hs _ (hm j hj)) (fun i j hi hj hij => absurd (by omega) hij) hA
  obtain ⟨vF, hv, hvr⟩ := Cond.isRef_spec (hs (Cond.isRef (.static "jdk/internal/util/Preconditions" "SIOOBE_FORMATTER" "Ljava/util/function/BiFunction;")) (by decide +kernel))
  refine ⟨adK, adV, vF, ⟨hV, va_Zof (hts _ (List.mem_of_getElem? (i := 339) (by decide +kernel))) (hts _ (List.mem_of_getElem? (i := 68) (by decide +kernel))) (va_eqi (hs _ (by decide +kernel))) hA, va_Zof (hts _ (List.mem_of_getElem? (i := 358) (by decide +kernel))) (hts _ (List.mem_of_getElem? (i := 71) (by decide +kernel))) hv hA, ?_⟩, vk_R.of (A := #[Value.ref b]) (hts _ (List.mem_of_getElem? (i := 329) (by decide +kernel))) (hT 0 (by decide))⟩
  cases vF with
  | null => exact Or.inl rfl
  | ref x => exact Or.inr ⟨x, rfl⟩
  | _ => simp [Value.isRef] at hvr
theorem start_N {s : State} {b : Nat} (hts : ∀ w ∈ lw_tbl, w.before #[Value.ref b] s = true) : cn_N s := by
  unfold cn_N
  exact ⟨va_Nw.of rfl (hts _ (List.mem_of_getElem? (i := 87) (by decide +kernel))), va_Nw.of rfl (hts _ (List.mem_of_getElem? (i := 246) (by decide +kernel))), va_Nw.of rfl (hts _ (List.mem_of_getElem? (i := 269) (by decide +kernel))), va_Nw.of rfl (hts _ (List.mem_of_getElem? (i := 289) (by decide +kernel))), va_Nw.of rfl (hts _ (List.mem_of_getElem? (i := 310) (by decide +kernel))), trivial⟩
theorem cn_N_same {u U : State} (h : U.vm = u.vm) (q : cn_N u) : cn_N U := ⟨va_Nw.same rfl h.symm q.1, va_Nw.same rfl h.symm q.2.1, va_Nw.same rfl h.symm q.2.2.1, va_Nw.same rfl h.symm q.2.2.2.1, va_Nw.same rfl h.symm q.2.2.2.2.1, trivial⟩
theorem cn_N_warm {s U : State} (hW : s.WarmedH U.vm) (q : cn_N s) : cn_N U := ⟨va_Nw.warmM hW q.1, va_Nw.warmM hW q.2.1, va_Nw.warmM hW q.2.2.1, va_Nw.warmM hW q.2.2.2.1, va_Nw.warmM hW q.2.2.2.2.1, trivial⟩
set_option maxHeartbeats 4000000 in
set_option maxRecDepth 100000 in
theorem law_chk : am_chks am_mt "RoomsOfHoursLaw" code cL_law 4 (some .boolean) cL_law = true := law_ckA
