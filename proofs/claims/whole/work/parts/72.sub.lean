/-! AN OBJECT IS MADE and laid into a field of the root -/
theorem cn_P.w1 {D : va_G} {b0 n : Nat} {E : Nat → va_E} {H : Heap} (h : cn_P D b0 n E H) {o : Nat} (ho : o < n) {x : va_E} (hx : E o = x) : va_P D am_cls [(b0 + o, x)] H := by
  intro k q hq
  have hk : k < 1 := (List.getElem?_eq_some_iff.mp hq).1
  rw [show k = 0 by omega] at hq
  cases hq
  rw [← hx]
  exact h.2 o ho
/-- the heap is as long as the cells counted -/
theorem cn_size {p : Program} {l : Launch} {e : Env} {R : Room} {s : State} {m : MethodId} {args : Array Value} {below : List Frame} {meth : Method} {c : Code} {H : Heap} {locs : List Loc} {cells slots : Nat} {Q : State → Prop} {g : JFrame} (k : H.size ≤ s.heap.size + cells → W p l e R s m args below meth c H locs cells slots Q g) : W p l e R s m args below meth c H locs cells slots Q g := by
  intro T hT X
  exact k (by rw [← hT]; exact X.heapSize) T hT X
section CS
variable {p : Program} {l : Launch} {e : Env} {R : Room} {s : State} {m : MethodId} {args : Array Value} {below : List Frame} {meth : Method} {c : Code} {H : Heap} {locs : List Loc} {cells slots : Nat} {Q : State → Prop}
variable {cc : ByteArray} {pc nL : Nat} {ls : Array Slot} {D : va_G} {cI cH : ClassId} {H0 : Heap} {b0 n : Nat} {E : Nat → va_E}
theorem cn_sub (hexec : p.tables.exec = Jvm.exec) (hb : c.code = cc) (hml : c.maxLocals = nL) (hsl : ls.size = nL) (hts : ∀ w ∈ am_tbl, w.before args s = true) (hown : s.vm.findClass am_R6 = some m.cls) (hin : meth.name = "<init>") (hK : va_K D am_cls [(cI, .int), (cH, .char)] s) (hl0 : ls[0]? = some (.val (.ref b0)))
    (hP : cn_P D b0 n E H) (hS : va_S (am_A b0) H0 H locs) {fs : List Value} (h0n : 0 < n) (hE0 : E 0 = .inr (6, fs))
    {C : String} {T : u_T} {N ci : Nat} (ty : Nat → FieldType) (hiw : ∀ w ∈ u_ws C T N, w ∈ am_tbl) (hty : ∀ k, k < N → parseFieldDescriptor (T k).2.2.1 = some (ty k)) (hc : am_cls[ci]? = some (C, T, N)) {nul : List Value} (hnul : ∀ j, j < N → defaultValue (ty j) = vp_V nul j)
    (iC iM iF : Nat) (wC : Cond.classLink am_R6 iC C ∈ am_tbl) (wI : Cond.instantiable C N ∈ am_tbl) (wN : Cond.initialized C ∈ am_tbl)
    {y : MethodName} {bytes : ByteArray} {maxL mc ms : Nat} {As : List Value} {F : Nat → va_E} (hM : Met l y (Cond.code y bytes maxL none :: am_tbl) ({ frames := 1, cells := mc, slots := ms, locals := 12 }) (va_Pc (.ref (b0 + n) :: As) (fun U => cn_P D (b0 + n) 1 (lf_E ci nul cI []) U.heap ∧ va_K D am_cls [(cI, .int), (cH, .char)] U)) (va_Qv (fun (_ : Unit) => True) (fun _ t => cn_P D (b0 + n) (1 + mc) F t.heap) (am_A (b0 + n))) mc ms (am_A (b0 + n)))
    (wY : Cond.code y bytes maxL none ∈ am_tbl) (wL : Cond.methodLink am_R6 iM y ∈ am_tbl ∨ va_Nw (.methodLinkNest am_R6 iM y am_R6) s) (wM : Cond.instanceMethod y ∈ am_tbl) (hy1 : y.name = "<init>") (hyc : y.cls = C) (hd : y.cls ≠ "java/lang/invoke/MethodHandle" ∧ y.cls ≠ "java/lang/invoke/VarHandle" ∧ (parseMethodDescriptor y.desc).map (fun d => d.parameters.length) = some As.length) (hmx : maxL ≤ 4) (hAs : As.length ≤ 1)
    (k : Nat) (hk : k < 13) (wF : Cond.fieldLink am_R6 iF am_R6 (am_T6 k).2.1 (am_T6 k).2.2.1 ∈ am_tbl) (hT1 : (am_T6 k).1 = am_R6) (hfin : (am_T6 k).2.2.2 = false ∨ ((am_T6 k).2.2.2 = true ∧ meth.name = "<init>" ∧ (am_T6 k).1 = am_R6)) {tyF : FieldType} (hdF : parseFieldDescriptor (am_T6 k).2.2.1 = some tyF) (hnr : narrow tyF (.ref (b0 + n)) = .ref (b0 + n)) (hfit : fits tyF (.ref (b0 + n)) = true) (hl : k < fs.length)
    (d0 : decode cc pc = .ok (.aload_n 0, 1)) (d1 : decode cc (pc + 1) = .ok (.new iC, 3)) (d2 : decode cc (pc + 1 + 3) = .ok (.dup, 1)) (pc3 : Nat)
    (mid : ∀ H1 : Heap, cn_P D b0 (n + 1) (cn_up E n (.inr (ci, nul))) H1 → W p l e R s m args below meth c H1 locs (cells + 1) (slots + N) Q (F0 m pc3 ls (As.reverse ++ [.ref (b0 + n), .ref (b0 + n), .ref b0])) → W p l e R s m args below meth c H1 locs (cells + 1) (slots + N) Q (F0 m (pc + 1 + 3 + 1) ls [.ref (b0 + n), .ref (b0 + n), .ref b0]))
    (d3 : decode cc pc3 = .ok (.invokespecial iM, 3)) (d4 : decode cc (pc3 + 3) = .ok (.putfield iF, 3)) (hcells : cells + 1 + mc ≤ R.cells) (hslots : slots + N + ms ≤ R.slots) (hfr : 2 ≤ R.frames) (hlo : 40 ≤ R.locals)
    (kk : ∀ (H1 : Heap) (locs1 : List Loc), cn_P D b0 (n + 1 + mc) (cn_up (cn_jn E n F) 0 (.inr (6, fs.set k (.ref (b0 + n))))) H1 → va_S (am_A b0) H0 H1 locs1 → W p l e R s m args below meth c H1 locs1 (cells + 1 + mc) (slots + N + ms) Q (F0 m (pc3 + 3 + 3) ls [])) : W p l e R s m args below meth c H locs cells slots Q (F0 m pc ls []) := by
  refine lv_aload_n hexec hb d0 rfl hl0 ?_
  refine cn_new (C := C) (T := T) (N := N) (ci := ci) hexec hb hts hiw ty hty hown (hts _ wC) (hts _ wI) (hts _ wN) hK hP hS hc hnul (by omega) (by omega) d1 (fun H1 hP1 hS1 => ?_)
  refine lv_dup hexec hb d2 rfl ?_
  refine mid H1 hP1 ?_
  have hsz := hP1.1
  have hPc : cn_P D (b0 + n) 1 (lf_E ci nul cI []) H1 := by
    refine ⟨by omega, fun j hj => ?_⟩
    have hj0 : j = 0 := by omega
    subst hj0
    have := hP1.2 n (by omega)
    unfold cn_up at this
    rw [if_pos rfl] at this
    exact this
  have hpre : PreS s H1 (va_Pc (.ref (b0 + n) :: As) (fun U => cn_P D (b0 + n) 1 (lf_E ci nul cI []) U.heap ∧ va_K D am_cls [(cI, .int), (cH, .char)] U)) (.ref (b0 + n) :: As) :=
    ⟨fun a U g mk q => by obtain ⟨q0, qP, qK⟩ := q; exact ⟨q0, qP, va_K.moved (u := U) (U := U.calling g mk a) (Vm.Alike.refl U.vm) qK⟩, fun U hU hW => ⟨rfl, by rw [hU]; exact hPc, va_K.moved hW.alike hK⟩⟩
  have hGd : GoodIn am_tbl (Cond.code y bytes maxL none :: am_tbl) := am_goodIn (fun w h => h) (fun w hw => (List.mem_cons.mp hw).elim (fun e => e ▸ wY) id)
  have hini : (Cond.initialized y.cls).before args s = true := by rw [hyc]; exact hts _ wN
  have hrun : va_Run p l e R s m args below meth c H1 locs (cells + 1) (slots + N) mc ms (F0 m pc3 ls (As.reverse ++ [.ref (b0 + n), .ref (b0 + n), .ref b0])) [.ref (b0 + n), .ref b0] (va_Qv (fun (_ : Unit) => True) (fun _ t => cn_P D (b0 + n) (1 + mc) F t.heap) (am_A (b0 + n)) (Value.ref (b0 + n) :: As).toArray) (am_A (b0 + n)) := by
    rcases wL with wL | wL
    · exact va_runI (Ts := am_tbl) (As := As) (rest := [.ref (b0 + n), .ref b0]) ⟨hexec, hb, hml, hown, hts⟩ hM (cwI As.length hts hGd rfl rfl rfl hini (hts _ wL) (hts _ wM) hy1 hd ⟨hfr, by show 8 + (maxL + 11) + 12 ≤ R.locals; omega⟩) hpre rfl rfl hsl rfl (lv_room (Nat.le_of_ble_eq_true rfl)) d3 ⟨hcells, hslots⟩
    · exact va_runIN (Ts := am_tbl) (As := As) (rest := [.ref (b0 + n), .ref b0]) ⟨hexec, hb, hml, hown, hts⟩ hM ⟨va_cnB As.length hts hGd rfl rfl rfl wL hini hd ⟨hfr, by show 8 + (maxL + 11) + 12 ≤ R.locals; omega⟩, hy1, hts _ wM⟩ hpre rfl rfl hsl rfl (lv_room (Nat.le_of_ble_eq_true rfl)) d3 ⟨hcells, hslots⟩
  refine va_callv hrun hS1 (fun q _ h => Nat.le_trans (Nat.le_add_right _ _) h) (fun q h => Nat.le_trans (Nat.le_add_right _ _) h) (fun u t H2 locs2 ht hvm hw hB hz1 hk1 hS2 => ?_)
  have hB : cn_P D (b0 + n) (1 + mc) F t.heap := hB
  rw [ht] at hB
  have hP2 : cn_P D b0 (n + 1 + mc) (cn_jn E n F) H2 := by
    refine ⟨by rw [hB.1]; omega, fun j hj => ?_⟩
    unfold cn_jn
    by_cases hjn : j < n
    · rw [if_pos hjn]
      have := hP1.2 j (by omega)
      unfold cn_up at this
      rw [if_neg (by omega)] at this
      exact this.kept (hk1 _ (by show b0 + j < H1.size; omega) (by show ¬ b0 + n ≤ b0 + j; omega))
    · rw [if_neg hjn]
      have := hB.2 (j - n) (by omega)
      rw [show b0 + n + (j - n) = b0 + j by omega] at this
      exact this
  have hE0' : cn_jn E n F 0 = .inr (6, fs) := by
    unfold cn_jn
    rw [if_pos h0n]
    exact hE0
  exact cn_put hexec hb (C := am_R6) (T := am_T6) (N := 13) (ci := 6) hts am_i6 am_y6 am_y6_ok am_n6 hown hK hP2 hS2 0 (by omega) hE0' rfl k hk (hts _ wF) (fun x h => by rw [hT1] at h; exact h) hfin (ty := tyF) hdF hnr hfit hl d4 kk
end CS
