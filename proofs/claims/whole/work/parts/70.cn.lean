/-! CONSTRUCTORS: a world that grows: n cells from b0 on, E says what each is -/
def cn_P (D : va_G) (b0 n : Nat) (E : Nat → va_E) (H : Heap) : Prop := H.size = b0 + n ∧ ∀ k, k < n → va_at D am_cls (b0 + k, E k) H
def cn_up (E : Nat → va_E) (n : Nat) (x : va_E) : Nat → va_E := fun k => if k = n then x else E k
theorem cn_P.cg {D : va_G} {b0 n : Nat} {E E' : Nat → va_E} {H : Heap} (h : cn_P D b0 n E H) (he : ∀ k, k < n → E' k = E k) : cn_P D b0 n E' H := ⟨h.1, fun k hk => by rw [he k hk]; exact h.2 k hk⟩
/-- an object and the rows of ints that it has made so far -/
def lf_E (ci : Nat) (fs : List Value) (cI : ClassId) (ns : List Nat) : Nat → va_E := fun k => if k = 0 then .inr (ci, fs) else .inl (cI, ns.getD (k - 1) 0, .inl (fun _ => 0))
def cn_jn (E : Nat → va_E) (n : Nat) (F : Nat → va_E) : Nat → va_E := fun k => if k < n then E k else F (k - n)
section CN
variable {p : Program} {l : Launch} {e : Env} {R : Room} {s : State} {m : MethodId} {args : Array Value} {below : List Frame} {meth : Method} {c : Code} {H : Heap} {locs : List Loc} {cells slots : Nat} {Q : State → Prop}
variable {cc : ByteArray} {pc : Nat} {ls : Array Slot} {rest : List Value} {D : va_G} {tys : List (ClassId × FieldType)} {H0 : Heap} {b0 n : Nat} {E : Nat → va_E}
theorem cn_new (hexec : p.tables.exec = Jvm.exec) (hb : c.code = cc) {own C : String} {T : u_T} {N ci index : Nat} {Ts : List Cond} (hts : ∀ w ∈ Ts, w.before args s = true) (hin : ∀ w ∈ u_ws C T N, w ∈ Ts) (ty : Nat → FieldType) (hty : ∀ k, k < N → parseFieldDescriptor (T k).2.2.1 = some (ty k)) (hown : s.vm.findClass own = some m.cls) (hcl : (Cond.classLink own index C).before args s = true) (hinst : (Cond.instantiable C N).before args s = true) (hini : (Cond.initialized C).before args s = true)
    (hK : va_K D am_cls tys s) (hP : cn_P D b0 n E H) (hS : va_S (am_A b0) H0 H locs) (hc : am_cls[ci]? = some (C, T, N)) {fs : List Value} (hfs : ∀ j, j < N → defaultValue (ty j) = vp_V fs j) (hcells : cells + 1 ≤ R.cells) (hslots : slots + N ≤ R.slots) (hdg : decode cc pc = .ok (.new index, 3))
    (kk : ∀ (H1 : Heap), cn_P D b0 (n + 1) (cn_up E n (.inr (ci, fs))) H1 → va_S (am_A b0) H0 H1 locs → W p l e R s m args below meth c H1 locs (cells + 1) (slots + N) Q (F0 m (pc + 3) ls (.ref (b0 + n) :: rest))) : W p l e R s m args below meth c H locs cells slots Q (F0 m pc ls rest) := by
  have hKn := hK.1 ci _ hc
  refine W.newcK hexec hb hown hcl hinst hini rfl hdg hcells hslots hKn.2.1 hP.1 fun H1 kC hkC e1 z1 o1 => ?_
  have hsz := hP.1
  have hs0 := hS.1
  refine kk H1 ⟨by omega, fun k hk => ?_⟩ ⟨by omega, fun x h1 h2 => (o1 x (by omega)).trans (hS.2.1 x h1 h2), hS.2.2⟩
  unfold cn_up
  by_cases hkn : k = n
  · subst hkn
    rw [if_pos rfl]
    exact ⟨_, hc, (u_born ty hts hin hKn hkC e1 hty).to hfs⟩
  · rw [if_neg hkn]
    exact (hP.2 k (by omega)).kept (o1 _ (by show b0 + k < b0 + n; omega))
theorem cn_newa (hexec : p.tables.exec = Jvm.exec) (hb : c.code = cc) {atype : ArrayType} (harr : (Cond.arrayClass (newarray.typeOf atype)).before args s = true) {ty : FieldType} (hty : newarray.typeOf atype = ty) {cA : ClassId} (hcA : s.vm.findClass ("[" ++ ty.toString) = some cA) (hP : cn_P D b0 n E H) (hS : va_S (am_A b0) H0 H locs)
    {z : Int32} {N' : Nat} {a0 : vp_A} (ha : ∀ cA : ClassId, vp_cell cA a0 = arrV cA N' (fun _ => defaultValue ty)) (hn : ¬ z < 0) (hN : z.toNatClampNeg = N') (hbytes : N' * componentBytes ty ≤ 536870912) (hcells : cells + 1 ≤ R.cells) (hslots : slots + N' ≤ R.slots) (hdg : decode cc pc = .ok (.newarray atype, 2))
    (kk : ∀ (H1 : Heap), cn_P D b0 (n + 1) (cn_up E n (.inl (cA, a0))) H1 → va_S (am_A b0) H0 H1 locs → W p l e R s m args below meth c H1 locs (cells + 1) (slots + N') Q (F0 m (pc + 2) ls (.ref (b0 + n) :: rest))) : W p l e R s m args below meth c H locs cells slots Q (F0 m pc ls (.int z :: rest)) := by
  subst hty
  have hsz := hP.1
  have hs0 := hS.1
  refine va_newaK hexec hb harr rfl hdg rfl hn hN hbytes hcells hslots hP.1 fun H1 cA' e1 z1 o1 hAr hNm => ?_
  have hcc : cA' = cA := Option.some.inj (hNm.symm.trans hcA)
  subst hcc
  refine kk H1 ⟨by omega, fun k hk => ?_⟩ ⟨by omega, fun x h1 h2 => (o1 x (by omega)).trans (hS.2.1 x h1 h2), hS.2.2⟩
  unfold cn_up
  by_cases hkn : k = n
  · subst hkn
    rw [if_pos rfl]
    show H1[b0 + k]? = some (vp_cell _ _)
    rw [ha]
    exact e1
  · rw [if_neg hkn]
    exact (hP.2 k (by omega)).kept (o1 _ (by show b0 + k < b0 + n; omega))
theorem cn_put (hexec : p.tables.exec = Jvm.exec) (hb : c.code = cc) {own ref C : String} {T : u_T} {N ci index : Nat} {Ts : List Cond} (hts : ∀ w ∈ Ts, w.before args s = true) (hin : ∀ w ∈ u_ws C T N, w ∈ Ts) (ty0 : Nat → FieldType) (hty : ∀ k, k < N → parseFieldDescriptor (T k).2.2.1 = some (ty0 k)) (hnm : ∀ a, a < N → ∀ b, b < N → a ≠ b → (T a).2.1 ≠ (T b).2.1) (hown : s.vm.findClass own = some m.cls) (hK : va_K D am_cls tys s) (hP : cn_P D b0 n E H) (hS0 : va_S (am_A b0) H0 H locs) (o : Nat) (ho : o < n) {fs : List Value} (he : E o = .inr (ci, fs)) (hc : am_cls[ci]? = some (C, T, N)) (k : Nat) (hk : k < N)
    (hlink : (Cond.fieldLink own index ref (T k).2.1 (T k).2.2.1).before args s = true) (hsame : ∀ x, s.fieldFound? (T k).1 (T k).2.1 (T k).2.2.1 = some x → s.fieldFound? ref (T k).2.1 (T k).2.2.1 = some x) (hfin : (T k).2.2.2 = false ∨ ((T k).2.2.2 = true ∧ meth.name = "<init>" ∧ (T k).1 = own)) {ty : FieldType} {v : Value} (hd : parseFieldDescriptor (T k).2.2.1 = some ty) (hn : narrow ty v = v) (hfit : fits ty v = true) (hl : k < fs.length)
    (hdg : decode cc pc = .ok (.putfield index, 3)) (kk : ∀ (H1 : Heap) (locs1 : List Loc), cn_P D b0 n (cn_up E o (.inr (ci, fs.set k v))) H1 → va_S (am_A b0) H0 H1 locs1 → W p l e R s m args below meth c H1 locs1 cells slots Q (F0 m (pc + 3) ls rest)) : W p l e R s m args below meth c H locs cells slots Q (F0 m pc ls (v :: .ref (b0 + o) :: rest)) := by
  have hap := va_apart (own := own) hts hin ty0 hty hnm hK hc
  have hat := hP.2 o ho
  rw [he] at hat
  obtain ⟨r, h1, cell, q1, q2, q3, q4⟩ := hat
  have hr : r = (C, T, N) := Option.some.inj (h1.symm.trans hc)
  subst hr
  obtain ⟨hS, hfc, kC, hkC, hkind⟩ := hK.1 ci _ hc
  obtain ⟨cf, kf, fi, f, hi, hsl⟩ := hS k hk
  have hlay := hts _ (hin _ (u_in_lay hk))
  unfold u_lay at hlay
  have hst := (u_facts hfc hkC (u_lays hts hin hk) hi).1
  have fin : ∀ H' : Heap, H'[b0 + o]? = some (cell.setSlot f.slot v) → H'.size = H.size → (∀ q, q ≠ b0 + o → H'[q]? = H[q]?) → W p l e R s m args below meth c H' (locs ++ [⟨b0 + o, f.slot⟩]) cells slots Q (F0 m (pc + 3) ls rest) := by
    intro H' e1 e2 e3
    rw [hsl] at e1 ⊢
    refine kk H' _ ⟨by rw [e2]; exact hP.1, fun k' hk' => ?_⟩ (hS0.put e2 e3 (Nat.le_add_right _ _))
    unfold cn_up
    by_cases hko : k' = o
    · subst hko
      rw [if_pos rfl]
      exact ⟨_, hc, t_OB.to (V := updV (vp_V fs) k v) ⟨_, e1, q2, q3, t_set q4 hap hk v⟩ (fun j _ => vp_updV_set hl v j)⟩
    · rw [if_neg hko]
      exact (hP.2 k' hk').kept (e3 _ (by show b0 + k' ≠ b0 + o; omega))
  rcases hfin with hfin | ⟨hfin, hin2, hdecl⟩
  · rw [if_neg (by rw [hfin]; decide)] at hlay
    have h6 := u_store hfc hkC hkind hlay hi hd hn hfit
    exact W.putK hexec hb (f := f) ⟨hown, hlink, ⟨_, _, _, hsame _ hi⟩, hst⟩ (by rw [q2]; exact h6) q1 q3 (by rw [hsl]; exact k2_hasslot (q4 k hk)) rfl rfl hdg fin
  · rw [if_pos hfin] at hlay
    have hcf : m.cls = cf := by
      obtain ⟨_, _, c', _, _, _, -, -, hf', -, -, -, hown2, -⟩ := Cond.laysFinal_spec hlay
      have e1 : c' = cf := by have := hi.symm.trans hf'; simp at this; exact this.1.symm
      rw [hdecl] at hown2
      rw [← e1]; exact Option.some.inj (hown.symm.trans hown2)
    have h6 := u_fits hfc hkC hkind (Or.inr hlay) hi hd hn hfit
    exact W.putFinK hexec hb hown hlink (hsame _ hi) hst hcf hin2 (by rw [q2]; exact h6) q1 q3 (by rw [hsl]; exact k2_hasslot (q4 k hk)) rfl rfl hdg fin
theorem lf_new {ci : Nat} {fs fs' : List Value} {cI : ClassId} {ns : List Nat} {M : Nat} {H : Heap} (h : cn_P D b0 (1 + ns.length + 1) (cn_up (cn_up (lf_E ci fs cI ns) (1 + ns.length) (.inl (cI, M, .inl (fun _ => 0)))) 0 (.inr (ci, fs'))) H) : cn_P D b0 (1 + (ns ++ [M]).length) (lf_E ci fs' cI (ns ++ [M])) H := by
  have hl : 1 + (ns ++ [M]).length = 1 + ns.length + 1 := by simp; omega
  rw [hl]
  refine h.cg fun k hk => ?_
  unfold cn_up lf_E
  by_cases h0 : k = 0
  · rw [if_pos h0, if_pos h0]
  · rw [if_neg h0, if_neg h0]
    by_cases h1 : k = 1 + ns.length
    · rw [if_pos h1]
      have : (ns ++ [M]).getD (k - 1) 0 = M := by
        rw [List.getD_eq_getElem?_getD, show k - 1 = ns.length by omega]
        simp
      rw [this]
    · rw [if_neg h1, if_neg h0]
      have : (ns ++ [M]).getD (k - 1) 0 = ns.getD (k - 1) 0 := by
        rw [List.getD_eq_getElem?_getD, List.getD_eq_getElem?_getD, List.getElem?_append_left (by omega)]
      rw [this]
/-- a row of M ints is made and laid into the field k -/
theorem lf_arr (hexec : p.tables.exec = Jvm.exec) (hb : c.code = cc) {own C : String} {T : u_T} {N ci index : Nat} (hts : ∀ w ∈ am_tbl, w.before args s = true) (hin : ∀ w ∈ u_ws C T N, w ∈ am_tbl) (ty0 : Nat → FieldType) (hty : ∀ k, k < N → parseFieldDescriptor (T k).2.2.1 = some (ty0 k)) (hnm : ∀ a, a < N → ∀ b, b < N → a ≠ b → (T a).2.1 ≠ (T b).2.1) (hown : s.vm.findClass own = some m.cls) {cI cH : ClassId} (hK : va_K D am_cls [(cI, .int), (cH, .char)] s) (hc : am_cls[ci]? = some (C, T, N)) (harr : Cond.arrayClass .int ∈ am_tbl) (hl0 : ls[0]? = some (.val (.ref b0)))
    {fs : List Value} {ns : List Nat} (hP : cn_P D b0 (1 + ns.length) (lf_E ci fs cI ns) H) (hS : va_S (am_A b0) H0 H locs) (k : Nat) (hk : k < N) (M : Nat) (hM : M ≤ 1000) (pc1 : Nat) (hlink : Cond.fieldLink own index C (T k).2.1 (T k).2.2.1 ∈ am_tbl) (hT1 : (T k).1 = C) (hfin : (T k).2.2.2 = false ∨ ((T k).2.2.2 = true ∧ meth.name = "<init>" ∧ (T k).1 = own)) (hd : parseFieldDescriptor (T k).2.2.1 = some (.array .int)) (hl : k < fs.length)
    (d0 : decode cc pc = .ok (.aload_n 0, 1)) (push : W p l e R s m args below meth c H locs cells slots Q (F0 m pc1 ls [.int (nI M), .ref b0]) → W p l e R s m args below meth c H locs cells slots Q (F0 m (pc + 1) ls [.ref b0])) (d1 : decode cc pc1 = .ok (.newarray .int, 2)) (d2 : decode cc (pc1 + 2) = .ok (.putfield index, 3)) (hcells : cells + 1 ≤ R.cells) (hslots : slots + M ≤ R.slots)
    (kk : ∀ (H1 : Heap) (locs1 : List Loc), cn_P D b0 (1 + (ns ++ [M]).length) (lf_E ci (fs.set k (.ref (b0 + (1 + ns.length)))) cI (ns ++ [M])) H1 → va_S (am_A b0) H0 H1 locs1 → W p l e R s m args below meth c H1 locs1 (cells + 1) (slots + M) Q (F0 m (pc1 + 5) ls [])) : W p l e R s m args below meth c H locs cells slots Q (F0 m pc ls []) := by
  refine lv_aload_n hexec hb d0 rfl hl0 (push ?_)
  refine cn_newa hexec hb (atype := .int) (hts _ harr) rfl (hK.2 0 _ rfl).2 hP hS (a0 := (M, .inl (fun _ => 0))) (N' := M) (fun _ => rfl) (nI_pos (by omega)) (nI_clamp (by omega)) (by show M * 4 ≤ _; omega) hcells hslots d1 (fun H1 hP1 hS1 => ?_)
  have he : cn_up (lf_E ci fs cI ns) (1 + ns.length) (.inl (cI, M, .inl (fun _ => 0))) 0 = .inr (ci, fs) := by
    unfold cn_up
    rw [if_neg (by omega)]
    rfl
  refine cn_put hexec hb (C := C) (T := T) (N := N) (ci := ci) hts hin ty0 hty hnm hown hK hP1 hS1 0 (by omega) he hc k hk (hts _ hlink) (fun x h => by rw [hT1] at h; exact h) hfin (ty := .array .int) hd rfl rfl hl d2 (fun H2 locs2 hP2 hS2 => ?_)
  exact kk H2 locs2 (lf_new hP2) hS2
end CN
