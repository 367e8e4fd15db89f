section SIM
variable {p : Program} {l : Launch} {e : Env} {R : Room} {s : State} {m : MethodId} {args : Array Value} {below : List Frame} {meth : Method} {c : Code} {cells slots : Nat} {Q : State → Prop}
variable {mt : Nat → am_M} {own : String} {cc : ByteArray} {tb : List am_W} {nL b0 bS nC L d : Nat} {xs : Nat → Int32} {D : va_G} {cI cH : ClassId} {sc : Prop} {rt : Option FieldType} {G : Nat → List am_V → am_H → am_Z}
theorem am_seg_ok {rc : Nat → am_L → am_H → am_Z} {Z : am_H × Option Int32} (C : am_Cx p s m args c R mt own cc tb nL b0 bS nC L d xs D cI cH sc rt) (hG : am_GO l mt b0 nC D cI cH d G) (hcs : cells ≤ R.cells ∧ slots ≤ R.slots)
    (hR : ∀ i : Nat, am_Nx p l e R s m args below meth c cells slots Q nL b0 bS nC D cI cH sc (am_pc (am_drp i tb)) (fun ls st h => match st with | [] => rc i ls h | _ => none) Z)
    (hZi : ∀ ls, am_Zi p l e R s m args below meth c cells slots Q cc nL b0 bS nC D cI cH sc rt ls Z) (hZv : ∀ ls, am_Zv p l e R s m args below meth c cells slots Q cc nL b0 bS nC D cI cH sc rt ls Z) :
    ∀ (k i : Nat), am_Nx p l e R s m args below meth c cells slots Q nL b0 bS nC D cI cH sc (am_pc (am_drp i tb)) (am_seg L xs tb G rc k (am_drp i tb)) Z := by
  intro k
  induction k with
  | zero => intro i ls st h sl H locs hE; cases hE
  | succ k ih =>
    intro i
    cases hrow : am_drp i tb with
    | nil => intro ls st h sl H locs hE; cases hE
    | cons w rest =>
      obtain ⟨pc, len, ins, aux, q⟩ := w
      exact am_step C hG hcs ih hR hZi hZv hrow
theorem am_run_ok {Z : am_H × Option Int32} (C : am_Cx p s m args c R mt own cc tb nL b0 bS nC L d xs D cI cH sc rt) (hG : am_GO l mt b0 nC D cI cH d G) (hcs : cells ≤ R.cells ∧ slots ≤ R.slots)
    (hZi : ∀ ls, am_Zi p l e R s m args below meth c cells slots Q cc nL b0 bS nC D cI cH sc rt ls Z) (hZv : ∀ ls, am_Zv p l e R s m args below meth c cells slots Q cc nL b0 bS nC D cI cH sc rt ls Z) :
    ∀ (n i : Nat), am_Nx p l e R s m args below meth c cells slots Q nL b0 bS nC D cI cH sc (am_pc (am_drp i tb)) (fun ls st h => match st with | [] => am_run L xs tb G n i ls h | _ => none) Z := by
  intro n
  induction n with
  | zero =>
    intro i ls st h sl H locs hE
    match st, hE with
    | [], hE => cases hE
    | _ :: _, hE => cases hE
  | succ n ih =>
    intro i ls st h sl H locs hE S
    match st, hE, S with
    | [], hE, S => exact am_seg_ok C hG hcs ih hZi hZv 1000 i ls [] h sl H locs hE S
    | _ :: _, hE, _ => cases hE
end SIM
theorem am_ent_len : ∀ (as : List am_V) (n : Nat), am_cats as ≤ n → (am_ent as n).length = n := by
  intro as
  induction as with
  | nil => intro n _; simp [am_ent]
  | cons v as ih =>
    intro n h
    have h : am_cat v + am_cats as ≤ n := h
    unfold am_ent
    split
    · rename_i e
      have := ih (n - 2) (by omega)
      simp [this]
      omega
    · rename_i e
      have e1 : am_cat v = 1 := by rcases v with x | ⟨t, a⟩ | x <;> first | rfl | exact absurd rfl e
      have := ih (n - 1) (by omega)
      simp [this]
      omega
theorem am_lv_nones (f : am_V → Value) : ∀ (n i : Nat), am_lv f i (List.replicate n none) = [] := by
  intro n
  induction n with
  | zero => intro i; rfl
  | succ n ih => intro i; exact ih (i + 1)
theorem am_ent_lv {f : am_V → Value} (hf : ∀ v, (f v).category = am_cat v) : ∀ (as : List am_V) (n i : Nat), am_lv f i (am_ent as n) = lv_args i (as.map f) := by
  intro as
  induction as with
  | nil => intro n i; exact am_lv_nones f n i
  | cons v as ih =>
    intro n i
    have e0 : lv_args i ((v :: as).map f) = (i, f v) :: lv_args (if (f v).category = 2 then i + 2 else i + 1) (as.map f) := rfl
    rw [e0, hf]
    unfold am_ent
    split
    · rename_i e
      rw [e, if_pos rfl]
      show (i, f v) :: am_lv f (i + 1 + 1) (am_ent as (n - 2)) = _
      rw [ih]
    · rename_i e
      rw [if_neg (fun q => e (by rw [q]))]
      show (i, f v) :: am_lv f (i + 1) (am_ent as (n - 1)) = _
      rw [ih]
theorem am_ent_mem : ∀ (as : List am_V) (n i : Nat) (v : am_V), am_ix (am_ent as n) i = some v → v ∈ as := by
  intro as
  induction as with
  | nil =>
    intro n
    have : ∀ (n i : Nat) (v : am_V), am_ix (List.replicate n none) i = some v → False := by
      intro n
      induction n with
      | zero => intro i v h; cases h
      | succ n ih =>
        intro i v h
        match i, h with
        | i + 1, h => exact ih i v h
    intro i v h
    exact (this n i v h).elim
  | cons w as ih =>
    intro n i v h
    unfold am_ent at h
    split at h
    · match i, h with
      | 0, h => cases h; exact List.mem_cons_self
      | 1, h => cases h
      | i + 2, h => exact List.mem_cons_of_mem _ (ih _ i v h)
    · match i, h with
      | 0, h => cases h; exact List.mem_cons_self
      | i + 1, h => exact List.mem_cons_of_mem _ (ih _ i v h)
theorem am_sl_len (f : am_V → Value) (hf : ∀ v, (f v).category = am_cat v) : ∀ (as : List am_V), (lg_sl (as.map f)).length = am_cats as := by
  intro as
  induction as with
  | nil => rfl
  | cons v as ih =>
    have e0 : lg_sl ((v :: as).map f) = (if (f v).category = 2 then [Slot.val (f v), .second] else [.val (f v)]) ++ lg_sl (as.map f) := rfl
    rw [e0, List.length_append, ih, hf]
    show _ = am_cat v + am_cats as
    congr 1
    rcases v with x | ⟨t, a⟩ | x <;> rfl
/-- as Met.ofW, of a method of any class that no native row replaces -/
theorem am_ofW {l : Launch} {y : MethodName} {ws ws' : List Cond} {rm : Room} {Pc : Array Value → State → Prop} {Qc : Array Value → State → Outcome → State → Prop} {mc ms : Nat} {free : Addr → Prop} {cc : ByteArray} {maxL : Nat} {ret : Option FieldType}
    (hy : plainFor y = true) (hw : ws = Cond.code y cc maxL ret :: ws')
    (body : ∀ p e s m args below meth c s₁, BodyLoose p l y (headSpec ws rm) cc maxL ret e s m args below meth c s₁ → c.maxLocals = maxL → Pc args s →
      W p l e (headSpec ws rm).room s m args below meth c s.heap [] 0 0 (MQ below Qc args s mc ms free) (entryFrame m args maxL)) : Met l y ws rm Pc Qc mc ms free := by
  refine MetFree.of_bodySF (code := cc) (maxLocals := maxL) (ret := ret) hy ?_ ?_
  · intro args s m h hn
    obtain ⟨meth, c, h1, h2, h3, h4, h5, h6, -, -⟩ := Cond.code_spec hn (atoms_spec (ws := ws) h _ (by rw [hw]; exact List.mem_cons_self))
    exact ⟨meth, c, h1, h2, h3, h4, h5, h6⟩
  · intro p e s m args below meth c s₁ B hml hP _
    have hh0 : s₁.heap = s.heap := by rw [B.state]; rfl
    obtain ⟨t, a1, o, b1, b2, b3⟩ := body p e s m args below meth c s₁ B hml hP s₁ hh0 (Stand.of_body B)
    exact ⟨t, o, a1, b1, b2, ⟨b3.1, b3.2⟩⟩
set_option maxHeartbeats 1000000 in
/-- WHAT THE ABSTRACT MACHINE ANSWERS, THE METHODS DO: by levels -/
theorem am_lvl (l : Launch) {mt : Nat → am_M} {tbs : Nat → List am_W} (hMT : am_MT mt) (hchk : ∀ z, am_chks mt (mt z).1.cls (mt z).2.1 (tbs z) (mt z).2.2.1 (mt z).2.2.2.1 (tbs z) = true) (hpc : ∀ z, am_pc (tbs z) = 0) {nC : Nat} (hclo : am_clo nC = true) (hnC : nC < 1000) (b0 : Nat) (D : va_G) (cI cH : ClassId) :
    ∀ d : Nat, am_GO l mt b0 nC D cI cH d (am_G (fun z => (tbs z, (mt z).2.2.1)) d) := by
  intro d
  induction d with
  | zero => intro z as h h' r hE; cases hE
  | succ d ih =>
    intro z as h h' r hE hok hwf
    have hE : (if (mt z).2.2.1 < am_cats as then none else am_run 0 (fun _ => 0) (tbs z) (am_G (fun z => (tbs z, (mt z).2.2.1)) d) 1000000 0 (am_ent as (mt z).2.2.1) h) = some (h', r) := hE
    obtain ⟨hcat, hE1⟩ := am_ifn_some hE
    obtain ⟨m1, m2, m3, m4, m5, m6, m7, m8⟩ := am_mck_spec (hMT z)
    refine am_ofW (cc := (mt z).2.1) (maxL := (mt z).2.2.1) (ret := (mt z).2.2.2.1) m4 rfl ?_
    intro p e s m args below meth c s₁ B hml hv
    obtain ⟨rfl, hP, hK⟩ := hv
    have hts := atoms_spec (ws := am_mw mt z) B.pre
    have hown : s.vm.findClass (mt z).1.cls = some m.cls := findClass_of_methodNamed B.named
    have hlocks := B.notSynchronized
    have hx := B.exec
    have hb := B.bytes
    have hr := B.returns
    have hl := lv_entry (as.map (am_cv b0 0)) (n := (mt z).2.2.1) (by rw [am_sl_len _ (am_cv_cat b0 0)]; omega)
    rw [lg_entry_eq]
    generalize (lg_sl (as.map (am_cv b0 0)) ++ List.replicate ((mt z).2.2.1 - (lg_sl (as.map (am_cv b0 0))).length) Slot.unset).toArray = sl at hl ⊢
    have hLR : am_LR (am_cv b0 0) (mt z).2.2.1 (am_ent as (mt z).2.2.1) sl := ⟨am_ent_len _ _ (by omega), by rw [am_ent_lv (am_cv_cat b0 0)]; exact hl⟩
    have C : am_Cx p s m (as.map (am_cv b0 0)).toArray c (headSpec (am_mw mt z) (am_rm (d + 1))).room mt (mt z).1.cls (mt z).2.1 (tbs z) (mt z).2.2.1 b0 0 nC 0 d (fun _ => 0) D cI cH False (mt z).2.2.2.1 :=
      ⟨hx, hb, hml, hown, fun w hw => hts w (List.mem_cons_of_mem _ hw), hK, hchk z, hclo, hnC, ⟨Nat.le_refl _, by show 35 * d + 35 ≤ 35 * (d + 1); omega⟩, fun q => q.elim, hMT⟩
    have key := am_run_ok (l := l) (e := e) (below := below) (meth := meth) (cells := 0) (slots := 0) (Q := MQ below (am_Qc b0 nC D cI cH h' r) (as.map (am_cv b0 0)).toArray s 0 0 (am_A b0)) (Z := (h', r)) C ih ⟨Nat.zero_le _, Nat.zero_le _⟩ ?_ ?_ 1000000 0 (am_ent as (mt z).2.2.1) [] h sl s.heap [] hE1 ⟨hLR, fun i v hi => hok v (am_ent_mem _ _ _ _ hi), (fun v hv => absurd hv (List.not_mem_nil)), hP, hwf, va_S.rf⟩
    · rw [show am_pc (am_drp 0 (tbs z)) = 0 from hpc z] at key
      exact key
    · intro ls v h1 sl1 H1 locs1 pc1 hd hrt hZ S
      cases hZ
      have hq : ∀ t : State, t.heap = H1 → s.WarmedH t.vm → am_Qc b0 nC D cI cH h' (some v) (as.map (am_cv b0 0)).toArray s (.returned (some (.int v))) t := fun t ht _ => ⟨⟨v, (), rfl, ⟨rfl, S.2.2.2.2.1⟩, (by show va_P _ _ _ t.heap; rw [ht]; exact S.2.2.2.1)⟩, S.2.2.2.2.2.F ht⟩
      rcases hrt with e1 | ⟨e1, e2⟩
      · exact W.zret (ty := .int) hx hb (hr.trans e1) rfl hq S.2.2.2.2.2.2.2 hd
      · exact W.zret (ty := .boolean) hx hb (hr.trans e1) (by show Value.int (v &&& 1) = _; rw [e2]) hq S.2.2.2.2.2.2.2 hd
    · intro ls h1 sl1 H1 locs1 pc1 hd hrt hZ S
      cases hZ
      exact W.vret hx hb (hr.trans hrt) (fun t ht _ => ⟨⟨(), rfl, S.2.2.2.2.1, (by show va_P _ _ _ t.heap; rw [ht]; exact S.2.2.2.1)⟩, S.2.2.2.2.2.F ht⟩) S.2.2.2.2.2.2.2 hd
