theorem and2 {a b : Bool} (h : (a && b) = true) : a = true ∧ b = true := by simpa using h
theorem am_ipos {c : Prop} [Decidable c] {x y : am_Z} {Z : am_H × Option Int32} (hc : c) (h : (if c then x else y) = some Z) : x = some Z := by rwa [if_pos hc] at h
theorem am_ineg {c : Prop} [Decidable c] {x y : am_Z} {Z : am_H × Option Int32} (hc : ¬ c) (h : (if c then x else y) = some Z) : y = some Z := by rwa [if_neg hc] at h
theorem am_nlt {a b : Int32} (h : b ≤ a) : ¬ a < b := Int32.not_lt.mpr h
theorem am_nle {a b : Int32} (h : ¬ b ≤ a) : a < b := Int32.not_le.mp h
theorem am_is1 {mt : Nat → am_M} {own : String} {i : Nat} {aux : List Nat} (h : (match aux with
    | 999 :: wi :: _ => am_word wi (.methodLink own i arraycopyName)
    | _ => am_ick mt own true i aux) = true) (h9 : ¬ ∃ wi x, aux = 999 :: wi :: x) : am_ick mt own true i aux = true := by
  split at h
  · rename_i wi x; exact absurd ⟨wi, x, rfl⟩ h9
  · exact h
theorem am_is2 {mt : Nat → am_M} {own : String} {i : Nat} {aux : List Nat} {G : Nat → List am_V → am_H → am_Z} {nx : List am_W → am_L → List am_V → am_H → am_Z} {rest : List am_W} {ls : am_L} {st : List am_V} {h : am_H} {Z : am_H × Option Int32} (hE : (match aux with
    | 999 :: _ => am_cpy nx rest ls st h
    | _ => am_inv G nx false aux rest ls st h) = some Z) (h9 : ¬ ∃ wi x, aux = 999 :: wi :: x) (hi : am_ick mt own true i aux = true) : am_inv G nx false aux rest ls st h = some Z := by
  obtain ⟨z, n, rv, ci, wi, x, he, -⟩ := am_ick_aux hi
  split at hE
  · rename_i y
    cases he
    exact absurd ⟨n, _, rfl⟩ h9
  · exact hE
section SIM
variable {p : Program} {l : Launch} {e : Env} {R : Room} {s : State} {m : MethodId} {args : Array Value} {below : List Frame} {meth : Method} {c : Code} {cells slots : Nat} {Q : State → Prop}
variable {mt : Nat → am_M} {own : String} {cc : ByteArray} {tb : List am_W} {nL b0 bS nC L d : Nat} {xs : Nat → Int32} {D : va_G} {cI cH : ClassId} {sc : Prop} {rt : Option FieldType} {G : Nat → List am_V → am_H → am_Z}
/-- the ends -/
def am_Zi (p : Program) (l : Launch) (e : Env) (R : Room) (s : State) (m : MethodId) (args : Array Value) (below : List Frame) (meth : Method) (c : Code) (cells slots : Nat) (Q : State → Prop) (cc : ByteArray) (nL b0 bS nC : Nat) (D : va_G) (cI cH : ClassId) (sc : Prop) (rt : Option FieldType) (ls : am_L) (Z : am_H × Option Int32) : Prop :=
  ∀ (v : Int32) (h : am_H) (sl : Array Slot) (H : Heap) (locs : List Loc) (pc : Nat), decode cc pc = .ok (.ireturn, 1) → (rt = some .int ∨ rt = some .boolean ∧ v &&& 1 = v) → Z = (h, some v) → am_S s nL b0 bS nC D cI cH sc ls [vi v] h sl H locs → W p l e R s m args below meth c H locs cells slots Q (F0 m pc sl [.int v])
def am_Zv (p : Program) (l : Launch) (e : Env) (R : Room) (s : State) (m : MethodId) (args : Array Value) (below : List Frame) (meth : Method) (c : Code) (cells slots : Nat) (Q : State → Prop) (cc : ByteArray) (nL b0 bS nC : Nat) (D : va_G) (cI cH : ClassId) (sc : Prop) (rt : Option FieldType) (ls : am_L) (Z : am_H × Option Int32) : Prop :=
  ∀ (h : am_H) (sl : Array Slot) (H : Heap) (locs : List Loc) (pc : Nat), decode cc pc = .ok (.return_, 1) → rt = none → Z = (h, none) → am_S s nL b0 bS nC D cI cH sc ls [] h sl H locs → W p l e R s m args below meth c H locs cells slots Q (F0 m pc sl [])
set_option maxHeartbeats 4000000 in
set_option maxRecDepth 10000 in
/-- ONE ROW -/
theorem am_step {nx : List am_W → am_L → List am_V → am_H → am_Z} {rc : Nat → am_L → am_H → am_Z} {Z : am_H × Option Int32} (C : am_Cx p s m args c R mt own cc tb nL b0 bS nC L d xs D cI cH sc rt) (hG : am_GO l mt b0 nC D cI cH d G) (hcs : cells ≤ R.cells ∧ slots ≤ R.slots)
    (hN : ∀ i : Nat, am_Nx p l e R s m args below meth c cells slots Q nL b0 bS nC D cI cH sc (am_pc (am_drp i tb)) (nx (am_drp i tb)) Z)
    (hR : ∀ i : Nat, am_Nx p l e R s m args below meth c cells slots Q nL b0 bS nC D cI cH sc (am_pc (am_drp i tb)) (fun ls st h => match st with | [] => rc i ls h | _ => none) Z)
    (hZi : ∀ ls, am_Zi p l e R s m args below meth c cells slots Q cc nL b0 bS nC D cI cH sc rt ls Z) (hZv : ∀ ls, am_Zv p l e R s m args below meth c cells slots Q cc nL b0 bS nC D cI cH sc rt ls Z)
    {i pc len : Nat} {ins : Instr} {aux : List Nat} {q : Int32} {rest : List am_W} (hrow : am_drp i tb = (pc, len, ins, aux, q) :: rest) : am_Nx p l e R s m args below meth c cells slots Q nL b0 bS nC D cI cH sc pc (am_ex L xs tb G rc nx ins aux q rest) Z := by
  intro ls st h sl H locs hE S
  have hZi := hZi ls
  have hZv := hZv ls
  obtain ⟨hx, hb, hml, hown, hts, hK, hchk, hclo, hnC, hroom, hsc, hmt⟩ := id C
  have hrest : rest = am_drp (i + 1) tb := am_drp_succ hrow
  have hc1 : am_chk mt own cc tb nL rt (pc, len, ins, aux, q) rest = true := by
    have := am_chks_drp i tb hchk
    rw [hrow] at this
    exact (and2 this).1
  have fin : ∀ (n : Nat) (ls : am_L) (st : List am_V) (h : am_H) (sl : Array Slot) (H : Heap) (locs : List Loc), am_pcI rest ((n : Nat) : Int) = true → nx rest ls st h = some Z → am_S s nL b0 bS nC D cI cH sc ls st h sl H locs → W p l e R s m args below meth c H locs cells slots Q (F0 m n sl (st.map (am_cv b0 bS))) := by
    intro n ls st h sl H locs h1 h2 h3
    rw [← am_nxt h1, hrest]
    rw [hrest] at h2
    exact hN (i + 1) ls st h sl H locs h2 h3
  cases ins with
  | iadd =>
    obtain ⟨hd, hck⟩ := am_split1 hc1 (by intro q; cases q) rfl
    obtain ⟨a, b, r, rfl, hE1⟩ := am_2_some hE
    exact lv_iadd hx hb hd (fin (pc + 1) _ _ _ _ _ _ hck hE1 (S.tl.tl.ps trivial))
  | isub =>
    obtain ⟨hd, hck⟩ := am_split1 hc1 (by intro q; cases q) rfl
    obtain ⟨a, b, r, rfl, hE2⟩ := am_2_some hE
    exact lv_isub hx hb hd (fin (pc + 1) _ _ _ _ _ _ hck hE2 (S.tl.tl.ps trivial))
  | imul =>
    obtain ⟨hd, hck⟩ := am_split1 hc1 (by intro q; cases q) rfl
    obtain ⟨a, b, r, rfl, hE3⟩ := am_2_some hE
    exact lv_imul hx hb hd (fin (pc + 1) _ _ _ _ _ _ hck hE3 (S.tl.tl.ps trivial))
  | iand =>
    obtain ⟨hd, hck⟩ := am_split1 hc1 (by intro q; cases q) rfl
    obtain ⟨a, b, r, rfl, hE4⟩ := am_2_some hE
    exact lv_iand hx hb hd (fin (pc + 1) _ _ _ _ _ _ hck hE4 (S.tl.tl.ps trivial))
  | ior =>
    obtain ⟨hd, hck⟩ := am_split1 hc1 (by intro q; cases q) rfl
    obtain ⟨a, b, r, rfl, hE5⟩ := am_2_some hE
    exact lv_ior hx hb hd (fin (pc + 1) _ _ _ _ _ _ hck hE5 (S.tl.tl.ps trivial))
  | ixor =>
    obtain ⟨hd, hck⟩ := am_split1 hc1 (by intro q; cases q) rfl
    obtain ⟨a, b, r, rfl, hE6⟩ := am_2_some hE
    exact lv_ixor hx hb hd (fin (pc + 1) _ _ _ _ _ _ hck hE6 (S.tl.tl.ps trivial))
  | ishl =>
    obtain ⟨hd, hck⟩ := am_split1 hc1 (by intro q; cases q) rfl
    obtain ⟨a, b, r, rfl, hE7⟩ := am_2_some hE
    exact lv_ishl hx hb hd (fin (pc + 1) _ _ _ _ _ _ hck hE7 (S.tl.tl.ps trivial))
  | ishr =>
    obtain ⟨hd, hck⟩ := am_split1 hc1 (by intro q; cases q) rfl
    obtain ⟨a, b, r, rfl, hE8⟩ := am_2_some hE
    exact lv_ishr hx hb hd (fin (pc + 1) _ _ _ _ _ _ hck hE8 (S.tl.tl.ps trivial))
  | iushr =>
    obtain ⟨hd, hck⟩ := am_split1 hc1 (by intro q; cases q) rfl
    obtain ⟨a, b, r, rfl, hE9⟩ := am_2_some hE
    exact lv_iushr (v := am_ush a b) hx hb hd rfl (fin (pc + 1) _ _ _ _ _ _ hck hE9 (S.tl.tl.ps trivial))
  | idiv =>
    obtain ⟨hd, hck⟩ := am_split1 hc1 (by intro q; cases q) rfl
    obtain ⟨a, b, r, rfl, hE10⟩ := am_2_some hE
    obtain ⟨hb0, hE11⟩ := am_ifn_some hE10
    exact lv_idiv hx hb hd hb0 (fin (pc + 1) _ _ _ _ _ _ hck hE11 (S.tl.tl.ps trivial))
  | irem =>
    obtain ⟨hd, hck⟩ := am_split1 hc1 (by intro q; cases q) rfl
    obtain ⟨a, b, r, rfl, hE12⟩ := am_2_some hE
    obtain ⟨hb0, hE13⟩ := am_ifn_some hE12
    exact lv_irem hx hb hd hb0 (fin (pc + 1) _ _ _ _ _ _ hck hE13 (S.tl.tl.ps trivial))
  | ineg =>
    obtain ⟨hd, hck⟩ := am_split1 hc1 (by intro q; cases q) rfl
    obtain ⟨a, r, rfl, hE14⟩ := am_pi_some hE
    exact lv_ineg hx hb hd (fin (pc + 1) _ _ _ _ _ _ hck hE14 (S.tl.ps trivial))
  | i2c =>
    obtain ⟨hd, hck⟩ := am_split1 hc1 (by intro q; cases q) rfl
    obtain ⟨a, r, rfl, hE15⟩ := am_pi_some hE
    exact lv_i2c (v := am_i2c a) hx hb hd rfl (fin (pc + 1) _ _ _ _ _ _ hck hE15 (S.tl.ps trivial))
  | i2l =>
    obtain ⟨hd, hck⟩ := am_split1 hc1 (by intro q; cases q) rfl
    obtain ⟨a, r, rfl, hE16⟩ := am_pi_some hE
    exact lv_i2l hx hb hd rfl (fin (pc + 1) _ _ _ _ _ _ hck hE16 (S.tl.ps trivial))
  | l2i =>
    obtain ⟨hd, hck⟩ := am_split1 hc1 (by intro q; cases q) rfl
    obtain ⟨a, r, rfl, hE17⟩ := am_pl_some hE
    exact lv_l2i hx hb hd rfl (fin (pc + 1) _ _ _ _ _ _ hck hE17 (S.tl.ps trivial))
  | ladd =>
    obtain ⟨hd, hck⟩ := am_split1 hc1 (by intro q; cases q) rfl
    obtain ⟨a, b, r, rfl, hE18⟩ := am_2l_some hE
    exact lv_ladd hx hb hd (fin (pc + 1) _ _ _ _ _ _ hck hE18 (S.tl.tl.ps trivial))
  | lmul =>
    obtain ⟨hd, hck⟩ := am_split1 hc1 (by intro q; cases q) rfl
    obtain ⟨a, b, r, rfl, hE19⟩ := am_2l_some hE
    exact lv_lmul hx hb hd (fin (pc + 1) _ _ _ _ _ _ hck hE19 (S.tl.tl.ps trivial))
  | lcmp =>
    obtain ⟨hd, hck⟩ := am_split1 hc1 (by intro q; cases q) rfl
    obtain ⟨a, b, r, rfl, hE20⟩ := am_2l_some hE
    exact W.lcmp hx hb hd (fin (pc + 1) _ _ _ _ _ _ hck hE20 (S.tl.tl.ps trivial))
  | lrem =>
    obtain ⟨hd, hck⟩ := am_split1 hc1 (by intro q; cases q) rfl
    obtain ⟨a, b, r, rfl, hE21⟩ := am_2l_some hE
    obtain ⟨hb0, hE22⟩ := am_ifn_some hE21
    exact lv_lrem hx hb hd hb0 (fin (pc + 1) _ _ _ _ _ _ hck hE22 (S.tl.tl.ps trivial))
  | iload_n i =>
    obtain ⟨hd, hck⟩ := am_split1 hc1 (by intro q; cases q) rfl
    obtain ⟨x, hi, hE23⟩ := am_ldi_some hE
    exact lv_iload_n hx hb hd rfl (S.1.ld hi) (fin (pc + 1) _ _ _ _ _ _ hck hE23 (S.ps trivial))
  | iload i =>
    obtain ⟨hd, hck⟩ := am_split1 hc1 (by intro q; cases q) rfl
    obtain ⟨x, hi, hE24⟩ := am_ldi_some hE
    exact lv_iload hx hb hd (S.1.ld hi) (fin (pc + 2) _ _ _ _ _ _ hck hE24 (S.ps trivial))
  | aload_n i =>
    obtain ⟨hd, hck⟩ := am_split1 hc1 (by intro q; cases q) rfl
    obtain ⟨t, a, hi, hE25⟩ := am_lda_some hE
    exact lv_aload_n hx hb hd rfl (S.1.ld hi) (fin (pc + 1) _ _ _ _ _ _ hck hE25 (S.ps (S.2.1 _ _ hi)))
  | aload i =>
    obtain ⟨hd, hck⟩ := am_split1 hc1 (by intro q; cases q) rfl
    obtain ⟨t, a, hi, hE26⟩ := am_lda_some hE
    exact lv_aload hx hb hd (S.1.ld hi) (fin (pc + 2) _ _ _ _ _ _ hck hE26 (S.ps (S.2.1 _ _ hi)))
  | lload_n i =>
    obtain ⟨hd, hck⟩ := am_split1 hc1 (by intro q; cases q) rfl
    obtain ⟨x, hi, hE27⟩ := am_ldl_some hE
    exact lv_lload_n hx hb hd rfl (S.1.ld hi) (fin (pc + 1) _ _ _ _ _ _ hck hE27 (S.ps trivial))
  | lload i =>
    obtain ⟨hd, hck⟩ := am_split1 hc1 (by intro q; cases q) rfl
    obtain ⟨x, hi, hE28⟩ := am_ldl_some hE
    exact lv_lload hx hb hd (S.1.ld hi) (fin (pc + 2) _ _ _ _ _ _ hck hE28 (S.ps trivial))
  | getfield i =>
    obtain ⟨hd, hck⟩ := am_split1 hc1 (by intro q; cases q) rfl
    obtain ⟨h1, h2⟩ := and2 hck
    exact am_sget C (fun ls st h sl H locs => fin (pc + 3) ls st h sl H locs h1) hd h2 rfl hE S
  | putfield i =>
    obtain ⟨hd, hck⟩ := am_split1 hc1 (by intro q; cases q) rfl
    obtain ⟨h1, h2⟩ := and2 hck
    obtain ⟨h1, h3⟩ := and2 h1
    exact am_sput C (fun ls st h sl H locs => fin (pc + 3) ls st h sl H locs h1) hd h3 h2 rfl hE S
  | iconst i =>
    obtain ⟨hd, hck⟩ := am_split1 hc1 (by intro q; cases q) rfl
    obtain ⟨h1, h2⟩ := and2 hck
    exact lv_iconst hx hb hd (of_decide_eq_true h2) (fin (pc + 1) _ _ _ _ _ _ h1 hE (S.ps trivial))
  | bipush i =>
    obtain ⟨hd, hck⟩ := am_split1 hc1 (by intro q; cases q) rfl
    obtain ⟨h1, h2⟩ := and2 hck
    exact lv_bipush hx hb hd (of_decide_eq_true h2) (fin (pc + 2) _ _ _ _ _ _ h1 hE (S.ps trivial))
  | sipush i =>
    obtain ⟨hd, hck⟩ := am_split1 hc1 (by intro q; cases q) rfl
    obtain ⟨h1, h2⟩ := and2 hck
    exact lv_sipush hx hb hd (of_decide_eq_true h2) (fin (pc + 3) _ _ _ _ _ _ h1 hE (S.ps trivial))
  | lconst i =>
    obtain ⟨hd, hck⟩ := am_split1 hc1 (by intro q; cases q) rfl
    obtain ⟨h1, h2⟩ := and2 hck
    exact lv_lconst hx hb hd (of_decide_eq_true h2) (fin (pc + 1) _ _ _ _ _ _ h1 hE (S.ps trivial))
  | ldc i =>
    obtain ⟨hd, hck⟩ := am_split1 hc1 (by intro q; cases q) rfl
    obtain ⟨h1, h2⟩ := and2 hck
    match aux, h2 with
    | wi :: _, h2 => exact lv_ldc hx hb hown (hts _ (am_word_mem h2)) hd (fin (pc + 2) _ _ _ _ _ _ h1 hE (S.ps trivial))
  | ldc_w i =>
    obtain ⟨hd, hck⟩ := am_split1 hc1 (by intro q; cases q) rfl
    obtain ⟨h1, h2⟩ := and2 hck
    match aux, h2 with
    | wi :: _, h2 => exact lv_ldcw hx hb hown (hts _ (am_word_mem h2)) hd (fin (pc + 3) _ _ _ _ _ _ h1 hE (S.ps trivial))
  | ldc2_w i =>
    obtain ⟨hd, hck⟩ := am_split1 hc1 (by intro q; cases q) rfl
    obtain ⟨h1, h2⟩ := and2 hck
    match aux, h2 with
    | wi :: _, h2 => exact lv_ldc2 hx hb hown (hts _ (am_word_mem h2)) hd (fin (pc + 3) _ _ _ _ _ _ h1 hE (S.ps trivial))
  | iaload =>
    obtain ⟨hd, hck⟩ := am_split1 hc1 (by intro q; cases q) rfl
    obtain ⟨i, r, rfl, hE29⟩ := am_pi_some hE
    obtain ⟨t, a, r, rfl, hE30⟩ := am_pa_some hE29
    split at hE30
    · rename_i ht
      subst ht
      obtain ⟨hin, hE31⟩ := am_b_some hE30
      obtain ⟨hX, hbl, hbA⟩ := hsc (show sc from S.tl.hd)
      exact va_sld (A := am_A b0) hx hb hX hbl hbA S.2.2.2.2.2 hin hd (fin (pc + 1) _ _ _ _ _ _ hck hE31 (S.tl.tl.ps trivial))
    · rename_i ht
      obtain ⟨h100, hE32⟩ := am_ifn_some hE30
      obtain ⟨hin, hE33⟩ := am_b_some hE32
      obtain ⟨ha, hct⟩ := am_obj (h := h) S.tl.hd ht
      have hst : (vi i :: vr t a :: r).map (am_cv b0 bS) = .int i :: .ref (b0 + a) :: r.map (am_cv b0 bS) := by simp [am_cv, ht]
      rw [hst]
      exact va_iald hx hb hK S.2.2.2.1 a 0 (am_at_int ha hct (by omega)) rfl hin hd (fin (pc + 1) _ _ _ _ _ _ hck hE33 (S.tl.tl.ps trivial))
  | iastore =>
    obtain ⟨hd, hck⟩ := am_split1 hc1 (by intro q; cases q) rfl
    obtain ⟨x, r, rfl, hE34⟩ := am_pi_some hE
    obtain ⟨i, r, rfl, hE35⟩ := am_pi_some hE34
    obtain ⟨t, a, r, rfl, hE36⟩ := am_pa_some hE35
    obtain ⟨h100, hE37⟩ := am_ifn_some hE36
    obtain ⟨hin, hE38⟩ := am_b_some hE37
    have ht : t ≠ 8 := by omega
    obtain ⟨ha, hct⟩ := am_obj (h := h) S.tl.tl.hd ht
    have hst : (vi x :: vi i :: vr t a :: r).map (am_cv b0 bS) = .int x :: .int i :: .ref (b0 + a) :: r.map (am_cv b0 bS) := by simp [am_cv, ht]
    rw [hst]
    exact va_iast hx hb hK S.2.2.2.1 (am_w_D b0 cI cH nC h) S.2.2.2.2.2 a 0 (am_at_int ha hct (by omega)) rfl hin hd (fun H1 locs1 hP1 hD1 hS1 => fin (pc + 1) _ _ _ _ _ _ hck hE38 (am_S.wr S.tl.tl.tl (am_en_int hct (by omega) _) hP1 (am_wf_arr S.2.2.2.2.1 (by omega)) hS1))
  | caload =>
    obtain ⟨hd, hck⟩ := am_split1 hc1 (by intro q; cases q) rfl
    obtain ⟨i, r, rfl, hE39⟩ := am_pi_some hE
    obtain ⟨t, a, r, rfl, hE40⟩ := am_pa_some hE39
    obtain ⟨h9, hE41⟩ := am_if_some hE40
    obtain ⟨hin, hE42⟩ := am_b_some hE41
    have ht : t ≠ 8 := by omega
    obtain ⟨ha, hct⟩ := am_obj (h := h) S.tl.hd ht
    have hst : (vi i :: vr t a :: r).map (am_cv b0 bS) = .int i :: .ref (b0 + a) :: r.map (am_cv b0 bS) := by simp [am_cv, ht]
    rw [hst]
    exact va_cald hx hb hK S.2.2.2.1 a 1 (am_at_chr ha (hct.trans h9)) rfl hin hd (fin (pc + 1) _ _ _ _ _ _ hck hE42 (S.tl.tl.ps trivial))
  | castore =>
    obtain ⟨hd, hck⟩ := am_split1 hc1 (by intro q; cases q) rfl
    obtain ⟨x, r, rfl, hE43⟩ := am_pi_some hE
    obtain ⟨i, r, rfl, hE44⟩ := am_pi_some hE43
    obtain ⟨t, a, r, rfl, hE45⟩ := am_pa_some hE44
    obtain ⟨h9, hE46⟩ := am_if_some hE45
    obtain ⟨hin, hE47⟩ := am_b_some hE46
    have ht : t ≠ 8 := by omega
    obtain ⟨ha, hct⟩ := am_obj (h := h) S.tl.tl.hd ht
    have hst : (vi x :: vi i :: vr t a :: r).map (am_cv b0 bS) = .int x :: .int i :: .ref (b0 + a) :: r.map (am_cv b0 bS) := by simp [am_cv, ht]
    rw [hst]
    exact va_cast hx hb hK S.2.2.2.1 (am_w_D b0 cI cH nC h) S.2.2.2.2.2 a 1 (am_at_chr ha (hct.trans h9)) rfl hin hd (fun H1 locs1 hP1 hD1 hS1 => fin (pc + 1) _ _ _ _ _ _ hck hE47 (am_S.wr S.tl.tl.tl (am_en_chr (hct.trans h9) _) hP1 (am_wf_arr S.2.2.2.2.1 (by omega)) hS1))
  | arraylength =>
    obtain ⟨hd, hck⟩ := am_split1 hc1 (by intro q; cases q) rfl
    obtain ⟨t, a, r, rfl, hE48⟩ := am_pa_some hE
    split at hE48
    · rename_i ht
      subst ht
      obtain ⟨hX, hbl, hbA⟩ := hsc (show sc from S.hd)
      exact va_slen (A := am_A b0) hx hb hX hbl hbA S.2.2.2.2.2 hd (fin (pc + 1) _ _ _ _ _ _ hck hE48 (S.tl.ps trivial))
    · rename_i ht
      obtain ⟨h100, hE49⟩ := am_ifn_some hE48
      obtain ⟨ha, hct⟩ := am_obj (h := h) S.hd ht
      have hst : (vr t a :: r).map (am_cv b0 bS) = .ref (b0 + a) :: r.map (am_cv b0 bS) := by simp [am_cv, ht]
      rw [hst]
      exact va_alen hx hb hK S.2.2.2.1 a 0 (am_at_int ha hct (by omega)) rfl rfl hd (fin (pc + 1) _ _ _ _ _ _ hck hE49 (S.tl.ps trivial))
  | istore_n i =>
    obtain ⟨hd, hck⟩ := am_split1 hc1 (by intro q; cases q) rfl
    obtain ⟨h1, h2⟩ := and2 hck
    obtain ⟨x, r, rfl, hE50⟩ := am_pi_some hE
    obtain ⟨hE50, hpre⟩ := am_pre_some hE50
    exact lv_istore_n (lv := am_lv (am_cv b0 bS) 0 ls) hx hb hd rfl S.1.2 (of_decide_eq_true h2) rfl (fun sl' hl' => fin (pc + 1) _ _ _ _ _ _ h1 hE50 (S.tl.loc (S.1.st1 (am_cv_cat b0 bS) (v := vi x) hpre hl') (am_okst S.2.1 trivial)))
  | istore i =>
    obtain ⟨hd, hck⟩ := am_split1 hc1 (by intro q; cases q) rfl
    obtain ⟨h1, h2⟩ := and2 hck
    obtain ⟨x, r, rfl, hE51⟩ := am_pi_some hE
    obtain ⟨hE51, hpre⟩ := am_pre_some hE51
    exact lv_istore (lv := am_lv (am_cv b0 bS) 0 ls) hx hb hd S.1.2 (of_decide_eq_true h2) rfl (fun sl' hl' => fin (pc + 2) _ _ _ _ _ _ h1 hE51 (S.tl.loc (S.1.st1 (am_cv_cat b0 bS) (v := vi x) hpre hl') (am_okst S.2.1 trivial)))
  | astore_n i =>
    obtain ⟨hd, hck⟩ := am_split1 hc1 (by intro q; cases q) rfl
    obtain ⟨h1, h2⟩ := and2 hck
    obtain ⟨t, a, r, rfl, hE52⟩ := am_pa_some hE
    obtain ⟨hE52, hpre⟩ := am_pre_some hE52
    exact lv_astore_n (lv := am_lv (am_cv b0 bS) 0 ls) hx hb hd rfl S.1.2 (of_decide_eq_true h2) rfl (fun sl' hl' => fin (pc + 1) _ _ _ _ _ _ h1 hE52 (S.tl.loc (S.1.st1 (am_cv_cat b0 bS) (v := vr t a) hpre hl') (am_okst S.2.1 S.hd)))
  | lstore_n i =>
    obtain ⟨hd, hck⟩ := am_split1 hc1 (by intro q; cases q) rfl
    obtain ⟨h1, h2⟩ := and2 hck
    obtain ⟨x, r, rfl, hE53⟩ := am_pl_some hE
    obtain ⟨hE53, hpre⟩ := am_pre_some hE53
    exact lv_lstore_n (lv := am_lv (am_cv b0 bS) 0 ls) hx hb hd rfl S.1.2 (of_decide_eq_true h2) rfl (fun sl' hl' => fin (pc + 1) _ _ _ _ _ _ h1 hE53 (S.tl.loc (S.1.st2 (am_cv_cat b0 bS) (v := vl x) hpre hl') (am_okst0 (am_okst S.2.1 trivial))))
  | lstore i =>
    obtain ⟨hd, hck⟩ := am_split1 hc1 (by intro q; cases q) rfl
    obtain ⟨h1, h2⟩ := and2 hck
    obtain ⟨x, r, rfl, hE54⟩ := am_pl_some hE
    obtain ⟨hE54, hpre⟩ := am_pre_some hE54
    exact lv_lstore (lv := am_lv (am_cv b0 bS) 0 ls) hx hb hd S.1.2 (of_decide_eq_true h2) rfl (fun sl' hl' => fin (pc + 2) _ _ _ _ _ _ h1 hE54 (S.tl.loc (S.1.st2 (am_cv_cat b0 bS) (v := vl x) hpre hl') (am_okst0 (am_okst S.2.1 trivial))))
  | iinc i y =>
    obtain ⟨hd, hck⟩ := am_split1 hc1 (by intro q; cases q) rfl
    obtain ⟨h1, h2⟩ := and2 hck
    obtain ⟨h1, h3⟩ := and2 h1
    obtain ⟨x, hi, hE55⟩ := am_ldi_some hE
    obtain ⟨hE55, hpre⟩ := am_pre_some hE55
    obtain ⟨kk, hkk⟩ := S.1.at hi
    exact lv_iinc (v := x + q) (lv := am_lv (am_cv b0 bS) 0 ls) hx hb hd S.1.2 hkk (by rw [of_decide_eq_true h3]) (of_decide_eq_true h2) rfl (fun sl' hl' => fin (pc + 3) _ _ _ _ _ _ h1 hE55 (S.loc (S.1.st1 (am_cv_cat b0 bS) (v := vi (x + q)) hpre hl') (am_okst S.2.1 trivial)))
  | dup =>
    obtain ⟨hd, hck⟩ := am_split1 hc1 (by intro q; cases q) rfl
    match st, hE, S with
    | v :: r, hE, S =>
      obtain ⟨hc, hE56⟩ := am_if_some hE
      exact lv_dup hx hb hd ((am_cv_cat b0 bS v).trans hc) (fin (pc + 1) _ _ _ _ _ _ hck hE56 (S.ps S.hd))
  | dup2 =>
    obtain ⟨hd, hck⟩ := am_split1 hc1 (by intro q; cases q) rfl
    match st, hE, S with
    | v :: w :: r, hE, S =>
      obtain ⟨hc, hE57⟩ := am_if_some hE
      obtain ⟨hc2, hE58⟩ := am_if_some hE57
      exact lv_dup2_11 hx hb hd ((am_cv_cat b0 bS v).trans hc) ((am_cv_cat b0 bS w).trans hc2) (fin (pc + 1) _ _ _ _ _ _ hck hE58 ((S.ps S.tl.hd).ps S.hd))
  | pop =>
    obtain ⟨hd, hck⟩ := am_split1 hc1 (by intro q; cases q) rfl
    match st, hE, S with
    | v :: r, hE, S =>
      obtain ⟨hc, hE59⟩ := am_if_some hE
      exact lv_pop hx hb hd ((am_cv_cat b0 bS v).trans hc) (fin (pc + 1) _ _ _ _ _ _ hck hE59 S.tl)
  | goto off =>
    obtain ⟨hd, hck⟩ := am_split1 hc1 (by intro q; cases q) rfl
    match aux, hck, hE with
    | t :: _, hck, hE => exact lv_goto hx hb hd (am_pcI_pc hck).symm (hN t _ _ _ _ _ _ hE S)
  | if_icmp cd off =>
    obtain ⟨hd, hck⟩ := am_split1 hc1 (by intro q; cases q) rfl
    obtain ⟨h1, h2⟩ := and2 hck
    match aux, h2, hE with
    | t :: _, h2, hE =>
      obtain ⟨a, b, r, rfl, hE60⟩ := am_2_some hE
      have hj := (am_pcI_pc h2).symm
      cases cd with
      | eq => exact lv_icmp_eq hx hb hd hj (fun q => hN t _ _ _ _ _ _ (am_ipos (c := a = b) (q) hE60) S.tl.tl) (fun q => fin (pc + 3) _ _ _ _ _ _ h1 (am_ineg (c := a = b) (q) hE60) S.tl.tl)
      | ne => exact lv_icmp_ne hx hb hd hj (fun q => hN t _ _ _ _ _ _ (am_ineg (c := a = b) (q) hE60) S.tl.tl) (fun q => fin (pc + 3) _ _ _ _ _ _ h1 (am_ipos (c := a = b) (q) hE60) S.tl.tl)
      | lt => exact lv_icmp_lt hx hb hd hj (fun q => hN t _ _ _ _ _ _ (am_ipos (c := a < b) (q) hE60) S.tl.tl) (fun q => fin (pc + 3) _ _ _ _ _ _ h1 (am_ineg (c := a < b) (q) hE60) S.tl.tl)
      | ge => exact lv_icmp_ge hx hb hd hj (fun q => hN t _ _ _ _ _ _ (am_ineg (c := a < b) (am_nlt q) hE60) S.tl.tl) (fun q => fin (pc + 3) _ _ _ _ _ _ h1 (am_ipos (c := a < b) (am_nle q) hE60) S.tl.tl)
      | gt => exact lv_icmp_gt hx hb hd hj (fun q => hN t _ _ _ _ _ _ (am_ipos (c := b < a) (q) hE60) S.tl.tl) (fun q => fin (pc + 3) _ _ _ _ _ _ h1 (am_ineg (c := b < a) (q) hE60) S.tl.tl)
      | le => exact lv_icmp_le hx hb hd hj (fun q => hN t _ _ _ _ _ _ (am_ineg (c := b < a) (am_nlt q) hE60) S.tl.tl) (fun q => fin (pc + 3) _ _ _ _ _ _ h1 (am_ipos (c := b < a) (am_nle q) hE60) S.tl.tl)
  | ifCond cd off =>
    obtain ⟨hd, hck⟩ := am_split1 hc1 (by intro q; cases q) rfl
    obtain ⟨h1, h2⟩ := and2 hck
    match aux, h2, hE with
    | t :: _, h2, hE =>
      obtain ⟨a, r, rfl, hE61⟩ := am_pi_some hE
      have hj := (am_pcI_pc h2).symm
      cases cd with
      | eq => exact lv_if_eq hx hb hd hj (fun q => hN t _ _ _ _ _ _ (am_ipos (c := a = 0) (q) hE61) S.tl) (fun q => fin (pc + 3) _ _ _ _ _ _ h1 (am_ineg (c := a = 0) (q) hE61) S.tl)
      | ne => exact lv_if_ne hx hb hd hj (fun q => hN t _ _ _ _ _ _ (am_ineg (c := a = 0) (q) hE61) S.tl) (fun q => fin (pc + 3) _ _ _ _ _ _ h1 (am_ipos (c := a = 0) (q) hE61) S.tl)
      | lt => exact lv_if_lt hx hb hd hj (fun q => hN t _ _ _ _ _ _ (am_ipos (c := a < 0) (q) hE61) S.tl) (fun q => fin (pc + 3) _ _ _ _ _ _ h1 (am_ineg (c := a < 0) (q) hE61) S.tl)
      | ge => exact lv_if_ge hx hb hd hj (fun q => hN t _ _ _ _ _ _ (am_ineg (c := a < 0) (am_nlt q) hE61) S.tl) (fun q => fin (pc + 3) _ _ _ _ _ _ h1 (am_ipos (c := a < 0) (am_nle q) hE61) S.tl)
      | gt => exact lv_if_gt hx hb hd hj (fun q => hN t _ _ _ _ _ _ (am_ipos (c := 0 < a) (q) hE61) S.tl) (fun q => fin (pc + 3) _ _ _ _ _ _ h1 (am_ineg (c := 0 < a) (q) hE61) S.tl)
      | le => exact lv_if_le hx hb hd hj (fun q => hN t _ _ _ _ _ _ (am_ineg (c := 0 < a) (am_nlt q) hE61) S.tl) (fun q => fin (pc + 3) _ _ _ _ _ _ h1 (am_ipos (c := 0 < a) (am_nle q) hE61) S.tl)
  | invokevirtual i =>
    obtain ⟨hd, hck⟩ := am_split1 hc1 (by intro q; cases q) rfl
    obtain ⟨h1, h2⟩ := and2 hck
    exact am_sinv C hG hcs (fun ls st h sl H locs => fin (pc + 3) ls st h sl H locs h1) true hd h2 rfl hE S
  | invokestatic i =>
    obtain ⟨hd, hck⟩ := am_split1 hc1 (by intro q; cases q) rfl
    obtain ⟨h1, h2⟩ := and2 hck
    by_cases h9 : ∃ wi x, aux = 999 :: wi :: x
    · obtain ⟨wi, x, rfl⟩ := h9
      exact am_scpy C (fun ls st h sl H locs => fin (pc + 3) ls st h sl H locs h1) hd (am_word_mem h2) rfl hE S
    · have h2 : am_ick mt own true i aux = true := am_is1 h2 h9
      exact am_sinv C hG hcs (fun ls st h sl H locs => fin (pc + 3) ls st h sl H locs h1) false hd h2 rfl (am_is2 hE h9 h2) S
  | ireturn =>
    obtain ⟨hd, hck⟩ := am_split1 hc1 (by intro q; cases q) rfl
    match st, aux, hck, hE, S with
    | [Sum.inl v], 1 :: _, hck, hE, S =>
      obtain ⟨hv, hE62⟩ := am_if_some hE
      cases hE62
      exact hZi v h sl H locs pc hd (Or.inr ⟨of_decide_eq_true hck, hv⟩) rfl S
    | [Sum.inl v], 0 :: _, hck, hE, S =>
      cases hE
      exact hZi v h sl H locs pc hd (Or.inl (of_decide_eq_true hck)) rfl S
    | [], _, _, hE, _ => cases hE
    | Sum.inr _ :: _, _, _, hE, _ => cases hE
    | Sum.inl _ :: _ :: _, _, _, hE, _ => cases hE
    | [Sum.inl _], [], _, hE, _ => cases hE
    | [Sum.inl _], (_ + 2) :: _, _, hE, _ => cases hE
  | return_ =>
    obtain ⟨hd, hck⟩ := am_split1 hc1 (by intro q; cases q) rfl
    match st, hE, S with
    | [], hE, S =>
      cases hE
      exact hZv h sl H locs pc hd (of_decide_eq_true hck) rfl S
    | _ :: _, hE, _ => cases hE
  | tableswitch df lo hi offs =>
    obtain ⟨hd, -, hck⟩ := am_split hc1 (by intro q; cases q)
    match aux, hck, hE with
    | t :: l', hck, hE =>
      obtain ⟨h1, h5⟩ := and2 hck
      obtain ⟨h1, h4⟩ := and2 h1
      obtain ⟨h1, h3⟩ := and2 h1
      obtain ⟨h1, h2⟩ := and2 h1
      have h2 := of_decide_eq_true h2
      have h3 := of_decide_eq_true h3
      have h5 := of_decide_eq_true h5
      obtain ⟨x, r, rfl, hE63⟩ := am_pi_some hE
      have hlo : ((lo.toNat : Nat) : Int) = lo := by omega
      rcases am_tsw _ _ _ h4 (by omega) hE63 with ⟨j, t', o, a1, a2, a3, a4⟩ | ⟨a1, a2⟩
      · have hjl : j < offs.toList.length := (List.getElem?_eq_some_iff.mp a2).1
        exact lv_tableIn hx hb hd (by omega) (by omega) (by rw [show (x.toInt - lo).toNat = j by omega]; simpa using a2) (am_pcI_pc a4).symm (hN t' _ _ _ _ _ _ a3 S.tl)
      · exact lv_tableOut hx hb hd (by omega) (am_pcI_pc h1).symm (hN t _ _ _ _ _ _ a2 S.tl)
  | lookupswitch df ps =>
    obtain ⟨hd, -, hck⟩ := am_split hc1 (by intro q; cases q)
    match aux, hck, hE with
    | t :: l', hck, hE =>
      obtain ⟨h1, h3⟩ := and2 hck
      obtain ⟨h1, h2⟩ := and2 h1
      obtain ⟨x, r, rfl, hE64⟩ := am_pi_some hE
      obtain ⟨t', a1, a2⟩ := am_lsw h1 _ _ h3 hE64
      exact lv_lookup hx hb hd h2 rfl (am_pcI_pc a1).symm (hN t' _ _ _ _ _ _ a2 S.tl)
  | nop =>
    match st, aux, hc1, hE, S with
    | [], t :: _, hc1, hE, S =>
      have hp := am_pcI_pc (show am_pcI (am_drp t tb) ((pc : Nat) : Int) = true from hc1)
      have hp : am_pc (am_drp t tb) = pc := by omega
      rw [← hp]
      exact hR t ls [] h sl H locs hE S
    | [], [], _, hE, _ => cases hE
    | _ :: _, _, _, hE, _ => cases hE
  | _ => exact absurd (show (none : am_Z) = some Z from hE) (fun q => by cases q)
end SIM
