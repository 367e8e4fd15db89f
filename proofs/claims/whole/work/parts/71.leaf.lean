/-! THE CONSTRUCTORS of what the class is made of; by program -/
theorem cn_arI : Cond.arrayClass .int ∈ am_tbl := am_word_mem (i := 181) (by decide +kernel)
theorem lf_set {D : va_G} {b0 n ci : Nat} {fs fs' : List Value} {cI : ClassId} {ns : List Nat} {H : Heap} (h : cn_P D b0 n (cn_up (lf_E ci fs cI ns) 0 (.inr (ci, fs'))) H) : cn_P D b0 n (lf_E ci fs' cI ns) H := h.cg fun k _ => by
  unfold cn_up lf_E
  by_cases h0 : k = 0
  · rw [if_pos h0, if_pos h0]
  · rw [if_neg h0, if_neg h0, if_neg h0]
def cn_y0 : MethodName := ⟨"RoomsOfHours$Acts", "<init>", "()V"⟩
def cn_w0 : List Cond := Cond.code cn_y0 prog_2_method_1_code 1 none :: am_tbl
def cn_f0 (a : Nat) : List Value := [.ref (a + 1), .ref (a + 2), .ref (a + 3), .int 0]
abbrev cn_n0 : List Nat := [40, 40, 40]
abbrev cn_00 : List Value := [.null, .null, .null, .int 0]
set_option maxHeartbeats 4000000 in
set_option maxRecDepth 100000 in
theorem cn_c0 (l : Launch) (D : va_G) (cI cH : ClassId) (a : Nat) : Met l cn_y0 cn_w0 ({ frames := 1, cells := 3, slots := 120, locals := 12 }) (va_Pc [.ref a] (fun U => cn_P D a 1 (lf_E 0 cn_00 cI []) U.heap ∧ va_K D am_cls [(cI, .int), (cH, .char)] U)) (va_Qv (fun (_ : Unit) => True) (fun _ t => cn_P D a 4 (lf_E 0 (cn_f0 a) cI cn_n0) t.heap) (am_A a)) 3 120 (am_A a) := by
  refine Met.ofW (cc := prog_2_method_1_code) (maxL := 1) (ret := none) (by decide) rfl ?_
  intro p e s m args below meth c s₁ B hml hv
  obtain ⟨rfl, hP, hK⟩ := hv
  have hS : va_S (am_A a) s.heap s.heap [] := va_S.rf
  have hx := B.exec
  have hb := B.bytes
  have hr := B.returns
  have hts0 := atoms_spec (ws := cn_w0) B.pre
  have hts : ∀ w ∈ am_tbl, w.before _ s = true := fun w hw => hts0 w (List.mem_cons_of_mem _ hw)
  have hown : s.vm.findClass am_R0 = some m.cls := findClass_of_methodNamed B.named
  have hin : meth.name = "<init>" := (name_of_methodNamed B.named B.method).1
  have hl := lv_entry ([.ref a]) (n := 1) (Nat.le_of_ble_eq_true rfl)
  rw [lg_entry_eq]
  generalize (lg_sl ([.ref a]) ++ List.replicate (1 - (lg_sl ([.ref a])).length) Slot.unset).toArray = ls at hl ⊢
  have hl : lv_has ls 1 [(0, .ref a)] := hl
  have hl0 : ls[0]? = some (.val (.ref a)) := lv_at hl 0 rfl
  refine lv_aload_n (k := 0) hx hb (by decide +kernel) rfl hl0 ?_
  refine W.objInit hx hb hown (idx := 3) (hts _ (am_word_mem (i := 249) (w := .methodLink am_R0 3 objectInit) (by decide +kernel))) (hts _ (am_word_mem (i := 83) (w := .instanceMethod objectInit) (by decide +kernel))) (hts _ (am_word_mem (i := 84) (w := .code objectInit ⟨#[0xb1]⟩ 1 none) (by decide +kernel))) rfl (by rw [hml]; exact hl.1) rfl (show decode prog_2_method_1_code 1 = .ok (.invokespecial 3, 3) by decide +kernel) (Nat.le_of_ble_eq_true rfl) (Nat.le_of_ble_eq_true rfl) ?_
  refine W.eq (g2 := F0 m 4 ls []) rfl ?_
  refine lf_arr (C := am_R0) (T := am_T0) (N := 4) (ci := 0) (index := 9) (fs := [.null, .null, .null, .int 0]) (ns := []) hx hb hts am_i0 am_y0 am_y0_ok am_n0 hown hK rfl cn_arI hl0 hP hS 0 (by decide) 40 (by decide) 7 (am_word_mem (i := 250) (by decide +kernel)) rfl (Or.inr ⟨rfl, hin, rfl⟩) (by decide +kernel) (Nat.le_of_ble_eq_true rfl) (by decide +kernel) (fun k9 => lv_bipush (n := 40) (v := nI 40) hx hb (by decide +kernel) (by decide +kernel) k9) (by decide +kernel) (by decide +kernel) (Nat.le_of_ble_eq_true rfl) (Nat.le_of_ble_eq_true rfl) (fun H locs hP hS => ?_)
  have hP : cn_P D a 2 (lf_E 0 [.ref (a + 1), .null, .null, .int 0] cI [40]) H := hP
  refine lf_arr (C := am_R0) (T := am_T0) (N := 4) (ci := 0) (index := 15) (fs := [.ref (a + 1), .null, .null, .int 0]) (ns := [40]) hx hb hts am_i0 am_y0 am_y0_ok am_n0 hown hK rfl cn_arI hl0 hP hS 1 (by decide) 40 (by decide) 15 (am_word_mem (i := 252) (by decide +kernel)) rfl (Or.inr ⟨rfl, hin, rfl⟩) (by decide +kernel) (Nat.le_of_ble_eq_true rfl) (by decide +kernel) (fun k9 => lv_bipush (n := 40) (v := nI 40) hx hb (by decide +kernel) (by decide +kernel) k9) (by decide +kernel) (by decide +kernel) (Nat.le_of_ble_eq_true rfl) (Nat.le_of_ble_eq_true rfl) (fun H locs hP hS => ?_)
  have hP : cn_P D a 3 (lf_E 0 [.ref (a + 1), .ref (a + 2), .null, .int 0] cI [40, 40]) H := hP
  refine lf_arr (C := am_R0) (T := am_T0) (N := 4) (ci := 0) (index := 18) (fs := [.ref (a + 1), .ref (a + 2), .null, .int 0]) (ns := [40, 40]) hx hb hts am_i0 am_y0 am_y0_ok am_n0 hown hK rfl cn_arI hl0 hP hS 2 (by decide) 40 (by decide) 23 (am_word_mem (i := 254) (by decide +kernel)) rfl (Or.inr ⟨rfl, hin, rfl⟩) (by decide +kernel) (Nat.le_of_ble_eq_true rfl) (by decide +kernel) (fun k9 => lv_bipush (n := 40) (v := nI 40) hx hb (by decide +kernel) (by decide +kernel) k9) (by decide +kernel) (by decide +kernel) (Nat.le_of_ble_eq_true rfl) (Nat.le_of_ble_eq_true rfl) (fun H locs hP hS => ?_)
  have hP : cn_P D a 4 (lf_E 0 [.ref (a + 1), .ref (a + 2), .ref (a + 3), .int 0] cI [40, 40, 40]) H := hP
  refine W.widen (k := 3) (n := 120) (Nat.le_of_ble_eq_true rfl) (Nat.le_of_ble_eq_true rfl) ?_
  exact W.vret hx hb hr (fun t ht hW => ⟨⟨(), rfl, trivial, by show cn_P _ _ _ _ t.heap; rw [ht]; exact hP⟩, hS.F ht⟩) hS.2.2 (by decide +kernel)
def cn_y1 : MethodName := ⟨"RoomsOfHours$Course", "<init>", "(LRoomsOfHours$House;)V"⟩
def cn_w1 : List Cond := Cond.code cn_y1 prog_3_method_1_code 2 none :: am_tbl
def cn_f1 (a w : Nat) : List Value := [.ref w, .int 0, .ref (a + 1), .ref (a + 2), .ref (a + 3), .ref (a + 4), .ref (a + 5), .ref (a + 6), .ref (a + 7), .ref (a + 8), .ref (a + 9), .ref (a + 10), .ref (a + 11), .ref (a + 12), .int 0]
abbrev cn_n1 : List Nat := [4, 4, 4, 4, 5, 5, 5, 5, 44, 44, 44, 44]
abbrev cn_01 : List Value := [.null, .int 0, .null, .null, .null, .null, .null, .null, .null, .null, .null, .null, .null, .null, .int 0]
set_option maxHeartbeats 4000000 in
set_option maxRecDepth 100000 in
theorem cn_c1 (l : Launch) (D : va_G) (cI cH : ClassId) (a w : Nat) : Met l cn_y1 cn_w1 ({ frames := 1, cells := 12, slots := 212, locals := 12 }) (va_Pc [.ref a, .ref w] (fun U => cn_P D a 1 (lf_E 1 cn_01 cI []) U.heap ∧ va_K D am_cls [(cI, .int), (cH, .char)] U)) (va_Qv (fun (_ : Unit) => True) (fun _ t => cn_P D a 13 (lf_E 1 (cn_f1 a w) cI cn_n1) t.heap) (am_A a)) 12 212 (am_A a) := by
  refine Met.ofW (cc := prog_3_method_1_code) (maxL := 2) (ret := none) (by decide) rfl ?_
  intro p e s m args below meth c s₁ B hml hv
  obtain ⟨rfl, hP, hK⟩ := hv
  have hS : va_S (am_A a) s.heap s.heap [] := va_S.rf
  have hx := B.exec
  have hb := B.bytes
  have hr := B.returns
  have hts0 := atoms_spec (ws := cn_w1) B.pre
  have hts : ∀ w ∈ am_tbl, w.before _ s = true := fun w hw => hts0 w (List.mem_cons_of_mem _ hw)
  have hown : s.vm.findClass am_R1 = some m.cls := findClass_of_methodNamed B.named
  have hin : meth.name = "<init>" := (name_of_methodNamed B.named B.method).1
  have hl := lv_entry ([.ref a, .ref w]) (n := 2) (Nat.le_of_ble_eq_true rfl)
  rw [lg_entry_eq]
  generalize (lg_sl ([.ref a, .ref w]) ++ List.replicate (2 - (lg_sl ([.ref a, .ref w])).length) Slot.unset).toArray = ls at hl ⊢
  have hl : lv_has ls 2 [(0, .ref a), (1, .ref w)] := hl
  have hl0 : ls[0]? = some (.val (.ref a)) := lv_at hl 0 rfl
  refine lv_aload_n (k := 0) hx hb (by decide +kernel) rfl hl0 ?_
  refine W.objInit hx hb hown (idx := 3) (hts _ (am_word_mem (i := 187) (w := .methodLink am_R1 3 objectInit) (by decide +kernel))) (hts _ (am_word_mem (i := 83) (w := .instanceMethod objectInit) (by decide +kernel))) (hts _ (am_word_mem (i := 84) (w := .code objectInit ⟨#[0xb1]⟩ 1 none) (by decide +kernel))) rfl (by rw [hml]; exact hl.1) rfl (show decode prog_3_method_1_code 1 = .ok (.invokespecial 3, 3) by decide +kernel) (Nat.le_of_ble_eq_true rfl) (Nat.le_of_ble_eq_true rfl) ?_
  refine W.eq (g2 := F0 m 4 ls []) rfl ?_
  refine lf_arr (C := am_R1) (T := am_T1) (N := 15) (ci := 1) (index := 9) (fs := [.null, .int 0, .null, .null, .null, .null, .null, .null, .null, .null, .null, .null, .null, .null, .int 0]) (ns := []) hx hb hts am_i1 am_y1 am_y1_ok am_n1 hown hK rfl cn_arI hl0 hP hS 2 (by decide) 4 (by decide) 6 (am_word_mem (i := 190) (by decide +kernel)) rfl (Or.inr ⟨rfl, hin, rfl⟩) (by decide +kernel) (Nat.le_of_ble_eq_true rfl) (by decide +kernel) (fun k9 => lv_iconst (n := 4) (v := nI 4) hx hb (by decide +kernel) (by decide +kernel) k9) (by decide +kernel) (by decide +kernel) (Nat.le_of_ble_eq_true rfl) (Nat.le_of_ble_eq_true rfl) (fun H locs hP hS => ?_)
  have hP : cn_P D a 2 (lf_E 1 [.null, .int 0, .ref (a + 1), .null, .null, .null, .null, .null, .null, .null, .null, .null, .null, .null, .int 0] cI [4]) H := hP
  refine lf_arr (C := am_R1) (T := am_T1) (N := 15) (ci := 1) (index := 15) (fs := [.null, .int 0, .ref (a + 1), .null, .null, .null, .null, .null, .null, .null, .null, .null, .null, .null, .int 0]) (ns := [4]) hx hb hts am_i1 am_y1 am_y1_ok am_n1 hown hK rfl cn_arI hl0 hP hS 3 (by decide) 4 (by decide) 13 (am_word_mem (i := 192) (by decide +kernel)) rfl (Or.inr ⟨rfl, hin, rfl⟩) (by decide +kernel) (Nat.le_of_ble_eq_true rfl) (by decide +kernel) (fun k9 => lv_iconst (n := 4) (v := nI 4) hx hb (by decide +kernel) (by decide +kernel) k9) (by decide +kernel) (by decide +kernel) (Nat.le_of_ble_eq_true rfl) (Nat.le_of_ble_eq_true rfl) (fun H locs hP hS => ?_)
  have hP : cn_P D a 3 (lf_E 1 [.null, .int 0, .ref (a + 1), .ref (a + 2), .null, .null, .null, .null, .null, .null, .null, .null, .null, .null, .int 0] cI [4, 4]) H := hP
  refine lf_arr (C := am_R1) (T := am_T1) (N := 15) (ci := 1) (index := 18) (fs := [.null, .int 0, .ref (a + 1), .ref (a + 2), .null, .null, .null, .null, .null, .null, .null, .null, .null, .null, .int 0]) (ns := [4, 4]) hx hb hts am_i1 am_y1 am_y1_ok am_n1 hown hK rfl cn_arI hl0 hP hS 4 (by decide) 4 (by decide) 20 (am_word_mem (i := 194) (by decide +kernel)) rfl (Or.inr ⟨rfl, hin, rfl⟩) (by decide +kernel) (Nat.le_of_ble_eq_true rfl) (by decide +kernel) (fun k9 => lv_iconst (n := 4) (v := nI 4) hx hb (by decide +kernel) (by decide +kernel) k9) (by decide +kernel) (by decide +kernel) (Nat.le_of_ble_eq_true rfl) (Nat.le_of_ble_eq_true rfl) (fun H locs hP hS => ?_)
  have hP : cn_P D a 4 (lf_E 1 [.null, .int 0, .ref (a + 1), .ref (a + 2), .ref (a + 3), .null, .null, .null, .null, .null, .null, .null, .null, .null, .int 0] cI [4, 4, 4]) H := hP
  refine lf_arr (C := am_R1) (T := am_T1) (N := 15) (ci := 1) (index := 21) (fs := [.null, .int 0, .ref (a + 1), .ref (a + 2), .ref (a + 3), .null, .null, .null, .null, .null, .null, .null, .null, .null, .int 0]) (ns := [4, 4, 4]) hx hb hts am_i1 am_y1 am_y1_ok am_n1 hown hK rfl cn_arI hl0 hP hS 5 (by decide) 4 (by decide) 27 (am_word_mem (i := 196) (by decide +kernel)) rfl (Or.inr ⟨rfl, hin, rfl⟩) (by decide +kernel) (Nat.le_of_ble_eq_true rfl) (by decide +kernel) (fun k9 => lv_iconst (n := 4) (v := nI 4) hx hb (by decide +kernel) (by decide +kernel) k9) (by decide +kernel) (by decide +kernel) (Nat.le_of_ble_eq_true rfl) (Nat.le_of_ble_eq_true rfl) (fun H locs hP hS => ?_)
  have hP : cn_P D a 5 (lf_E 1 [.null, .int 0, .ref (a + 1), .ref (a + 2), .ref (a + 3), .ref (a + 4), .null, .null, .null, .null, .null, .null, .null, .null, .int 0] cI [4, 4, 4, 4]) H := hP
  refine lf_arr (C := am_R1) (T := am_T1) (N := 15) (ci := 1) (index := 24) (fs := [.null, .int 0, .ref (a + 1), .ref (a + 2), .ref (a + 3), .ref (a + 4), .null, .null, .null, .null, .null, .null, .null, .null, .int 0]) (ns := [4, 4, 4, 4]) hx hb hts am_i1 am_y1 am_y1_ok am_n1 hown hK rfl cn_arI hl0 hP hS 6 (by decide) 5 (by decide) 34 (am_word_mem (i := 197) (by decide +kernel)) rfl (Or.inr ⟨rfl, hin, rfl⟩) (by decide +kernel) (Nat.le_of_ble_eq_true rfl) (by decide +kernel) (fun k9 => lv_iconst (n := 5) (v := nI 5) hx hb (by decide +kernel) (by decide +kernel) k9) (by decide +kernel) (by decide +kernel) (Nat.le_of_ble_eq_true rfl) (Nat.le_of_ble_eq_true rfl) (fun H locs hP hS => ?_)
  have hP : cn_P D a 6 (lf_E 1 [.null, .int 0, .ref (a + 1), .ref (a + 2), .ref (a + 3), .ref (a + 4), .ref (a + 5), .null, .null, .null, .null, .null, .null, .null, .int 0] cI [4, 4, 4, 4, 5]) H := hP
  refine lf_arr (C := am_R1) (T := am_T1) (N := 15) (ci := 1) (index := 27) (fs := [.null, .int 0, .ref (a + 1), .ref (a + 2), .ref (a + 3), .ref (a + 4), .ref (a + 5), .null, .null, .null, .null, .null, .null, .null, .int 0]) (ns := [4, 4, 4, 4, 5]) hx hb hts am_i1 am_y1 am_y1_ok am_n1 hown hK rfl cn_arI hl0 hP hS 7 (by decide) 5 (by decide) 41 (am_word_mem (i := 199) (by decide +kernel)) rfl (Or.inr ⟨rfl, hin, rfl⟩) (by decide +kernel) (Nat.le_of_ble_eq_true rfl) (by decide +kernel) (fun k9 => lv_iconst (n := 5) (v := nI 5) hx hb (by decide +kernel) (by decide +kernel) k9) (by decide +kernel) (by decide +kernel) (Nat.le_of_ble_eq_true rfl) (Nat.le_of_ble_eq_true rfl) (fun H locs hP hS => ?_)
  have hP : cn_P D a 7 (lf_E 1 [.null, .int 0, .ref (a + 1), .ref (a + 2), .ref (a + 3), .ref (a + 4), .ref (a + 5), .ref (a + 6), .null, .null, .null, .null, .null, .null, .int 0] cI [4, 4, 4, 4, 5, 5]) H := hP
  refine lf_arr (C := am_R1) (T := am_T1) (N := 15) (ci := 1) (index := 30) (fs := [.null, .int 0, .ref (a + 1), .ref (a + 2), .ref (a + 3), .ref (a + 4), .ref (a + 5), .ref (a + 6), .null, .null, .null, .null, .null, .null, .int 0]) (ns := [4, 4, 4, 4, 5, 5]) hx hb hts am_i1 am_y1 am_y1_ok am_n1 hown hK rfl cn_arI hl0 hP hS 8 (by decide) 5 (by decide) 48 (am_word_mem (i := 201) (by decide +kernel)) rfl (Or.inr ⟨rfl, hin, rfl⟩) (by decide +kernel) (Nat.le_of_ble_eq_true rfl) (by decide +kernel) (fun k9 => lv_iconst (n := 5) (v := nI 5) hx hb (by decide +kernel) (by decide +kernel) k9) (by decide +kernel) (by decide +kernel) (Nat.le_of_ble_eq_true rfl) (Nat.le_of_ble_eq_true rfl) (fun H locs hP hS => ?_)
  have hP : cn_P D a 8 (lf_E 1 [.null, .int 0, .ref (a + 1), .ref (a + 2), .ref (a + 3), .ref (a + 4), .ref (a + 5), .ref (a + 6), .ref (a + 7), .null, .null, .null, .null, .null, .int 0] cI [4, 4, 4, 4, 5, 5, 5]) H := hP
  refine lf_arr (C := am_R1) (T := am_T1) (N := 15) (ci := 1) (index := 33) (fs := [.null, .int 0, .ref (a + 1), .ref (a + 2), .ref (a + 3), .ref (a + 4), .ref (a + 5), .ref (a + 6), .ref (a + 7), .null, .null, .null, .null, .null, .int 0]) (ns := [4, 4, 4, 4, 5, 5, 5]) hx hb hts am_i1 am_y1 am_y1_ok am_n1 hown hK rfl cn_arI hl0 hP hS 9 (by decide) 5 (by decide) 55 (am_word_mem (i := 203) (by decide +kernel)) rfl (Or.inr ⟨rfl, hin, rfl⟩) (by decide +kernel) (Nat.le_of_ble_eq_true rfl) (by decide +kernel) (fun k9 => lv_iconst (n := 5) (v := nI 5) hx hb (by decide +kernel) (by decide +kernel) k9) (by decide +kernel) (by decide +kernel) (Nat.le_of_ble_eq_true rfl) (Nat.le_of_ble_eq_true rfl) (fun H locs hP hS => ?_)
  have hP : cn_P D a 9 (lf_E 1 [.null, .int 0, .ref (a + 1), .ref (a + 2), .ref (a + 3), .ref (a + 4), .ref (a + 5), .ref (a + 6), .ref (a + 7), .ref (a + 8), .null, .null, .null, .null, .int 0] cI [4, 4, 4, 4, 5, 5, 5, 5]) H := hP
  refine lf_arr (C := am_R1) (T := am_T1) (N := 15) (ci := 1) (index := 36) (fs := [.null, .int 0, .ref (a + 1), .ref (a + 2), .ref (a + 3), .ref (a + 4), .ref (a + 5), .ref (a + 6), .ref (a + 7), .ref (a + 8), .null, .null, .null, .null, .int 0]) (ns := [4, 4, 4, 4, 5, 5, 5, 5]) hx hb hts am_i1 am_y1 am_y1_ok am_n1 hown hK rfl cn_arI hl0 hP hS 10 (by decide) 44 (by decide) 63 (am_word_mem (i := 205) (by decide +kernel)) rfl (Or.inr ⟨rfl, hin, rfl⟩) (by decide +kernel) (Nat.le_of_ble_eq_true rfl) (by decide +kernel) (fun k9 => lv_bipush (n := 44) (v := nI 44) hx hb (by decide +kernel) (by decide +kernel) k9) (by decide +kernel) (by decide +kernel) (Nat.le_of_ble_eq_true rfl) (Nat.le_of_ble_eq_true rfl) (fun H locs hP hS => ?_)
  have hP : cn_P D a 10 (lf_E 1 [.null, .int 0, .ref (a + 1), .ref (a + 2), .ref (a + 3), .ref (a + 4), .ref (a + 5), .ref (a + 6), .ref (a + 7), .ref (a + 8), .ref (a + 9), .null, .null, .null, .int 0] cI [4, 4, 4, 4, 5, 5, 5, 5, 44]) H := hP
  refine lf_arr (C := am_R1) (T := am_T1) (N := 15) (ci := 1) (index := 39) (fs := [.null, .int 0, .ref (a + 1), .ref (a + 2), .ref (a + 3), .ref (a + 4), .ref (a + 5), .ref (a + 6), .ref (a + 7), .ref (a + 8), .ref (a + 9), .null, .null, .null, .int 0]) (ns := [4, 4, 4, 4, 5, 5, 5, 5, 44]) hx hb hts am_i1 am_y1 am_y1_ok am_n1 hown hK rfl cn_arI hl0 hP hS 11 (by decide) 44 (by decide) 71 (am_word_mem (i := 207) (by decide +kernel)) rfl (Or.inr ⟨rfl, hin, rfl⟩) (by decide +kernel) (Nat.le_of_ble_eq_true rfl) (by decide +kernel) (fun k9 => lv_bipush (n := 44) (v := nI 44) hx hb (by decide +kernel) (by decide +kernel) k9) (by decide +kernel) (by decide +kernel) (Nat.le_of_ble_eq_true rfl) (Nat.le_of_ble_eq_true rfl) (fun H locs hP hS => ?_)
  have hP : cn_P D a 11 (lf_E 1 [.null, .int 0, .ref (a + 1), .ref (a + 2), .ref (a + 3), .ref (a + 4), .ref (a + 5), .ref (a + 6), .ref (a + 7), .ref (a + 8), .ref (a + 9), .ref (a + 10), .null, .null, .int 0] cI [4, 4, 4, 4, 5, 5, 5, 5, 44, 44]) H := hP
  refine lf_arr (C := am_R1) (T := am_T1) (N := 15) (ci := 1) (index := 42) (fs := [.null, .int 0, .ref (a + 1), .ref (a + 2), .ref (a + 3), .ref (a + 4), .ref (a + 5), .ref (a + 6), .ref (a + 7), .ref (a + 8), .ref (a + 9), .ref (a + 10), .null, .null, .int 0]) (ns := [4, 4, 4, 4, 5, 5, 5, 5, 44, 44]) hx hb hts am_i1 am_y1 am_y1_ok am_n1 hown hK rfl cn_arI hl0 hP hS 12 (by decide) 44 (by decide) 79 (am_word_mem (i := 209) (by decide +kernel)) rfl (Or.inr ⟨rfl, hin, rfl⟩) (by decide +kernel) (Nat.le_of_ble_eq_true rfl) (by decide +kernel) (fun k9 => lv_bipush (n := 44) (v := nI 44) hx hb (by decide +kernel) (by decide +kernel) k9) (by decide +kernel) (by decide +kernel) (Nat.le_of_ble_eq_true rfl) (Nat.le_of_ble_eq_true rfl) (fun H locs hP hS => ?_)
  have hP : cn_P D a 12 (lf_E 1 [.null, .int 0, .ref (a + 1), .ref (a + 2), .ref (a + 3), .ref (a + 4), .ref (a + 5), .ref (a + 6), .ref (a + 7), .ref (a + 8), .ref (a + 9), .ref (a + 10), .ref (a + 11), .null, .int 0] cI [4, 4, 4, 4, 5, 5, 5, 5, 44, 44, 44]) H := hP
  refine lf_arr (C := am_R1) (T := am_T1) (N := 15) (ci := 1) (index := 45) (fs := [.null, .int 0, .ref (a + 1), .ref (a + 2), .ref (a + 3), .ref (a + 4), .ref (a + 5), .ref (a + 6), .ref (a + 7), .ref (a + 8), .ref (a + 9), .ref (a + 10), .ref (a + 11), .null, .int 0]) (ns := [4, 4, 4, 4, 5, 5, 5, 5, 44, 44, 44]) hx hb hts am_i1 am_y1 am_y1_ok am_n1 hown hK rfl cn_arI hl0 hP hS 13 (by decide) 44 (by decide) 87 (am_word_mem (i := 210) (by decide +kernel)) rfl (Or.inr ⟨rfl, hin, rfl⟩) (by decide +kernel) (Nat.le_of_ble_eq_true rfl) (by decide +kernel) (fun k9 => lv_bipush (n := 44) (v := nI 44) hx hb (by decide +kernel) (by decide +kernel) k9) (by decide +kernel) (by decide +kernel) (Nat.le_of_ble_eq_true rfl) (Nat.le_of_ble_eq_true rfl) (fun H locs hP hS => ?_)
  have hP : cn_P D a 13 (lf_E 1 [.null, .int 0, .ref (a + 1), .ref (a + 2), .ref (a + 3), .ref (a + 4), .ref (a + 5), .ref (a + 6), .ref (a + 7), .ref (a + 8), .ref (a + 9), .ref (a + 10), .ref (a + 11), .ref (a + 12), .int 0] cI [4, 4, 4, 4, 5, 5, 5, 5, 44, 44, 44, 44]) H := hP
  refine lv_aload_n (k := 0) hx hb (by decide +kernel) rfl hl0 ?_
  refine lv_aload_n (k := 1) hx hb (by decide +kernel) rfl (lv_at hl 1 rfl) ?_
  refine cn_put hx hb (C := am_R1) (T := am_T1) (N := 15) (ci := 1) (index := 48) hts am_i1 am_y1 am_y1_ok am_n1 hown hK hP hS 0 (by decide) rfl rfl 0 (by decide) (ref := am_R1) (hts _ (am_word_mem (i := 188) (by decide +kernel))) (fun _ h => h) (Or.inl rfl) (ty := .object "RoomsOfHours$House") (by decide +kernel) rfl rfl (Nat.le_of_ble_eq_true rfl) (by decide +kernel) (fun H locs hP hS => ?_)
  have hP := lf_set hP
  refine W.widen (k := 12) (n := 212) (Nat.le_of_ble_eq_true rfl) (Nat.le_of_ble_eq_true rfl) ?_
  exact W.vret hx hb hr (fun t ht hW => ⟨⟨(), rfl, trivial, by show cn_P _ _ _ _ t.heap; rw [ht]; exact hP⟩, hS.F ht⟩) hS.2.2 (by decide +kernel)
def cn_y2 : MethodName := ⟨"RoomsOfHours$House", "<init>", "()V"⟩
def cn_w2 : List Cond := Cond.code cn_y2 prog_4_method_1_code 1 none :: am_tbl
def cn_f2 (a : Nat) : List Value := [.ref (a + 1), .ref (a + 2), .ref (a + 3), .ref (a + 4), .ref (a + 5), .ref (a + 6), .ref (a + 7), .ref (a + 8), .ref (a + 9), .ref (a + 10), .ref (a + 11), .ref (a + 12), .ref (a + 13), .ref (a + 14), .int 0, .int 0, .int 0, .int 0, .int 0]
abbrev cn_n2 : List Nat := [6, 6, 6, 6, 6, 8, 8, 8, 4, 4, 5, 5, 5, 4]
abbrev cn_02 : List Value := [.null, .null, .null, .null, .null, .null, .null, .null, .null, .null, .null, .null, .null, .null, .int 0, .int 0, .int 0, .int 0, .int 0]
set_option maxHeartbeats 4000000 in
set_option maxRecDepth 100000 in
theorem cn_c2 (l : Launch) (D : va_G) (cI cH : ClassId) (a : Nat) : Met l cn_y2 cn_w2 ({ frames := 1, cells := 14, slots := 81, locals := 12 }) (va_Pc [.ref a] (fun U => cn_P D a 1 (lf_E 2 cn_02 cI []) U.heap ∧ va_K D am_cls [(cI, .int), (cH, .char)] U)) (va_Qv (fun (_ : Unit) => True) (fun _ t => cn_P D a 15 (lf_E 2 (cn_f2 a) cI cn_n2) t.heap) (am_A a)) 14 81 (am_A a) := by
  refine Met.ofW (cc := prog_4_method_1_code) (maxL := 1) (ret := none) (by decide) rfl ?_
  intro p e s m args below meth c s₁ B hml hv
  obtain ⟨rfl, hP, hK⟩ := hv
  have hS : va_S (am_A a) s.heap s.heap [] := va_S.rf
  have hx := B.exec
  have hb := B.bytes
  have hr := B.returns
  have hts0 := atoms_spec (ws := cn_w2) B.pre
  have hts : ∀ w ∈ am_tbl, w.before _ s = true := fun w hw => hts0 w (List.mem_cons_of_mem _ hw)
  have hown : s.vm.findClass am_R2 = some m.cls := findClass_of_methodNamed B.named
  have hin : meth.name = "<init>" := (name_of_methodNamed B.named B.method).1
  have hl := lv_entry ([.ref a]) (n := 1) (Nat.le_of_ble_eq_true rfl)
  rw [lg_entry_eq]
  generalize (lg_sl ([.ref a]) ++ List.replicate (1 - (lg_sl ([.ref a])).length) Slot.unset).toArray = ls at hl ⊢
  have hl : lv_has ls 1 [(0, .ref a)] := hl
  have hl0 : ls[0]? = some (.val (.ref a)) := lv_at hl 0 rfl
  refine lv_aload_n (k := 0) hx hb (by decide +kernel) rfl hl0 ?_
  refine W.objInit hx hb hown (idx := 3) (hts _ (am_word_mem (i := 90) (w := .methodLink am_R2 3 objectInit) (by decide +kernel))) (hts _ (am_word_mem (i := 83) (w := .instanceMethod objectInit) (by decide +kernel))) (hts _ (am_word_mem (i := 84) (w := .code objectInit ⟨#[0xb1]⟩ 1 none) (by decide +kernel))) rfl (by rw [hml]; exact hl.1) rfl (show decode prog_4_method_1_code 1 = .ok (.invokespecial 3, 3) by decide +kernel) (Nat.le_of_ble_eq_true rfl) (Nat.le_of_ble_eq_true rfl) ?_
  refine W.eq (g2 := F0 m 4 ls []) rfl ?_
  refine lf_arr (C := am_R2) (T := am_T2) (N := 19) (ci := 2) (index := 9) (fs := [.null, .null, .null, .null, .null, .null, .null, .null, .null, .null, .null, .null, .null, .null, .int 0, .int 0, .int 0, .int 0, .int 0]) (ns := []) hx hb hts am_i2 am_y2 am_y2_ok am_n2 hown hK rfl cn_arI hl0 hP hS 0 (by decide) 6 (by decide) 7 (am_word_mem (i := 91) (by decide +kernel)) rfl (Or.inr ⟨rfl, hin, rfl⟩) (by decide +kernel) (Nat.le_of_ble_eq_true rfl) (by decide +kernel) (fun k9 => lv_bipush (n := 6) (v := nI 6) hx hb (by decide +kernel) (by decide +kernel) k9) (by decide +kernel) (by decide +kernel) (Nat.le_of_ble_eq_true rfl) (Nat.le_of_ble_eq_true rfl) (fun H locs hP hS => ?_)
  have hP : cn_P D a 2 (lf_E 2 [.ref (a + 1), .null, .null, .null, .null, .null, .null, .null, .null, .null, .null, .null, .null, .null, .int 0, .int 0, .int 0, .int 0, .int 0] cI [6]) H := hP
  refine lf_arr (C := am_R2) (T := am_T2) (N := 19) (ci := 2) (index := 15) (fs := [.ref (a + 1), .null, .null, .null, .null, .null, .null, .null, .null, .null, .null, .null, .null, .null, .int 0, .int 0, .int 0, .int 0, .int 0]) (ns := [6]) hx hb hts am_i2 am_y2 am_y2_ok am_n2 hown hK rfl cn_arI hl0 hP hS 1 (by decide) 6 (by decide) 15 (am_word_mem (i := 93) (by decide +kernel)) rfl (Or.inr ⟨rfl, hin, rfl⟩) (by decide +kernel) (Nat.le_of_ble_eq_true rfl) (by decide +kernel) (fun k9 => lv_bipush (n := 6) (v := nI 6) hx hb (by decide +kernel) (by decide +kernel) k9) (by decide +kernel) (by decide +kernel) (Nat.le_of_ble_eq_true rfl) (Nat.le_of_ble_eq_true rfl) (fun H locs hP hS => ?_)
  have hP : cn_P D a 3 (lf_E 2 [.ref (a + 1), .ref (a + 2), .null, .null, .null, .null, .null, .null, .null, .null, .null, .null, .null, .null, .int 0, .int 0, .int 0, .int 0, .int 0] cI [6, 6]) H := hP
  refine lf_arr (C := am_R2) (T := am_T2) (N := 19) (ci := 2) (index := 18) (fs := [.ref (a + 1), .ref (a + 2), .null, .null, .null, .null, .null, .null, .null, .null, .null, .null, .null, .null, .int 0, .int 0, .int 0, .int 0, .int 0]) (ns := [6, 6]) hx hb hts am_i2 am_y2 am_y2_ok am_n2 hown hK rfl cn_arI hl0 hP hS 2 (by decide) 6 (by decide) 23 (am_word_mem (i := 95) (by decide +kernel)) rfl (Or.inr ⟨rfl, hin, rfl⟩) (by decide +kernel) (Nat.le_of_ble_eq_true rfl) (by decide +kernel) (fun k9 => lv_bipush (n := 6) (v := nI 6) hx hb (by decide +kernel) (by decide +kernel) k9) (by decide +kernel) (by decide +kernel) (Nat.le_of_ble_eq_true rfl) (Nat.le_of_ble_eq_true rfl) (fun H locs hP hS => ?_)
  have hP : cn_P D a 4 (lf_E 2 [.ref (a + 1), .ref (a + 2), .ref (a + 3), .null, .null, .null, .null, .null, .null, .null, .null, .null, .null, .null, .int 0, .int 0, .int 0, .int 0, .int 0] cI [6, 6, 6]) H := hP
  refine lf_arr (C := am_R2) (T := am_T2) (N := 19) (ci := 2) (index := 21) (fs := [.ref (a + 1), .ref (a + 2), .ref (a + 3), .null, .null, .null, .null, .null, .null, .null, .null, .null, .null, .null, .int 0, .int 0, .int 0, .int 0, .int 0]) (ns := [6, 6, 6]) hx hb hts am_i2 am_y2 am_y2_ok am_n2 hown hK rfl cn_arI hl0 hP hS 3 (by decide) 6 (by decide) 31 (am_word_mem (i := 97) (by decide +kernel)) rfl (Or.inr ⟨rfl, hin, rfl⟩) (by decide +kernel) (Nat.le_of_ble_eq_true rfl) (by decide +kernel) (fun k9 => lv_bipush (n := 6) (v := nI 6) hx hb (by decide +kernel) (by decide +kernel) k9) (by decide +kernel) (by decide +kernel) (Nat.le_of_ble_eq_true rfl) (Nat.le_of_ble_eq_true rfl) (fun H locs hP hS => ?_)
  have hP : cn_P D a 5 (lf_E 2 [.ref (a + 1), .ref (a + 2), .ref (a + 3), .ref (a + 4), .null, .null, .null, .null, .null, .null, .null, .null, .null, .null, .int 0, .int 0, .int 0, .int 0, .int 0] cI [6, 6, 6, 6]) H := hP
  refine lf_arr (C := am_R2) (T := am_T2) (N := 19) (ci := 2) (index := 24) (fs := [.ref (a + 1), .ref (a + 2), .ref (a + 3), .ref (a + 4), .null, .null, .null, .null, .null, .null, .null, .null, .null, .null, .int 0, .int 0, .int 0, .int 0, .int 0]) (ns := [6, 6, 6, 6]) hx hb hts am_i2 am_y2 am_y2_ok am_n2 hown hK rfl cn_arI hl0 hP hS 4 (by decide) 6 (by decide) 39 (am_word_mem (i := 101) (by decide +kernel)) rfl (Or.inr ⟨rfl, hin, rfl⟩) (by decide +kernel) (Nat.le_of_ble_eq_true rfl) (by decide +kernel) (fun k9 => lv_bipush (n := 6) (v := nI 6) hx hb (by decide +kernel) (by decide +kernel) k9) (by decide +kernel) (by decide +kernel) (Nat.le_of_ble_eq_true rfl) (Nat.le_of_ble_eq_true rfl) (fun H locs hP hS => ?_)
  have hP : cn_P D a 6 (lf_E 2 [.ref (a + 1), .ref (a + 2), .ref (a + 3), .ref (a + 4), .ref (a + 5), .null, .null, .null, .null, .null, .null, .null, .null, .null, .int 0, .int 0, .int 0, .int 0, .int 0] cI [6, 6, 6, 6, 6]) H := hP
  refine lf_arr (C := am_R2) (T := am_T2) (N := 19) (ci := 2) (index := 27) (fs := [.ref (a + 1), .ref (a + 2), .ref (a + 3), .ref (a + 4), .ref (a + 5), .null, .null, .null, .null, .null, .null, .null, .null, .null, .int 0, .int 0, .int 0, .int 0, .int 0]) (ns := [6, 6, 6, 6, 6]) hx hb hts am_i2 am_y2 am_y2_ok am_n2 hown hK rfl cn_arI hl0 hP hS 5 (by decide) 8 (by decide) 47 (am_word_mem (i := 104) (by decide +kernel)) rfl (Or.inr ⟨rfl, hin, rfl⟩) (by decide +kernel) (Nat.le_of_ble_eq_true rfl) (by decide +kernel) (fun k9 => lv_bipush (n := 8) (v := nI 8) hx hb (by decide +kernel) (by decide +kernel) k9) (by decide +kernel) (by decide +kernel) (Nat.le_of_ble_eq_true rfl) (Nat.le_of_ble_eq_true rfl) (fun H locs hP hS => ?_)
  have hP : cn_P D a 7 (lf_E 2 [.ref (a + 1), .ref (a + 2), .ref (a + 3), .ref (a + 4), .ref (a + 5), .ref (a + 6), .null, .null, .null, .null, .null, .null, .null, .null, .int 0, .int 0, .int 0, .int 0, .int 0] cI [6, 6, 6, 6, 6, 8]) H := hP
  refine lf_arr (C := am_R2) (T := am_T2) (N := 19) (ci := 2) (index := 30) (fs := [.ref (a + 1), .ref (a + 2), .ref (a + 3), .ref (a + 4), .ref (a + 5), .ref (a + 6), .null, .null, .null, .null, .null, .null, .null, .null, .int 0, .int 0, .int 0, .int 0, .int 0]) (ns := [6, 6, 6, 6, 6, 8]) hx hb hts am_i2 am_y2 am_y2_ok am_n2 hown hK rfl cn_arI hl0 hP hS 6 (by decide) 8 (by decide) 55 (am_word_mem (i := 107) (by decide +kernel)) rfl (Or.inr ⟨rfl, hin, rfl⟩) (by decide +kernel) (Nat.le_of_ble_eq_true rfl) (by decide +kernel) (fun k9 => lv_bipush (n := 8) (v := nI 8) hx hb (by decide +kernel) (by decide +kernel) k9) (by decide +kernel) (by decide +kernel) (Nat.le_of_ble_eq_true rfl) (Nat.le_of_ble_eq_true rfl) (fun H locs hP hS => ?_)
  have hP : cn_P D a 8 (lf_E 2 [.ref (a + 1), .ref (a + 2), .ref (a + 3), .ref (a + 4), .ref (a + 5), .ref (a + 6), .ref (a + 7), .null, .null, .null, .null, .null, .null, .null, .int 0, .int 0, .int 0, .int 0, .int 0] cI [6, 6, 6, 6, 6, 8, 8]) H := hP
  refine lf_arr (C := am_R2) (T := am_T2) (N := 19) (ci := 2) (index := 33) (fs := [.ref (a + 1), .ref (a + 2), .ref (a + 3), .ref (a + 4), .ref (a + 5), .ref (a + 6), .ref (a + 7), .null, .null, .null, .null, .null, .null, .null, .int 0, .int 0, .int 0, .int 0, .int 0]) (ns := [6, 6, 6, 6, 6, 8, 8]) hx hb hts am_i2 am_y2 am_y2_ok am_n2 hown hK rfl cn_arI hl0 hP hS 7 (by decide) 8 (by decide) 63 (am_word_mem (i := 110) (by decide +kernel)) rfl (Or.inr ⟨rfl, hin, rfl⟩) (by decide +kernel) (Nat.le_of_ble_eq_true rfl) (by decide +kernel) (fun k9 => lv_bipush (n := 8) (v := nI 8) hx hb (by decide +kernel) (by decide +kernel) k9) (by decide +kernel) (by decide +kernel) (Nat.le_of_ble_eq_true rfl) (Nat.le_of_ble_eq_true rfl) (fun H locs hP hS => ?_)
  have hP : cn_P D a 9 (lf_E 2 [.ref (a + 1), .ref (a + 2), .ref (a + 3), .ref (a + 4), .ref (a + 5), .ref (a + 6), .ref (a + 7), .ref (a + 8), .null, .null, .null, .null, .null, .null, .int 0, .int 0, .int 0, .int 0, .int 0] cI [6, 6, 6, 6, 6, 8, 8, 8]) H := hP
  refine lf_arr (C := am_R2) (T := am_T2) (N := 19) (ci := 2) (index := 36) (fs := [.ref (a + 1), .ref (a + 2), .ref (a + 3), .ref (a + 4), .ref (a + 5), .ref (a + 6), .ref (a + 7), .ref (a + 8), .null, .null, .null, .null, .null, .null, .int 0, .int 0, .int 0, .int 0, .int 0]) (ns := [6, 6, 6, 6, 6, 8, 8, 8]) hx hb hts am_i2 am_y2 am_y2_ok am_n2 hown hK rfl cn_arI hl0 hP hS 8 (by decide) 4 (by decide) 70 (am_word_mem (i := 113) (by decide +kernel)) rfl (Or.inr ⟨rfl, hin, rfl⟩) (by decide +kernel) (Nat.le_of_ble_eq_true rfl) (by decide +kernel) (fun k9 => lv_iconst (n := 4) (v := nI 4) hx hb (by decide +kernel) (by decide +kernel) k9) (by decide +kernel) (by decide +kernel) (Nat.le_of_ble_eq_true rfl) (Nat.le_of_ble_eq_true rfl) (fun H locs hP hS => ?_)
  have hP : cn_P D a 10 (lf_E 2 [.ref (a + 1), .ref (a + 2), .ref (a + 3), .ref (a + 4), .ref (a + 5), .ref (a + 6), .ref (a + 7), .ref (a + 8), .ref (a + 9), .null, .null, .null, .null, .null, .int 0, .int 0, .int 0, .int 0, .int 0] cI [6, 6, 6, 6, 6, 8, 8, 8, 4]) H := hP
  refine lf_arr (C := am_R2) (T := am_T2) (N := 19) (ci := 2) (index := 39) (fs := [.ref (a + 1), .ref (a + 2), .ref (a + 3), .ref (a + 4), .ref (a + 5), .ref (a + 6), .ref (a + 7), .ref (a + 8), .ref (a + 9), .null, .null, .null, .null, .null, .int 0, .int 0, .int 0, .int 0, .int 0]) (ns := [6, 6, 6, 6, 6, 8, 8, 8, 4]) hx hb hts am_i2 am_y2 am_y2_ok am_n2 hown hK rfl cn_arI hl0 hP hS 9 (by decide) 4 (by decide) 77 (am_word_mem (i := 115) (by decide +kernel)) rfl (Or.inr ⟨rfl, hin, rfl⟩) (by decide +kernel) (Nat.le_of_ble_eq_true rfl) (by decide +kernel) (fun k9 => lv_iconst (n := 4) (v := nI 4) hx hb (by decide +kernel) (by decide +kernel) k9) (by decide +kernel) (by decide +kernel) (Nat.le_of_ble_eq_true rfl) (Nat.le_of_ble_eq_true rfl) (fun H locs hP hS => ?_)
  have hP : cn_P D a 11 (lf_E 2 [.ref (a + 1), .ref (a + 2), .ref (a + 3), .ref (a + 4), .ref (a + 5), .ref (a + 6), .ref (a + 7), .ref (a + 8), .ref (a + 9), .ref (a + 10), .null, .null, .null, .null, .int 0, .int 0, .int 0, .int 0, .int 0] cI [6, 6, 6, 6, 6, 8, 8, 8, 4, 4]) H := hP
  refine lf_arr (C := am_R2) (T := am_T2) (N := 19) (ci := 2) (index := 42) (fs := [.ref (a + 1), .ref (a + 2), .ref (a + 3), .ref (a + 4), .ref (a + 5), .ref (a + 6), .ref (a + 7), .ref (a + 8), .ref (a + 9), .ref (a + 10), .null, .null, .null, .null, .int 0, .int 0, .int 0, .int 0, .int 0]) (ns := [6, 6, 6, 6, 6, 8, 8, 8, 4, 4]) hx hb hts am_i2 am_y2 am_y2_ok am_n2 hown hK rfl cn_arI hl0 hP hS 10 (by decide) 5 (by decide) 84 (am_word_mem (i := 117) (by decide +kernel)) rfl (Or.inr ⟨rfl, hin, rfl⟩) (by decide +kernel) (Nat.le_of_ble_eq_true rfl) (by decide +kernel) (fun k9 => lv_iconst (n := 5) (v := nI 5) hx hb (by decide +kernel) (by decide +kernel) k9) (by decide +kernel) (by decide +kernel) (Nat.le_of_ble_eq_true rfl) (Nat.le_of_ble_eq_true rfl) (fun H locs hP hS => ?_)
  have hP : cn_P D a 12 (lf_E 2 [.ref (a + 1), .ref (a + 2), .ref (a + 3), .ref (a + 4), .ref (a + 5), .ref (a + 6), .ref (a + 7), .ref (a + 8), .ref (a + 9), .ref (a + 10), .ref (a + 11), .null, .null, .null, .int 0, .int 0, .int 0, .int 0, .int 0] cI [6, 6, 6, 6, 6, 8, 8, 8, 4, 4, 5]) H := hP
  refine lf_arr (C := am_R2) (T := am_T2) (N := 19) (ci := 2) (index := 45) (fs := [.ref (a + 1), .ref (a + 2), .ref (a + 3), .ref (a + 4), .ref (a + 5), .ref (a + 6), .ref (a + 7), .ref (a + 8), .ref (a + 9), .ref (a + 10), .ref (a + 11), .null, .null, .null, .int 0, .int 0, .int 0, .int 0, .int 0]) (ns := [6, 6, 6, 6, 6, 8, 8, 8, 4, 4, 5]) hx hb hts am_i2 am_y2 am_y2_ok am_n2 hown hK rfl cn_arI hl0 hP hS 11 (by decide) 5 (by decide) 91 (am_word_mem (i := 119) (by decide +kernel)) rfl (Or.inr ⟨rfl, hin, rfl⟩) (by decide +kernel) (Nat.le_of_ble_eq_true rfl) (by decide +kernel) (fun k9 => lv_iconst (n := 5) (v := nI 5) hx hb (by decide +kernel) (by decide +kernel) k9) (by decide +kernel) (by decide +kernel) (Nat.le_of_ble_eq_true rfl) (Nat.le_of_ble_eq_true rfl) (fun H locs hP hS => ?_)
  have hP : cn_P D a 13 (lf_E 2 [.ref (a + 1), .ref (a + 2), .ref (a + 3), .ref (a + 4), .ref (a + 5), .ref (a + 6), .ref (a + 7), .ref (a + 8), .ref (a + 9), .ref (a + 10), .ref (a + 11), .ref (a + 12), .null, .null, .int 0, .int 0, .int 0, .int 0, .int 0] cI [6, 6, 6, 6, 6, 8, 8, 8, 4, 4, 5, 5]) H := hP
  refine lf_arr (C := am_R2) (T := am_T2) (N := 19) (ci := 2) (index := 48) (fs := [.ref (a + 1), .ref (a + 2), .ref (a + 3), .ref (a + 4), .ref (a + 5), .ref (a + 6), .ref (a + 7), .ref (a + 8), .ref (a + 9), .ref (a + 10), .ref (a + 11), .ref (a + 12), .null, .null, .int 0, .int 0, .int 0, .int 0, .int 0]) (ns := [6, 6, 6, 6, 6, 8, 8, 8, 4, 4, 5, 5]) hx hb hts am_i2 am_y2 am_y2_ok am_n2 hown hK rfl cn_arI hl0 hP hS 12 (by decide) 5 (by decide) 98 (am_word_mem (i := 121) (by decide +kernel)) rfl (Or.inr ⟨rfl, hin, rfl⟩) (by decide +kernel) (Nat.le_of_ble_eq_true rfl) (by decide +kernel) (fun k9 => lv_iconst (n := 5) (v := nI 5) hx hb (by decide +kernel) (by decide +kernel) k9) (by decide +kernel) (by decide +kernel) (Nat.le_of_ble_eq_true rfl) (Nat.le_of_ble_eq_true rfl) (fun H locs hP hS => ?_)
  have hP : cn_P D a 14 (lf_E 2 [.ref (a + 1), .ref (a + 2), .ref (a + 3), .ref (a + 4), .ref (a + 5), .ref (a + 6), .ref (a + 7), .ref (a + 8), .ref (a + 9), .ref (a + 10), .ref (a + 11), .ref (a + 12), .ref (a + 13), .null, .int 0, .int 0, .int 0, .int 0, .int 0] cI [6, 6, 6, 6, 6, 8, 8, 8, 4, 4, 5, 5, 5]) H := hP
  refine lf_arr (C := am_R2) (T := am_T2) (N := 19) (ci := 2) (index := 51) (fs := [.ref (a + 1), .ref (a + 2), .ref (a + 3), .ref (a + 4), .ref (a + 5), .ref (a + 6), .ref (a + 7), .ref (a + 8), .ref (a + 9), .ref (a + 10), .ref (a + 11), .ref (a + 12), .ref (a + 13), .null, .int 0, .int 0, .int 0, .int 0, .int 0]) (ns := [6, 6, 6, 6, 6, 8, 8, 8, 4, 4, 5, 5, 5]) hx hb hts am_i2 am_y2 am_y2_ok am_n2 hown hK rfl cn_arI hl0 hP hS 13 (by decide) 4 (by decide) 105 (am_word_mem (i := 123) (by decide +kernel)) rfl (Or.inr ⟨rfl, hin, rfl⟩) (by decide +kernel) (Nat.le_of_ble_eq_true rfl) (by decide +kernel) (fun k9 => lv_iconst (n := 4) (v := nI 4) hx hb (by decide +kernel) (by decide +kernel) k9) (by decide +kernel) (by decide +kernel) (Nat.le_of_ble_eq_true rfl) (Nat.le_of_ble_eq_true rfl) (fun H locs hP hS => ?_)
  have hP : cn_P D a 15 (lf_E 2 [.ref (a + 1), .ref (a + 2), .ref (a + 3), .ref (a + 4), .ref (a + 5), .ref (a + 6), .ref (a + 7), .ref (a + 8), .ref (a + 9), .ref (a + 10), .ref (a + 11), .ref (a + 12), .ref (a + 13), .ref (a + 14), .int 0, .int 0, .int 0, .int 0, .int 0] cI [6, 6, 6, 6, 6, 8, 8, 8, 4, 4, 5, 5, 5, 4]) H := hP
  refine W.widen (k := 14) (n := 81) (Nat.le_of_ble_eq_true rfl) (Nat.le_of_ble_eq_true rfl) ?_
  exact W.vret hx hb hr (fun t ht hW => ⟨⟨(), rfl, trivial, by show cn_P _ _ _ _ t.heap; rw [ht]; exact hP⟩, hS.F ht⟩) hS.2.2 (by decide +kernel)
def cn_y3 : MethodName := ⟨"RoomsOfHours$Sights", "<init>", "()V"⟩
def cn_w3 : List Cond := Cond.code cn_y3 prog_5_method_1_code 1 none :: am_tbl
def cn_f3 (a : Nat) : List Value := [.ref (a + 1), .ref (a + 2), .ref (a + 3), .int 0]
abbrev cn_n3 : List Nat := [8, 8, 8]
abbrev cn_03 : List Value := [.null, .null, .null, .int 0]
set_option maxHeartbeats 4000000 in
set_option maxRecDepth 100000 in
theorem cn_c3 (l : Launch) (D : va_G) (cI cH : ClassId) (a : Nat) : Met l cn_y3 cn_w3 ({ frames := 1, cells := 3, slots := 24, locals := 12 }) (va_Pc [.ref a] (fun U => cn_P D a 1 (lf_E 3 cn_03 cI []) U.heap ∧ va_K D am_cls [(cI, .int), (cH, .char)] U)) (va_Qv (fun (_ : Unit) => True) (fun _ t => cn_P D a 4 (lf_E 3 (cn_f3 a) cI cn_n3) t.heap) (am_A a)) 3 24 (am_A a) := by
  refine Met.ofW (cc := prog_5_method_1_code) (maxL := 1) (ret := none) (by decide) rfl ?_
  intro p e s m args below meth c s₁ B hml hv
  obtain ⟨rfl, hP, hK⟩ := hv
  have hS : va_S (am_A a) s.heap s.heap [] := va_S.rf
  have hx := B.exec
  have hb := B.bytes
  have hr := B.returns
  have hts0 := atoms_spec (ws := cn_w3) B.pre
  have hts : ∀ w ∈ am_tbl, w.before _ s = true := fun w hw => hts0 w (List.mem_cons_of_mem _ hw)
  have hown : s.vm.findClass am_R3 = some m.cls := findClass_of_methodNamed B.named
  have hin : meth.name = "<init>" := (name_of_methodNamed B.named B.method).1
  have hl := lv_entry ([.ref a]) (n := 1) (Nat.le_of_ble_eq_true rfl)
  rw [lg_entry_eq]
  generalize (lg_sl ([.ref a]) ++ List.replicate (1 - (lg_sl ([.ref a])).length) Slot.unset).toArray = ls at hl ⊢
  have hl : lv_has ls 1 [(0, .ref a)] := hl
  have hl0 : ls[0]? = some (.val (.ref a)) := lv_at hl 0 rfl
  refine lv_aload_n (k := 0) hx hb (by decide +kernel) rfl hl0 ?_
  refine W.objInit hx hb hown (idx := 3) (hts _ (am_word_mem (i := 272) (w := .methodLink am_R3 3 objectInit) (by decide +kernel))) (hts _ (am_word_mem (i := 83) (w := .instanceMethod objectInit) (by decide +kernel))) (hts _ (am_word_mem (i := 84) (w := .code objectInit ⟨#[0xb1]⟩ 1 none) (by decide +kernel))) rfl (by rw [hml]; exact hl.1) rfl (show decode prog_5_method_1_code 1 = .ok (.invokespecial 3, 3) by decide +kernel) (Nat.le_of_ble_eq_true rfl) (Nat.le_of_ble_eq_true rfl) ?_
  refine W.eq (g2 := F0 m 4 ls []) rfl ?_
  refine lf_arr (C := am_R3) (T := am_T3) (N := 4) (ci := 3) (index := 9) (fs := [.null, .null, .null, .int 0]) (ns := []) hx hb hts am_i3 am_y3 am_y3_ok am_n3 hown hK rfl cn_arI hl0 hP hS 0 (by decide) 8 (by decide) 7 (am_word_mem (i := 273) (by decide +kernel)) rfl (Or.inr ⟨rfl, hin, rfl⟩) (by decide +kernel) (Nat.le_of_ble_eq_true rfl) (by decide +kernel) (fun k9 => lv_bipush (n := 8) (v := nI 8) hx hb (by decide +kernel) (by decide +kernel) k9) (by decide +kernel) (by decide +kernel) (Nat.le_of_ble_eq_true rfl) (Nat.le_of_ble_eq_true rfl) (fun H locs hP hS => ?_)
  have hP : cn_P D a 2 (lf_E 3 [.ref (a + 1), .null, .null, .int 0] cI [8]) H := hP
  refine lf_arr (C := am_R3) (T := am_T3) (N := 4) (ci := 3) (index := 15) (fs := [.ref (a + 1), .null, .null, .int 0]) (ns := [8]) hx hb hts am_i3 am_y3 am_y3_ok am_n3 hown hK rfl cn_arI hl0 hP hS 1 (by decide) 8 (by decide) 15 (am_word_mem (i := 274) (by decide +kernel)) rfl (Or.inr ⟨rfl, hin, rfl⟩) (by decide +kernel) (Nat.le_of_ble_eq_true rfl) (by decide +kernel) (fun k9 => lv_bipush (n := 8) (v := nI 8) hx hb (by decide +kernel) (by decide +kernel) k9) (by decide +kernel) (by decide +kernel) (Nat.le_of_ble_eq_true rfl) (Nat.le_of_ble_eq_true rfl) (fun H locs hP hS => ?_)
  have hP : cn_P D a 3 (lf_E 3 [.ref (a + 1), .ref (a + 2), .null, .int 0] cI [8, 8]) H := hP
  refine lf_arr (C := am_R3) (T := am_T3) (N := 4) (ci := 3) (index := 18) (fs := [.ref (a + 1), .ref (a + 2), .null, .int 0]) (ns := [8, 8]) hx hb hts am_i3 am_y3 am_y3_ok am_n3 hown hK rfl cn_arI hl0 hP hS 2 (by decide) 8 (by decide) 23 (am_word_mem (i := 275) (by decide +kernel)) rfl (Or.inr ⟨rfl, hin, rfl⟩) (by decide +kernel) (Nat.le_of_ble_eq_true rfl) (by decide +kernel) (fun k9 => lv_bipush (n := 8) (v := nI 8) hx hb (by decide +kernel) (by decide +kernel) k9) (by decide +kernel) (by decide +kernel) (Nat.le_of_ble_eq_true rfl) (Nat.le_of_ble_eq_true rfl) (fun H locs hP hS => ?_)
  have hP : cn_P D a 4 (lf_E 3 [.ref (a + 1), .ref (a + 2), .ref (a + 3), .int 0] cI [8, 8, 8]) H := hP
  refine W.widen (k := 3) (n := 24) (Nat.le_of_ble_eq_true rfl) (Nat.le_of_ble_eq_true rfl) ?_
  exact W.vret hx hb hr (fun t ht hW => ⟨⟨(), rfl, trivial, by show cn_P _ _ _ _ t.heap; rw [ht]; exact hP⟩, hS.F ht⟩) hS.2.2 (by decide +kernel)
def cn_y4 : MethodName := ⟨"RoomsOfHours$Tour", "<init>", "()V"⟩
def cn_w4 : List Cond := Cond.code cn_y4 prog_6_method_1_code 1 none :: am_tbl
def cn_f4 (a : Nat) : List Value := [.ref (a + 1), .ref (a + 2), .int 0, .int 0]
abbrev cn_n4 : List Nat := [384, 384]
abbrev cn_04 : List Value := [.null, .null, .int 0, .int 0]
set_option maxHeartbeats 4000000 in
set_option maxRecDepth 100000 in
theorem cn_c4 (l : Launch) (D : va_G) (cI cH : ClassId) (a : Nat) : Met l cn_y4 cn_w4 ({ frames := 1, cells := 2, slots := 768, locals := 12 }) (va_Pc [.ref a] (fun U => cn_P D a 1 (lf_E 4 cn_04 cI []) U.heap ∧ va_K D am_cls [(cI, .int), (cH, .char)] U)) (va_Qv (fun (_ : Unit) => True) (fun _ t => cn_P D a 3 (lf_E 4 (cn_f4 a) cI cn_n4) t.heap) (am_A a)) 2 768 (am_A a) := by
  refine Met.ofW (cc := prog_6_method_1_code) (maxL := 1) (ret := none) (by decide) rfl ?_
  intro p e s m args below meth c s₁ B hml hv
  obtain ⟨rfl, hP, hK⟩ := hv
  have hS : va_S (am_A a) s.heap s.heap [] := va_S.rf
  have hx := B.exec
  have hb := B.bytes
  have hr := B.returns
  have hts0 := atoms_spec (ws := cn_w4) B.pre
  have hts : ∀ w ∈ am_tbl, w.before _ s = true := fun w hw => hts0 w (List.mem_cons_of_mem _ hw)
  have hown : s.vm.findClass am_R4 = some m.cls := findClass_of_methodNamed B.named
  have hin : meth.name = "<init>" := (name_of_methodNamed B.named B.method).1
  have hl := lv_entry ([.ref a]) (n := 1) (Nat.le_of_ble_eq_true rfl)
  rw [lg_entry_eq]
  generalize (lg_sl ([.ref a]) ++ List.replicate (1 - (lg_sl ([.ref a])).length) Slot.unset).toArray = ls at hl ⊢
  have hl : lv_has ls 1 [(0, .ref a)] := hl
  have hl0 : ls[0]? = some (.val (.ref a)) := lv_at hl 0 rfl
  refine lv_aload_n (k := 0) hx hb (by decide +kernel) rfl hl0 ?_
  refine W.objInit hx hb hown (idx := 3) (hts _ (am_word_mem (i := 313) (w := .methodLink am_R4 3 objectInit) (by decide +kernel))) (hts _ (am_word_mem (i := 83) (w := .instanceMethod objectInit) (by decide +kernel))) (hts _ (am_word_mem (i := 84) (w := .code objectInit ⟨#[0xb1]⟩ 1 none) (by decide +kernel))) rfl (by rw [hml]; exact hl.1) rfl (show decode prog_6_method_1_code 1 = .ok (.invokespecial 3, 3) by decide +kernel) (Nat.le_of_ble_eq_true rfl) (Nat.le_of_ble_eq_true rfl) ?_
  refine W.eq (g2 := F0 m 4 ls []) rfl ?_
  refine lf_arr (C := am_R4) (T := am_T4) (N := 4) (ci := 4) (index := 9) (fs := [.null, .null, .int 0, .int 0]) (ns := []) hx hb hts am_i4 am_y4 am_y4_ok am_n4 hown hK rfl cn_arI hl0 hP hS 0 (by decide) 384 (by decide) 8 (am_word_mem (i := 314) (by decide +kernel)) rfl (Or.inl rfl) (by decide +kernel) (Nat.le_of_ble_eq_true rfl) (by decide +kernel) (fun k9 => lv_sipush (n := 384) (v := nI 384) hx hb (by decide +kernel) (by decide +kernel) k9) (by decide +kernel) (by decide +kernel) (Nat.le_of_ble_eq_true rfl) (Nat.le_of_ble_eq_true rfl) (fun H locs hP hS => ?_)
  have hP : cn_P D a 2 (lf_E 4 [.ref (a + 1), .null, .int 0, .int 0] cI [384]) H := hP
  refine lf_arr (C := am_R4) (T := am_T4) (N := 4) (ci := 4) (index := 15) (fs := [.ref (a + 1), .null, .int 0, .int 0]) (ns := [384]) hx hb hts am_i4 am_y4 am_y4_ok am_n4 hown hK rfl cn_arI hl0 hP hS 1 (by decide) 384 (by decide) 17 (am_word_mem (i := 315) (by decide +kernel)) rfl (Or.inl rfl) (by decide +kernel) (Nat.le_of_ble_eq_true rfl) (by decide +kernel) (fun k9 => lv_sipush (n := 384) (v := nI 384) hx hb (by decide +kernel) (by decide +kernel) k9) (by decide +kernel) (by decide +kernel) (Nat.le_of_ble_eq_true rfl) (Nat.le_of_ble_eq_true rfl) (fun H locs hP hS => ?_)
  have hP : cn_P D a 3 (lf_E 4 [.ref (a + 1), .ref (a + 2), .int 0, .int 0] cI [384, 384]) H := hP
  refine W.widen (k := 2) (n := 768) (Nat.le_of_ble_eq_true rfl) (Nat.le_of_ble_eq_true rfl) ?_
  exact W.vret hx hb hr (fun t ht hW => ⟨⟨(), rfl, trivial, by show cn_P _ _ _ _ t.heap; rw [ht]; exact hP⟩, hS.F ht⟩) hS.2.2 (by decide +kernel)
def cn_y5 : MethodName := ⟨"RoomsOfHours$Walk", "<init>", "()V"⟩
def cn_w5 : List Cond := Cond.code cn_y5 prog_7_method_1_code 1 none :: am_tbl
def cn_f5 (a : Nat) : List Value := [.ref (a + 1), .ref (a + 2), .ref (a + 3), .ref (a + 4)]
abbrev cn_n5 : List Nat := [6, 6, 6, 6]
abbrev cn_05 : List Value := [.null, .null, .null, .null]
set_option maxHeartbeats 4000000 in
set_option maxRecDepth 100000 in
theorem cn_c5 (l : Launch) (D : va_G) (cI cH : ClassId) (a : Nat) : Met l cn_y5 cn_w5 ({ frames := 1, cells := 4, slots := 24, locals := 12 }) (va_Pc [.ref a] (fun U => cn_P D a 1 (lf_E 5 cn_05 cI []) U.heap ∧ va_K D am_cls [(cI, .int), (cH, .char)] U)) (va_Qv (fun (_ : Unit) => True) (fun _ t => cn_P D a 5 (lf_E 5 (cn_f5 a) cI cn_n5) t.heap) (am_A a)) 4 24 (am_A a) := by
  refine Met.ofW (cc := prog_7_method_1_code) (maxL := 1) (ret := none) (by decide) rfl ?_
  intro p e s m args below meth c s₁ B hml hv
  obtain ⟨rfl, hP, hK⟩ := hv
  have hS : va_S (am_A a) s.heap s.heap [] := va_S.rf
  have hx := B.exec
  have hb := B.bytes
  have hr := B.returns
  have hts0 := atoms_spec (ws := cn_w5) B.pre
  have hts : ∀ w ∈ am_tbl, w.before _ s = true := fun w hw => hts0 w (List.mem_cons_of_mem _ hw)
  have hown : s.vm.findClass am_R5 = some m.cls := findClass_of_methodNamed B.named
  have hin : meth.name = "<init>" := (name_of_methodNamed B.named B.method).1
  have hl := lv_entry ([.ref a]) (n := 1) (Nat.le_of_ble_eq_true rfl)
  rw [lg_entry_eq]
  generalize (lg_sl ([.ref a]) ++ List.replicate (1 - (lg_sl ([.ref a])).length) Slot.unset).toArray = ls at hl ⊢
  have hl : lv_has ls 1 [(0, .ref a)] := hl
  have hl0 : ls[0]? = some (.val (.ref a)) := lv_at hl 0 rfl
  refine lv_aload_n (k := 0) hx hb (by decide +kernel) rfl hl0 ?_
  refine W.objInit hx hb hown (idx := 3) (hts _ (am_word_mem (i := 292) (w := .methodLink am_R5 3 objectInit) (by decide +kernel))) (hts _ (am_word_mem (i := 83) (w := .instanceMethod objectInit) (by decide +kernel))) (hts _ (am_word_mem (i := 84) (w := .code objectInit ⟨#[0xb1]⟩ 1 none) (by decide +kernel))) rfl (by rw [hml]; exact hl.1) rfl (show decode prog_7_method_1_code 1 = .ok (.invokespecial 3, 3) by decide +kernel) (Nat.le_of_ble_eq_true rfl) (Nat.le_of_ble_eq_true rfl) ?_
  refine W.eq (g2 := F0 m 4 ls []) rfl ?_
  refine lf_arr (C := am_R5) (T := am_T5) (N := 4) (ci := 5) (index := 9) (fs := [.null, .null, .null, .null]) (ns := []) hx hb hts am_i5 am_y5 am_y5_ok am_n5 hown hK rfl cn_arI hl0 hP hS 0 (by decide) 6 (by decide) 7 (am_word_mem (i := 293) (by decide +kernel)) rfl (Or.inr ⟨rfl, hin, rfl⟩) (by decide +kernel) (Nat.le_of_ble_eq_true rfl) (by decide +kernel) (fun k9 => lv_bipush (n := 6) (v := nI 6) hx hb (by decide +kernel) (by decide +kernel) k9) (by decide +kernel) (by decide +kernel) (Nat.le_of_ble_eq_true rfl) (Nat.le_of_ble_eq_true rfl) (fun H locs hP hS => ?_)
  have hP : cn_P D a 2 (lf_E 5 [.ref (a + 1), .null, .null, .null] cI [6]) H := hP
  refine lf_arr (C := am_R5) (T := am_T5) (N := 4) (ci := 5) (index := 15) (fs := [.ref (a + 1), .null, .null, .null]) (ns := [6]) hx hb hts am_i5 am_y5 am_y5_ok am_n5 hown hK rfl cn_arI hl0 hP hS 1 (by decide) 6 (by decide) 15 (am_word_mem (i := 295) (by decide +kernel)) rfl (Or.inr ⟨rfl, hin, rfl⟩) (by decide +kernel) (Nat.le_of_ble_eq_true rfl) (by decide +kernel) (fun k9 => lv_bipush (n := 6) (v := nI 6) hx hb (by decide +kernel) (by decide +kernel) k9) (by decide +kernel) (by decide +kernel) (Nat.le_of_ble_eq_true rfl) (Nat.le_of_ble_eq_true rfl) (fun H locs hP hS => ?_)
  have hP : cn_P D a 3 (lf_E 5 [.ref (a + 1), .ref (a + 2), .null, .null] cI [6, 6]) H := hP
  refine lf_arr (C := am_R5) (T := am_T5) (N := 4) (ci := 5) (index := 18) (fs := [.ref (a + 1), .ref (a + 2), .null, .null]) (ns := [6, 6]) hx hb hts am_i5 am_y5 am_y5_ok am_n5 hown hK rfl cn_arI hl0 hP hS 2 (by decide) 6 (by decide) 23 (am_word_mem (i := 296) (by decide +kernel)) rfl (Or.inr ⟨rfl, hin, rfl⟩) (by decide +kernel) (Nat.le_of_ble_eq_true rfl) (by decide +kernel) (fun k9 => lv_bipush (n := 6) (v := nI 6) hx hb (by decide +kernel) (by decide +kernel) k9) (by decide +kernel) (by decide +kernel) (Nat.le_of_ble_eq_true rfl) (Nat.le_of_ble_eq_true rfl) (fun H locs hP hS => ?_)
  have hP : cn_P D a 4 (lf_E 5 [.ref (a + 1), .ref (a + 2), .ref (a + 3), .null] cI [6, 6, 6]) H := hP
  refine lf_arr (C := am_R5) (T := am_T5) (N := 4) (ci := 5) (index := 21) (fs := [.ref (a + 1), .ref (a + 2), .ref (a + 3), .null]) (ns := [6, 6, 6]) hx hb hts am_i5 am_y5 am_y5_ok am_n5 hown hK rfl cn_arI hl0 hP hS 3 (by decide) 6 (by decide) 31 (am_word_mem (i := 298) (by decide +kernel)) rfl (Or.inr ⟨rfl, hin, rfl⟩) (by decide +kernel) (Nat.le_of_ble_eq_true rfl) (by decide +kernel) (fun k9 => lv_bipush (n := 6) (v := nI 6) hx hb (by decide +kernel) (by decide +kernel) k9) (by decide +kernel) (by decide +kernel) (Nat.le_of_ble_eq_true rfl) (Nat.le_of_ble_eq_true rfl) (fun H locs hP hS => ?_)
  have hP : cn_P D a 5 (lf_E 5 [.ref (a + 1), .ref (a + 2), .ref (a + 3), .ref (a + 4)] cI [6, 6, 6, 6]) H := hP
  refine W.widen (k := 4) (n := 24) (Nat.le_of_ble_eq_true rfl) (Nat.le_of_ble_eq_true rfl) ?_
  exact W.vret hx hb hr (fun t ht hW => ⟨⟨(), rfl, trivial, by show cn_P _ _ _ _ t.heap; rw [ht]; exact hP⟩, hS.F ht⟩) hS.2.2 (by decide +kernel)
