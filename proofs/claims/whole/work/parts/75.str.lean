/-! THE TEXT CONSTANT: what the JDK answers of it -/
def sx_B : List Int32 := [114, 49, 44, 49, 44, 48, 59, 114, 50, 44, 49, 44, 54, 59, 114, 49, 44, 51, 44, 49, 50, 59, 100, 48, 44, 49, 44, 48, 44, 49, 59, 100, 49, 44, 50, 44, 49, 44, 50, 59, 100, 50, 44, 48, 44, 48, 44, 48, 59, 112, 48, 44, 50, 48, 59, 112, 49, 44, 51, 48, 59, 116, 49, 44, 49, 44, 57, 59, 116, 48, 44, 50, 44, 52, 59]
def sx_t : String := "r1,1,0;r2,1,6;r1,3,12;d0,1,0,1;d1,2,1,2;d2,0,0,0;p0,20;p1,30;t1,1,9;t0,2,4;"
/-- what is known of the text constant and of what the JDK reads -/
def sx (A : Nat → Prop) (adK adV : Nat → Nat) (vF : Value) (U : State) (H : Heap) : Prop := vk_S 1 [75] [sx_B] adK adV A U H ∧ va_Z "java/lang/String" "COMPACT_STRINGS" "Z" (.int 1) A U H ∧ va_Z "jdk/internal/util/Preconditions" "SIOOBE_FORMATTER" "Ljava/util/function/BiFunction;" vF A U H ∧ (vF = .null ∨ ∃ x, vF = .ref x)
theorem sx.moved {A : Nat → Prop} {adK adV : Nat → Nat} {vF : Value} {u U : State} {H : Heap} (hvm : u.vm.Alike U.vm) (h : sx A adK adV vF u H) : sx A adK adV vF U H := ⟨h.1.moved hvm, h.2.1.moved hvm, h.2.2.1.moved hvm, h.2.2.2⟩
theorem sx.kept {A : Nat → Prop} {adK adV : Nat → Nat} {vF : Value} {U : State} {H H1 : Heap} (h : sx A adK adV vF U H) (hq : ∀ a : Nat, a < H.size → ¬ A a → H1[a]? = H[a]?) : sx A adK adV vF U H1 := ⟨h.1.kept hq, h.2.1.kept hq, h.2.2.1.kept hq, h.2.2.2⟩
def sx_N : Nat → Prop := fun _ => False
abbrev sx_P (A : Nat → Prop) (adK adV : Nat → Nat) (vF : Value) (av : List Value) : Array Value → State → Prop := va_Pc av (fun U => sx A adK adV vF U U.heap)
theorem sx_bl {A : Nat → Prop} {adK adV : Nat → Nat} {vF : Value} {av : List Value} : FrameBlind (sx_P A adK adV vF av) := fun a U g mk q => ⟨q.1, q.2.moved (u := U) (U := U.calling g mk a) (Vm.Alike.refl U.vm)⟩
abbrev sx_Q (v : Int32) : Array Value → State → Outcome → State → Prop := va_Qi (fun r (_ : Unit) => r = v) (fun _ _ => True) sx_N
abbrev sx_Z : Array Value → State → Outcome → State → Prop := va_Qv (fun (_ : Unit) => True) (fun _ _ => True) sx_N
theorem sx_weak {A : Nat → Prop} {H0 H1 : Heap} {locs : List Loc} (h : va_S sx_N H0 H1 locs) : va_S A H0 H1 locs := ⟨h.1, fun q h1 _ => h.2.1 q h1 (fun z => z), fun l hl => (h.2.2 l hl).elim⟩
theorem sx_all : ∀ k, k < 75 → (((sx_B.getD k 0) &&& 255).toUInt32 % 65536).toInt32 = sx_B.getD k 0 ∧ narrow .char (.int (sx_B.getD k 0)) = .int (sx_B.getD k 0) := by decide +kernel
section SX
variable (l : Launch) (A : Nat → Prop) (adK adV : Nat → Nat) (vF : Value)
def sx_yc : MethodName := ⟨"java/lang/String", "coder", "()B"⟩
def sx_wc : List Cond := Cond.code sx_yc prog_12_method_152_code 1 (some .byte) :: am_tbl
def sx_yl : MethodName := ⟨"java/lang/String", "length", "()I"⟩
def sx_wl : List Cond := Cond.code sx_yl prog_12_method_54_code 1 (some .int) :: am_tbl
def sx_yi : MethodName := ⟨"java/lang/String", "isLatin1", "()Z"⟩
def sx_wi : List Cond := Cond.code sx_yi prog_12_method_154_code 1 (some .boolean) :: am_tbl
def sx_y3 : MethodName := ⟨"jdk/internal/util/Preconditions", "checkIndex", "(IILjava/util/function/BiFunction;)I"⟩
def sx_w3 : List Cond := Cond.code sx_y3 prog_17_method_11_code 3 (some .int) :: am_tbl
def sx_y0 : MethodName := ⟨"java/lang/String", "checkIndex", "(II)V"⟩
def sx_w0 : List Cond := Cond.code sx_y0 prog_12_method_155_code 2 (none) :: am_tbl
def sx_y1 : MethodName := ⟨"java/lang/StringLatin1", "charAt", "([BI)C"⟩
def sx_w1 : List Cond := Cond.code sx_y1 prog_13_method_2_code 2 (some .char) :: am_tbl
def sx_yk : MethodName := ⟨"java/lang/String", "charAt", "(I)C"⟩
def sx_wk : List Cond := Cond.code sx_yk prog_12_method_56_code 2 (some .char) :: am_tbl
set_option maxHeartbeats 4000000 in
set_option maxRecDepth 100000 in
theorem sx_c : Met l sx_yc sx_wc ({ frames := 0, cells := 0, slots := 0, locals := 0 }) (sx_P A adK adV vF [.ref (adK 0)]) (sx_Q 0) 0 0 sx_N := by
  refine am_ofW (cc := prog_12_method_152_code) (maxL := 1) (ret := some .byte) (by decide +kernel) rfl ?_
  intro p e s m args below meth c s₁ B hml hv
  obtain ⟨rfl, hF⟩ := hv
  have hx := B.exec
  have hb := B.bytes
  have hr := B.returns
  have hts0 := atoms_spec (ws := sx_wc) B.pre
  have hts : ∀ w ∈ am_tbl, w.before _ s = true := fun w hw => hts0 w (List.mem_cons_of_mem _ hw)
  have hown : s.vm.findClass "java/lang/String" = some m.cls := findClass_of_methodNamed B.named
  have hN : va_S sx_N s.heap s.heap [] := va_S.rf
  have hS := sx_weak (A := A) hN
  have hl := lv_entry ([.ref (adK 0)]) (n := 1) (Nat.le_of_ble_eq_true rfl)
  rw [lg_entry_eq]
  generalize (lg_sl ([.ref (adK 0)]) ++ List.replicate (1 - (lg_sl ([.ref (adK 0)])).length) Slot.unset).toArray = ls at hl ⊢
  have hl : lv_has ls 1 [(0, .ref (adK 0))] := hl
  refine va_gets hx hb (index := 38) (ref := "java/lang/String") hF.2.1 hS hown (hts _ (am_word_mem (i := 338) (by decide +kernel))) (fun _ h => h) (by decide +kernel) ?_
  refine lv_if_eq (tgt := 13) hx hb (off := 10) (by decide +kernel) (by decide) (fun c9 => absurd c9 (by decide)) (fun _ => ?_)
  refine lv_aload_n (k := 0) hx hb (by decide +kernel) rfl (lv_at hl 0 rfl) ?_
  refine vk_getf hx hb (index := 15) (ref := "java/lang/String") (hF.1.1 0 (by decide)).2.1 hS hown (hts _ (am_word_mem (i := 1270) (by decide +kernel))) (fun _ h => h) (by decide +kernel) ?_
  refine lv_goto (tgt := 14) (off := 4) hx hb (by decide +kernel) (by decide) ?_
  exact W.zret (ty := .byte) (v := 0) hx hb hr (by decide +kernel) (fun t ht hW => ⟨⟨0, (), rfl, rfl, trivial⟩, hN.F ht⟩) hN.2.2 (by decide +kernel)
set_option maxHeartbeats 4000000 in
set_option maxRecDepth 100000 in
theorem sx_i : Met l sx_yi sx_wi ({ frames := 0, cells := 0, slots := 0, locals := 0 }) (sx_P A adK adV vF [.ref (adK 0)]) (sx_Q 1) 0 0 sx_N := by
  refine am_ofW (cc := prog_12_method_154_code) (maxL := 1) (ret := some .boolean) (by decide +kernel) rfl ?_
  intro p e s m args below meth c s₁ B hml hv
  obtain ⟨rfl, hF⟩ := hv
  have hx := B.exec
  have hb := B.bytes
  have hr := B.returns
  have hts0 := atoms_spec (ws := sx_wi) B.pre
  have hts : ∀ w ∈ am_tbl, w.before _ s = true := fun w hw => hts0 w (List.mem_cons_of_mem _ hw)
  have hown : s.vm.findClass "java/lang/String" = some m.cls := findClass_of_methodNamed B.named
  have hN : va_S sx_N s.heap s.heap [] := va_S.rf
  have hS := sx_weak (A := A) hN
  have hl := lv_entry ([.ref (adK 0)]) (n := 1) (Nat.le_of_ble_eq_true rfl)
  rw [lg_entry_eq]
  generalize (lg_sl ([.ref (adK 0)]) ++ List.replicate (1 - (lg_sl ([.ref (adK 0)])).length) Slot.unset).toArray = ls at hl ⊢
  have hl : lv_has ls 1 [(0, .ref (adK 0))] := hl
  refine va_gets hx hb (index := 38) (ref := "java/lang/String") hF.2.1 hS hown (hts _ (am_word_mem (i := 338) (by decide +kernel))) (fun _ h => h) (by decide +kernel) ?_
  refine lv_if_eq (tgt := 17) hx hb (off := 14) (by decide +kernel) (by decide) (fun c9 => absurd c9 (by decide)) (fun _ => ?_)
  refine lv_aload_n (k := 0) hx hb (by decide +kernel) rfl (lv_at hl 0 rfl) ?_
  refine vk_getf hx hb (index := 15) (ref := "java/lang/String") (hF.1.1 0 (by decide)).2.1 hS hown (hts _ (am_word_mem (i := 1270) (by decide +kernel))) (fun _ h => h) (by decide +kernel) ?_
  refine lv_if_ne (tgt := 17) hx hb (off := 7) (by decide +kernel) (by decide) (fun c9 => absurd rfl c9) (fun _ => ?_)
  refine lv_iconst (n := 1) (v := 1) hx hb (by decide +kernel) (by decide) ?_
  refine lv_goto (tgt := 18) (off := 4) hx hb (by decide +kernel) (by decide) ?_
  exact W.zret (ty := .boolean) (v := 1) hx hb hr (by decide +kernel) (fun t ht hW => ⟨⟨1, (), rfl, rfl, trivial⟩, hN.F ht⟩) hN.2.2 (by decide +kernel)
set_option maxHeartbeats 4000000 in
set_option maxRecDepth 100000 in
theorem sx_l : Met l sx_yl sx_wl ({ frames := 1, cells := 0, slots := 0, locals := 25 }) (sx_P A adK adV vF [.ref (adK 0)]) (sx_Q (nI 75)) 0 0 sx_N := by
  refine am_ofW (cc := prog_12_method_54_code) (maxL := 1) (ret := some .int) (by decide +kernel) rfl ?_
  intro p e s m args below meth c s₁ B hml hv
  obtain ⟨rfl, hF⟩ := hv
  have hx := B.exec
  have hb := B.bytes
  have hr := B.returns
  have hts0 := atoms_spec (ws := sx_wl) B.pre
  have hts : ∀ w ∈ am_tbl, w.before _ s = true := fun w hw => hts0 w (List.mem_cons_of_mem _ hw)
  have hown : s.vm.findClass "java/lang/String" = some m.cls := findClass_of_methodNamed B.named
  have hN : va_S sx_N s.heap s.heap [] := va_S.rf
  have hS := sx_weak (A := A) hN
  have hl := lv_entry ([.ref (adK 0)]) (n := 1) (Nat.le_of_ble_eq_true rfl)
  rw [lg_entry_eq]
  generalize (lg_sl ([.ref (adK 0)]) ++ List.replicate (1 - (lg_sl ([.ref (adK 0)])).length) Slot.unset).toArray = ls at hl ⊢
  have hl : lv_has ls 1 [(0, .ref (adK 0))] := hl
  have hT : va_T .byte (adV 0) 75 (fun j => .int (sx_B.getD j 0)) A s s.heap := (hF.1.1 0 (by decide)).2.2.2
  refine lv_aload_n (k := 0) hx hb (by decide +kernel) rfl (lv_at hl 0 rfl) ?_
  refine vk_getf hx hb (index := 9) (ref := "java/lang/String") (hF.1.1 0 (by decide)).2.2.1 hS hown (hts _ (am_word_mem (i := 1269) (by decide +kernel))) (fun _ h => h) (by decide +kernel) ?_
  refine va_tlen hx hb hT hS (v := nI 75) rfl (by decide +kernel) ?_
  refine lv_aload_n (k := 0) hx hb (by decide +kernel) rfl (lv_at hl 0 rfl) ?_
  refine va_calli (va_runV (Ts := am_tbl) (b := adK 0) (As := []) (rest := [.int (nI 75)]) ⟨hx, hb, hml, hown, hts⟩ (sx_c l A adK adV vF) ⟨(callB_of (Ts := am_tbl) (ws := sx_wc) (rm := ({ frames := 0, cells := 0, slots := 0, locals := 0 })) 0 hts (am_goodIn (fun w h => h) (fun w hw => (List.mem_cons.mp hw).elim (fun e => e ▸ am_word_mem (i := 337) (by decide +kernel)) id)) rfl rfl rfl (hts _ (am_word_mem (i := 68) (by decide +kernel))) (hts _ (am_word_mem (i := 334) (by decide +kernel))) (show sx_yc.cls ≠ "java/lang/invoke/MethodHandle" ∧ sx_yc.cls ≠ "java/lang/invoke/VarHandle" ∧ (parseMethodDescriptor sx_yc.desc).map (fun d => d.parameters.length) = some 0 by decide +kernel) ⟨Nat.le_of_ble_eq_true rfl, Nat.le_of_ble_eq_true rfl⟩), (hts _ (am_word_mem (i := 335) (by decide +kernel))), (hts _ (am_word_mem (i := 336) (by decide +kernel)))⟩ ⟨sx_bl, vk_recv hF.1 (by decide) hS, fun U hU hW => ⟨rfl, by show sx _ _ _ _ U U.heap; rw [hU]; exact hF.moved hW.alike⟩⟩ rfl rfl hl.1 rfl (lv_room (Nat.le_of_ble_eq_true rfl)) (show decode prog_12_method_54_code 6 = .ok (.invokevirtual 335, 3) by decide +kernel) ⟨Nat.le_of_ble_eq_true rfl, Nat.le_of_ble_eq_true rfl⟩) hN (fun q _ h => h.elim) (fun q h => h.elim) (fun r u t H1 locs1 ht hvm hw hB hz1 hk1 hN => ?_)
  rw [hw]
  refine lv_ishr hx hb (by decide +kernel) ?_
  exact W.zret (ty := .int) (v := nI 75 >>> (0 &&& 31)) hx hb hr rfl (fun t ht hW => ⟨⟨_, (), rfl, by decide +kernel, trivial⟩, hN.F ht⟩) hN.2.2 (by decide +kernel)
set_option maxHeartbeats 4000000 in
set_option maxRecDepth 100000 in
theorem sx_3n {k : Nat} (hk : k < 75) : Met l sx_y3 sx_w3 ({ frames := 0, cells := 0, slots := 0, locals := 0 }) (sx_P A adK adV .null [.int (nI k), .int (nI 75), .null]) (sx_Q (nI k)) 0 0 sx_N := by
  refine am_ofW (cc := prog_17_method_11_code) (maxL := 3) (ret := some .int) (by decide +kernel) rfl ?_
  intro p e s m args below meth c s₁ B hml hv
  obtain ⟨rfl, hF⟩ := hv
  have hx := B.exec
  have hb := B.bytes
  have hr := B.returns
  have hts0 := atoms_spec (ws := sx_w3) B.pre
  have hts : ∀ w ∈ am_tbl, w.before _ s = true := fun w hw => hts0 w (List.mem_cons_of_mem _ hw)
  have hown : s.vm.findClass "jdk/internal/util/Preconditions" = some m.cls := findClass_of_methodNamed B.named
  have hN : va_S sx_N s.heap s.heap [] := va_S.rf
  have hS := sx_weak (A := A) hN
  have hl := lv_entry ([.int (nI k), .int (nI 75), .null]) (n := 3) (Nat.le_of_ble_eq_true rfl)
  rw [lg_entry_eq]
  generalize (lg_sl ([.int (nI k), .int (nI 75), .null]) ++ List.replicate (3 - (lg_sl ([.int (nI k), .int (nI 75), .null])).length) Slot.unset).toArray = ls at hl ⊢
  have hl : lv_has ls 3 [(0, .int (nI k)), (1, .int (nI 75)), (2, .null)] := hl
  refine lv_iload_n (k := 0) hx hb (by decide +kernel) rfl (lv_at hl 0 rfl) ?_
  refine lv_if_lt (tgt := 9) hx hb (off := 8) (by decide +kernel) (by decide) (fun c9 => absurd c9 (nI_pos (by omega))) (fun _ => ?_)
  refine lv_iload_n (k := 0) hx hb (by decide +kernel) rfl (lv_at hl 0 rfl) ?_
  refine lv_iload_n (k := 1) hx hb (by decide +kernel) rfl (lv_at hl 1 rfl) ?_
  refine lv_icmp_lt (tgt := 16) hx hb (off := 10) (by decide +kernel) (by decide) (fun _ => ?_) (fun c9 => absurd (nI_lt hk (by omega)) c9)
  refine lv_iload_n (k := 0) hx hb (by decide +kernel) rfl (lv_at hl 0 rfl) ?_
  exact W.zret (ty := .int) (v := nI k) hx hb hr rfl (fun t ht hW => ⟨⟨_, (), rfl, rfl, trivial⟩, hN.F ht⟩) hN.2.2 (by decide +kernel)
set_option maxHeartbeats 4000000 in
set_option maxRecDepth 100000 in
theorem sx_3r {k x : Nat} (hk : k < 75) : Met l sx_y3 sx_w3 ({ frames := 0, cells := 0, slots := 0, locals := 0 }) (sx_P A adK adV (.ref x) [.int (nI k), .int (nI 75), .ref x]) (sx_Q (nI k)) 0 0 sx_N := by
  refine am_ofW (cc := prog_17_method_11_code) (maxL := 3) (ret := some .int) (by decide +kernel) rfl ?_
  intro p e s m args below meth c s₁ B hml hv
  obtain ⟨rfl, hF⟩ := hv
  have hx := B.exec
  have hb := B.bytes
  have hr := B.returns
  have hts0 := atoms_spec (ws := sx_w3) B.pre
  have hts : ∀ w ∈ am_tbl, w.before _ s = true := fun w hw => hts0 w (List.mem_cons_of_mem _ hw)
  have hown : s.vm.findClass "jdk/internal/util/Preconditions" = some m.cls := findClass_of_methodNamed B.named
  have hN : va_S sx_N s.heap s.heap [] := va_S.rf
  have hS := sx_weak (A := A) hN
  have hl := lv_entry ([.int (nI k), .int (nI 75), .ref x]) (n := 3) (Nat.le_of_ble_eq_true rfl)
  rw [lg_entry_eq]
  generalize (lg_sl ([.int (nI k), .int (nI 75), .ref x]) ++ List.replicate (3 - (lg_sl ([.int (nI k), .int (nI 75), .ref x])).length) Slot.unset).toArray = ls at hl ⊢
  have hl : lv_has ls 3 [(0, .int (nI k)), (1, .int (nI 75)), (2, .ref x)] := hl
  refine lv_iload_n (k := 0) hx hb (by decide +kernel) rfl (lv_at hl 0 rfl) ?_
  refine lv_if_lt (tgt := 9) hx hb (off := 8) (by decide +kernel) (by decide) (fun c9 => absurd c9 (nI_pos (by omega))) (fun _ => ?_)
  refine lv_iload_n (k := 0) hx hb (by decide +kernel) rfl (lv_at hl 0 rfl) ?_
  refine lv_iload_n (k := 1) hx hb (by decide +kernel) rfl (lv_at hl 1 rfl) ?_
  refine lv_icmp_lt (tgt := 16) hx hb (off := 10) (by decide +kernel) (by decide) (fun _ => ?_) (fun c9 => absurd (nI_lt hk (by omega)) c9)
  refine lv_iload_n (k := 0) hx hb (by decide +kernel) rfl (lv_at hl 0 rfl) ?_
  exact W.zret (ty := .int) (v := nI k) hx hb hr rfl (fun t ht hW => ⟨⟨_, (), rfl, rfl, trivial⟩, hN.F ht⟩) hN.2.2 (by decide +kernel)
theorem sx_3 {k : Nat} (hk : k < 75) (hv : vF = .null ∨ ∃ x, vF = .ref x) : Met l sx_y3 sx_w3 ({ frames := 0, cells := 0, slots := 0, locals := 0 }) (sx_P A adK adV vF [.int (nI k), .int (nI 75), vF]) (sx_Q (nI k)) 0 0 sx_N := by
  rcases hv with rfl | ⟨x, rfl⟩
  · exact sx_3n l A adK adV hk
  · exact sx_3r l A adK adV hk
set_option maxHeartbeats 4000000 in
set_option maxRecDepth 100000 in
theorem sx_0 {k : Nat} (hk : k < 75) : Met l sx_y0 sx_w0 ({ frames := 1, cells := 0, slots := 0, locals := 25 }) (sx_P A adK adV vF [.int (nI k), .int (nI 75)]) sx_Z 0 0 sx_N := by
  refine am_ofW (cc := prog_12_method_155_code) (maxL := 2) (ret := none) (by decide +kernel) rfl ?_
  intro p e s m args below meth c s₁ B hml hv
  obtain ⟨rfl, hF⟩ := hv
  have hx := B.exec
  have hb := B.bytes
  have hr := B.returns
  have hts0 := atoms_spec (ws := sx_w0) B.pre
  have hts : ∀ w ∈ am_tbl, w.before _ s = true := fun w hw => hts0 w (List.mem_cons_of_mem _ hw)
  have hown : s.vm.findClass "java/lang/String" = some m.cls := findClass_of_methodNamed B.named
  have hN : va_S sx_N s.heap s.heap [] := va_S.rf
  have hS := sx_weak (A := A) hN
  have hl := lv_entry ([.int (nI k), .int (nI 75)]) (n := 2) (Nat.le_of_ble_eq_true rfl)
  rw [lg_entry_eq]
  generalize (lg_sl ([.int (nI k), .int (nI 75)]) ++ List.replicate (2 - (lg_sl ([.int (nI k), .int (nI 75)])).length) Slot.unset).toArray = ls at hl ⊢
  have hl : lv_has ls 2 [(0, .int (nI k)), (1, .int (nI 75))] := hl
  refine lv_iload_n (k := 0) hx hb (by decide +kernel) rfl (lv_at hl 0 rfl) ?_
  refine lv_iload_n (k := 1) hx hb (by decide +kernel) rfl (lv_at hl 1 rfl) ?_
  refine va_gets hx hb (index := 1053) (ref := "jdk/internal/util/Preconditions") hF.2.2.1 hS hown (hts _ (am_word_mem (i := 357) (by decide +kernel))) (fun _ h => h) (by decide +kernel) ?_
  refine va_calli (va_runS (Ts := am_tbl) (As := [.int (nI k), .int (nI 75), vF]) (rest := []) ⟨hx, hb, hml, hown, hts⟩ (sx_3 l A adK adV vF hk hF.2.2.2) ⟨(callB_of (Ts := am_tbl) (ws := sx_w3) (rm := ({ frames := 0, cells := 0, slots := 0, locals := 0 })) 3 hts (am_goodIn (fun w h => h) (fun w hw => (List.mem_cons.mp hw).elim (fun e => e ▸ am_word_mem (i := 361) (by decide +kernel)) id)) rfl rfl rfl (hts _ (am_word_mem (i := 71) (by decide +kernel))) (hts _ (am_word_mem (i := 359) (by decide +kernel))) (show sx_y3.cls ≠ "java/lang/invoke/MethodHandle" ∧ sx_y3.cls ≠ "java/lang/invoke/VarHandle" ∧ (parseMethodDescriptor sx_y3.desc).map (fun d => d.parameters.length) = some 3 by decide +kernel) ⟨Nat.le_of_ble_eq_true rfl, Nat.le_of_ble_eq_true rfl⟩), (hts _ (am_word_mem (i := 360) (by decide +kernel)))⟩ ⟨sx_bl, fun U hU hW => ⟨rfl, by show sx _ _ _ _ U U.heap; rw [hU]; exact hF.moved hW.alike⟩⟩ rfl rfl hl.1 rfl (lv_room (Nat.le_of_ble_eq_true rfl)) (show decode prog_12_method_155_code 5 = .ok (.invokestatic 1059, 3) by decide +kernel) ⟨Nat.le_of_ble_eq_true rfl, Nat.le_of_ble_eq_true rfl⟩) hN (fun q _ h => h.elim) (fun q h => h.elim) (fun r u t H1 locs1 ht hvm hw hB hz1 hk1 hN => ?_)
  refine lv_pop hx hb (by decide +kernel) rfl ?_
  exact W.vret hx hb hr (fun t ht hW => ⟨⟨(), rfl, trivial, trivial⟩, hN.F ht⟩) hN.2.2 (by decide +kernel)
set_option maxHeartbeats 4000000 in
set_option maxRecDepth 100000 in
theorem sx_1 {k : Nat} (hk : k < 75) : Met l sx_y1 sx_w1 ({ frames := 2, cells := 0, slots := 0, locals := 50 }) (sx_P A adK adV vF [.ref (adV 0), .int (nI k)]) (sx_Q (sx_B.getD k 0)) 0 0 sx_N := by
  refine am_ofW (cc := prog_13_method_2_code) (maxL := 2) (ret := some .char) (by decide +kernel) rfl ?_
  intro p e s m args below meth c s₁ B hml hv
  obtain ⟨rfl, hF⟩ := hv
  have hx := B.exec
  have hb := B.bytes
  have hr := B.returns
  have hts0 := atoms_spec (ws := sx_w1) B.pre
  have hts : ∀ w ∈ am_tbl, w.before _ s = true := fun w hw => hts0 w (List.mem_cons_of_mem _ hw)
  have hown : s.vm.findClass "java/lang/StringLatin1" = some m.cls := findClass_of_methodNamed B.named
  have hN : va_S sx_N s.heap s.heap [] := va_S.rf
  have hS := sx_weak (A := A) hN
  have hl := lv_entry ([.ref (adV 0), .int (nI k)]) (n := 2) (Nat.le_of_ble_eq_true rfl)
  rw [lg_entry_eq]
  generalize (lg_sl ([.ref (adV 0), .int (nI k)]) ++ List.replicate (2 - (lg_sl ([.ref (adV 0), .int (nI k)])).length) Slot.unset).toArray = ls at hl ⊢
  have hl : lv_has ls 2 [(0, .ref (adV 0)), (1, .int (nI k))] := hl
  have hT : va_T .byte (adV 0) 75 (fun j => .int (sx_B.getD j 0)) A s s.heap := (hF.1.1 0 (by decide)).2.2.2
  refine lv_iload_n (k := 1) hx hb (by decide +kernel) rfl (lv_at hl 1 rfl) ?_
  refine lv_aload_n (k := 0) hx hb (by decide +kernel) rfl (lv_at hl 0 rfl) ?_
  refine va_tlen hx hb hT hS (v := nI 75) rfl (by decide +kernel) ?_
  refine va_callv (va_runS (Ts := am_tbl) (As := [.int (nI k), .int (nI 75)]) (rest := []) ⟨hx, hb, hml, hown, hts⟩ (sx_0 l A adK adV vF hk) ⟨(callB_of (Ts := am_tbl) (ws := sx_w0) (rm := ({ frames := 1, cells := 0, slots := 0, locals := 25 })) 2 hts (am_goodIn (fun w h => h) (fun w hw => (List.mem_cons.mp hw).elim (fun e => e ▸ am_word_mem (i := 356) (by decide +kernel)) id)) rfl rfl rfl (hts _ (am_word_mem (i := 68) (by decide +kernel))) (hts _ (am_word_mem (i := 354) (by decide +kernel))) (show sx_y0.cls ≠ "java/lang/invoke/MethodHandle" ∧ sx_y0.cls ≠ "java/lang/invoke/VarHandle" ∧ (parseMethodDescriptor sx_y0.desc).map (fun d => d.parameters.length) = some 2 by decide +kernel) ⟨Nat.le_of_ble_eq_true rfl, Nat.le_of_ble_eq_true rfl⟩), (hts _ (am_word_mem (i := 355) (by decide +kernel)))⟩ ⟨sx_bl, fun U hU hW => ⟨rfl, by show sx _ _ _ _ U U.heap; rw [hU]; exact hF.moved hW.alike⟩⟩ rfl rfl hl.1 rfl (lv_room (Nat.le_of_ble_eq_true rfl)) (show decode prog_13_method_2_code 3 = .ok (.invokestatic 9, 3) by decide +kernel) ⟨Nat.le_of_ble_eq_true rfl, Nat.le_of_ble_eq_true rfl⟩) hN (fun q _ h => h.elim) (fun q h => h.elim) (fun u t H1 locs1 ht hvm hw hB hz1 hk1 hN => ?_)
  have hS := sx_weak (A := A) hN
  refine lv_aload_n (k := 0) hx hb (by decide +kernel) rfl (lv_at hl 0 rfl) ?_
  refine lv_iload_n (k := 1) hx hb (by decide +kernel) rfl (lv_at hl 1 rfl) ?_
  refine va_tb hx hb hT hS (i := nI k) (v := .int (sx_B.getD k 0)) (vp_in_nI hk (by omega)) (by rw [nI_clamp (by omega)]) (by decide +kernel) ?_
  refine lv_sipush (n := 255) (v := 255) hx hb (by decide +kernel) (by decide +kernel) ?_
  refine lv_iand hx hb (by decide +kernel) ?_
  refine lv_i2c (v := sx_B.getD k 0) hx hb (by decide +kernel) (sx_all k hk).1 ?_
  exact W.zret (ty := .char) (v := sx_B.getD k 0) hx hb hr (sx_all k hk).2 (fun t ht hW => ⟨⟨_, (), rfl, rfl, trivial⟩, hN.F ht⟩) hN.2.2 (by decide +kernel)
set_option maxHeartbeats 4000000 in
set_option maxRecDepth 100000 in
theorem sx_k {k : Nat} (hk : k < 75) : Met l sx_yk sx_wk ({ frames := 3, cells := 0, slots := 0, locals := 75 }) (sx_P A adK adV vF [.ref (adK 0), .int (nI k)]) (sx_Q (sx_B.getD k 0)) 0 0 sx_N := by
  refine am_ofW (cc := prog_12_method_56_code) (maxL := 2) (ret := some .char) (by decide +kernel) rfl ?_
  intro p e s m args below meth c s₁ B hml hv
  obtain ⟨rfl, hF⟩ := hv
  have hx := B.exec
  have hb := B.bytes
  have hr := B.returns
  have hts0 := atoms_spec (ws := sx_wk) B.pre
  have hts : ∀ w ∈ am_tbl, w.before _ s = true := fun w hw => hts0 w (List.mem_cons_of_mem _ hw)
  have hown : s.vm.findClass "java/lang/String" = some m.cls := findClass_of_methodNamed B.named
  have hN : va_S sx_N s.heap s.heap [] := va_S.rf
  have hS := sx_weak (A := A) hN
  have hl := lv_entry ([.ref (adK 0), .int (nI k)]) (n := 2) (Nat.le_of_ble_eq_true rfl)
  rw [lg_entry_eq]
  generalize (lg_sl ([.ref (adK 0), .int (nI k)]) ++ List.replicate (2 - (lg_sl ([.ref (adK 0), .int (nI k)])).length) Slot.unset).toArray = ls at hl ⊢
  have hl : lv_has ls 2 [(0, .ref (adK 0)), (1, .int (nI k))] := hl
  refine lv_aload_n (k := 0) hx hb (by decide +kernel) rfl (lv_at hl 0 rfl) ?_
  refine va_calli (va_runV (Ts := am_tbl) (b := adK 0) (As := []) (rest := []) ⟨hx, hb, hml, hown, hts⟩ (sx_i l A adK adV vF) ⟨(callB_of (Ts := am_tbl) (ws := sx_wi) (rm := ({ frames := 0, cells := 0, slots := 0, locals := 0 })) 0 hts (am_goodIn (fun w h => h) (fun w hw => (List.mem_cons.mp hw).elim (fun e => e ▸ am_word_mem (i := 350) (by decide +kernel)) id)) rfl rfl rfl (hts _ (am_word_mem (i := 68) (by decide +kernel))) (hts _ (am_word_mem (i := 347) (by decide +kernel))) (show sx_yi.cls ≠ "java/lang/invoke/MethodHandle" ∧ sx_yi.cls ≠ "java/lang/invoke/VarHandle" ∧ (parseMethodDescriptor sx_yi.desc).map (fun d => d.parameters.length) = some 0 by decide +kernel) ⟨Nat.le_of_ble_eq_true rfl, Nat.le_of_ble_eq_true rfl⟩), (hts _ (am_word_mem (i := 348) (by decide +kernel))), (hts _ (am_word_mem (i := 349) (by decide +kernel)))⟩ ⟨sx_bl, vk_recv hF.1 (by decide) hS, fun U hU hW => ⟨rfl, by show sx _ _ _ _ U U.heap; rw [hU]; exact hF.moved hW.alike⟩⟩ rfl rfl hl.1 rfl (lv_room (Nat.le_of_ble_eq_true rfl)) (show decode prog_12_method_56_code 1 = .ok (.invokevirtual 492, 3) by decide +kernel) ⟨Nat.le_of_ble_eq_true rfl, Nat.le_of_ble_eq_true rfl⟩) hN (fun q _ h => h.elim) (fun q h => h.elim) (fun r u t H1 locs1 ht hvm hw hB hz1 hk1 hN => ?_)
  have hS := sx_weak (A := A) hN
  rw [hw]
  refine lv_if_eq (tgt := 16) hx hb (off := 12) (by decide +kernel) (by decide) (fun c9 => absurd c9 (by decide)) (fun _ => ?_)
  refine lv_aload_n (k := 0) hx hb (by decide +kernel) rfl (lv_at hl 0 rfl) ?_
  refine vk_getf hx hb (index := 9) (ref := "java/lang/String") (hF.1.1 0 (by decide)).2.2.1 hS hown (hts _ (am_word_mem (i := 1269) (by decide +kernel))) (fun _ h => h) (by decide +kernel) ?_
  refine lv_iload_n (k := 1) hx hb (by decide +kernel) rfl (lv_at hl 1 rfl) ?_
  refine va_calli (va_runS (Ts := am_tbl) (As := [.ref (adV 0), .int (nI k)]) (rest := []) ⟨hx, hb, hml, hown, hts⟩ (sx_1 l A adK adV vF hk) ⟨(callB_of (Ts := am_tbl) (ws := sx_w1) (rm := ({ frames := 2, cells := 0, slots := 0, locals := 50 })) 2 hts (am_goodIn (fun w h => h) (fun w hw => (List.mem_cons.mp hw).elim (fun e => e ▸ am_word_mem (i := 353) (by decide +kernel)) id)) rfl rfl rfl (hts _ (am_word_mem (i := 70) (by decide +kernel))) (hts _ (am_word_mem (i := 351) (by decide +kernel))) (show sx_y1.cls ≠ "java/lang/invoke/MethodHandle" ∧ sx_y1.cls ≠ "java/lang/invoke/VarHandle" ∧ (parseMethodDescriptor sx_y1.desc).map (fun d => d.parameters.length) = some 2 by decide +kernel) ⟨Nat.le_of_ble_eq_true rfl, Nat.le_of_ble_eq_true rfl⟩), (hts _ (am_word_mem (i := 352) (by decide +kernel)))⟩ ⟨sx_bl, fun U hU hW => ⟨rfl, by show sx _ _ _ _ U U.heap; rw [hU]; exact (hF.kept hS.2.1).moved hW.alike⟩⟩ rfl rfl hl.1 rfl (lv_room (Nat.le_of_ble_eq_true rfl)) (show decode prog_12_method_56_code 12 = .ok (.invokestatic 495, 3) by decide +kernel) ⟨Nat.le_of_ble_eq_true rfl, Nat.le_of_ble_eq_true rfl⟩) hN (fun q _ h => h.elim) (fun q h => h.elim) (fun r u t H1 locs1 ht hvm hw hB hz1 hk1 hN => ?_)
  rw [hw]
  exact W.zret (ty := .char) (v := sx_B.getD k 0) hx hb hr (sx_all k hk).2 (fun t ht hW => ⟨⟨_, (), rfl, rfl, trivial⟩, hN.F ht⟩) hN.2.2 (by decide +kernel)
end SX
