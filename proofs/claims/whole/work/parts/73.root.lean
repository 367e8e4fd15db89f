/-! THE CLASS IS MADE: 82 cells; by program -/
abbrev cn_06 : List Value := [.null, .int 0, .null, .null, .null, .null, .null, .null, .null, .int 0, .null, .null, .null]
def rE0 (cI : ClassId) : Nat → va_E := lf_E 6 cn_06 cI []
def rE1 (b0 : Nat) (cI cH : ClassId) : Nat → va_E := cn_up (cn_up (rE0 cI) 1 (.inl (cH, 200, .inl (fun _ => 0)))) 0 (.inr (6, [.ref (b0 + 1), .int 0, .null, .null, .null, .null, .null, .null, .null, .int 0, .null, .null, .null]))
def rE2 (b0 : Nat) (cI cH : ClassId) : Nat → va_E := cn_up (cn_jn (rE1 b0 cI cH) 2 (lf_E 2 (cn_f2 (b0 + 2)) cI cn_n2)) 0 (.inr (6, [.ref (b0 + 1), .int 0, .ref (b0 + 2), .null, .null, .null, .null, .null, .null, .int 0, .null, .null, .null]))
def rE3 (b0 : Nat) (cI cH : ClassId) : Nat → va_E := cn_up (cn_jn (rE2 b0 cI cH) 17 (lf_E 2 (cn_f2 (b0 + 17)) cI cn_n2)) 0 (.inr (6, [.ref (b0 + 1), .int 0, .ref (b0 + 2), .ref (b0 + 17), .null, .null, .null, .null, .null, .int 0, .null, .null, .null]))
def rE4 (b0 : Nat) (cI cH : ClassId) : Nat → va_E := cn_up (cn_jn (rE3 b0 cI cH) 32 (lf_E 1 (cn_f1 (b0 + 32) (b0 + 2)) cI cn_n1)) 0 (.inr (6, [.ref (b0 + 1), .int 0, .ref (b0 + 2), .ref (b0 + 17), .ref (b0 + 32), .null, .null, .null, .null, .int 0, .null, .null, .null]))
def rE5 (b0 : Nat) (cI cH : ClassId) : Nat → va_E := cn_up (cn_jn (rE4 b0 cI cH) 45 (lf_E 1 (cn_f1 (b0 + 45) (b0 + 2)) cI cn_n1)) 0 (.inr (6, [.ref (b0 + 1), .int 0, .ref (b0 + 2), .ref (b0 + 17), .ref (b0 + 32), .ref (b0 + 45), .null, .null, .null, .int 0, .null, .null, .null]))
def rE6 (b0 : Nat) (cI cH : ClassId) : Nat → va_E := cn_up (cn_jn (rE5 b0 cI cH) 58 (lf_E 0 (cn_f0 (b0 + 58)) cI cn_n0)) 0 (.inr (6, [.ref (b0 + 1), .int 0, .ref (b0 + 2), .ref (b0 + 17), .ref (b0 + 32), .ref (b0 + 45), .ref (b0 + 58), .null, .null, .int 0, .null, .null, .null]))
def rE7 (b0 : Nat) (cI cH : ClassId) : Nat → va_E := cn_up (cn_jn (rE6 b0 cI cH) 62 (lf_E 0 (cn_f0 (b0 + 62)) cI cn_n0)) 0 (.inr (6, [.ref (b0 + 1), .int 0, .ref (b0 + 2), .ref (b0 + 17), .ref (b0 + 32), .ref (b0 + 45), .ref (b0 + 58), .ref (b0 + 62), .null, .int 0, .null, .null, .null]))
def rE8 (b0 : Nat) (cI cH : ClassId) : Nat → va_E := cn_up (cn_jn (rE7 b0 cI cH) 66 (lf_E 0 (cn_f0 (b0 + 66)) cI cn_n0)) 0 (.inr (6, [.ref (b0 + 1), .int 0, .ref (b0 + 2), .ref (b0 + 17), .ref (b0 + 32), .ref (b0 + 45), .ref (b0 + 58), .ref (b0 + 62), .ref (b0 + 66), .int 0, .null, .null, .null]))
def rE9 (b0 : Nat) (cI cH : ClassId) : Nat → va_E := cn_up (cn_jn (rE8 b0 cI cH) 70 (lf_E 3 (cn_f3 (b0 + 70)) cI cn_n3)) 0 (.inr (6, [.ref (b0 + 1), .int 0, .ref (b0 + 2), .ref (b0 + 17), .ref (b0 + 32), .ref (b0 + 45), .ref (b0 + 58), .ref (b0 + 62), .ref (b0 + 66), .int 0, .ref (b0 + 70), .null, .null]))
def rE10 (b0 : Nat) (cI cH : ClassId) : Nat → va_E := cn_up (cn_jn (rE9 b0 cI cH) 74 (lf_E 5 (cn_f5 (b0 + 74)) cI cn_n5)) 0 (.inr (6, [.ref (b0 + 1), .int 0, .ref (b0 + 2), .ref (b0 + 17), .ref (b0 + 32), .ref (b0 + 45), .ref (b0 + 58), .ref (b0 + 62), .ref (b0 + 66), .int 0, .ref (b0 + 70), .ref (b0 + 74), .null]))
def rE11 (b0 : Nat) (cI cH : ClassId) : Nat → va_E := cn_up (cn_jn (rE10 b0 cI cH) 79 (lf_E 4 (cn_f4 (b0 + 79)) cI cn_n4)) 0 (.inr (6, [.ref (b0 + 1), .int 0, .ref (b0 + 2), .ref (b0 + 17), .ref (b0 + 32), .ref (b0 + 45), .ref (b0 + 58), .ref (b0 + 62), .ref (b0 + 66), .int 0, .ref (b0 + 70), .ref (b0 + 74), .ref (b0 + 79)]))
/-- the links to its own private constructors -/
def cn_N (U : State) : Prop := va_Nw (.methodLinkNest am_R6 15 cn_y2 am_R6) U ∧ va_Nw (.methodLinkNest am_R6 37 cn_y0 am_R6) U ∧ va_Nw (.methodLinkNest am_R6 50 cn_y3 am_R6) U ∧ va_Nw (.methodLinkNest am_R6 57 cn_y5 am_R6) U ∧ va_Nw (.methodLinkNest am_R6 64 cn_y4 am_R6) U ∧ True
def rh0 : am_H := fun c => if c = 0 then (fun j => if j = 2 then nI 2 else if j = 3 then nI 17 else 0) else if c = 32 then (fun j => if j = 0 then nI 2 else 0) else if c = 45 then (fun j => if j = 0 then nI 2 else 0) else if c = 79 then (fun j => if j = 0 then nI 80 else if j = 1 then nI 81 else 0) else fun _ => 0
set_option maxHeartbeats 4000000 in
set_option maxRecDepth 100000 in
theorem rE_ok (b0 : Nat) (cI cH : ClassId) : ∀ k, k < 82 → am_en b0 cI cH k (rh0 k) = rE11 b0 cI cH k := by
  intro k hk
  match k, hk with
  | 0, _ => rfl
  | 1, _ => rfl
  | 2, _ => rfl
  | 3, _ => rfl
  | 4, _ => rfl
  | 5, _ => rfl
  | 6, _ => rfl
  | 7, _ => rfl
  | 8, _ => rfl
  | 9, _ => rfl
  | 10, _ => rfl
  | 11, _ => rfl
  | 12, _ => rfl
  | 13, _ => rfl
  | 14, _ => rfl
  | 15, _ => rfl
  | 16, _ => rfl
  | 17, _ => rfl
  | 18, _ => rfl
  | 19, _ => rfl
  | 20, _ => rfl
  | 21, _ => rfl
  | 22, _ => rfl
  | 23, _ => rfl
  | 24, _ => rfl
  | 25, _ => rfl
  | 26, _ => rfl
  | 27, _ => rfl
  | 28, _ => rfl
  | 29, _ => rfl
  | 30, _ => rfl
  | 31, _ => rfl
  | 32, _ => rfl
  | 33, _ => rfl
  | 34, _ => rfl
  | 35, _ => rfl
  | 36, _ => rfl
  | 37, _ => rfl
  | 38, _ => rfl
  | 39, _ => rfl
  | 40, _ => rfl
  | 41, _ => rfl
  | 42, _ => rfl
  | 43, _ => rfl
  | 44, _ => rfl
  | 45, _ => rfl
  | 46, _ => rfl
  | 47, _ => rfl
  | 48, _ => rfl
  | 49, _ => rfl
  | 50, _ => rfl
  | 51, _ => rfl
  | 52, _ => rfl
  | 53, _ => rfl
  | 54, _ => rfl
  | 55, _ => rfl
  | 56, _ => rfl
  | 57, _ => rfl
  | 58, _ => rfl
  | 59, _ => rfl
  | 60, _ => rfl
  | 61, _ => rfl
  | 62, _ => rfl
  | 63, _ => rfl
  | 64, _ => rfl
  | 65, _ => rfl
  | 66, _ => rfl
  | 67, _ => rfl
  | 68, _ => rfl
  | 69, _ => rfl
  | 70, _ => rfl
  | 71, _ => rfl
  | 72, _ => rfl
  | 73, _ => rfl
  | 74, _ => rfl
  | 75, _ => rfl
  | 76, _ => rfl
  | 77, _ => rfl
  | 78, _ => rfl
  | 79, _ => rfl
  | 80, _ => rfl
  | 81, _ => rfl
  | k + 82, hk => exact absurd hk (by omega)
theorem cn_P.am {D : va_G} {b0 n : Nat} {E : Nat → va_E} {H : Heap} (h : cn_P D b0 n E H) {cI cH : ClassId} {hh : am_H} (he : ∀ k, k < n → am_en b0 cI cH k (hh k) = E k) : va_P D am_cls (am_w b0 cI cH n hh) H := by
  intro k q hq
  by_cases hk : k < n
  · rw [am_w_get hk] at hq
    cases hq
    rw [he k hk]
    exact h.2 k hk
  · simp [am_w, hk] at hq
set_option maxHeartbeats 4000000 in
set_option maxRecDepth 100000 in
theorem root_alloc {p : Program} {l : Launch} {e : Env} {R : Room} {s : State} {m : MethodId} {args : Array Value} {below : List Frame} {meth : Method} {c : Code} {H : Heap} {locs : List Loc} {Q : State → Prop} {ls : Array Slot} {D : va_G} {cI cH : ClassId} {H0 : Heap} {b0 : Nat}
    (hx : p.tables.exec = Jvm.exec) (hb : c.code = prog_1_method_1_code) (hml : c.maxLocals = 3) (hsl : ls.size = 3) (hts : ∀ w ∈ am_tbl, w.before args s = true) (hown : s.vm.findClass am_R6 = some m.cls) (hin : meth.name = "<init>") (hK : va_K D am_cls [(cI, .int), (cH, .char)] s) (hl0 : ls[0]? = some (.val (.ref b0))) (hN : cn_N s) (hP : cn_P D b0 1 (rE0 cI) H) (hS : va_S (am_A b0) H0 H locs) (hRc : 81 ≤ R.cells) (hRs : 2054 ≤ R.slots) (hfr : 2 ≤ R.frames) (hlo : 40 ≤ R.locals)
    (kk : ∀ (H1 : Heap) (locs1 : List Loc), va_P D am_cls (am_w b0 cI cH 82 rh0) H1 → va_S (am_A b0) H0 H1 locs1 → W p l e R s m args below meth c H1 locs1 81 2054 Q (F0 m 131 ls [])) : W p l e R s m args below meth c H locs 0 0 Q (F0 m 4 ls []) := by
  refine lv_aload_n (k := 0) hx hb (by decide +kernel) rfl hl0 ?_
  refine lv_sipush (n := 200) (v := nI 200) hx hb (by decide +kernel) (by decide +kernel) ?_
  refine cn_newa hx hb (atype := .char) (hts _ (am_word_mem (i := 180) (w := .arrayClass .char) (by decide +kernel))) rfl (hK.2 1 _ rfl).2 hP hS (a0 := (200, .inl (fun _ => 0))) (N' := 200) (fun _ => rfl) (nI_pos (by omega)) (nI_clamp (by omega)) (by show 200 * 2 ≤ _; omega) (by omega) (by omega) (by decide +kernel) (fun H hP hS => ?_)
  refine cn_put hx hb (C := am_R6) (T := am_T6) (N := 13) (ci := 6) (index := 9) (fs := cn_06) (ref := am_R6) hts am_i6 am_y6 am_y6_ok am_n6 hown hK hP hS 0 (by decide) rfl rfl 0 (by decide) (hts _ (am_word_mem (i := 434) (by decide +kernel))) (fun _ h => h) (Or.inr ⟨rfl, hin, rfl⟩) (ty := .array .char) (by decide +kernel) rfl rfl (Nat.le_of_ble_eq_true rfl) (by decide +kernel) (fun H locs hP hS => ?_)
  have hP : cn_P D b0 2 (rE1 b0 cI cH) H := hP
  refine cn_sub (D := D) (E := rE1 b0 cI cH) (n := 2) (fs := [.ref (b0 + 1), .int 0, .null, .null, .null, .null, .null, .null, .null, .int 0, .null, .null, .null]) (C := am_R2) (T := am_T2) (N := 19) (ci := 2) (nul := cn_02) (y := cn_y2) (bytes := prog_4_method_1_code) (maxL := 1) (mc := 14) (ms := 81) (As := []) (F := lf_E 2 (cn_f2 (b0 + 2)) cI cn_n2) hx hb hml hsl hts hown hin hK hl0 hP hS (by decide) rfl am_y2 am_i2 am_y2_ok rfl (by decide +kernel) 13 15 16 (am_word_mem (i := 85) (by decide +kernel)) (am_word_mem (i := 86) (by decide +kernel)) (am_word_mem (i := 62) (by decide +kernel)) (cn_c2 l D cI cH (b0 + 2)) (am_word_mem (i := 89) (by decide +kernel)) (Or.inr hN.1) (am_word_mem (i := 88) (by decide +kernel)) rfl rfl (show cn_y2.cls ≠ "java/lang/invoke/MethodHandle" ∧ cn_y2.cls ≠ "java/lang/invoke/VarHandle" ∧ (parseMethodDescriptor cn_y2.desc).map (fun d => d.parameters.length) = some 0 by decide +kernel) (by decide) (Nat.le_of_ble_eq_true rfl) 2 (by decide) (am_word_mem (i := 436) (by decide +kernel)) rfl (Or.inl rfl) (tyF := .object "RoomsOfHours$House") (by decide +kernel) rfl rfl (Nat.le_of_ble_eq_true rfl) (by decide +kernel) (by decide +kernel) (by decide +kernel) 18 (fun _ _ k9 => k9) (by decide +kernel) (by decide +kernel) (by omega) (by omega) hfr hlo (fun H locs hP hS => ?_)
  have hP : cn_P D b0 17 (rE2 b0 cI cH) H := hP
  refine cn_sub (D := D) (E := rE2 b0 cI cH) (n := 17) (fs := [.ref (b0 + 1), .int 0, .ref (b0 + 2), .null, .null, .null, .null, .null, .null, .int 0, .null, .null, .null]) (C := am_R2) (T := am_T2) (N := 19) (ci := 2) (nul := cn_02) (y := cn_y2) (bytes := prog_4_method_1_code) (maxL := 1) (mc := 14) (ms := 81) (As := []) (F := lf_E 2 (cn_f2 (b0 + 17)) cI cn_n2) hx hb hml hsl hts hown hin hK hl0 hP hS (by decide) rfl am_y2 am_i2 am_y2_ok rfl (by decide +kernel) 13 15 20 (am_word_mem (i := 85) (by decide +kernel)) (am_word_mem (i := 86) (by decide +kernel)) (am_word_mem (i := 62) (by decide +kernel)) (cn_c2 l D cI cH (b0 + 17)) (am_word_mem (i := 89) (by decide +kernel)) (Or.inr hN.1) (am_word_mem (i := 88) (by decide +kernel)) rfl rfl (show cn_y2.cls ≠ "java/lang/invoke/MethodHandle" ∧ cn_y2.cls ≠ "java/lang/invoke/VarHandle" ∧ (parseMethodDescriptor cn_y2.desc).map (fun d => d.parameters.length) = some 0 by decide +kernel) (by decide) (Nat.le_of_ble_eq_true rfl) 3 (by decide) (am_word_mem (i := 437) (by decide +kernel)) rfl (Or.inl rfl) (tyF := .object "RoomsOfHours$House") (by decide +kernel) rfl rfl (Nat.le_of_ble_eq_true rfl) (by decide +kernel) (by decide +kernel) (by decide +kernel) 29 (fun _ _ k9 => k9) (by decide +kernel) (by decide +kernel) (by omega) (by omega) hfr hlo (fun H locs hP hS => ?_)
  have hP : cn_P D b0 32 (rE3 b0 cI cH) H := hP
  refine cn_sub (D := D) (E := rE3 b0 cI cH) (n := 32) (fs := [.ref (b0 + 1), .int 0, .ref (b0 + 2), .ref (b0 + 17), .null, .null, .null, .null, .null, .int 0, .null, .null, .null]) (C := am_R1) (T := am_T1) (N := 15) (ci := 1) (nul := cn_01) (y := cn_y1) (bytes := prog_3_method_1_code) (maxL := 2) (mc := 12) (ms := 212) (As := [.ref (b0 + 2)]) (F := lf_E 1 (cn_f1 (b0 + 32) (b0 + 2)) cI cn_n1) hx hb hml hsl hts hown hin hK hl0 hP hS (by decide) rfl am_y1 am_i1 am_y1_ok rfl (by decide +kernel) 23 25 28 (am_word_mem (i := 182) (by decide +kernel)) (am_word_mem (i := 183) (by decide +kernel)) (am_word_mem (i := 63) (by decide +kernel)) (cn_c1 l D cI cH (b0 + 32) (b0 + 2)) (am_word_mem (i := 186) (by decide +kernel)) (Or.inl (am_word_mem (i := 184) (by decide +kernel))) (am_word_mem (i := 185) (by decide +kernel)) rfl rfl (show cn_y1.cls ≠ "java/lang/invoke/MethodHandle" ∧ cn_y1.cls ≠ "java/lang/invoke/VarHandle" ∧ (parseMethodDescriptor cn_y1.desc).map (fun d => d.parameters.length) = some 1 by decide +kernel) (by decide) (Nat.le_of_ble_eq_true rfl) 4 (by decide) (am_word_mem (i := 438) (by decide +kernel)) rfl (Or.inr ⟨rfl, hin, rfl⟩) (tyF := .object "RoomsOfHours$Course") (by decide +kernel) rfl rfl (Nat.le_of_ble_eq_true rfl) (by decide +kernel) (by decide +kernel) (by decide +kernel) 44 (fun H1 hP1 k9 => by
    refine lv_aload_n (k := 0) hx hb (by decide +kernel) rfl hl0 ?_
    refine va_get (D := D) (cl := am_cls) (ci := 6) (v := .ref (b0 + 2)) (C := am_R6) (T := am_T6) (N := 13) (index := 16) (ref := am_R6) hx hb hts am_i6 hown hK (hP1.w1 (o := 0) (x := .inr (6, [.ref (b0 + 1), .int 0, .ref (b0 + 2), .ref (b0 + 17), .null, .null, .null, .null, .null, .int 0, .null, .null, .null])) (by decide) rfl) 0 rfl rfl 2 (by decide) (hts _ (am_word_mem (i := 436) (by decide +kernel))) (fun _ h9 => h9) rfl (by decide +kernel) ?_
    exact k9) (by decide +kernel) (by decide +kernel) (by omega) (by omega) hfr hlo (fun H locs hP hS => ?_)
  have hP : cn_P D b0 45 (rE4 b0 cI cH) H := hP
  refine cn_sub (D := D) (E := rE4 b0 cI cH) (n := 45) (fs := [.ref (b0 + 1), .int 0, .ref (b0 + 2), .ref (b0 + 17), .ref (b0 + 32), .null, .null, .null, .null, .int 0, .null, .null, .null]) (C := am_R1) (T := am_T1) (N := 15) (ci := 1) (nul := cn_01) (y := cn_y1) (bytes := prog_3_method_1_code) (maxL := 2) (mc := 12) (ms := 212) (As := [.ref (b0 + 2)]) (F := lf_E 1 (cn_f1 (b0 + 45) (b0 + 2)) cI cn_n1) hx hb hml hsl hts hown hin hK hl0 hP hS (by decide) rfl am_y1 am_i1 am_y1_ok rfl (by decide +kernel) 23 25 32 (am_word_mem (i := 182) (by decide +kernel)) (am_word_mem (i := 183) (by decide +kernel)) (am_word_mem (i := 63) (by decide +kernel)) (cn_c1 l D cI cH (b0 + 45) (b0 + 2)) (am_word_mem (i := 186) (by decide +kernel)) (Or.inl (am_word_mem (i := 184) (by decide +kernel))) (am_word_mem (i := 185) (by decide +kernel)) rfl rfl (show cn_y1.cls ≠ "java/lang/invoke/MethodHandle" ∧ cn_y1.cls ≠ "java/lang/invoke/VarHandle" ∧ (parseMethodDescriptor cn_y1.desc).map (fun d => d.parameters.length) = some 1 by decide +kernel) (by decide) (Nat.le_of_ble_eq_true rfl) 5 (by decide) (am_word_mem (i := 439) (by decide +kernel)) rfl (Or.inr ⟨rfl, hin, rfl⟩) (tyF := .object "RoomsOfHours$Course") (by decide +kernel) rfl rfl (Nat.le_of_ble_eq_true rfl) (by decide +kernel) (by decide +kernel) (by decide +kernel) 59 (fun H1 hP1 k9 => by
    refine lv_aload_n (k := 0) hx hb (by decide +kernel) rfl hl0 ?_
    refine va_get (D := D) (cl := am_cls) (ci := 6) (v := .ref (b0 + 2)) (C := am_R6) (T := am_T6) (N := 13) (index := 16) (ref := am_R6) hx hb hts am_i6 hown hK (hP1.w1 (o := 0) (x := .inr (6, [.ref (b0 + 1), .int 0, .ref (b0 + 2), .ref (b0 + 17), .ref (b0 + 32), .null, .null, .null, .null, .int 0, .null, .null, .null])) (by decide) rfl) 0 rfl rfl 2 (by decide) (hts _ (am_word_mem (i := 436) (by decide +kernel))) (fun _ h9 => h9) rfl (by decide +kernel) ?_
    exact k9) (by decide +kernel) (by decide +kernel) (by omega) (by omega) hfr hlo (fun H locs hP hS => ?_)
  have hP : cn_P D b0 58 (rE5 b0 cI cH) H := hP
  refine cn_sub (D := D) (E := rE5 b0 cI cH) (n := 58) (fs := [.ref (b0 + 1), .int 0, .ref (b0 + 2), .ref (b0 + 17), .ref (b0 + 32), .ref (b0 + 45), .null, .null, .null, .int 0, .null, .null, .null]) (C := am_R0) (T := am_T0) (N := 4) (ci := 0) (nul := cn_00) (y := cn_y0) (bytes := prog_2_method_1_code) (maxL := 1) (mc := 3) (ms := 120) (As := []) (F := lf_E 0 (cn_f0 (b0 + 58)) cI cn_n0) hx hb hml hsl hts hown hin hK hl0 hP hS (by decide) rfl am_y0 am_i0 am_y0_ok rfl (by decide +kernel) 35 37 38 (am_word_mem (i := 244) (by decide +kernel)) (am_word_mem (i := 245) (by decide +kernel)) (am_word_mem (i := 64) (by decide +kernel)) (cn_c0 l D cI cH (b0 + 58)) (am_word_mem (i := 248) (by decide +kernel)) (Or.inr hN.2.1) (am_word_mem (i := 247) (by decide +kernel)) rfl rfl (show cn_y0.cls ≠ "java/lang/invoke/MethodHandle" ∧ cn_y0.cls ≠ "java/lang/invoke/VarHandle" ∧ (parseMethodDescriptor cn_y0.desc).map (fun d => d.parameters.length) = some 0 by decide +kernel) (by decide) (Nat.le_of_ble_eq_true rfl) 6 (by decide) (am_word_mem (i := 440) (by decide +kernel)) rfl (Or.inr ⟨rfl, hin, rfl⟩) (tyF := .object "RoomsOfHours$Acts") (by decide +kernel) rfl rfl (Nat.le_of_ble_eq_true rfl) (by decide +kernel) (by decide +kernel) (by decide +kernel) 70 (fun _ _ k9 => k9) (by decide +kernel) (by decide +kernel) (by omega) (by omega) hfr hlo (fun H locs hP hS => ?_)
  have hP : cn_P D b0 62 (rE6 b0 cI cH) H := hP
  refine cn_sub (D := D) (E := rE6 b0 cI cH) (n := 62) (fs := [.ref (b0 + 1), .int 0, .ref (b0 + 2), .ref (b0 + 17), .ref (b0 + 32), .ref (b0 + 45), .ref (b0 + 58), .null, .null, .int 0, .null, .null, .null]) (C := am_R0) (T := am_T0) (N := 4) (ci := 0) (nul := cn_00) (y := cn_y0) (bytes := prog_2_method_1_code) (maxL := 1) (mc := 3) (ms := 120) (As := []) (F := lf_E 0 (cn_f0 (b0 + 62)) cI cn_n0) hx hb hml hsl hts hown hin hK hl0 hP hS (by decide) rfl am_y0 am_i0 am_y0_ok rfl (by decide +kernel) 35 37 42 (am_word_mem (i := 244) (by decide +kernel)) (am_word_mem (i := 245) (by decide +kernel)) (am_word_mem (i := 64) (by decide +kernel)) (cn_c0 l D cI cH (b0 + 62)) (am_word_mem (i := 248) (by decide +kernel)) (Or.inr hN.2.1) (am_word_mem (i := 247) (by decide +kernel)) rfl rfl (show cn_y0.cls ≠ "java/lang/invoke/MethodHandle" ∧ cn_y0.cls ≠ "java/lang/invoke/VarHandle" ∧ (parseMethodDescriptor cn_y0.desc).map (fun d => d.parameters.length) = some 0 by decide +kernel) (by decide) (Nat.le_of_ble_eq_true rfl) 7 (by decide) (am_word_mem (i := 441) (by decide +kernel)) rfl (Or.inr ⟨rfl, hin, rfl⟩) (tyF := .object "RoomsOfHours$Acts") (by decide +kernel) rfl rfl (Nat.le_of_ble_eq_true rfl) (by decide +kernel) (by decide +kernel) (by decide +kernel) 81 (fun _ _ k9 => k9) (by decide +kernel) (by decide +kernel) (by omega) (by omega) hfr hlo (fun H locs hP hS => ?_)
  have hP : cn_P D b0 66 (rE7 b0 cI cH) H := hP
  refine cn_sub (D := D) (E := rE7 b0 cI cH) (n := 66) (fs := [.ref (b0 + 1), .int 0, .ref (b0 + 2), .ref (b0 + 17), .ref (b0 + 32), .ref (b0 + 45), .ref (b0 + 58), .ref (b0 + 62), .null, .int 0, .null, .null, .null]) (C := am_R0) (T := am_T0) (N := 4) (ci := 0) (nul := cn_00) (y := cn_y0) (bytes := prog_2_method_1_code) (maxL := 1) (mc := 3) (ms := 120) (As := []) (F := lf_E 0 (cn_f0 (b0 + 66)) cI cn_n0) hx hb hml hsl hts hown hin hK hl0 hP hS (by decide) rfl am_y0 am_i0 am_y0_ok rfl (by decide +kernel) 35 37 45 (am_word_mem (i := 244) (by decide +kernel)) (am_word_mem (i := 245) (by decide +kernel)) (am_word_mem (i := 64) (by decide +kernel)) (cn_c0 l D cI cH (b0 + 66)) (am_word_mem (i := 248) (by decide +kernel)) (Or.inr hN.2.1) (am_word_mem (i := 247) (by decide +kernel)) rfl rfl (show cn_y0.cls ≠ "java/lang/invoke/MethodHandle" ∧ cn_y0.cls ≠ "java/lang/invoke/VarHandle" ∧ (parseMethodDescriptor cn_y0.desc).map (fun d => d.parameters.length) = some 0 by decide +kernel) (by decide) (Nat.le_of_ble_eq_true rfl) 8 (by decide) (am_word_mem (i := 442) (by decide +kernel)) rfl (Or.inr ⟨rfl, hin, rfl⟩) (tyF := .object "RoomsOfHours$Acts") (by decide +kernel) rfl rfl (Nat.le_of_ble_eq_true rfl) (by decide +kernel) (by decide +kernel) (by decide +kernel) 92 (fun _ _ k9 => k9) (by decide +kernel) (by decide +kernel) (by omega) (by omega) hfr hlo (fun H locs hP hS => ?_)
  have hP : cn_P D b0 70 (rE8 b0 cI cH) H := hP
  refine cn_sub (D := D) (E := rE8 b0 cI cH) (n := 70) (fs := [.ref (b0 + 1), .int 0, .ref (b0 + 2), .ref (b0 + 17), .ref (b0 + 32), .ref (b0 + 45), .ref (b0 + 58), .ref (b0 + 62), .ref (b0 + 66), .int 0, .null, .null, .null]) (C := am_R3) (T := am_T3) (N := 4) (ci := 3) (nul := cn_03) (y := cn_y3) (bytes := prog_5_method_1_code) (maxL := 1) (mc := 3) (ms := 24) (As := []) (F := lf_E 3 (cn_f3 (b0 + 70)) cI cn_n3) hx hb hml hsl hts hown hin hK hl0 hP hS (by decide) rfl am_y3 am_i3 am_y3_ok rfl (by decide +kernel) 48 50 51 (am_word_mem (i := 267) (by decide +kernel)) (am_word_mem (i := 268) (by decide +kernel)) (am_word_mem (i := 65) (by decide +kernel)) (cn_c3 l D cI cH (b0 + 70)) (am_word_mem (i := 271) (by decide +kernel)) (Or.inr hN.2.2.1) (am_word_mem (i := 270) (by decide +kernel)) rfl rfl (show cn_y3.cls ≠ "java/lang/invoke/MethodHandle" ∧ cn_y3.cls ≠ "java/lang/invoke/VarHandle" ∧ (parseMethodDescriptor cn_y3.desc).map (fun d => d.parameters.length) = some 0 by decide +kernel) (by decide) (Nat.le_of_ble_eq_true rfl) 10 (by decide) (am_word_mem (i := 444) (by decide +kernel)) rfl (Or.inr ⟨rfl, hin, rfl⟩) (tyF := .object "RoomsOfHours$Sights") (by decide +kernel) rfl rfl (Nat.le_of_ble_eq_true rfl) (by decide +kernel) (by decide +kernel) (by decide +kernel) 103 (fun _ _ k9 => k9) (by decide +kernel) (by decide +kernel) (by omega) (by omega) hfr hlo (fun H locs hP hS => ?_)
  have hP : cn_P D b0 74 (rE9 b0 cI cH) H := hP
  refine cn_sub (D := D) (E := rE9 b0 cI cH) (n := 74) (fs := [.ref (b0 + 1), .int 0, .ref (b0 + 2), .ref (b0 + 17), .ref (b0 + 32), .ref (b0 + 45), .ref (b0 + 58), .ref (b0 + 62), .ref (b0 + 66), .int 0, .ref (b0 + 70), .null, .null]) (C := am_R5) (T := am_T5) (N := 4) (ci := 5) (nul := cn_05) (y := cn_y5) (bytes := prog_7_method_1_code) (maxL := 1) (mc := 4) (ms := 24) (As := []) (F := lf_E 5 (cn_f5 (b0 + 74)) cI cn_n5) hx hb hml hsl hts hown hin hK hl0 hP hS (by decide) rfl am_y5 am_i5 am_y5_ok rfl (by decide +kernel) 55 57 58 (am_word_mem (i := 287) (by decide +kernel)) (am_word_mem (i := 288) (by decide +kernel)) (am_word_mem (i := 66) (by decide +kernel)) (cn_c5 l D cI cH (b0 + 74)) (am_word_mem (i := 291) (by decide +kernel)) (Or.inr hN.2.2.2.1) (am_word_mem (i := 290) (by decide +kernel)) rfl rfl (show cn_y5.cls ≠ "java/lang/invoke/MethodHandle" ∧ cn_y5.cls ≠ "java/lang/invoke/VarHandle" ∧ (parseMethodDescriptor cn_y5.desc).map (fun d => d.parameters.length) = some 0 by decide +kernel) (by decide) (Nat.le_of_ble_eq_true rfl) 11 (by decide) (am_word_mem (i := 445) (by decide +kernel)) rfl (Or.inr ⟨rfl, hin, rfl⟩) (tyF := .object "RoomsOfHours$Walk") (by decide +kernel) rfl rfl (Nat.le_of_ble_eq_true rfl) (by decide +kernel) (by decide +kernel) (by decide +kernel) 114 (fun _ _ k9 => k9) (by decide +kernel) (by decide +kernel) (by omega) (by omega) hfr hlo (fun H locs hP hS => ?_)
  have hP : cn_P D b0 79 (rE10 b0 cI cH) H := hP
  refine cn_sub (D := D) (E := rE10 b0 cI cH) (n := 79) (fs := [.ref (b0 + 1), .int 0, .ref (b0 + 2), .ref (b0 + 17), .ref (b0 + 32), .ref (b0 + 45), .ref (b0 + 58), .ref (b0 + 62), .ref (b0 + 66), .int 0, .ref (b0 + 70), .ref (b0 + 74), .null]) (C := am_R4) (T := am_T4) (N := 4) (ci := 4) (nul := cn_04) (y := cn_y4) (bytes := prog_6_method_1_code) (maxL := 1) (mc := 2) (ms := 768) (As := []) (F := lf_E 4 (cn_f4 (b0 + 79)) cI cn_n4) hx hb hml hsl hts hown hin hK hl0 hP hS (by decide) rfl am_y4 am_i4 am_y4_ok rfl (by decide +kernel) 62 64 65 (am_word_mem (i := 308) (by decide +kernel)) (am_word_mem (i := 309) (by decide +kernel)) (am_word_mem (i := 67) (by decide +kernel)) (cn_c4 l D cI cH (b0 + 79)) (am_word_mem (i := 312) (by decide +kernel)) (Or.inr hN.2.2.2.2.1) (am_word_mem (i := 311) (by decide +kernel)) rfl rfl (show cn_y4.cls ≠ "java/lang/invoke/MethodHandle" ∧ cn_y4.cls ≠ "java/lang/invoke/VarHandle" ∧ (parseMethodDescriptor cn_y4.desc).map (fun d => d.parameters.length) = some 0 by decide +kernel) (by decide) (Nat.le_of_ble_eq_true rfl) 12 (by decide) (am_word_mem (i := 446) (by decide +kernel)) rfl (Or.inr ⟨rfl, hin, rfl⟩) (tyF := .object "RoomsOfHours$Tour") (by decide +kernel) rfl rfl (Nat.le_of_ble_eq_true rfl) (by decide +kernel) (by decide +kernel) (by decide +kernel) 125 (fun _ _ k9 => k9) (by decide +kernel) (by decide +kernel) (by omega) (by omega) hfr hlo (fun H locs hP hS => ?_)
  have hP : cn_P D b0 82 (rE11 b0 cI cH) H := hP
  exact kk H locs (hP.am (rE_ok b0 cI cH)) hS
