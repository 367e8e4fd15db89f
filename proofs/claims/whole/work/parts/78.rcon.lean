/-! THE CLASS'S CONSTRUCTOR -/
theorem rh0_wf : am_wf 82 rh0 := by
  have key : ∀ o, o < 82 → am_ct o < 8 → ∀ j, j < am_nf (am_ct o) → (am_ft (am_ct o) j).1 = 2 → (rh0 o j).toNatClampNeg < 82 ∧ am_ct (rh0 o j).toNatClampNeg = (am_ft (am_ct o) j).2.1 := by decide +kernel
  intro o ho h8 j hj t off hf
  have := key o ho h8 j hj (by rw [hf])
  rw [hf] at this
  exact this
theorem txh_wf : am_wf 82 (txh 75) := am_wf_arr rh0_wf (by decide)
def cn_y6 : MethodName := ⟨"RoomsOfHours", "<init>", "()V"⟩
def cn_w6 : List Cond := Cond.code cn_y6 prog_1_method_1_code 3 none :: am_tbl
set_option maxHeartbeats 4000000 in
set_option maxRecDepth 100000 in
theorem cn_c6 (l : Launch) (D : va_G) (cI cH : ClassId) (b0 : Nat) (adK adV : Nat → Nat) (vF : Value) : Met l cn_y6 cn_w6 ({ frames := 7, cells := 81, slots := 2054, locals := 245 }) (va_Pc [.ref b0] (fun U => cn_P D b0 1 (rE0 cI) U.heap ∧ va_K D am_cls [(cI, .int), (cH, .char)] U ∧ cn_N U ∧ sx (am_A b0) adK adV vF U U.heap ∧ vk_R am_R6 69 sx_t (adK 0) U)) (va_Qv (fun h1 : am_H => RP h1 ∧ am_wf 82 h1) (fun h1 t => va_P D am_cls (am_w b0 cI cH 82 h1) t.heap) (am_A b0)) 81 2054 (am_A b0) := by
  refine Met.ofW (cc := prog_1_method_1_code) (maxL := 3) (ret := none) (by decide) rfl ?_
  intro p e s m args below meth c s₁ B hml hv
  obtain ⟨rfl, hP, hK, hN, hF, hZ⟩ := hv
  have hS : va_S (am_A b0) s.heap s.heap [] := va_S.rf
  have hx := B.exec
  have hb := B.bytes
  have hr := B.returns
  have hts0 := atoms_spec (ws := cn_w6) B.pre
  have hts : ∀ w ∈ am_tbl, w.before _ s = true := fun w hw => hts0 w (List.mem_cons_of_mem _ hw)
  have hown : s.vm.findClass am_R6 = some m.cls := findClass_of_methodNamed B.named
  have hin : meth.name = "<init>" := (name_of_methodNamed B.named B.method).1
  have hl := lv_entry ([.ref b0]) (n := 3) (Nat.le_of_ble_eq_true rfl)
  rw [lg_entry_eq]
  generalize (lg_sl ([.ref b0]) ++ List.replicate (3 - (lg_sl ([.ref b0])).length) Slot.unset).toArray = ls at hl ⊢
  have hl : lv_has ls 3 [(0, .ref b0)] := hl
  have hl0 : ls[0]? = some (.val (.ref b0)) := lv_at hl 0 rfl
  refine lv_aload_n (k := 0) hx hb (by decide +kernel) rfl hl0 ?_
  refine W.objInit hx hb hown (idx := 3) (hts _ (am_word_mem (i := 82) (w := .methodLink am_R6 3 objectInit) (by decide +kernel))) (hts _ (am_word_mem (i := 83) (w := .instanceMethod objectInit) (by decide +kernel))) (hts _ (am_word_mem (i := 84) (w := .code objectInit ⟨#[0xb1]⟩ 1 none) (by decide +kernel))) rfl (by rw [hml]; exact hl.1) rfl (show decode prog_1_method_1_code 1 = .ok (.invokespecial 3, 3) by decide +kernel) (Nat.le_of_ble_eq_true rfl) (Nat.le_of_ble_eq_true rfl) ?_
  refine W.eq (g2 := F0 m 4 ls []) rfl ?_
  refine root_alloc hx hb hml hl.1 hts hown hin hK hl0 hN hP hS (Nat.le_of_ble_eq_true rfl) (Nat.le_of_ble_eq_true rfl) (Nat.le_of_ble_eq_true rfl) (Nat.le_of_ble_eq_true rfl) (fun H locs hP hS => ?_)
  refine va_ldcS hx hb (own := am_R6) (index := 69) hown hZ (by decide +kernel) ?_
  refine va_calli (va_runV (Ts := am_tbl) (b := adK 0) (As := []) (rest := []) ⟨hx, hb, hml, hown, hts⟩ (sx_l l (am_A b0) adK adV vF) ⟨(callB_of (Ts := am_tbl) (ws := sx_wl) (rm := ({ frames := 1, cells := 0, slots := 0, locals := 25 })) 0 hts (am_goodIn (fun w h => h) (fun w hw => (List.mem_cons.mp hw).elim (fun e => e ▸ am_word_mem (i := 333) (by decide +kernel)) id)) rfl rfl rfl (hts _ (am_word_mem (i := 68) (by decide +kernel))) (hts _ (am_word_mem (i := 330) (by decide +kernel))) (show sx_yl.cls ≠ "java/lang/invoke/MethodHandle" ∧ sx_yl.cls ≠ "java/lang/invoke/VarHandle" ∧ (parseMethodDescriptor sx_yl.desc).map (fun d => d.parameters.length) = some 0 by decide +kernel) ⟨Nat.le_of_ble_eq_true rfl, Nat.le_of_ble_eq_true rfl⟩), (hts _ (am_word_mem (i := 331) (by decide +kernel))), (hts _ (am_word_mem (i := 332) (by decide +kernel)))⟩ ⟨sx_bl, vk_recv hF.1 (by decide) hS, fun U hU hW => ⟨rfl, by show sx _ _ _ _ U U.heap; rw [hU]; exact (hF.kept hS.2.1).moved hW.alike⟩⟩ rfl rfl hl.1 rfl (lv_room (Nat.le_of_ble_eq_true rfl)) (show decode prog_1_method_1_code 133 = .ok (.invokevirtual 71, 3) by decide +kernel) ⟨Nat.le_of_ble_eq_true rfl, Nat.le_of_ble_eq_true rfl⟩) hS (fun q _ h => h.elim) (fun q h => h.elim) (fun r u t H1 locs1 ht hvm hw hB hz1 hk1 hS => ?_)
  rw [hw]
  refine lv_sipush (n := 200) (v := nI 200) hx hb (by decide +kernel) (by decide +kernel) ?_
  refine va_mmin hx hb (hml.trans hl.1.symm) (own := am_R6) (index := 77) hown (hts _ (am_word_mem (i := 340) (by decide +kernel))) (hts _ (am_word_mem (i := 341) (by decide +kernel))) (hts _ (am_word_mem (i := 69) (by decide +kernel))) (hts _ (am_word_mem (i := 342) (by decide +kernel))) (Nat.le_of_ble_eq_true rfl) (Nat.le_of_ble_eq_true rfl) (Nat.le_of_ble_eq_true rfl) (Nat.le_of_ble_eq_true rfl) (x := nI 75) (y := nI 200) (by decide +kernel) ?_
  rw [show (if nI 200 < nI 75 then nI 200 else nI 75) = nI 75 by decide +kernel]
  refine lv_istore_n (k := 1) (lv' := [(1, .int (nI 75)), (0, .ref b0)]) hx hb (by decide +kernel) rfl hl (by decide) rfl (fun ls hl => ?_)
  refine lv_iconst (n := 0) (v := nI 0) hx hb (by decide +kernel) (by decide +kernel) ?_
  refine lv_istore_n (k := 2) (lv' := [(2, .int (nI 0)), (1, .int (nI 75)), (0, .ref b0)]) hx hb (by decide +kernel) rfl hl (by decide) rfl (fun ls hl => ?_)
  refine root_loop hx hb hml hts hown hK hF hZ (Nat.le_of_ble_eq_true rfl) (Nat.le_of_ble_eq_true rfl) ⟨Nat.le_of_ble_eq_true rfl, Nat.le_of_ble_eq_true rfl⟩ ?_ 75 0 rfl H1 locs1 ls (by rw [txh_0]; exact am_w_kept hP hk1) hS (lv_sub hl [2, 1, 0] rfl)
  intro H locs ls hP hS hl
  obtain ⟨h1, hE, hRP⟩ := root_pure (some (vi (nI 75)))
  have C : am_Cx p s m #[Value.ref b0] c (headSpec cn_w6 ({ frames := 7, cells := 81, slots := 2054, locals := 245 })).room am_mt am_R6 prog_1_method_1_code cC_tail 3 b0 0 82 0 6 (fun _ => 0) D cI cH False none := ⟨hx, hb, hml, hown, hts, hK, by decide +kernel, am_clo82, by omega, ⟨Nat.le_of_ble_eq_true rfl, Nat.le_of_ble_eq_true rfl⟩, fun q => q.elim, am_mt_ok⟩
  have hok : ∀ (i : Nat) (v : am_V), am_ix [some (vr 6 0), some (vi (nI 75)), some (vi (nI 75))] i = some v → am_ok 82 False v := by
    intro i v hv
    match i, hv with
    | 0, hv => cases hv; exact ⟨by decide, rfl⟩
    | 1, hv => cases hv; trivial
    | 2, hv => cases hv; trivial
    | i + 3, hv => cases hv
  refine am_run_ok (l := l) (e := e) (below := below) (meth := meth) (cells := 81) (slots := 2054) (Z := (h1, none)) C (am_level l am_clo82 (by omega) b0 D cI cH 6) ⟨Nat.le_of_ble_eq_true rfl, Nat.le_of_ble_eq_true rfl⟩ ?_ ?_ (0 + 1) 0 [some (vr 6 0), some (vi (nI 75)), some (vi (nI 75))] [] (txh 75) ls H locs hE ⟨⟨rfl, hl⟩, hok, (fun v hv => absurd hv List.not_mem_nil), hP, txh_wf, hS⟩
  · intro ls v h2 sl H locs pc hd hrt hZ S
    cases hZ
  · intro ls h2 sl H locs pc hd hrt hZ S
    cases hZ
    exact W.vret hx hb hr (fun t ht _ => ⟨⟨h1, rfl, ⟨hRP, S.2.2.2.2.1⟩, by show va_P _ _ _ t.heap; rw [ht]; exact S.2.2.2.1⟩, S.2.2.2.2.2.F ht⟩) S.2.2.2.2.2.2.2 hd
