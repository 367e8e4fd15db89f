/-! THE REFERENCE'S CONSTRUCTOR -/
theorem mh0_wf {h : am_H} (hw : am_wf 82 h) : am_wf 124 (mh0 h) := by
  have key : ∀ o, o < 124 → 82 ≤ o → am_ct o < 8 → ∀ j, j < am_nf (am_ct o) → (am_ft (am_ct o) j).1 ≠ 2 := by decide +kernel
  intro o ho h8 j hj t off hf
  by_cases q : o < 82
  · have e : mh0 h o = h o := by unfold mh0; rw [if_pos q]
    rw [e]
    obtain ⟨w1, w2⟩ := hw o q h8 j hj t off hf
    exact ⟨by omega, w2⟩
  · exact absurd (by rw [hf]) (key o ho (by omega) h8 j hj)
def cn_y7 : MethodName := ⟨"RoomsOfHoursModel", "<init>", "()V"⟩
def cn_w7 : List Cond := Cond.code cn_y7 prog_9_method_1_code 1 none :: am_tbl
set_option maxHeartbeats 4000000 in
set_option maxRecDepth 100000 in
theorem cn_c7 (l : Launch) (D : va_G) (cI cH : ClassId) (b0 : Nat) {hC : am_H} (hR : RP hC) (hw : am_wf 82 hC) : Met l cn_y7 cn_w7 ({ frames := 7, cells := 41, slots := 2091, locals := 245 }) (va_Pc [.ref (b0 + 82)] (fun U => cn_P D (b0 + 82) 1 (lf_E 7 cn_07 cI []) U.heap ∧ va_K D am_cls [(cI, .int), (cH, .char)] U ∧ va_P D am_cls (am_w b0 cI cH 82 hC) U.heap)) (va_Qv (fun h : am_H => LI h ∧ am_wf 124 h) (fun h t => va_P D am_cls (am_w b0 cI cH 124 h) t.heap) (am_A b0)) 41 2091 (am_A b0) := by
  refine Met.ofW (cc := prog_9_method_1_code) (maxL := 1) (ret := none) (by decide) rfl ?_
  intro p e s m args below meth c s₁ B hml hv
  obtain ⟨rfl, hP, hK, hC0⟩ := hv
  have hS : va_S (am_A (b0 + 82)) s.heap s.heap [] := va_S.rf
  have hx := B.exec
  have hb := B.bytes
  have hr := B.returns
  have hts0 := atoms_spec (ws := cn_w7) B.pre
  have hts : ∀ w ∈ am_tbl, w.before _ s = true := fun w hw => hts0 w (List.mem_cons_of_mem _ hw)
  have hown : s.vm.findClass am_R7 = some m.cls := findClass_of_methodNamed B.named
  have hin : meth.name = "<init>" := (name_of_methodNamed B.named B.method).1
  have hl := lv_entry ([.ref (b0 + 82)]) (n := 1) (Nat.le_of_ble_eq_true rfl)
  rw [lg_entry_eq]
  generalize (lg_sl ([.ref (b0 + 82)]) ++ List.replicate (1 - (lg_sl ([.ref (b0 + 82)])).length) Slot.unset).toArray = ls at hl ⊢
  have hl : lv_has ls 1 [(0, .ref (b0 + 82))] := hl
  have hl0 : ls[0]? = some (.val (.ref (b0 + 82))) := lv_at hl 0 rfl
  refine lv_aload_n (k := 0) hx hb (by decide +kernel) rfl hl0 ?_
  refine W.objInit hx hb hown (idx := 1) (hts _ (am_word_mem (i := 842) (w := .methodLink am_R7 1 objectInit) (by decide +kernel))) (hts _ (am_word_mem (i := 83) (w := .instanceMethod objectInit) (by decide +kernel))) (hts _ (am_word_mem (i := 84) (w := .code objectInit ⟨#[0xb1]⟩ 1 none) (by decide +kernel))) rfl (by rw [hml]; exact hl.1) rfl (show decode prog_9_method_1_code 1 = .ok (.invokespecial 1, 3) by decide +kernel) (Nat.le_of_ble_eq_true rfl) (Nat.le_of_ble_eq_true rfl) ?_
  refine W.eq (g2 := F0 m 4 ls []) rfl ?_
  refine model_alloc hx hb hts hown hin hK hl0 hP hS (Nat.le_of_ble_eq_true rfl) (Nat.le_of_ble_eq_true rfl) (fun H locs hP hS => ?_)
  have hW := model_am hC0 hP hS
  have hSb : va_S (am_A b0) s.heap H locs := ⟨hS.1, fun q h1 h2 => hS.2.1 q h1 (fun z => h2 (Nat.le_trans (Nat.le_add_right _ _) z)), fun l hl => Nat.le_trans (Nat.le_add_right _ _) (hS.2.2 l hl)⟩
  obtain ⟨S1, hE, hLI⟩ := model_pure hR
  have C : am_Cx p s m #[Value.ref (b0 + 82)] c (headSpec cn_w7 ({ frames := 7, cells := 41, slots := 2091, locals := 245 })).room am_mt am_R7 prog_9_method_1_code cM_init 1 b0 0 124 0 6 (fun _ => 0) D cI cH False none := ⟨hx, hb, hml, hown, hts, hK, by decide +kernel, am_clo124, by omega, ⟨Nat.le_of_ble_eq_true rfl, Nat.le_of_ble_eq_true rfl⟩, fun q => q.elim, am_mt_ok⟩
  have hok : ∀ (i : Nat) (v : am_V), am_ix [some (vr 7 82)] i = some v → am_ok 124 False v := by
    intro i v hv
    match i, hv with
    | 0, hv => cases hv; exact ⟨by decide, rfl⟩
    | i + 1, hv => cases hv
  refine am_run_ok (l := l) (e := e) (below := below) (meth := meth) (cells := 41) (slots := 2091) (Z := (S1, none)) C (am_level l am_clo124 (by omega) b0 D cI cH 6) ⟨Nat.le_of_ble_eq_true rfl, Nat.le_of_ble_eq_true rfl⟩ ?_ ?_ (0 + 1) 0 [some (vr 7 82)] [] (mh0 hC) ls H locs hE ⟨⟨rfl, hl⟩, hok, (fun v hv => absurd hv List.not_mem_nil), hW, mh0_wf hw, hSb⟩
  · intro ls v h2 sl H locs pc hd hrt hZ S
    cases hZ
  · intro ls h2 sl H locs pc hd hrt hZ S
    cases hZ
    exact W.vret hx hb hr (fun t ht _ => ⟨⟨S1, rfl, ⟨hLI, S.2.2.2.2.1⟩, by show va_P _ _ _ t.heap; rw [ht]; exact S.2.2.2.1⟩, S.2.2.2.2.2.F ht⟩) S.2.2.2.2.2.2.2 hd
