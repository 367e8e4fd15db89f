/-! THE END -/
theorem am_cn {D : va_G} {b0 nC : Nat} {cI cH : ClassId} {h : am_H} {H : Heap} (hP : va_P D am_cls (am_w b0 cI cH nC h) H) (hsz : H.size ≤ b0 + nC) (hn : 0 < nC) : cn_P D b0 nC (fun k => am_en b0 cI cH k (h k)) H := by
  have h1 := (hP (nC - 1) _ (am_w_get (by omega))).lt
  have h1 : b0 + (nC - 1) < H.size := h1
  exact ⟨by omega, fun k hk => hP k _ (am_w_get hk)⟩
set_option maxHeartbeats 4000000 in
set_option maxRecDepth 100000 in
theorem whole_start {p : Program} {e : Env} {s : State} {m : MethodId} {below : List Frame} {meth : Method} {c : Code} (l : Launch) {b L : Nat} {xs : Nat → Int32} (hL : L ≤ 320) (C0 : lw_At p s m meth c b L xs) : W p l e room_1 s m #[Value.ref b] below meth c s.heap [] 0 0 (lw_Z below #[Value.ref b] s) (entryFrame m ([Value.ref b] : List Value).toArray 4) := by
  obtain ⟨hx, hb, hr, hml, hown, hts, hX, hbl, hlocks, hgv⟩ := id C0
  have htsA : ∀ w ∈ am_tbl, w.before #[Value.ref b] s = true := fun w hw => hts w (List.mem_filter.mp hw).1
  obtain ⟨D, cI, cH, hK⟩ := start_K hts
  obtain ⟨adK, adV, vF, hF, hZ⟩ := start_S hts hgv
  have hN := start_N hts
  obtain ⟨b0, hb0⟩ : ∃ b0, s.heap.size = b0 := ⟨_, rfl⟩
  rw [hb0] at hF
  have hS : va_S (am_A b0) s.heap s.heap [] := va_S.rf
  have hP0 : cn_P D b0 0 (fun _ => .inr (6, cn_06)) s.heap := ⟨by omega, fun k hk => by omega⟩
  have hl := lv_entry ([.ref b]) (n := 4) (Nat.le_of_ble_eq_true rfl)
  rw [lg_entry_eq]
  generalize (lg_sl ([.ref b]) ++ List.replicate (4 - (lg_sl ([.ref b])).length) Slot.unset).toArray = ls at hl ⊢
  have hl : lv_has ls 4 [(0, .ref b)] := hl
  refine cn_new (C := am_R6) (T := am_T6) (N := 13) (ci := 6) (index := 7) (fs := cn_06) hx hb htsA am_i6 am_y6 am_y6_ok hown (htsA _ (am_word_mem (i := 77) (by decide +kernel))) (htsA _ (am_word_mem (i := 78) (by decide +kernel))) (htsA _ (am_word_mem (i := 61) (by decide +kernel))) hK hP0 hS rfl (by decide +kernel) (Nat.le_of_ble_eq_true rfl) (Nat.le_of_ble_eq_true rfl) (by decide +kernel) (fun H hP hS => ?_)
  have hP : cn_P D b0 1 (rE0 cI) H := hP.cg fun k hk => by
    have : k = 0 := by omega
    subst this
    rfl
  refine lv_dup hx hb (by decide +kernel) rfl ?_
  refine va_callv (va_runI (Ts := am_tbl) (b := b0) (As := []) (rest := [.ref b0]) ⟨hx, hb, hml, hown, htsA⟩ (cn_c6 l D cI cH b0 adK adV vF) (cwI (Ts := am_tbl) 0 htsA (am_goodIn (fun w h => h) (fun w hw => (List.mem_cons.mp hw).elim (fun e => e ▸ am_word_mem (i := 81) (by decide +kernel)) id)) rfl rfl rfl (htsA _ (am_word_mem (i := 61) (by decide +kernel))) (htsA _ (am_word_mem (i := 79) (by decide +kernel))) (htsA _ (am_word_mem (i := 80) (by decide +kernel))) rfl (show cn_y6.cls ≠ "java/lang/invoke/MethodHandle" ∧ cn_y6.cls ≠ "java/lang/invoke/VarHandle" ∧ (parseMethodDescriptor cn_y6.desc).map (fun d => d.parameters.length) = some 0 by decide +kernel) ⟨Nat.le_of_ble_eq_true rfl, Nat.le_of_ble_eq_true rfl⟩) ⟨fun a U g mk q => ?_, fun U hU hW => ⟨rfl, by rw [hU]; exact hP, va_K.moved hW.alike hK, ?_, by rw [hU]; exact (hF.kept hS.2.1).moved hW.alike, hZ.warm hW⟩⟩ rfl rfl hl.1 rfl (lv_room (Nat.le_of_ble_eq_true rfl)) (show decode code 4 = .ok (.invokespecial 9, 3) by decide +kernel) ⟨Nat.le_of_ble_eq_true rfl, Nat.le_of_ble_eq_true rfl⟩) hS (fun q _ h => h) (fun q h => h) (fun hC t H1 locs1 ht hvm hw hB hz1 hk1 hS => ?_)
  · obtain ⟨q0, q1, q2, q3, q4, q5⟩ := q
    exact ⟨q0, q1, va_K.moved (u := U) (U := U.calling g mk a) (Vm.Alike.refl U.vm) q2, cn_N_same (u := U) rfl q3, q4.moved (u := U) (U := U.calling g mk a) (Vm.Alike.refl U.vm), vk_R.same (u := U) rfl q5⟩
  · exact cn_N_warm hW hN
  obtain ⟨hRP, hwf⟩ := hw
  have hB : va_P D am_cls (am_w b0 cI cH 82 hC) t.heap := hB
  rw [ht] at hB
  refine lv_astore_n (k := 1) (lv' := [(1, .ref b0), (0, .ref b)]) hx hb (by decide +kernel) rfl hl (by decide) rfl (fun ls hl => ?_)
  refine cn_size (fun hsz => ?_)
  have hPc := am_cn hB (by rw [hb0] at hsz; exact hsz) (by decide)
  refine cn_new (C := am_R7) (T := am_T7) (N := 45) (ci := 7) (index := 10) (fs := cn_07) hx hb htsA am_i7 am_y7 am_y7_ok hown (htsA _ (am_word_mem (i := 837) (by decide +kernel))) (htsA _ (am_word_mem (i := 838) (by decide +kernel))) (htsA _ (am_word_mem (i := 73) (by decide +kernel))) hK hPc hS rfl (by decide +kernel) (Nat.le_of_ble_eq_true rfl) (Nat.le_of_ble_eq_true rfl) (by decide +kernel) (fun H2 hP2 hS => ?_)
  have hP3 : cn_P D (b0 + 82) 1 (lf_E 7 cn_07 cI []) H2 := by
    have h1 := hP2.1
    refine ⟨by omega, fun j hj => ?_⟩
    have hj0 : j = 0 := by omega
    subst hj0
    have h2 := hP2.2 82 (by omega)
    unfold cn_up at h2
    rw [if_pos rfl] at h2
    exact h2
  have hP4 : va_P D am_cls (am_w b0 cI cH 82 hC) H2 := by
    intro k q hq
    by_cases hk : k < 82
    · rw [am_w_get hk] at hq
      cases hq
      have h2 := hP2.2 k (by omega)
      unfold cn_up at h2
      rw [if_neg (by omega)] at h2
      exact h2
    · simp [am_w, hk] at hq
  refine lv_dup hx hb (by decide +kernel) rfl ?_
  refine va_callv (va_runI (Ts := am_tbl) (b := b0 + 82) (As := []) (rest := [.ref (b0 + 82)]) ⟨hx, hb, hml, hown, htsA⟩ (cn_c7 l D cI cH b0 hRP hwf) (cwI (Ts := am_tbl) 0 htsA (am_goodIn (fun w h => h) (fun w hw => (List.mem_cons.mp hw).elim (fun e => e ▸ am_word_mem (i := 841) (by decide +kernel)) id)) rfl rfl rfl (htsA _ (am_word_mem (i := 73) (by decide +kernel))) (htsA _ (am_word_mem (i := 839) (by decide +kernel))) (htsA _ (am_word_mem (i := 840) (by decide +kernel))) rfl (show cn_y7.cls ≠ "java/lang/invoke/MethodHandle" ∧ cn_y7.cls ≠ "java/lang/invoke/VarHandle" ∧ (parseMethodDescriptor cn_y7.desc).map (fun d => d.parameters.length) = some 0 by decide +kernel) ⟨Nat.le_of_ble_eq_true rfl, Nat.le_of_ble_eq_true rfl⟩) ⟨fun a U g mk q => ?_, fun U hU hW => ⟨rfl, by rw [hU]; exact hP3, va_K.moved hW.alike hK, by rw [hU]; exact hP4⟩⟩ rfl rfl hl.1 rfl (lv_room (Nat.le_of_ble_eq_true rfl)) (show decode code 12 = .ok (.invokespecial 12, 3) by decide +kernel) ⟨Nat.le_of_ble_eq_true rfl, Nat.le_of_ble_eq_true rfl⟩) hS (fun q _ h => h) (fun q h => h) (fun h3 t3 H3 locs3 ht3 hvm3 hw3 hB3 hz3 hk3 hS => ?_)
  · obtain ⟨q0, q1, q2, q3⟩ := q
    exact ⟨q0, q1, va_K.moved (u := U) (U := U.calling g mk a) (Vm.Alike.refl U.vm) q2, q3⟩
  obtain ⟨hLI, hwf3⟩ := hw3
  have hB3 : va_P D am_cls (am_w b0 cI cH 124 h3) t3.heap := hB3
  rw [ht3] at hB3
  refine lv_astore_n (k := 2) (lv' := [(2, .ref (b0 + 82)), (1, .ref b0), (0, .ref b)]) hx hb (by decide +kernel) rfl hl (by decide) rfl (fun ls hl => ?_)
  obtain ⟨h', hE⟩ := law_run hL xs (L + 1) 0 h3 (by omega) (by omega) hLI
  rw [nI_0, ← qL_law_0 L xs (am_g 7) (L + 1 + 1) none] at hE
  have C : am_Cx p s m #[Value.ref b] c room_1 am_mt "RoomsOfHoursLaw" code cL_law 4 b0 b 124 L 7 xs D cI cH True (some .boolean) := ⟨hx, hb, hml, hown, htsA, hK, law_chk, am_clo124, by omega, ⟨Nat.le_of_ble_eq_true rfl, Nat.le_of_ble_eq_true rfl⟩, fun _ => ⟨hX, hbl, by omega⟩, am_mt_ok⟩
  have hok : ∀ (i : Nat) (v : am_V), am_ix [some (vr 8 0), some (vr 6 0), some (vr 7 82), none] i = some v → am_ok 124 True v := by
    intro i v hv
    match i, hv with
    | 0, hv => cases hv; trivial
    | 1, hv => cases hv; exact ⟨by decide, rfl⟩
    | 2, hv => cases hv; exact ⟨by decide, rfl⟩
    | 3, hv => cases hv
    | i + 4, hv => cases hv
  refine am_run_ok (l := l) (e := e) (below := below) (meth := meth) (cells := 124) (slots := 4203) (Q := lw_Z below #[Value.ref b] s) (Z := (h', some 1)) C (am_level l am_clo124 (by omega) b0 D cI cH 7) ⟨Nat.le_of_ble_eq_true rfl, Nat.le_of_ble_eq_true rfl⟩ ?_ ?_ (L + 1 + 1 + 1) 0 [some (vr 8 0), some (vr 6 0), some (vr 7 82), none] [] h3 ls H3 locs3 hE ⟨⟨rfl, lv_sub hl [2, 1, 0] rfl⟩, hok, (fun v hv => absurd hv List.not_mem_nil), hB3, hwf3, hS⟩
  · intro ls v h2 sl H locs pc hd hrt hZ S
    cases hZ
    refine va_forget (fun q hq => ?_) (lw_ret hx hb hr hlocks hd)
    have := S.2.2.2.2.2.2.2 q hq
    rw [hb0]
    exact this
  · intro ls h2 sl H locs pc hd hrt hZ S
    cases hZ
set_option maxHeartbeats 4000000 in
theorem lw_walk (l : Launch) (b : Addr) (xs : List Int32) : MetFree l x (headSpec (Jvm.Cond.code x code maxLocals ret :: tables_1) room_1) (lw_P b xs) (fun _ _ _ _ _ => True) lw_Q := by
  refine MetFree.of_bodyS (code := code) (maxLocals := maxLocals) (ret := ret) (by decide) ?_ ?_
  · intro args s m h hn
    obtain ⟨meth, c, h1, h2, h3, h4, h5, h6, -, -⟩ := Cond.code_spec hn (atoms_spec (ws := Jvm.Cond.code x code maxLocals ret :: tables_1) h _ List.mem_cons_self)
    exact ⟨meth, c, h1, h2, h3, h4, h5, h6⟩
  · intro p e s m args below meth c s₁ B hml0 hP _
    obtain ⟨rfl, hx, hbd, hgv⟩ := hP
    obtain ⟨scr, harrAt, hlist, hof, hsmall⟩ := hx
    obtain ⟨hcb, hkn, -, -⟩ := State.arrayAt?_spec harrAt
    have hown : s.vm.findClass R_law = some m.cls := findClass_of_methodNamed B.named
    have hts0 : ∀ c ∈ (Jvm.Cond.code x code maxLocals ret :: tables_1), c.before #[Value.ref b] s = true := atoms_spec (ws := Jvm.Cond.code x code maxLocals ret :: tables_1) B.pre
    have hts : ∀ w ∈ lw_tbl, w.before #[Value.ref b] s = true := k2_hts_sels lw_privs (fun w hw => hts0 w (List.mem_cons_of_mem _ hw)) lw_privs_ok
    have hml : c.maxLocals = 4 := B.maxLocals_eq (hts0 _ List.mem_cons_self)
    have X₀ : Stand p l e room_1 s m #[Value.ref b] below meth c s₁ [] 0 0 := Stand.of_body B
    have hh0 : s₁.heap = s.heap := by rw [B.state]; rfl
    have hsz : scr.slots.size = xs.length := by rw [← Array.length_toList, hlist, List.length_map]
    have hval : ∀ j : Nat, j < xs.length → scr.slots[j]? = some (.int (xs.getD j 0)) := fun j hj => by
      rw [← Array.getElem?_toList, hlist]
      simp [hj]
    have hbl : b < s.heap.size := (Array.getElem?_eq_some_iff.mp hcb).1
    have hX : va_X b xs.length (fun j => xs.getD j 0) s s.heap := ⟨scr, hcb, hof, hkn, hsz, hval⟩
    have K : W p l e room_1 s m #[Value.ref b] below meth c s₁.heap [] 0 0 (lw_Z below #[Value.ref b] s) (entryFrame m ([Value.ref b] : List Value).toArray 4) := by
      rw [hh0]
      exact whole_start l hbd ⟨B.exec, B.bytes, B.returns, hml, hown, hts, hX, hbl, B.notSynchronized, hgv⟩
    obtain ⟨t, a1, o, b1, b2, b3⟩ := K s₁ rfl X₀
    exact ⟨t, o, a1, b1, b2, b3⟩
theorem lw_pre_spec {args : Array Value} {s : State} (h : (Jvm.Cond.and given_1 narrow_1).before args s = true) (hr : rest_1_c.before args s = true) : ∃ (b : Addr) (xs : List Int32), lw_P b xs args s := by
  have hs := flat_of_before _ h
  have hq := flat_of_before _ hr
  have hc : (Cond.count 1).before args s = true := hs _ (by decide +kernel)
  have harr : (Cond.arrayOf (.arg 0) .int).before args s = true := hs _ (by decide +kernel)
  have hle : (Cond.le (.length (.arg 0)) (.int 320)).before args s = true := hs _ (by decide +kernel)
  have hlen : (Cond.isInt (.length (.arg 0))).before args s = true := hq _ (by decide +kernel)
  have hall : (Cond.all (.arg 0) (.isInt (.elem (.arg 0) (.index 0)))).before args s = true := hq _ (by decide +kernel)
  obtain ⟨b, xs, hb, hx⟩ := State.ints_of_pre rfl harr hlen hall
  have hsm : xs.length < 2 ^ 31 := hx.choose_spec.2.2.2
  have hev : (Term.length (.arg 0)).eval args s none [] s = some (.int xs.length.toInt32) := hx.length_eval hb
  have hv := Cond.le_ints hev (show (Term.int 320).eval args s none [] s = some (.int 320) from rfl)
  have hd : xs.length.toInt32 ≤ 320 := by
    simpa [Cond.before, Cond.holds, hv] using hle
  have hN : xs.length ≤ 320 := (Int32.ofNat_le_ofNat hsm (by decide)).mp (show Int32.ofNat xs.length ≤ Int32.ofNat 320 from hd)
  exact ⟨b, xs, Cond.one_arg hc (show args[0]? = some (.ref b) from hb), hx, hN, h⟩
theorem lw_comes (l : Launch) : Comes l x (Jvm.Cond.code x code maxLocals ret :: tables_1) room_1 (fun tb e args s => Calls_1 tb e args s ∧ rest_1 tb e args s ∧ Pre_1 tb e args s)
    (fun _ _ args s o t => lw_Q args s o t) := by
  intro p e ha hc hk s m args below hf hfit hheap happ hpre
  obtain ⟨b, xs, hP⟩ := lw_pre_spec hpre.2.2 hpre.2.1
  obtain ⟨k, o, h1, h2, h3, hQ⟩ := lw_walk l b xs p e ha hc hk s m args below hf ((Spec.applies_iff_loose hf).mp happ).1 hP trivial
  exact ⟨k, o, h1, h2, h3, hQ⟩
theorem lw_frame {s t : State} {o : Outcome} {args : Array Value} (h : Framed s o t [] 124 4203) :
    Framed s o t (fieldLocs frame_1_writes args s ++ arrayLocs frame_1_arrays args s ++ staticLocs frame_1_statics s) 124 4203 := h
theorem lw_limb (L : Cond) (hL : ∀ (args : Array Value) (s t : State), L.after args s (.returned (some (.int 1))) t = true) :
    ArmFor flags0 classFile x code maxLocals ret World_1 tables_1 room_1 Calls_1 rest_1 Pre_1
      (fun tb e a s o t => postC L tb e a s o t ∧ Framed s o t (fieldLocs frame_1_writes a s ++ arrayLocs frame_1_arrays a s ++ staticLocs frame_1_statics s) 124 4203) := by
  intro l _ _ _ p e ha hc hk s m args below hf hfit hheap happ hpre
  obtain ⟨k, o, h1, h2, h3, rfl, hF⟩ := lw_comes l p e ha hc hk s m args below hf hfit hheap happ hpre
  exact ⟨k, _, h1, h2, h3, hL args s _, lw_frame hF⟩
theorem i_vc : Claimed_1_1 ∧ Claimed_1_2 := ⟨lw_limb limb_1_1 (fun args s t => by simp [limb_1_1, Cond.after, Cond.holds, Cond.value]), lw_limb limb_1_2 (fun args s t => Cond.after_iff.mpr (by
  first | (rw [show limb_1_2 = Cond.eq .result (.int 1) from rfl, Cond.eq_ints (x := 1) (y := 1) rfl rfl]; simp; done) | (simp [limb_1_2, Cond.value, Term.eval]; done)))⟩
