/-! THE CLASS IS MADE: the text, the house that it tells -/
def cC_tail : List am_W := [(168, 1, .aload_n 0, [], 0),
  (169, 3, .getfield 20, [2, 6, 3, 2, 0, 437], 0),
  (172, 1, .aload_n 0, [], 0),
  (173, 3, .getfield 9, [1, 6, 0, 9, 1, 434], 0),
  (176, 1, .iload_n 1, [], 0),
  (177, 3, .invokevirtual 87, [18, 3, 1, 2, 381], 0),
  (180, 1, .pop, [], 0),
  (181, 1, .aload_n 0, [], 0),
  (182, 3, .invokevirtual 91, [81, 1, 0, 6, 422], 0),
  (185, 1, .return_, [], 0)]
def tx0 : List Nat := [114, 49, 44, 49, 44, 48, 59, 114, 50, 44, 49, 44, 54, 59, 114, 49, 44, 51, 44, 49, 50, 59, 100, 48, 44, 49, 44, 48, 44, 49, 59, 100, 49, 44, 50, 44, 49, 44, 50, 59, 100, 50, 44, 48, 44, 48, 44, 48, 59, 112, 48, 44, 50, 48, 59, 112, 49, 44, 51, 48, 59, 116, 49, 44, 49, 44, 57, 59, 116, 48, 44, 50, 44, 52, 59]
theorem tx0_ok : ∀ k, k < 75 → vp_nar .char (sx_B.getD k 0) = sx_B.getD k 0 ∧ sx_B.getD k 0 = nI (tx0.getD k 0) ∧ tx0.getD k 0 < 128 := by decide +kernel
def txh (k : Nat) : am_H := va_up rh0 1 (fun j => if j < k then sx_B.getD j 0 else 0)
theorem txh_0 : txh 0 = rh0 := by
  funext c
  unfold txh va_up
  by_cases h : c = 1
  · subst h
    rw [if_pos rfl]
    funext j
    rw [if_neg (by omega)]
    rfl
  · rw [if_neg h]
theorem txh_s {k : Nat} (hk : k < 75) : va_up (txh k) 1 (upd (txh k 1) k (sx_B.getD k 0)) = txh (k + 1) := by
  funext c
  unfold txh va_up
  by_cases h : c = 1
  · rw [if_pos h, if_pos h, if_pos rfl]
    funext j
    unfold upd
    by_cases e : j = k
    · rw [if_pos e, if_pos (by omega), e]
    · rw [if_neg e]
      dsimp only
      by_cases q : j < k
      · rw [if_pos q, if_pos (by omega)]
      · rw [if_neg q, if_neg (by omega)]
  · rw [if_neg h, if_neg h, if_neg h]
theorem am_w1 {D : va_G} {b0 nC k : Nat} {cI cH : ClassId} {h : am_H} {H : Heap} (hP : va_P D am_cls (am_w b0 cI cH nC h) H) (hk : k < nC) : va_P D am_cls [(b0 + k, am_en b0 cI cH k (h k))] H := by
  intro j q hq
  have hj : j < 1 := (List.getElem?_eq_some_iff.mp hq).1
  rw [show j = 0 by omega] at hq
  cases hq
  exact hP k _ (am_w_get hk)
theorem am_w_kept {D : va_G} {b0 nC : Nat} {cI cH : ClassId} {h : am_H} {H H1 : Heap} (hP : va_P D am_cls (am_w b0 cI cH nC h) H) (hk : ∀ q : Nat, q < H.size → ¬ sx_N q → H1[q]? = H[q]?) : va_P D am_cls (am_w b0 cI cH nC h) H1 := fun k q hq => (hP k q hq).kept (hk _ (hP k q hq).lt (fun z => z))
section RT
variable {p : Program} {l : Launch} {e : Env} {R : Room} {s : State} {m : MethodId} {args : Array Value} {below : List Frame} {meth : Method} {c : Code} {Q : State → Prop} {D : va_G} {cI cH : ClassId} {b0 : Nat} {adK adV : Nat → Nat} {vF : Value} {cells slots : Nat}
set_option maxHeartbeats 4000000 in
set_option maxRecDepth 100000 in
theorem root_loop (hx : p.tables.exec = Jvm.exec) (hb : c.code = prog_1_method_1_code) (hml : c.maxLocals = 3) (hts : ∀ w ∈ am_tbl, w.before args s = true) (hown : s.vm.findClass am_R6 = some m.cls) (hK : va_K D am_cls [(cI, .int), (cH, .char)] s) (hF : sx (am_A b0) adK adV vF s s.heap) (hZ : vk_R am_R6 69 sx_t (adK 0) s) (hfr : 4 ≤ R.frames) (hlo : 100 ≤ R.locals) (hcs : cells ≤ R.cells ∧ slots ≤ R.slots)
    (kk : ∀ (H : Heap) (locs : List Loc) (ls : Array Slot), va_P D am_cls (am_w b0 cI cH 82 (txh 75)) H → va_S (am_A b0) s.heap H locs → lv_has ls 3 [(0, .ref b0), (1, .int (nI 75)), (2, .int (nI 75))] → W p l e R s m args below meth c H locs cells slots Q (F0 m 168 ls [])) :
    ∀ (n k : Nat), k + n = 75 → ∀ (H : Heap) (locs : List Loc) (ls : Array Slot), va_P D am_cls (am_w b0 cI cH 82 (txh k)) H → va_S (am_A b0) s.heap H locs → lv_has ls 3 [(0, .ref b0), (1, .int (nI 75)), (2, .int (nI k))] → W p l e R s m args below meth c H locs cells slots Q (F0 m 145 ls []) := by
  intro n
  induction n with
  | zero =>
    intro k hk H locs ls hP hS hl
    have hk : k = 75 := by omega
    subst hk
    refine lv_iload_n (k := 2) hx hb (by decide +kernel) rfl (lv_at hl 2 rfl) ?_
    refine lv_iload_n (k := 1) hx hb (by decide +kernel) rfl (lv_at hl 1 rfl) ?_
    refine lv_icmp_ge (tgt := 168) hx hb (off := 21) (by decide +kernel) (by decide) (fun _ => kk H locs ls hP hS hl) (fun c9 => absurd (by decide) c9)
  | succ n ih =>
    intro k hk H locs ls hP hS hl
    have hk75 : k < 75 := by omega
    refine lv_iload_n (k := 2) hx hb (by decide +kernel) rfl (lv_at hl 2 rfl) ?_
    refine lv_iload_n (k := 1) hx hb (by decide +kernel) rfl (lv_at hl 1 rfl) ?_
    refine lv_icmp_ge (tgt := 168) hx hb (off := 21) (by decide +kernel) (by decide) (fun c9 => absurd c9 (nI_ge hk75 (by omega))) (fun _ => ?_)
    refine lv_aload_n (k := 0) hx hb (by decide +kernel) rfl (lv_at hl 0 rfl) ?_
    refine va_get (D := D) (cl := am_cls) (ci := 6) (v := .ref (b0 + 1)) (C := am_R6) (T := am_T6) (N := 13) (index := 9) (ref := am_R6) hx hb hts am_i6 hown hK (am_w1 hP (k := 0) (by decide)) 0 rfl rfl 0 (by decide) (hts _ (am_word_mem (i := 434) (by decide +kernel))) (fun _ h9 => h9) rfl (by decide +kernel) ?_
    refine lv_iload_n (k := 2) hx hb (by decide +kernel) rfl (lv_at hl 2 rfl) ?_
    refine va_ldcS hx hb (own := am_R6) (index := 69) hown hZ (by decide +kernel) ?_
    refine lv_iload_n (k := 2) hx hb (by decide +kernel) rfl (lv_at hl 2 rfl) ?_
    refine va_calli (va_runV (Ts := am_tbl) (b := adK 0) (As := [.int (nI k)]) (rest := [.int (nI k), .ref (b0 + 1)]) ⟨hx, hb, hml, hown, hts⟩ (sx_k l (am_A b0) adK adV vF hk75) ⟨(callB_of (Ts := am_tbl) (ws := sx_wk) (rm := ({ frames := 3, cells := 0, slots := 0, locals := 75 })) 1 hts (am_goodIn (fun w h => h) (fun w hw => (List.mem_cons.mp hw).elim (fun e => e ▸ am_word_mem (i := 346) (by decide +kernel)) id)) rfl rfl rfl (hts _ (am_word_mem (i := 68) (by decide +kernel))) (hts _ (am_word_mem (i := 343) (by decide +kernel))) (show sx_yk.cls ≠ "java/lang/invoke/MethodHandle" ∧ sx_yk.cls ≠ "java/lang/invoke/VarHandle" ∧ (parseMethodDescriptor sx_yk.desc).map (fun d => d.parameters.length) = some 1 by decide +kernel) ⟨hfr, by show 8 + (2 + 11) + 75 ≤ R.locals; omega⟩), (hts _ (am_word_mem (i := 344) (by decide +kernel))), (hts _ (am_word_mem (i := 345) (by decide +kernel)))⟩ ⟨sx_bl, vk_recv hF.1 (by decide) hS, fun U hU hW => ⟨rfl, by show sx _ _ _ _ U U.heap; rw [hU]; exact (hF.kept hS.2.1).moved hW.alike⟩⟩ rfl rfl hl.1 rfl (lv_room (Nat.le_of_ble_eq_true rfl)) (show decode prog_1_method_1_code 158 = .ok (.invokevirtual 83, 3) by decide +kernel) hcs) hS (fun q _ h => h.elim) (fun q h => h.elim) (fun r u t H1 locs1 ht hvm hw hB hz1 hk1 hS1 => ?_)
    rw [hw]
    have hP1 := am_w_kept hP hk1
    refine va_cast (D := D) (cl := am_cls) (A := am_A b0) (cA := cH) (n := 200) (f := txh k 1) hx hb hK hP1 (am_w_D b0 cI cH 82 (txh k)) hS1 1 1 (am_w_get (by decide)) rfl (i := nI k) (vp_in_nI (by omega) (by omega)) (by decide +kernel) (fun H2 locs2 hP2 _ hS2 => ?_)
    rw [nI_clamp (by omega), (tx0_ok k hk75).1] at hP2
    have e2 : (am_w b0 cI cH 82 (txh k)).set 1 (b0 + 1, .inl (cH, 200, .inl (upd (txh k 1) k (sx_B.getD k 0)))) = am_w b0 cI cH 82 (txh (k + 1)) := by
      rw [← txh_s hk75]
      exact am_w_set (k := 1) (upd (txh k 1) k (sx_B.getD k 0))
    rw [e2] at hP2
    refine lv_iinc (n := 1) (v := nI (k + 1)) (lv' := [(2, .int (nI (k + 1))), (0, .ref b0), (1, .int (nI 75))]) hx hb (by decide +kernel) hl (k := 2) rfl (by rw [← nI_1]; rfl) (by decide) rfl (fun ls hl => ?_)
    refine lv_goto (tgt := 145) (off := -20) hx hb (by decide +kernel) (by decide) ?_
    exact ih (k + 1) (by omega) H2 locs2 ls hP2 hS2 (lv_sub hl [1, 2, 0] rfl)
end RT
