/-! THE LAW: what is checked of its rows, 0 -/
def am_ckF (tb : List am_W) : Nat → List am_W → Bool
  | 0, _ => true
  | _ + 1, [] => true
  | n + 1, w :: rest => am_chk am_mt "RoomsOfHoursLaw" code tb 4 (some .boolean) w rest && am_ckF tb n rest
theorem am_ckF_ok {tb : List am_W} : ∀ (n : Nat) (l : List am_W), am_ckF tb n l = true → am_chks am_mt "RoomsOfHoursLaw" code tb 4 (some .boolean) (am_drp n l) = true → am_chks am_mt "RoomsOfHoursLaw" code tb 4 (some .boolean) l = true := by
  intro n
  induction n with
  | zero => intro l _ h; exact h
  | succ n ih =>
    intro l h1 h2
    match l, h1, h2 with
    | [], _, h2 => rfl
    | w :: rest, h1, h2 =>
      simp only [am_ckF, Bool.and_eq_true] at h1
      simp only [am_chks, Bool.and_eq_true]
      exact ⟨h1.1, ih rest h1.2 h2⟩
theorem am_drp_drp : ∀ (n m : Nat) (l : List am_W), am_drp n (am_drp m l) = am_drp (m + n) l := by
  intro n m
  induction m with
  | zero => intro l; rw [Nat.zero_add]; rfl
  | succ m ih =>
    intro l
    rw [show m + 1 + n = m + n + 1 by omega]
    match l with
    | [] => cases n <;> rfl
    | w :: l => exact ih l
set_option maxHeartbeats 4000000 in
set_option maxRecDepth 100000 in
theorem law_ck0 : am_ckF cL_law 48 (am_drp 0 cL_law) = true := by decide +kernel
set_option maxHeartbeats 4000000 in
set_option maxRecDepth 100000 in
theorem law_ck1 : am_ckF cL_law 48 (am_drp 48 cL_law) = true := by decide +kernel
