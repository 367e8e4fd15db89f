theorem am_kEL : ∀ q ∈ am_EL, am_okE q := by
  show ∀ q ∈ am_E0 ++ (am_E1 ++ (am_E2 ++ (am_E3 ++ (am_E4 ++ (am_E5 ++ (am_E6 ++ (am_E7 ++ (am_E8 ++ (am_E9 ++ (am_E10)))))))))), am_okE q
  exact List.forall_mem_append.mpr ⟨am_kE0, List.forall_mem_append.mpr ⟨am_kE1, List.forall_mem_append.mpr ⟨am_kE2, List.forall_mem_append.mpr ⟨am_kE3, List.forall_mem_append.mpr ⟨am_kE4, List.forall_mem_append.mpr ⟨am_kE5, List.forall_mem_append.mpr ⟨am_kE6, List.forall_mem_append.mpr ⟨am_kE7, List.forall_mem_append.mpr ⟨am_kE8, List.forall_mem_append.mpr ⟨am_kE9, am_kE10⟩⟩⟩⟩⟩⟩⟩⟩⟩⟩
theorem am_kE (z : Nat) : am_okE (am_lkE am_EL z) := (am_lkE_mem am_EL z).elim (am_kEL _) (fun h => by rw [h]; exact kA_add)
theorem am_mt_ok : am_MT am_mt := fun z => (am_kE z).1
/-- the class's and the reference's calls, by levels -/
def am_g : Nat → Nat → List am_V → am_H → am_Z := am_G (fun z => (am_ts z, (am_mt z).2.2.1))
theorem am_level (l : Launch) {nC : Nat} (hclo : am_clo nC = true) (hnC : nC < 1000) (b0 : Nat) (D : va_G) (cI cH : ClassId) (d : Nat) : am_GO l am_mt b0 nC D cI cH d (am_g d) :=
  am_lvl l am_mt_ok (fun z => (am_kE z).2.1) (fun z => (am_kE z).2.2) hclo hnC b0 D cI cH d
