/-! THE REFERENCE IS MADE: its first house -/
def cM_init : List am_W := [(322, 1, .aload_n 0, [], 0),
  (323, 1, .iconst 0, [], 0),
  (324, 3, .invokevirtual 133, [97, 2, 0, 7, 843], 0),
  (327, 1, .aload_n 0, [], 0),
  (328, 1, .iconst 0, [], 0),
  (329, 1, .iconst 1, [], 1),
  (330, 1, .iconst 1, [], 1),
  (331, 1, .iconst 0, [], 0),
  (332, 3, .invokevirtual 137, [98, 5, 0, 7, 847], 0),
  (335, 1, .aload_n 0, [], 0),
  (336, 1, .iconst 0, [], 0),
  (337, 1, .iconst 2, [], 2),
  (338, 1, .iconst 1, [], 1),
  (339, 2, .bipush 6, [], 6),
  (341, 3, .invokevirtual 137, [98, 5, 0, 7, 847], 0),
  (344, 1, .aload_n 0, [], 0),
  (345, 1, .iconst 0, [], 0),
  (346, 1, .iconst 1, [], 1),
  (347, 1, .iconst 3, [], 3),
  (348, 2, .bipush 12, [], 12),
  (350, 3, .invokevirtual 137, [98, 5, 0, 7, 847], 0),
  (353, 1, .aload_n 0, [], 0),
  (354, 1, .iconst 0, [], 0),
  (355, 1, .iconst 0, [], 0),
  (356, 1, .iconst 1, [], 1),
  (357, 1, .iconst 0, [], 0),
  (358, 1, .iconst 1, [], 1),
  (359, 3, .invokevirtual 141, [99, 6, 0, 7, 851], 0),
  (362, 1, .aload_n 0, [], 0),
  (363, 1, .iconst 0, [], 0),
  (364, 1, .iconst 1, [], 1),
  (365, 1, .iconst 2, [], 2),
  (366, 1, .iconst 1, [], 1),
  (367, 1, .iconst 2, [], 2),
  (368, 3, .invokevirtual 141, [99, 6, 0, 7, 851], 0),
  (371, 1, .aload_n 0, [], 0),
  (372, 1, .iconst 0, [], 0),
  (373, 1, .iconst 2, [], 2),
  (374, 1, .iconst 0, [], 0),
  (375, 1, .iconst 0, [], 0),
  (376, 1, .iconst 0, [], 0),
  (377, 3, .invokevirtual 141, [99, 6, 0, 7, 851], 0),
  (380, 1, .aload_n 0, [], 0),
  (381, 3, .getfield 37, [1, 7, 10, 102, 10, 913], 0),
  (384, 1, .iconst 0, [], 0),
  (385, 1, .iconst 2, [], 2),
  (386, 1, .iastore, [], 0),
  (387, 1, .aload_n 0, [], 0),
  (388, 3, .getfield 43, [1, 7, 12, 108, 12, 915], 0),
  (391, 1, .iconst 0, [], 0),
  (392, 2, .bipush 20, [], 20),
  (394, 1, .iastore, [], 0),
  (395, 1, .aload_n 0, [], 0),
  (396, 3, .getfield 40, [1, 7, 11, 108, 11, 914], 0),
  (399, 1, .iconst 1, [], 1),
  (400, 1, .iconst 1, [], 1),
  (401, 1, .iastore, [], 0),
  (402, 1, .aload_n 0, [], 0),
  (403, 3, .getfield 43, [1, 7, 12, 108, 12, 915], 0),
  (406, 1, .iconst 1, [], 1),
  (407, 2, .bipush 30, [], 30),
  (409, 1, .iastore, [], 0),
  (410, 1, .aload_n 0, [], 0),
  (411, 3, .getfield 46, [1, 7, 13, 102, 13, 916], 0),
  (414, 1, .iconst 0, [], 0),
  (415, 1, .iconst 2, [], 2),
  (416, 1, .iastore, [], 0),
  (417, 1, .aload_n 0, [], 0),
  (418, 3, .getfield 49, [1, 7, 14, 110, 14, 917], 0),
  (421, 1, .iconst 0, [], 0),
  (422, 1, .iconst 1, [], 1),
  (423, 1, .iastore, [], 0),
  (424, 1, .aload_n 0, [], 0),
  (425, 3, .getfield 52, [1, 7, 15, 110, 15, 918], 0),
  (428, 1, .iconst 0, [], 0),
  (429, 1, .iconst 1, [], 1),
  (430, 1, .iastore, [], 0),
  (431, 1, .aload_n 0, [], 0),
  (432, 3, .getfield 55, [1, 7, 16, 110, 16, 919], 0),
  (435, 1, .iconst 0, [], 0),
  (436, 2, .bipush 9, [], 9),
  (438, 1, .iastore, [], 0),
  (439, 1, .aload_n 0, [], 0),
  (440, 3, .getfield 52, [1, 7, 15, 110, 15, 918], 0),
  (443, 1, .iconst 1, [], 1),
  (444, 1, .iconst 2, [], 2),
  (445, 1, .iastore, [], 0),
  (446, 1, .aload_n 0, [], 0),
  (447, 3, .getfield 55, [1, 7, 16, 110, 16, 919], 0),
  (450, 1, .iconst 1, [], 1),
  (451, 1, .iconst 4, [], 4),
  (452, 1, .iastore, [], 0),
  (453, 1, .aload_n 0, [], 0),
  (454, 3, .invokevirtual 145, [123, 1, 0, 7, 855], 0),
  (457, 1, .return_, [], 0)]
set_option maxRecDepth 20000 in
theorem qM_init_0 (G : Nat → List am_V → am_H → am_Z) (n : Nat)  (h : am_H) : am_run 0 (fun _ => 0) cM_init G (n + 1) 0 [some (vr 7 82)] h =
  am_r0 (G 97 [vr 7 82, vi 0] h) fun h1 =>
  am_r0 (G 98 [vr 7 82, vi 0, vi 1, vi 1, vi 0] h1) fun h2 =>
  am_r0 (G 98 [vr 7 82, vi 0, vi 2, vi 1, vi 6] h2) fun h3 =>
  am_r0 (G 98 [vr 7 82, vi 0, vi 1, vi 3, vi 12] h3) fun h4 =>
  am_r0 (G 99 [vr 7 82, vi 0, vi 0, vi 1, vi 0, vi 1] h4) fun h5 =>
  am_r0 (G 99 [vr 7 82, vi 0, vi 1, vi 2, vi 1, vi 2] h5) fun h6 =>
  am_r0 (G 99 [vr 7 82, vi 0, vi 2, vi 0, vi 0, vi 0] h6) fun h7 =>
  am_r0 (G 123 [vr 7 82] (am_up (am_up (am_up (am_up (am_up (am_up (am_up (am_up (am_up (am_up h7 92 0 2) 94 0 20) 93 1 1) 94 1 30) 95 0 2) 96 0 1) 97 0 1) 98 0 9) 97 1 2) 98 1 4)) fun h8 =>
  some (h8, none) := rfl
theorem addRoom0 {h : am_H} {n : Nat} (hn : n < 6) (h0 : h 84 0 = nI n) (x y z : Int32) : am_g 6 98 [vr 7 82, vi 0, vi x, vi y, vi z] h = some (am_up (am_up (am_up (am_up h 85 n x) 86 n y) 87 n z) 84 0 (nI (n + 1)), none) := by
  have b2 : ∀ f, am_b 2 0 f = f 0 := fun f => b_ok (n := 2) (j := 0) (by omega) (by omega) f
  have b12 : ∀ f, am_b 12 (nI n) f = f n := fun f => b_ok (by omega) (by omega) f
  rw [gM_addRoom]
  simp only [b2]
  rw [h0, show (6 : Int32) * 0 + nI n = nI n by simp]
  simp only [b12]
  rw [nI_1]
theorem addDoor0 {h : am_H} {n : Nat} (hn : n < 8) (h0 : h 88 0 = nI n) (x y f z : Int32) : am_g 6 99 [vr 7 82, vi 0, vi x, vi y, vi f, vi z] h = some (am_up (am_up (am_up (am_up h 89 n x) 90 n y) 91 n (if f = 0 then z else -z)) 88 0 (nI (n + 1)), none) := by
  have b2 : ∀ f, am_b 2 0 f = f 0 := fun f => b_ok (n := 2) (j := 0) (by omega) (by omega) f
  have b16 : ∀ f, am_b 16 (nI n) f = f n := fun f => b_ok (by omega) (by omega) f
  rw [gM_addDoor]
  simp only [b2]
  rw [h0, show (8 : Int32) * 0 + nI n = nI n by simp]
  simp only [b16]
  rw [nI_1]
  split <;> rfl
def mT0 (h : am_H) : am_H := (am_up (am_up (am_up (am_up (am_up (am_up (am_up (am_up (am_up (am_up (am_up (am_up (am_up (am_up (am_up (am_up (am_up (am_up (am_up (am_up (am_up (am_up (am_up (am_up (am_up (am_up (am_up (am_up (am_up h 84 0 0) 88 0 0) 92 0 0) 95 0 0) 99 0 1) 85 0 1) 86 0 1) 87 0 0) 84 0 (nI 1)) 85 1 2) 86 1 1) 87 1 6) 84 0 (nI 2)) 85 2 1) 86 2 3) 87 2 12) 84 0 (nI 3)) 89 0 0) 90 0 1) 91 0 (if (0 : Int32) = 0 then 1 else -1)) 88 0 (nI 1)) 89 1 1) 90 1 2) 91 1 (if (1 : Int32) = 0 then 2 else -2)) 88 0 (nI 2)) 89 2 2) 90 2 0) 91 2 (if (0 : Int32) = 0 then 0 else -0)) 88 0 (nI 3))
def mT (h : am_H) : am_H := (am_up (am_up (am_up (am_up (am_up (am_up (am_up (am_up (am_up (am_up (mT0 h) 92 0 2) 94 0 20) 93 1 1) 94 1 30) 95 0 2) 96 0 1) 97 0 1) 98 0 9) 97 1 2) 98 1 4)
theorem model_run (h : am_H) : am_run 0 (fun _ => 0) cM_init (am_g 6) (0 + 1) 0 [some (vr 7 82)] h = am_r0 (am_g 6 123 [vr 7 82] (mT h)) fun h8 => some (h8, none) := by
  have b2 : ∀ f, am_b 2 0 f = f 0 := fun f => b_ok (n := 2) (j := 0) (by omega) (by omega) f
  rw [qM_init_0, gM_noHouse]
  simp only [b2]
  rw [r0_ok, addRoom0 (n := 0) (by omega) (by simp [up_a, nI_0]), r0_ok, addRoom0 (n := 1) (by omega) (by simp [up_a]), r0_ok, addRoom0 (n := 2) (by omega) (by simp [up_a]), r0_ok, addDoor0 (n := 0) (by omega) (by simp [up_a, nI_0]), r0_ok, addDoor0 (n := 1) (by omega) (by simp [up_a]), r0_ok, addDoor0 (n := 2) (by omega) (by simp [up_a]), r0_ok]
  rfl
theorem mT_c {h h' : am_H} {c : Nat} (e : h c = h' c) (j : Nat) : mT h c j = mT h' c j := by
  unfold mT mT0
  simp only [up_a]
  rw [e]
def mZ : am_H := mT (fun _ _ => 0)
theorem mZ_s : sB B0 mZ := by unfold sB; decide +kernel
theorem mT_z (h : am_H) {c : Nat} (hc : 82 ≤ c) (j : Nat) : mT (mh0 h) c j = mZ c j := mT_c (by unfold mh0; rw [if_neg (by omega)]) j
theorem mT_lo (h : am_H) {c : Nat} (hc : c < 82) : mT (mh0 h) c = h c := by
  have e : ∀ j, mT (mh0 h) c j = mh0 h c j := fun j => by
    unfold mT mT0
    simp only [up_a]
    simp (disch := omega) only [if_neg]
  funext j
  rw [e]
  unfold mh0
  rw [if_pos hc]
/-- the two are alike, and may go on -/
def LI (h : am_H) : Prop := ∃ (o o' : Nat) (tx : List Nat) (as : List K_A) (ks : List (List K_A)) (ss : List K_A), CI h h o o' tx as ks ss ∧ MI h tx as ks ss ∧ VI h tx as ks ss
theorem CI_l {h h' S : am_H} {o o' : Nat} {tx : List Nat} {as : List K_A} {ks : List (List K_A)} {ss : List K_A} (hc : ∀ c, c < 82 → h' c = h c) (c : CI h S o o' tx as ks ss) : CI h' S o o' tx as ks ss :=
  CI_c c (fun _ _ _ => rfl) (fun j _ => by rw [hc 0 (by omega)]) (fun c q1 q2 _ => hc c (by omega)) (by rw [hc 0 (by omega), hc 1 (by omega)]; exact c.2.1) (by rw [hc 70 (by omega), hc 71 (by omega), hc 72 (by omega), hc 73 (by omega)]; exact c.2.2.2.2.2.2.1) (by rw [hc 79 (by omega)]; exact c.2.2.2.2.2.2.2)
theorem CI_r {h S S' : am_H} {o o' : Nat} {tx : List Nat} {as : List K_A} {ks : List (List K_A)} {ss : List K_A} (hS : ∀ c, 82 ≤ c → S' c = S c) (c : CI h S o o' tx as ks ss) : CI h S' o o' tx as ks ss :=
  CI_c c (fun c q1 _ => hS c (by omega)) (fun _ _ => rfl) (fun _ _ _ _ => rfl) c.2.1 c.2.2.2.2.2.2.1 c.2.2.2.2.2.2.2
theorem MI_r {S S' : am_H} {tx : List Nat} {as : List K_A} {ks : List (List K_A)} {ss : List K_A} (hS : ∀ c, 82 ≤ c → S' c = S c) (m : MI S tx as ks ss) : MI S' tx as ks ss :=
  MI_c m (fun c q1 _ _ => hS c (by omega)) (by rw [hS 82 (by omega)]) (by rw [hS 82 (by omega), hS 83 (by omega)]; exact m.2.1) (by rw [hS 82 (by omega), hS 104 (by omega), hS 105 (by omega), hS 106 (by omega)]; exact m.2.2.2.2.2)
theorem VI_r {S S' : am_H} {tx : List Nat} {as : List K_A} {ks : List (List K_A)} {ss : List K_A} (hS : ∀ c, 82 ≤ c → S' c = S c) (v : VI S tx as ks ss) : VI S' tx as ks ss := sH.vi (S := S) (fun c q1 _ => hS c (by omega)) v
theorem model_pure {hC : am_H} (hR : RP hC) : ∃ S1, am_run 0 (fun _ => 0) cM_init (am_g 6) (0 + 1) 0 [some (vr 7 82)] (mh0 hC) = some (S1, none) ∧ LI S1 := by
  obtain ⟨hA, ra, hE⟩ := hR
  have s : sB B0 (mT (mh0 hC)) := by
    have z := mZ_s
    have k := fun c hc j => mT_z hC (c := c) hc j
    unfold sB at z ⊢
    simp (disch := omega) only [k]
    exact z
  have vh := s.vh (VB0.1.vh VB0.2)
  obtain ⟨h1, S1, r1, r2, r3, r4, r5, r6, r7⟩ := new_pair (hA := hA) (SA := mT (mh0 hC)) (o := 17) (o' := 2) (tx := []) vh (by omega) ra.1 ra.2.1 ⟨by rw [ra.2.2.1]; rfl, fun j x h => nil_get h⟩ (s.rh (fun _ _ _ => rfl) ra.2.2.2.1) ra.2.2.2.2.1 ra.2.2.2.2.2.1 ra.2.2.2.2.2.2.1 (Or.inl ra.2.2.2.2.2.2.2) ⟨by rw [mT_z hC (by omega)]; decide +kernel, fun j x h => nil_get h⟩ (by rw [mT_z hC (by omega)]; decide +kernel) (by rw [mT_z hC (by omega)]; decide +kernel) (by rw [mT_z hC (by omega)]; decide +kernel) ⟨by simp, fun x hx => by cases hx⟩
  have e : h1 = hC := by
    rw [hE] at r1
    cases r1
    rfl
  subst e
  refine ⟨S1, by rw [model_run, r2, r0_ok], 17, 2, [], [], [], [], CI_l (fun c hc => ?_) r5, r6, r7⟩
  rw [r4 c (by omega), mT_lo _ hc]
