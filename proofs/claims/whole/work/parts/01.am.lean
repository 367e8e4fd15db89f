/-! THE ABSTRACT MACHINE: heap by cell and place; values int, ref (tag, cell), long; a row: pc, length, instruction, operands, constant -/
abbrev am_H : Type := Nat → Nat → Int32
abbrev am_V : Type := Int32 ⊕ ((Nat × Nat) ⊕ Int64)
abbrev am_L : Type := List (Option am_V)
abbrev am_W : Type := Nat × Nat × Instr × List Nat × Int32
abbrev am_Z : Type := Option (am_H × Option Int32)
abbrev vi (x : Int32) : am_V := Sum.inl x
abbrev vr (t a : Nat) : am_V := Sum.inr (Sum.inl (t, a))
abbrev vl (x : Int64) : am_V := Sum.inr (Sum.inr x)
def am_up (h : am_H) (c i : Nat) (x : Int32) : am_H := va_up h c (upd (h c) i x)
def am_ix : am_L → Nat → Option am_V
  | [], _ => none
  | a :: _, 0 => a
  | _ :: l, n + 1 => am_ix l n
def am_st : am_L → Nat → Option am_V → am_L
  | [], _, _ => []
  | _ :: l, 0, v => v :: l
  | a :: l, n + 1, v => a :: am_st l n v
def am_drp : Nat → List am_W → List am_W
  | 0, l => l
  | _ + 1, [] => []
  | n + 1, _ :: l => am_drp n l
def am_b (n : Nat) (i : Int32) (k : Nat → am_Z) : am_Z := if i < 0 ∨ n ≤ i.toNatClampNeg then none else k i.toNatClampNeg
def am_r1 (r : am_Z) (k : am_H → Int32 → am_Z) : am_Z := match r with
  | some (h, some x) => k h x
  | _ => none
def am_r0 (r : am_Z) (k : am_H → am_Z) : am_Z := match r with
  | some (h, none) => k h
  | _ => none
def am_ldi (l : am_L) (i : Nat) (k : Int32 → am_Z) : am_Z := match am_ix l i with
  | some (Sum.inl x) => k x
  | _ => none
def am_lda (l : am_L) (i : Nat) (k : Nat → Nat → am_Z) : am_Z := match am_ix l i with
  | some (Sum.inr (Sum.inl (t, a))) => k t a
  | _ => none
def am_ldl (l : am_L) (i : Nat) (k : Int64 → am_Z) : am_Z := match am_ix l i with
  | some (Sum.inr (Sum.inr x)) => k x
  | _ => none
/-- no long stands at the place before -/
def am_pre (l : am_L) : Nat → am_Z → am_Z
  | 0, k => k
  | i + 1, k => match am_ix l i with
    | some (Sum.inr (Sum.inr _)) => none
    | _ => k
def am_pi (st : List am_V) (k : Int32 → List am_V → am_Z) : am_Z := match st with
  | Sum.inl x :: r => k x r
  | _ => none
def am_pa (st : List am_V) (k : Nat → Nat → List am_V → am_Z) : am_Z := match st with
  | Sum.inr (Sum.inl (t, a)) :: r => k t a r
  | _ => none
def am_pl (st : List am_V) (k : Int64 → List am_V → am_Z) : am_Z := match st with
  | Sum.inr (Sum.inr x) :: r => k x r
  | _ => none
def am_2 (st : List am_V) (k : Int32 → Int32 → List am_V → am_Z) : am_Z := am_pi st fun b r => am_pi r fun a r => k a b r
def am_2l (st : List am_V) (k : Int64 → Int64 → List am_V → am_Z) : am_Z := am_pl st fun b r => am_pl r fun a r => k a b r
def am_cat : am_V → Nat
  | Sum.inr (Sum.inr _) => 2
  | _ => 1
def am_cats : List am_V → Nat
  | [] => 0
  | v :: l => am_cat v + am_cats l
/-- the n values on top, the lowest first, and the rest -/
def am_tk : Nat → List am_V → List am_V → (List am_V → List am_V → am_Z) → am_Z
  | 0, st, as, k => k as st
  | n + 1, v :: st, as, k => am_tk n st (v :: as) k
  | _ + 1, [], _, _ => none
/-- none of the values is the script -/
def am_n8 : List am_V → Bool
  | [] => true
  | Sum.inr (Sum.inl (t, _)) :: l => if t = 8 then false else am_n8 l
  | _ :: l => am_n8 l
/-- the receiver is an object of that kind -/
def am_rcv (v : Bool) (ci : Nat) (as : List am_V) (k : am_Z) : am_Z := match v, as with
  | false, _ => k
  | true, Sum.inr (Sum.inl (t, _)) :: _ => if t = ci then k else none
  | true, _ => none
def am_sw (x : Int32) (d : Nat) (k : Nat → am_Z) : List Nat → am_Z
  | v :: t :: l => if x = nI v then k t else am_sw x d k l
  | _ => k d
def am_rem (a b : Int32) : Int32 := a - a / b * b
def am_reml (a b : Int64) : Int64 := a - a / b * b
def am_ush (x y : Int32) : Int32 := (x.toUInt32 >>> (y.toUInt32 &&& Int32.toUInt32 31)).toInt32
def am_i2c (x : Int32) : Int32 := (x.toUInt32 % 65536).toInt32
/-- does a jump with this condition go on the branch -/
def am_cnd (c : Jvm.ClassFile.Cond) (a b : Int32) (kt kf : am_Z) : am_Z := match c with
  | .eq => if a = b then kt else kf
  | .ne => if a = b then kf else kt
  | .lt => if a < b then kt else kf
  | .ge => if a < b then kf else kt
  | .gt => if b < a then kt else kf
  | .le => if b < a then kf else kt
section AM
variable (L : Nat) (xs : Nat → Int32) (tb : List am_W) (G : Nat → List am_V → am_H → am_Z) (rc : Nat → am_L → am_H → am_Z) (nx : List am_W → am_L → List am_V → am_H → am_Z)
def am_get (aux : List Nat) (rest : List am_W) (ls : am_L) (st : List am_V) (h : am_H) : am_Z := match aux with
  | kd :: ci :: sl :: tg :: off :: _ => am_pa st fun t o r => if t = ci then (match kd with
    | 0 => nx rest ls (vi (h o sl) :: r) h
    | 1 => nx rest ls (vr tg (o + off) :: r) h
    | _ => nx rest ls (vr tg (h o sl).toNatClampNeg :: r) h) else none
  | _ => none
def am_put (aux : List Nat) (rest : List am_W) (ls : am_L) (st : List am_V) (h : am_H) : am_Z := match aux with
  | kd :: ci :: sl :: tg :: _ => (match kd with
    | 0 => am_pi st fun x r => am_pa r fun t o r => if t = ci then nx rest ls r (am_up h o sl x) else none
    | 2 => am_pa st fun t' a r => am_pa r fun t o r => if t = ci then (if t' = tg then nx rest ls r (am_up h o sl (nI a)) else none) else none
    | _ => none)
  | _ => none
def am_cpy (rest : List am_W) (ls : am_L) (st : List am_V) (h : am_H) : am_Z :=
  am_pi st fun n r => am_pi r fun dp r => am_pa r fun t1 a1 r => am_pi r fun sp r => am_pa r fun t0 a0 r =>
    if t0 < 100 then none else if t1 < 100 then none else if 8 < am_cats r then none else
    if sp < 0 ∨ dp < 0 ∨ n < 0 ∨ t0 - 100 < sp.toNatClampNeg + n.toNatClampNeg ∨ t1 - 100 < dp.toNatClampNeg + n.toNatClampNeg then none else
    nx rest ls r (va_up h a1 (va_cpy (h a0) (h a1) sp.toNatClampNeg dp.toNatClampNeg n.toNatClampNeg))
def am_inv (v : Bool) (aux : List Nat) (rest : List am_W) (ls : am_L) (st : List am_V) (h : am_H) : am_Z := match aux with
  | z :: n :: rt :: ci :: _ => am_tk n st [] fun as r => if 8 < am_cats r then none else if am_n8 as = false then none else am_rcv v ci as (match rt with
    | 0 => am_r0 (G z as h) fun h => nx rest ls r h
    | _ => am_r1 (G z as h) fun h x => nx rest ls (vi x :: r) h)
  | _ => none
def am_ex (ins : Instr) (aux : List Nat) (q : Int32) (rest : List am_W) (ls : am_L) (st : List am_V) (h : am_H) : am_Z := match ins with
  | .nop => (match st, aux with
    | [], i :: _ => rc i ls h
    | _, _ => none)
  | .aload_n n => am_lda ls n.val fun t a => nx rest ls (vr t a :: st) h
  | .aload n => am_lda ls n fun t a => nx rest ls (vr t a :: st) h
  | .iload_n n => am_ldi ls n.val fun x => nx rest ls (vi x :: st) h
  | .iload n => am_ldi ls n fun x => nx rest ls (vi x :: st) h
  | .lload_n n => am_ldl ls n.val fun x => nx rest ls (vl x :: st) h
  | .lload n => am_ldl ls n fun x => nx rest ls (vl x :: st) h
  | .getfield _ => am_get nx aux rest ls st h
  | .putfield _ => am_put nx aux rest ls st h
  | .iconst _ => nx rest ls (vi q :: st) h
  | .bipush _ => nx rest ls (vi q :: st) h
  | .sipush _ => nx rest ls (vi q :: st) h
  | .ldc _ => nx rest ls (vi q :: st) h
  | .ldc_w _ => nx rest ls (vi q :: st) h
  | .lconst _ => nx rest ls (vl q.toInt64 :: st) h
  | .ldc2_w _ => nx rest ls (vl q.toInt64 :: st) h
  | .iaload => am_pi st fun i r => am_pa r fun t a r => if t = 8 then am_b L i (fun j => nx rest ls (vi (xs j) :: r) h) else if t < 100 then none else am_b (t - 100) i (fun j => nx rest ls (vi (h a j) :: r) h)
  | .iastore => am_pi st fun x r => am_pi r fun i r => am_pa r fun t a r => if t < 100 then none else am_b (t - 100) i (fun j => nx rest ls r (am_up h a j x))
  | .caload => am_pi st fun i r => am_pa r fun t a r => if t = 9 then am_b 200 i (fun j => nx rest ls (vi (h a j) :: r) h) else none
  | .castore => am_pi st fun x r => am_pi r fun i r => am_pa r fun t a r => if t = 9 then am_b 200 i (fun j => nx rest ls r (am_up h a j (vp_nar .char x))) else none
  | .arraylength => am_pa st fun t _ r => if t = 8 then nx rest ls (vi (nI L) :: r) h else if t < 100 then none else nx rest ls (vi (nI (t - 100)) :: r) h
  | .istore_n n => am_pi st fun x r => am_pre ls n.val (nx rest (am_st ls n.val (some (vi x))) r h)
  | .istore n => am_pi st fun x r => am_pre ls n (nx rest (am_st ls n (some (vi x))) r h)
  | .astore_n n => am_pa st fun t a r => am_pre ls n.val (nx rest (am_st ls n.val (some (vr t a))) r h)
  | .lstore_n n => am_pl st fun x r => am_pre ls n.val (nx rest (am_st (am_st ls n.val (some (vl x))) (n.val + 1) none) r h)
  | .lstore n => am_pl st fun x r => am_pre ls n (nx rest (am_st (am_st ls n (some (vl x))) (n + 1) none) r h)
  | .iinc n _ => am_ldi ls n fun x => am_pre ls n (nx rest (am_st ls n (some (vi (x + q)))) st h)
  | .iadd => am_2 st fun a b r => nx rest ls (vi (a + b) :: r) h
  | .isub => am_2 st fun a b r => nx rest ls (vi (a - b) :: r) h
  | .imul => am_2 st fun a b r => nx rest ls (vi (a * b) :: r) h
  | .iand => am_2 st fun a b r => nx rest ls (vi (a &&& b) :: r) h
  | .ior => am_2 st fun a b r => nx rest ls (vi (a ||| b) :: r) h
  | .ixor => am_2 st fun a b r => nx rest ls (vi (a ^^^ b) :: r) h
  | .ishl => am_2 st fun a b r => nx rest ls (vi (a <<< (b &&& 31)) :: r) h
  | .ishr => am_2 st fun a b r => nx rest ls (vi (a >>> (b &&& 31)) :: r) h
  | .iushr => am_2 st fun a b r => nx rest ls (vi (am_ush a b) :: r) h
  | .idiv => am_2 st fun a b r => if b = 0 then none else nx rest ls (vi (a / b) :: r) h
  | .irem => am_2 st fun a b r => if b = 0 then none else nx rest ls (vi (am_rem a b) :: r) h
  | .ineg => am_pi st fun a r => nx rest ls (vi (-a) :: r) h
  | .i2c => am_pi st fun a r => nx rest ls (vi (am_i2c a) :: r) h
  | .i2l => am_pi st fun a r => nx rest ls (vl a.toInt64 :: r) h
  | .l2i => am_pl st fun a r => nx rest ls (vi a.toInt32 :: r) h
  | .ladd => am_2l st fun a b r => nx rest ls (vl (a + b) :: r) h
  | .lmul => am_2l st fun a b r => nx rest ls (vl (a * b) :: r) h
  | .lrem => am_2l st fun a b r => if b = 0 then none else nx rest ls (vl (am_reml a b) :: r) h
  | .lcmp => am_2l st fun a b r => nx rest ls (vi (lg_cmp a b) :: r) h
  | .dup => (match st with
    | v :: r => if am_cat v = 1 then nx rest ls (v :: v :: r) h else none
    | _ => none)
  | .dup2 => (match st with
    | v :: w :: r => if am_cat v = 1 then (if am_cat w = 1 then nx rest ls (v :: w :: v :: w :: r) h else none) else none
    | _ => none)
  | .pop => (match st with
    | v :: r => if am_cat v = 1 then nx rest ls r h else none
    | _ => none)
  | .goto _ => (match aux with
    | t :: _ => nx (am_drp t tb) ls st h
    | _ => none)
  | .if_icmp c _ => (match aux with
    | t :: _ => am_2 st fun a b r => am_cnd c a b (nx (am_drp t tb) ls r h) (nx rest ls r h)
    | _ => none)
  | .ifCond c _ => (match aux with
    | t :: _ => am_pi st fun a r => am_cnd c a 0 (nx (am_drp t tb) ls r h) (nx rest ls r h)
    | _ => none)
  | .tableswitch _ _ _ _ => (match aux with
    | d :: l => am_pi st fun x r => am_sw x d (fun t => nx (am_drp t tb) ls r h) l
    | _ => none)
  | .lookupswitch _ _ => (match aux with
    | d :: l => am_pi st fun x r => am_sw x d (fun t => nx (am_drp t tb) ls r h) l
    | _ => none)
  | .invokevirtual _ => am_inv G nx true aux rest ls st h
  | .invokestatic _ => (match aux with
    | 999 :: _ => am_cpy nx rest ls st h
    | _ => am_inv G nx false aux rest ls st h)
  | .ireturn => (match st, aux with
    | [Sum.inl v], 1 :: _ => if v &&& 1 = v then some (h, some v) else none
    | [Sum.inl v], 0 :: _ => some (h, some v)
    | _, _ => none)
  | .return_ => (match st with
    | [] => some (h, none)
    | _ => none)
  | _ => none
end AM
def am_seg (L : Nat) (xs : Nat → Int32) (tb : List am_W) (G : Nat → List am_V → am_H → am_Z) (rc : Nat → am_L → am_H → am_Z) : Nat → List am_W → am_L → List am_V → am_H → am_Z
  | 0, _, _, _, _ => none
  | _ + 1, [], _, _, _ => none
  | k + 1, (_, _, ins, aux, q) :: rest, ls, st, h => am_ex L xs tb G rc (am_seg L xs tb G rc k) ins aux q rest ls st h
def am_run (L : Nat) (xs : Nat → Int32) (tb : List am_W) (G : Nat → List am_V → am_H → am_Z) : Nat → Nat → am_L → am_H → am_Z
  | 0, _, _, _ => none
  | n + 1, i, ls, h => am_seg L xs tb G (am_run L xs tb G n) 1000 (am_drp i tb) ls [] h
def am_ent : List am_V → Nat → am_L
  | [], n => List.replicate n none
  | v :: l, n => match am_cat v with
    | 2 => some v :: none :: am_ent l (n - 2)
    | _ => some v :: am_ent l (n - 1)
def am_G (mt : Nat → List am_W × Nat) : Nat → Nat → List am_V → am_H → am_Z
  | 0, _, _, _ => none
  | D + 1, z, as, h => if (mt z).2 < am_cats as then none else am_run 0 (fun _ => 0) (mt z).1 (am_G mt D) 1000000 0 (am_ent as (mt z).2) h
