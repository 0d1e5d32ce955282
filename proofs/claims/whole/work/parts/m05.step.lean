/-! ONE STEP of the pure machine (no calls of methods with code, no returns) -/
def pm_to (pc : Nat) (off : Int) : Nat := ((pc : Int) + off).toNat
def pm_cnd (k : ClassFile.Cond) (a b : Int) (x y : Nat) : Nat := match k with
  | .eq => if a = b then x else y
  | .ne => if a = b then y else x
  | .lt => if a < b then x else y
  | .ge => if b ≤ a then x else y
  | .gt => if b < a then x else y
  | .le => if a ≤ b then x else y
def pm_nx (pc : Nat) (ls : pm_L) (st : List pm_V) (n : Nat) (N : pm_N) (M : pm_M) : Option pm_Q := some (pc, ls, st, n, N, M)
def pm_ldr (v : Option pm_V) (pc : Nat) (ls : pm_L) (st : List pm_V) (n : Nat) (N : pm_N) (M : pm_M) : Option pm_Q := match v with
  | some (.inr (.inr r)) => pm_nx pc ls (.inr (.inr r) :: st) n N M
  | _ => none
def pm_ldi (v : Option pm_V) (pc : Nat) (ls : pm_L) (st : List pm_V) (n : Nat) (N : pm_N) (M : pm_M) : Option pm_Q := match v with
  | some (.inl x) => pm_nx pc ls (.inl x :: st) n N M
  | _ => none
def pm_ldl (v : Option pm_V) (pc : Nat) (ls : pm_L) (st : List pm_V) (n : Nat) (N : pm_N) (M : pm_M) : Option pm_Q := match v with
  | some (.inr (.inl x)) => pm_nx pc ls (.inr (.inl x) :: st) n N M
  | _ => none
def pm_str (k L pc : Nat) (ls : pm_L) (st : List pm_V) (n : Nat) (N : pm_N) (M : pm_M) : Option pm_Q := match st with
  | .inr (.inr r) :: st => if k < L then pm_nx pc ((k, .inr (.inr r)) :: pm_fl1 k ls) st n N M else none
  | _ => none
def pm_sti (k L pc : Nat) (ls : pm_L) (st : List pm_V) (n : Nat) (N : pm_N) (M : pm_M) : Option pm_Q := match st with
  | .inl x :: st => if k < L then pm_nx pc ((k, .inl x) :: pm_fl1 k ls) st n N M else none
  | _ => none
def pm_stl (k L pc : Nat) (ls : pm_L) (st : List pm_V) (n : Nat) (N : pm_N) (M : pm_M) : Option pm_Q := match st with
  | .inr (.inl x) :: st => if k + 1 < L then pm_nx pc ((k, .inr (.inl x)) :: pm_fl2 k ls) st n N M else none
  | _ => none
def pm_b2 (f : Int → Int → Int) (pc : Nat) (ls : pm_L) (st : List pm_V) (n : Nat) (N : pm_N) (M : pm_M) : Option pm_Q := match st with
  | .inl b :: .inl a :: st => pm_nx pc ls (.inl (f a b) :: st) n N M
  | _ => none
def pm_b2z (f : Int → Int → Int) (pc : Nat) (ls : pm_L) (st : List pm_V) (n : Nat) (N : pm_N) (M : pm_M) : Option pm_Q := match st with
  | .inl b :: .inl a :: st => if b = 0 then none else pm_nx pc ls (.inl (f a b) :: st) n N M
  | _ => none
def pm_b1 (f : Int → Int) (pc : Nat) (ls : pm_L) (st : List pm_V) (n : Nat) (N : pm_N) (M : pm_M) : Option pm_Q := match st with
  | .inl a :: st => pm_nx pc ls (.inl (f a) :: st) n N M
  | _ => none
def pm_l2 (f : Int → Int → Int) (pc : Nat) (ls : pm_L) (st : List pm_V) (n : Nat) (N : pm_N) (M : pm_M) : Option pm_Q := match st with
  | .inr (.inl b) :: .inr (.inl a) :: st => pm_nx pc ls (.inr (.inl (f a b)) :: st) n N M
  | _ => none
/-- a field's value, by its kind (0 a number, 1 a reference that stays, 2 one that changes) -/
def pm_fv (fk : Nat × Nat) (c k : Nat) (N : pm_N) (M : pm_M) : Option pm_V := match fk.1 with
  | 0 => some (.inl (M c k))
  | 1 => match N c k with
    | 0 => none
    | a + 1 => some (.inr (.inr (fk.2, a)))
  | _ => if M c k < 1 then none else some (.inr (.inr (fk.2, (M c k - 1).toNat)))
def pm_alen (c : Nat) : Nat := (pm_lay c).2
def pm_sw (pc : Nat) (d lo hi : Int) (offs : Array Int) (x : Int) : Option Nat := if x < lo ∨ hi < x then some (pm_to pc d) else match offs[(x - lo).toNat]? with
  | some o => some (pm_to pc o)
  | none => none
/-- the array kinds: 20 ints, 21 longs, 22 bytes, 23 booleans, 24 texts; 30 the script (length and contents outside) -/
def pm_ak (a : ArrayType) : Nat := match a with
  | .int => 20
  | .long => 21
  | .byte => 22
  | .boolean => 23
  | _ => 98
def pm_st (sL : Nat) (sx : Nat → Int) (L oc : Nat) (i : Instr) (pc : Nat) (ls : pm_L) (st : List pm_V) (n : Nat) (N : pm_N) (M : pm_M) : Option pm_Q := match i with
  | .aload_n k => pm_ldr (pm_get ls k.val) (pc + 1) ls st n N M
  | .aload k => pm_ldr (pm_get ls k) (pc + 2) ls st n N M
  | .iload_n k => pm_ldi (pm_get ls k.val) (pc + 1) ls st n N M
  | .iload k => pm_ldi (pm_get ls k) (pc + 2) ls st n N M
  | .lload_n k => pm_ldl (pm_get ls k.val) (pc + 1) ls st n N M
  | .lload k => pm_ldl (pm_get ls k) (pc + 2) ls st n N M
  | .astore_n k => pm_str k.val L (pc + 1) ls st n N M
  | .astore k => pm_str k L (pc + 2) ls st n N M
  | .istore_n k => pm_sti k.val L (pc + 1) ls st n N M
  | .istore k => pm_sti k L (pc + 2) ls st n N M
  | .lstore_n k => pm_stl k.val L (pc + 1) ls st n N M
  | .lstore k => pm_stl k L (pc + 2) ls st n N M
  | .iconst x => if -1 ≤ x ∧ x ≤ 5 then pm_nx (pc + 1) ls (.inl x :: st) n N M else none
  | .bipush x => if -128 ≤ x ∧ x ≤ 127 then pm_nx (pc + 2) ls (.inl x :: st) n N M else none
  | .sipush x => if -32768 ≤ x ∧ x ≤ 32767 then pm_nx (pc + 3) ls (.inl x :: st) n N M else none
  | .lconst x => pm_nx (pc + 1) ls (.inr (.inl (x.val : Int)) :: st) n N M
  | .ldc k => pm_ldi (pm_kc oc k) (pc + 2) ls st n N M
  | .ldc_w k => pm_ldi (pm_kc oc k) (pc + 3) ls st n N M
  | .ldc2_w k => pm_ldl (pm_kc oc k) (pc + 3) ls st n N M
  | .dup => match st with
    | v :: st => if pm_cat v = 1 then pm_nx (pc + 1) ls (v :: v :: st) n N M else none
    | _ => none
  | .dup2 => match st with
    | v :: w :: st => if pm_cat v = 1 ∧ pm_cat w = 1 then pm_nx (pc + 1) ls (v :: w :: v :: w :: st) n N M else none
    | _ => none
  | .iadd => pm_b2 i_ad (pc + 1) ls st n N M
  | .isub => pm_b2 i_sb (pc + 1) ls st n N M
  | .imul => pm_b2 i_ml (pc + 1) ls st n N M
  | .idiv => pm_b2z i_dv (pc + 1) ls st n N M
  | .irem => pm_b2z i_rm (pc + 1) ls st n N M
  | .iand => pm_b2 i_an (pc + 1) ls st n N M
  | .ior => pm_b2 i_or (pc + 1) ls st n N M
  | .ishl => pm_b2 i_sl (pc + 1) ls st n N M
  | .ishr => pm_b2 i_sr (pc + 1) ls st n N M
  | .iushr => pm_b2 i_us (pc + 1) ls st n N M
  | .ineg => pm_b1 i_ng (pc + 1) ls st n N M
  | .i2b => pm_b1 i_2b (pc + 1) ls st n N M
  | .i2c => pm_b1 i_2c (pc + 1) ls st n N M
  | .ladd => pm_l2 l_ad (pc + 1) ls st n N M
  | .lsub => pm_l2 l_sb (pc + 1) ls st n N M
  | .lmul => pm_l2 l_ml (pc + 1) ls st n N M
  | .ldiv => match st with
    | .inr (.inl b) :: .inr (.inl a) :: st => if b = 0 then none else pm_nx (pc + 1) ls (.inr (.inl (l_dv a b)) :: st) n N M
    | _ => none
  | .lneg => match st with
    | .inr (.inl a) :: st => pm_nx (pc + 1) ls (.inr (.inl (l_ng a)) :: st) n N M
    | _ => none
  | .lcmp => match st with
    | .inr (.inl b) :: .inr (.inl a) :: st => pm_nx (pc + 1) ls (.inl (l_cm a b) :: st) n N M
    | _ => none
  | .i2l => match st with
    | .inl a :: st => pm_nx (pc + 1) ls (.inr (.inl a) :: st) n N M
    | _ => none
  | .l2i => match st with
    | .inr (.inl a) :: st => pm_nx (pc + 1) ls (.inl (l_2i a) :: st) n N M
    | _ => none
  | .iinc k x => match pm_get ls k with
    | some (.inl a) => if k < L then pm_nx (pc + 3) ((k, .inl (i_ad a x)) :: pm_fl1 k ls) st n N M else none
    | _ => none
  | .ifCond c off => match st with
    | .inl a :: st => if 0 ≤ (pc : Int) + off then pm_nx (pm_cnd c a 0 (pm_to pc off) (pc + 3)) ls st n N M else none
    | _ => none
  | .if_icmp c off => match st with
    | .inl b :: .inl a :: st => if 0 ≤ (pc : Int) + off then pm_nx (pm_cnd c a b (pm_to pc off) (pc + 3)) ls st n N M else none
    | _ => none
  | .goto off => if 0 ≤ (pc : Int) + off then pm_nx (pm_to pc off) ls st n N M else none
  | .tableswitch d lo hi offs => match st with
    | .inl x :: st => match pm_sw pc d lo hi offs x with
      | some p => if 0 ≤ (pc : Int) + d ∧ offs.all (fun o => 0 ≤ (pc : Int) + o) then pm_nx p ls st n N M else none
      | none => none
    | _ => none
  | .lookupswitch d ps => match st with
    | .inl x :: st => if (ps.toList.zip (ps.toList.drop 1)).all (fun (a, next) => a.1 < next.1) = true ∧ 0 ≤ (pc : Int) + Op.lookupswitch.offset ps.toList d x then pm_nx (pm_to pc (Op.lookupswitch.offset ps.toList d x)) ls st n N M else none
    | _ => none
  | .getfield k => match st with
    | .inr (.inr (kd, a)) :: st => match pm_fd oc k with
      | some (ci, f) => if kd = ci ∧ ci < 13 ∧ f < pm_nf ci then
          (match pm_fv ((pm_fk ci).getD f (0, 0)) a f N M with
            | some v => pm_nx (pc + 3) ls (v :: st) n N M
            | none => none) else none
      | none => none
    | _ => none
  | .putfield k => match pm_fd oc k with
    | some (ci, f) => (match st with
      | .inl x :: .inr (.inr (kd, a)) :: st => if kd = ci ∧ ci < 13 ∧ f < pm_nf ci ∧ ((pm_fk ci).getD f (9, 0)).1 = 0 ∧ (((pm_fk ci).getD f (9, 0)).2 = 0 ∨ x = 0 ∨ x = 1) then pm_nx (pc + 3) ls st n N (pm_ms M a f x) else none
      | .inr (.inr (kv, v)) :: .inr (.inr (kd, a)) :: st => if kd = ci ∧ ci < 13 ∧ f < pm_nf ci ∧ ((pm_fk ci).getD f (9, 0)).2 = kv ∧ kv < 25 then
          (match ((pm_fk ci).getD f (9, 0)).1 with
            | 1 => if oc = ci then pm_nx (pc + 3) ls st n (pm_ns N a f (v + 1)) M else none
            | 2 => pm_nx (pc + 3) ls st n N (pm_ms M a f ((v : Int) + 1))
            | _ => none) else none
      | _ => none)
    | none => none
  | .arraylength => match st with
    | .inr (.inr (kd, a)) :: st => if kd = 30 ∧ oc = 13 then pm_nx (pc + 1) ls (.inl (sL : Int) :: st) n N M else if 20 ≤ kd ∧ kd < 25 then pm_nx (pc + 1) ls (.inl (pm_alen a : Int) :: st) n N M else none
    | _ => none
  | .iaload => match st with
    | .inl i :: .inr (.inr (kd, a)) :: st => if kd = 20 then (if 0 ≤ i ∧ i < (pm_alen a : Int) then pm_nx (pc + 1) ls (.inl (M a i.toNat) :: st) n N M else none) else if kd = 30 ∧ oc = 13 then (if 0 ≤ i ∧ i < (sL : Int) then pm_nx (pc + 1) ls (.inl (sx i.toNat) :: st) n N M else none) else none
    | _ => none
  | .iastore => match st with
    | .inl x :: .inl i :: .inr (.inr (kd, a)) :: st => if kd = 20 then (if 0 ≤ i ∧ i < (pm_alen a : Int) then pm_nx (pc + 1) ls st n N (pm_ms M a i.toNat x) else none) else none
    | _ => none
  | .laload => match st with
    | .inl i :: .inr (.inr (kd, a)) :: st => if kd = 21 then (if 0 ≤ i ∧ i < (pm_alen a : Int) then pm_nx (pc + 1) ls (.inr (.inl (M a i.toNat)) :: st) n N M else none) else none
    | _ => none
  | .lastore => match st with
    | .inr (.inl x) :: .inl i :: .inr (.inr (kd, a)) :: st => if kd = 21 then (if 0 ≤ i ∧ i < (pm_alen a : Int) then pm_nx (pc + 1) ls st n N (pm_ms M a i.toNat x) else none) else none
    | _ => none
  | .baload => match st with
    | .inl i :: .inr (.inr (kd, a)) :: st => if kd = 22 ∨ kd = 23 then (if 0 ≤ i ∧ i < (pm_alen a : Int) then pm_nx (pc + 1) ls (.inl (M a i.toNat) :: st) n N M else none) else none
    | _ => none
  | .bastore => match st with
    | .inl x :: .inl i :: .inr (.inr (kd, a)) :: st => if kd = 22 then (if 0 ≤ i ∧ i < (pm_alen a : Int) then pm_nx (pc + 1) ls st n N (pm_ms M a i.toNat (i_2b x)) else none) else if kd = 23 ∧ (x = 0 ∨ x = 1) then (if 0 ≤ i ∧ i < (pm_alen a : Int) then pm_nx (pc + 1) ls st n N (pm_ms M a i.toNat x) else none) else none
    | _ => none
  | .aaload => match st with
    | .inl i :: .inr (.inr (kd, a)) :: st => if kd = 24 then (if 0 ≤ i ∧ i < (pm_alen a : Int) then (match N a i.toNat with
        | 0 => none
        | v + 1 => pm_nx (pc + 1) ls (.inr (.inr (10, v)) :: st) n N M) else none) else none
    | _ => none
  | .aastore => match st with
    | .inr (.inr (kv, v)) :: .inl i :: .inr (.inr (kd, a)) :: st => if kd = 24 ∧ kv = 10 then (if 0 ≤ i ∧ i < (pm_alen a : Int) then pm_nx (pc + 1) ls st n (pm_ns N a i.toNat (v + 1)) M else none) else none
    | _ => none
  | .new k => match pm_kn oc k with
    | some ci => if ci < 13 ∧ pm_lay n = (ci, pm_nf ci) then pm_nx (pc + 3) ls (.inr (.inr (ci, n)) :: st) (n + 1) N M else none
    | none => none
  | .newarray ty => match st with
    | .inl x :: st => if 0 ≤ x ∧ x ≤ 100000 ∧ pm_lay n = (pm_ak ty, x.toNat) ∧ pm_ak ty < 24 then pm_nx (pc + 2) ls (.inr (.inr (pm_ak ty, n)) :: st) (n + 1) N M else none
    | _ => none
  | .anewarray k => match st with
    | .inl x :: st => if 0 ≤ x ∧ x ≤ 100000 ∧ pm_lay n = (24, x.toNat) ∧ pm_kn oc k = some 24 then pm_nx (pc + 3) ls (.inr (.inr (24, n)) :: st) (n + 1) N M else none
    | _ => none
  | .invokespecial k => match st with
    | .inr (.inr (kd, _)) :: st => if pm_oi oc k = true ∧ kd < 13 ∧ st.length ≤ 8 then pm_nx (pc + 3) ls st n N M else none
    | _ => none
  | .invokestatic k => match st with
    | .inl len :: .inl dp :: .inr (.inr (kd, d)) :: .inl sp :: .inr (.inr (ks, a)) :: st => if pm_ac oc k = true ∧ kd = 20 ∧ ks = 20 ∧ st.length ≤ 4 then (if (0 ≤ sp ∧ 0 ≤ dp ∧ 0 ≤ len) ∧ sp + len ≤ (pm_alen a : Int) ∧ dp + len ≤ (pm_alen d : Int) then pm_nx (pc + 3) ls st n N (pm_cp M a d sp.toNat dp.toNat len.toNat) else none) else none
    | _ => none
  | _ => none
/-- k steps -/
def pm_ex (sL : Nat) (sx : Nat → Int) (t : pm_T) : Nat → pm_Q → Option pm_Q
  | 0, q => some q
  | k + 1, (pc, ls, st, n, N, M) => match pm_tI t pc with
    | some (i, _) => match pm_st sL sx (pm_tL t) (pm_tO t) i pc ls st n N M with
      | some q => pm_ex sL sx t k q
      | none => none
    | none => none
