/-! THE PURE MACHINE: values, memory, one step. int: .inl; long: .inr (.inl _); a reference: .inr (.inr (kind, cell)) -/
abbrev pm_V : Type := Int ⊕ (Int ⊕ (Nat × Nat))
abbrev pm_N : Type := Nat → Nat → Nat
abbrev pm_M : Type := Nat → Nat → Int
abbrev pm_T : Type := MethodName × ByteArray × Nat × Option FieldType × Nat × (Nat → Option (Instr × Nat))
abbrev pm_L : Type := List (Nat × pm_V)
abbrev pm_Q : Type := Nat × pm_L × List pm_V × Nat × pm_N × pm_M
def pm_tY (t : pm_T) : MethodName := t.1
def pm_tB (t : pm_T) : ByteArray := t.2.1
def pm_tL (t : pm_T) : Nat := t.2.2.1
def pm_tR (t : pm_T) : Option FieldType := t.2.2.2.1
def pm_tO (t : pm_T) : Nat := t.2.2.2.2.1
def pm_tI (t : pm_T) : Nat → Option (Instr × Nat) := t.2.2.2.2.2
def pm_cat (v : pm_V) : Nat := match v with
  | .inr (.inl _) => 2
  | _ => 1
def pm_get : pm_L → Nat → Option pm_V
  | [], _ => none
  | q :: t, i => bif Nat.beq q.1 i then some q.2 else pm_get t i
def pm_fl1 (i : Nat) : pm_L → pm_L
  | [] => []
  | q :: t => bif Nat.beq q.1 i || (Nat.beq (q.1 + 1) i && Nat.beq (pm_cat q.2) 2) then pm_fl1 i t else q :: pm_fl1 i t
def pm_fl2 (i : Nat) : pm_L → pm_L
  | [] => []
  | q :: t => bif Nat.beq q.1 i || (Nat.beq q.1 (i + 1) || (Nat.beq (q.1 + 1) i && Nat.beq (pm_cat q.2) 2)) then pm_fl2 i t else q :: pm_fl2 i t
def pm_ms (M : pm_M) (c i : Nat) (x : Int) : pm_M := fun a => if a = c then (fun j => if j = i then x else M c j) else M a
def pm_ns (N : pm_N) (c i : Nat) (x : Nat) : pm_N := fun a => if a = c then (fun j => if j = i then x else N c j) else N a
def pm_cp (M : pm_M) (a d sp dp n : Nat) : pm_M := fun c => if c = d then (fun k => if dp ≤ k ∧ k < dp + n then M a (sp + (k - dp)) else M d k) else M c
-- arithmetic of ints, of longs
def i_ad (a b : Int) : Int := (Int32.ofInt a + Int32.ofInt b).toInt
def i_sb (a b : Int) : Int := (Int32.ofInt a - Int32.ofInt b).toInt
def i_ml (a b : Int) : Int := (Int32.ofInt a * Int32.ofInt b).toInt
def i_dv (a b : Int) : Int := (Int32.ofInt a / Int32.ofInt b).toInt
def i_rm (a b : Int) : Int := (Int32.ofInt a - Int32.ofInt a / Int32.ofInt b * Int32.ofInt b).toInt
def i_an (a b : Int) : Int := (Int32.ofInt a &&& Int32.ofInt b).toInt
def i_or (a b : Int) : Int := (Int32.ofInt a ||| Int32.ofInt b).toInt
def i_sl (a b : Int) : Int := (Int32.ofInt a <<< (Int32.ofInt b &&& 31)).toInt
def i_sr (a b : Int) : Int := (Int32.ofInt a >>> (Int32.ofInt b &&& 31)).toInt
def i_us (a b : Int) : Int := ((Int32.ofInt a).toUInt32 >>> ((Int32.ofInt b).toUInt32 &&& Int32.toUInt32 31)).toInt32.toInt
def i_ng (a : Int) : Int := (-Int32.ofInt a).toInt
def i_2b (a : Int) : Int := (Int32.ofInt a).toInt8.toInt32.toInt
def i_2c (a : Int) : Int := ((Int32.ofInt a).toUInt32 % 65536).toInt32.toInt
def l_ad (a b : Int) : Int := (Int64.ofInt a + Int64.ofInt b).toInt
def l_sb (a b : Int) : Int := (Int64.ofInt a - Int64.ofInt b).toInt
def l_ml (a b : Int) : Int := (Int64.ofInt a * Int64.ofInt b).toInt
def l_dv (a b : Int) : Int := (Int64.ofInt a / Int64.ofInt b).toInt
def l_ng (a : Int) : Int := (-Int64.ofInt a).toInt
def l_2i (a : Int) : Int := (Int64.ofInt a).toInt32.toInt
def l_cm (a b : Int) : Int := if a < b then -1 else if a = b then 0 else 1
