/-! the pure memory, its arithmetic -/
abbrev pm_V : Type := Int ⊕ (Int ⊕ (Nat × Nat))
abbrev pm_N : Type := Nat → Nat → Nat
abbrev pm_M : Type := Nat → Nat → Int
abbrev pm_T : Type := MethodName × ByteArray × Nat × Option FieldType × Nat × (Nat → Option (Instr × Nat))
abbrev pm_L : Type := List (Nat × pm_V)
abbrev pm_Q : Type := Nat × pm_L × List pm_V × Nat × pm_N × pm_M
def pm_tY (t : pm_T) : MethodName := t.1
def pm_tB (t : pm_T) : ByteArray := t.2.1
def pm_tL (t : pm_T) : Nat := t.2.2.1
def pm_tR (t : pm_T) : Option FieldType := t.2.2.2.1
def pm_tO (t : pm_T) : Nat := t.2.2.2.2.1
def pm_tI (t : pm_T) : Nat → Option (Instr × Nat) := t.2.2.2.2.2
def pm_cat (v : pm_V) : Nat := match v with
  | .inr (.inl _) => 2
  | _ => 1
def pm_get : pm_L → Nat → Option pm_V
  | [], _ => none
  | q :: t, i => bif Nat.beq q.1 i then some q.2 else pm_get t i
def pm_fl1 (i : Nat) : pm_L → pm_L
  | [] => []
  | q :: t => bif Nat.beq q.1 i || (Nat.beq (q.1 + 1) i && Nat.beq (pm_cat q.2) 2) then pm_fl1 i t else q :: pm_fl1 i t
def pm_fl2 (i : Nat) : pm_L → pm_L
  | [] => []
  | q :: t => bif Nat.beq q.1 i || (Nat.beq q.1 (i + 1) || (Nat.beq (q.1 + 1) i && Nat.beq (pm_cat q.2) 2)) then pm_fl2 i t else q :: pm_fl2 i t
def pm_ms (M : pm_M) (c i : Nat) (x : Int) : pm_M := fun a => if a = c then (fun j => if j = i then x else M c j) else M a
def pm_ns (N : pm_N) (c i : Nat) (x : Nat) : pm_N := fun a => if a = c then (fun j => if j = i then x else N c j) else N a
def pm_cp (M : pm_M) (a d sp dp n : Nat) : pm_M := fun c => if c = d then (fun k => if dp ≤ k ∧ k < dp + n then M a (sp + (k - dp)) else M d k) else M c
def i_ad (a b : Int) : Int := (Int32.ofInt a + Int32.ofInt b).toInt
def i_sb (a b : Int) : Int := (Int32.ofInt a - Int32.ofInt b).toInt
def i_ml (a b : Int) : Int := (Int32.ofInt a * Int32.ofInt b).toInt
def i_dv (a b : Int) : Int := (Int32.ofInt a / Int32.ofInt b).toInt
def i_rm (a b : Int) : Int := (Int32.ofInt a - Int32.ofInt a / Int32.ofInt b * Int32.ofInt b).toInt
def i_an (a b : Int) : Int := (Int32.ofInt a &&& Int32.ofInt b).toInt
def i_or (a b : Int) : Int := (Int32.ofInt a ||| Int32.ofInt b).toInt
def i_sl (a b : Int) : Int := (Int32.ofInt a <<< (Int32.ofInt b &&& 31)).toInt
def i_sr (a b : Int) : Int := (Int32.ofInt a >>> (Int32.ofInt b &&& 31)).toInt
def i_us (a b : Int) : Int := ((Int32.ofInt a).toUInt32 >>> ((Int32.ofInt b).toUInt32 &&& Int32.toUInt32 31)).toInt32.toInt
def i_ng (a : Int) : Int := (-Int32.ofInt a).toInt
def i_2b (a : Int) : Int := (Int32.ofInt a).toInt8.toInt32.toInt
def i_2c (a : Int) : Int := ((Int32.ofInt a).toUInt32 % 65536).toInt32.toInt
def l_ad (a b : Int) : Int := (Int64.ofInt a + Int64.ofInt b).toInt
def l_sb (a b : Int) : Int := (Int64.ofInt a - Int64.ofInt b).toInt
def l_ml (a b : Int) : Int := (Int64.ofInt a * Int64.ofInt b).toInt
def l_dv (a b : Int) : Int := (Int64.ofInt a / Int64.ofInt b).toInt
def l_ng (a : Int) : Int := (-Int64.ofInt a).toInt
def l_2i (a : Int) : Int := (Int64.ofInt a).toInt32.toInt
def l_cm (a b : Int) : Int := if a < b then -1 else if a = b then 0 else 1
abbrev pm_G : Type := Launch × (Nat → ClassId) × (Nat → Nat → Nat) × (Nat → ClassId) × Nat × Nat × (Nat → Int32) × (Nat → Nat) × (Nat → Nat)
def g_L (G : pm_G) : Nat := G.2.2.2.2.2.1
def g_x (G : pm_G) : Nat → Int32 := G.2.2.2.2.2.2.1
def g_sx (G : pm_G) : Nat → Int := fun j => (g_x G j).toInt
def pm_i32 (x : Int) : Prop := -2147483648 ≤ x ∧ x < 2147483648
def pm_i64 (x : Int) : Prop := -9223372036854775808 ≤ x ∧ x < 9223372036854775808
theorem pm_ms_ne {M : pm_M} {c i a : Nat} {x : Int} (h : a ≠ c) : pm_ms M c i x a = M a := by simp [pm_ms, h]
theorem pm_ms_self {M : pm_M} {c i : Nat} {x : Int} : pm_ms M c i x c = fun j => if j = i then x else M c j := by simp [pm_ms]
theorem e32 {a : Int} (h : pm_i32 a) : (Int32.ofInt a).toInt = a := by
  obtain ⟨h1, h2⟩ := h
  rw [Int32.toInt_ofInt]
  have hz : Int32.size = 4294967296 := rfl
  rw [hz]
  exact Int.bmod_eq_of_le (by omega) (by omega)
theorem e64 {a : Int} (h : pm_i64 a) : (Int64.ofInt a).toInt = a := by
  obtain ⟨h1, h2⟩ := h
  rw [Int64.toInt_ofInt]
  have hz : Int64.size = 18446744073709551616 := rfl
  rw [hz]
  exact Int.bmod_eq_of_le (by omega) (by omega)
theorem r32 (x : Int32) : pm_i32 x.toInt := by
  have h1 := x.toInt_lt
  have h2 := x.le_toInt
  exact ⟨by omega, by omega⟩
theorem r64 (x : Int64) : pm_i64 x.toInt := by
  have h1 := x.toInt_lt
  have h2 := x.le_toInt
  exact ⟨by omega, by omega⟩
def pm_bd {α β : Type} (v : α) (k : α → β) : β := k v
/-- the cells of the texts -/
def pm_tx (i : Int) : Nat := 40 + 6 * i.toNat
/-- loops are given so much fuel -/
def pm_F : Nat := 1000000000
def i_mx (a b : Int) : Int := if a < b then b else a
def i_mn (a b : Int) : Int := if b < a then b else a
def i_ab (a : Int) : Int := if 0 ≤ a then a else i_sb 0 a
/-- the literals' own members -/
def x_byt (w : Nat) : List Int := if w = 0 then [100, 117, 101, 32, 112, 97, 121, 115, 32, 98, 105, 114, 100, 115, 32, 112, 114, 105, 99, 101, 32, 102, 97, 108, 108, 115, 32, 112, 117, 116, 32, 111, 102, 102, 32, 99, 104, 97, 110, 103, 101, 32, 112, 97, 115, 115, 32, 111, 110, 32, 119, 105, 116, 104, 32, 111, 114, 32, 97, 110, 100, 32, 110, 111, 116, 32, 112, 108, 105, 110, 116, 104, 32, 115, 104, 97, 100, 101, 32, 118, 105, 101, 119, 32, 100, 97, 121, 32, 99, 108, 111, 115, 101, 32, 104, 101, 97, 100, 32, 102, 97, 109, 101, 32, 110, 97, 109, 101, 32, 114, 105, 103, 104, 116, 32, 111, 119, 101, 115, 32] else [60, 62, 61, 35, 43, 45, 42, 47, 40, 41, 59]
def x_len (w : Nat) : Option Int := some ((x_byt w).length : Int)
def x_chr (w : Nat) (i : Int) : Option Int := if 0 ≤ i ∧ i < ((x_byt w).length : Int) then some ((x_byt w).getD i.toNat 0) else none
def x_find (c : Int) : List Int → Int → Int
  | [], _ => -1
  | b :: l, k => if b = c then k else x_find c l (k + 1)
def x_idx (w : Nat) (c : Int) : Option Int := some (x_find c (x_byt w) 0)
