/-! BITS of numbers that are not negative -/
theorem o32 (a : Nat) : (Int32.ofInt (a : Int)).toBitVec = BitVec.ofNat 32 a := by
  show BitVec.ofInt 32 (a : Int) = _
  rw [BitVec.ofInt_natCast]
theorem i_an_n {a b : Nat} (ha : a < 2147483648) : i_an (a : Int) (b : Int) = ((a &&& b : Nat) : Int) := by
  have h : Int32.ofInt (a : Int) &&& Int32.ofInt (b : Int) = Int32.ofInt ((a &&& b : Nat) : Int) := by
    apply Int32.toBitVec_inj.mp
    rw [Int32.toBitVec_and, o32, o32, o32, BitVec.ofNat_and]
  have hl : a &&& b ≤ a := Nat.and_le_left
  unfold i_an
  rw [h]
  exact e32 ⟨by omega, by omega⟩
theorem i_or_n {a b : Nat} (ha : a < 2147483648) (hb : b < 2147483648) : i_or (a : Int) (b : Int) = ((a ||| b : Nat) : Int) := by
  have h : Int32.ofInt (a : Int) ||| Int32.ofInt (b : Int) = Int32.ofInt ((a ||| b : Nat) : Int) := by
    apply Int32.toBitVec_inj.mp
    rw [Int32.toBitVec_or, o32, o32, o32, BitVec.ofNat_or]
  have hl : a ||| b < 2 ^ 31 := Nat.or_lt_two_pow ha hb
  unfold i_or
  rw [h]
  exact e32 ⟨by omega, by omega⟩
theorem i_sl_n : ∀ q : Nat, q < 31 → i_sl 1 (q : Int) = ((2 ^ q : Nat) : Int) := by
  have h : ∀ q : Fin 31, i_sl 1 ((q.val : Nat) : Int) = ((2 ^ q.val : Nat) : Int) := by decide +kernel
  exact fun q hq => h ⟨q, hq⟩
theorem sm31 : ∀ q : Nat, q < 31 → ((Int32.ofInt (q : Int) &&& 31).toBitVec.smod 32).toNat = q := by
  have h : ∀ q : Fin 31, ((Int32.ofInt ((q.val : Nat) : Int) &&& 31).toBitVec.smod 32).toNat = q.val := by decide +kernel
  exact fun q hq => h ⟨q, hq⟩
theorem i_sr_n {a q : Nat} (ha : a < 2147483648) (hq : q < 31) : i_sr (a : Int) (q : Int) = ((a / 2 ^ q : Nat) : Int) := by
  unfold i_sr
  have ea : (Int32.ofInt (a : Int)).toInt = (a : Int) := e32 ⟨by omega, by omega⟩
  rw [← Int32.toInt_toBitVec, Int32.toBitVec_shiftRight]
  show (BitVec.sshiftRight _ ((Int32.ofInt (q : Int) &&& 31).toBitVec.smod 32).toNat).toInt = _
  rw [sm31 q hq, BitVec.toInt_sshiftRight, Int32.toInt_toBitVec, ea, Int.shiftRight_eq_div_pow]
  simp
/-- one bit asked -/
theorem an_sl {a q : Nat} (ha : a < 2147483648) (hq : q < 31) : i_an (a : Int) (i_sl 1 (q : Int)) = 0 ↔ a.testBit q = false := by
  rw [i_sl_n q hq, i_an_n ha]
  constructor
  · intro h
    have h0 : a &&& 2 ^ q = 0 := by omega
    have := Nat.testBit_and a (2 ^ q) q
    rw [h0, Nat.testBit_two_pow_self, Bool.and_true] at this
    rw [← this]; simp
  · intro h
    have h0 : a &&& 2 ^ q = 0 := by
      apply Nat.eq_of_testBit_eq
      intro i
      rw [Nat.testBit_and, Nat.zero_testBit]
      by_cases e : q = i
      · rw [← e, h, Bool.false_and]
      · rw [Nat.testBit_two_pow_of_ne e, Bool.and_false]
    rw [h0]; rfl
theorem sr_an {a q : Nat} (ha : a < 2147483648) (hq : q < 31) : i_an (i_sr (a : Int) (q : Int)) 1 = if a.testBit q then 1 else 0 := by
  have hd : a / 2 ^ q ≤ a := Nat.div_le_self _ _
  rw [i_sr_n ha hq, show (1 : Int) = ((1 : Nat) : Int) from rfl, i_an_n (by omega), Nat.and_one_is_mod, Nat.testBit_eq_decide_div_mod_eq]
  by_cases h : a / 2 ^ q % 2 = 1
  · rw [h]; simp
  · have : a / 2 ^ q % 2 = 0 := by omega
    rw [this]; simp
theorem or_sl {a q : Nat} (ha : a < 2147483648) (hq : q < 31) : i_or (a : Int) (i_sl 1 (q : Int)) = ((a ||| 2 ^ q : Nat) : Int) := by
  have h : 2 ^ q < 2 ^ 31 := Nat.pow_lt_pow_right (by omega) hq
  rw [i_sl_n q hq, i_or_n ha (by omega)]
theorem tb_or (a q i : Nat) : (a ||| 2 ^ q).testBit i = (a.testBit i || decide (q = i)) := by rw [Nat.testBit_or, Nat.testBit_two_pow]
