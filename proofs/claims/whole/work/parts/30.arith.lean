/-! ARITHMETIC of the pure memory, in range -/
theorem pm_i32_iff {a : Int} : pm_i32 a ↔ -2147483648 ≤ a ∧ a < 2147483648 := Iff.rfl
theorem i_ad_bm (a b : Int) : i_ad a b = (a + b).bmod 4294967296 := by
  unfold i_ad
  rw [← Int32.ofInt_add, Int32.toInt_ofInt]
theorem i_sb_bm (a b : Int) : i_sb a b = (a - b).bmod 4294967296 := by
  unfold i_sb
  rw [← Int32.ofInt_sub, Int32.toInt_ofInt]
theorem i_ml_bm (a b : Int) : i_ml a b = (a * b).bmod 4294967296 := by
  unfold i_ml
  rw [← Int32.ofInt_mul, Int32.toInt_ofInt]
theorem i_ng_bm (a : Int) : i_ng a = (-a).bmod 4294967296 := by
  unfold i_ng
  rw [← Int32.ofInt_neg, Int32.toInt_ofInt]
theorem bm_eq {a : Int} (h : -2147483648 ≤ a ∧ a < 2147483648) : a.bmod 4294967296 = a := Int.bmod_eq_of_le (by omega) (by omega)
theorem i_ad_eq {a b : Int} (h : -2147483648 ≤ a + b ∧ a + b < 2147483648) : i_ad a b = a + b := by rw [i_ad_bm, bm_eq h]
theorem i_sb_eq {a b : Int} (h : -2147483648 ≤ a - b ∧ a - b < 2147483648) : i_sb a b = a - b := by rw [i_sb_bm, bm_eq h]
theorem i_ml_eq {a b : Int} (h : -2147483648 ≤ a * b ∧ a * b < 2147483648) : i_ml a b = a * b := by rw [i_ml_bm, bm_eq h]
theorem i_ng_eq {a : Int} (h : -2147483648 ≤ -a ∧ -a < 2147483648) : i_ng a = -a := by rw [i_ng_bm, bm_eq h]
theorem l_ad_bm (a b : Int) : l_ad a b = (a + b).bmod 18446744073709551616 := by
  unfold l_ad
  rw [← Int64.ofInt_add, Int64.toInt_ofInt]
theorem l_sb_bm (a b : Int) : l_sb a b = (a - b).bmod 18446744073709551616 := by
  unfold l_sb
  rw [← Int64.ofInt_sub, Int64.toInt_ofInt]
theorem l_ml_bm (a b : Int) : l_ml a b = (a * b).bmod 18446744073709551616 := by
  unfold l_ml
  rw [← Int64.ofInt_mul, Int64.toInt_ofInt]
theorem l_ng_bm (a : Int) : l_ng a = (-a).bmod 18446744073709551616 := by
  unfold l_ng
  rw [← Int64.ofInt_neg, Int64.toInt_ofInt]
theorem bm64 {a : Int} (h : -9223372036854775808 ≤ a ∧ a < 9223372036854775808) : a.bmod 18446744073709551616 = a := Int.bmod_eq_of_le (by omega) (by omega)
theorem l_ad_eq {a b : Int} (h : -9223372036854775808 ≤ a + b ∧ a + b < 9223372036854775808) : l_ad a b = a + b := by rw [l_ad_bm, bm64 h]
theorem l_sb_eq {a b : Int} (h : -9223372036854775808 ≤ a - b ∧ a - b < 9223372036854775808) : l_sb a b = a - b := by rw [l_sb_bm, bm64 h]
theorem l_ml_eq {a b : Int} (h : -9223372036854775808 ≤ a * b ∧ a * b < 9223372036854775808) : l_ml a b = a * b := by rw [l_ml_bm, bm64 h]
theorem l_ng_eq {a : Int} (h : -9223372036854775808 ≤ -a ∧ -a < 9223372036854775808) : l_ng a = -a := by rw [l_ng_bm, bm64 h]
theorem l_2i_eq {a : Int} (h : -2147483648 ≤ a ∧ a < 2147483648) : l_2i a = a := by
  unfold l_2i
  rw [Int64.toInt_toInt32, Int64.toInt_ofInt]
  have hz : Int64.size = 18446744073709551616 := rfl
  rw [hz, bm64 ⟨by omega, by omega⟩]
  exact bm_eq h
/-- division and remainder of numbers that are not negative -/
theorem i_dv_eq {a b : Int} (ha : 0 ≤ a ∧ a < 2147483648) (hb : 0 < b ∧ b < 2147483648) : i_dv a b = a / b := by
  unfold i_dv
  have e1 := e32 (a := a) ⟨by omega, by omega⟩
  have e2 := e32 (a := b) ⟨by omega, by omega⟩
  rw [Int32.toInt_div, e1, e2, Int.tdiv_eq_ediv_of_nonneg ha.1]
  have h1 : a / b ≤ a := Int.ediv_le_self b ha.1
  have h2 : 0 ≤ a / b := Int.ediv_nonneg ha.1 (by omega)
  exact bm_eq ⟨by omega, by omega⟩
theorem i_rm_eq {a b : Int} (ha : 0 ≤ a ∧ a < 2147483648) (hb : 0 < b ∧ b < 2147483648) : i_rm a b = a % b := by
  have hd := i_dv_eq ha hb
  have h0 : i_rm a b = i_sb a (i_ml (i_dv a b) b) := by
    unfold i_rm i_sb i_ml i_dv
    rw [Int32.ofInt_toInt, Int32.ofInt_toInt]
  rw [h0, hd]
  have h1 : a / b * b ≤ a := Int.ediv_mul_le a (by omega)
  have h2 : 0 ≤ a / b := Int.ediv_nonneg ha.1 (by omega)
  have h3 : 0 ≤ a / b * b := Int.mul_nonneg h2 (by omega)
  rw [i_ml_eq ⟨by omega, by omega⟩, i_sb_eq ⟨by omega, by omega⟩]
  have h4 := Int.emod_def a b
  rw [h4, Int.mul_comm b]
-- memory
theorem ms_eq (M : pm_M) (c i : Nat) (x : Int) (j : Nat) : pm_ms M c i x c j = if j = i then x else M c j := by rw [pm_ms_self]
theorem ms_at (M : pm_M) (c i : Nat) (x : Int) : pm_ms M c i x c i = x := by rw [ms_eq, if_pos rfl]
theorem ms_nj (M : pm_M) (c i : Nat) (x : Int) {j : Nat} (h : j ≠ i) : pm_ms M c i x c j = M c j := by rw [ms_eq, if_neg h]
theorem ms_nc (M : pm_M) (c i : Nat) (x : Int) {a : Nat} (h : a ≠ c) : pm_ms M c i x a = M a := pm_ms_ne h
theorem f_Q_in_eq (a b c : Int) (M : pm_M) : f_Q_in a b c M = some (if b ≤ a ∧ a ≤ c then 1 else 0) := by
  unfold f_Q_in
  by_cases h1 : a < b
  · rw [if_pos h1, if_neg (by omega)]
  · rw [if_neg h1]
    by_cases h2 : c < a
    · rw [if_pos h2, if_neg (by omega)]
    · rw [if_neg h2, if_pos (by omega)]
