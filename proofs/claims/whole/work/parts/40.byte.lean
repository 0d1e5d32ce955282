/-! THE TAPE, FAULTS, and what is only asked -/
theorem bt1 (X : Int32) : (X >>> (24:Int32)).toInt = X.toInt >>> 24 := by
  rw [← Int32.toInt_toBitVec, Int32.toBitVec_shiftRight]
  show (X.toBitVec.sshiftRight _).toInt = _
  rw [BitVec.toInt_sshiftRight]
  rfl
theorem bt16 (X : Int32) : (X >>> (16:Int32)).toInt = X.toInt >>> 16 := by
  rw [← Int32.toInt_toBitVec, Int32.toBitVec_shiftRight]
  show (X.toBitVec.sshiftRight _).toInt = _
  rw [BitVec.toInt_sshiftRight]
  rfl
theorem bt8 (X : Int32) : (X >>> (8:Int32)).toInt = X.toInt >>> 8 := by
  rw [← Int32.toInt_toBitVec, Int32.toBitVec_shiftRight]
  show (X.toBitVec.sshiftRight _).toInt = _
  rw [BitVec.toInt_sshiftRight]
  rfl
theorem bt0 (X : Int32) : (X >>> (0:Int32)).toInt = X.toInt >>> 0 := by
  rw [← Int32.toInt_toBitVec, Int32.toBitVec_shiftRight]
  show (X.toBitVec.sshiftRight _).toInt = _
  rw [BitVec.toInt_sshiftRight]
  rfl
theorem bt2 (u : UInt32) : (u.toInt32 &&& 255).toInt = ((u.toNat % 256 : Nat) : Int) := by
  have h : u.toInt32 &&& 255 = (u &&& 255).toInt32 := by simp
  rw [h]
  have h2 : (u &&& 255).toNat = u.toNat % 256 := by
    rw [UInt32.toNat_and]
    exact Nat.and_two_pow_sub_one_eq_mod u.toNat 8
  rw [← h2]
  have h3 : (u &&& 255).toNat < 256 := by rw [h2]; omega
  generalize u &&& 255 = w at *
  rw [← Int32.toInt_toBitVec, UInt32.toBitVec_toInt32, BitVec.toInt_eq_toNat_of_lt]
  · rfl
  · show 2 * w.toNat < 4294967296
    omega
theorem bt3 (X : Int32) : (X.toUInt32.toNat : Int) = X.toInt % 4294967296 := by
  have := X.toUInt32.toNat_lt
  rw [← Int32.toInt_toBitVec, BitVec.toInt_eq_toNat_bmod]
  show (X.toUInt32.toNat : Int) = ((X.toUInt32.toNat : Int).bmod 4294967296) % 4294967296
  unfold Int.bmod
  dsimp only
  split <;> omega
theorem bt4 (X : Int32) : (X.toInt8.toInt32).toInt = X.toInt.bmod 256 := by
  rw [Int8.toInt_toInt32, Int32.toInt_toInt8]

theorem bm256 (x : Int) : (x.bmod 256) % 256 = x % 256 ∧ -128 ≤ x.bmod 256 ∧ x.bmod 256 < 128 := by
  unfold Int.bmod
  dsimp only
  split <;> omega
theorem ofi (X : Int32) : Int32.ofInt X.toInt = X := Int32.ofInt_toInt X
/-- one byte of an int, as the class and as the reference cuts it out -/
theorem byte_eq {x s : Int} (hs : s = 24 ∨ s = 16 ∨ s = 8 ∨ s = 0) : i_an (i_us x s) 255 = (i_2b (i_2b (i_sr x s))) % 256 ∧ -128 ≤ i_2b (i_2b (i_sr x s)) ∧ i_2b (i_2b (i_sr x s)) < 128 := by
  have e1 : ∀ Y : Int32, i_2b (i_2b Y.toInt) = Y.toInt.bmod 256 := by
    intro Y
    unfold i_2b
    rw [ofi, bt4, ofi, bt4]
    have := bm256 Y.toInt
    have h2 := bm256 (Y.toInt.bmod 256)
    omega
  unfold i_an i_us i_sr
  generalize Int32.ofInt x = X
  rw [e1, ofi]
  have hb := bm256 ((X >>> (Int32.ofInt s &&& 31)).toInt)
  refine ⟨?_, hb.2⟩
  rw [hb.1]
  have h2 := bt2 (X.toUInt32 >>> ((Int32.ofInt s).toUInt32 &&& Int32.toUInt32 31))
  rw [show Int32.ofInt 255 = 255 from rfl, h2]
  have h3 := bt3 X
  have h4 := X.toInt_lt
  have h5 := X.le_toInt
  rcases hs with rfl | rfl | rfl | rfl
  · rw [show Int32.ofInt 24 &&& 31 = 24 by decide, bt1, Int.shiftRight_eq_div_pow, show (Int32.ofInt 24).toUInt32 &&& Int32.toUInt32 31 = 24 by decide, UInt32.toNat_shiftRight, Nat.shiftRight_eq_div_pow]
    show (((X.toUInt32.toNat / 16777216) % 256 : Nat) : Int) = X.toInt / 16777216 % 256
    omega
  · rw [show Int32.ofInt 16 &&& 31 = 16 by decide, bt16, Int.shiftRight_eq_div_pow, show (Int32.ofInt 16).toUInt32 &&& Int32.toUInt32 31 = 16 by decide, UInt32.toNat_shiftRight, Nat.shiftRight_eq_div_pow]
    show (((X.toUInt32.toNat / 65536) % 256 : Nat) : Int) = X.toInt / 65536 % 256
    omega
  · rw [show Int32.ofInt 8 &&& 31 = 8 by decide, bt8, Int.shiftRight_eq_div_pow, show (Int32.ofInt 8).toUInt32 &&& Int32.toUInt32 31 = 8 by decide, UInt32.toNat_shiftRight, Nat.shiftRight_eq_div_pow]
    show (((X.toUInt32.toNat / 256) % 256 : Nat) : Int) = X.toInt / 256 % 256
    omega
  · rw [show Int32.ofInt 0 &&& 31 = 0 by decide, bt0, Int.shiftRight_eq_div_pow, show (Int32.ofInt 0).toUInt32 &&& Int32.toUInt32 31 = 0 by decide, UInt32.toNat_shiftRight, Nat.shiftRight_eq_div_pow]
    show (((X.toUInt32.toNat / 1) % 256 : Nat) : Int) = X.toInt / 1 % 256
    omega

-- the tape
def TP (M : pm_M) : Prop := (0 ≤ M 37 1 ∧ M 37 1 ≤ 300) ∧ M 87 3 = M 37 1 ∧ ∀ k : Nat, (k : Int) < M 37 1 → M 38 k = (M 90 k) % 256 ∧ -128 ≤ M 90 k ∧ M 90 k < 128
def TF (M : pm_M) : Prop := M 66 7 = M 87 4 ∧ M 66 8 = M 87 5
/-- four bytes on the class's side -/
theorem x_add4 {L : Nat} (x : Int) : ∀ (k n : Nat) (s : Int) (M : pm_M), s = 8 * k - 8 → k ≤ 4 → k < n → M 37 1 = L → L + k ≤ 300 →
    ok (f_Tape_add_L3 n x s M) (fun M' => M' 37 = aS (M 37) 1 (L + k) ∧ (∀ j, M' 38 j = if L ≤ j ∧ j < L + k then i_an (i_us x (s - 8 * (j - L))) 255 else M 38 j) ∧ fr [37, 38] M M') := by
  intro k
  induction k generalizing L with
  | zero =>
    intro n s M hs hk hn hL hb
    cases n with
    | zero => omega
    | succ n =>
      unfold f_Tape_add_L3
      refine ok_pos (by omega) (ok_some ⟨?_, fun j => by rw [if_neg (by omega)], fr_rf _ _⟩)
      funext j
      rw [aSn]
      by_cases hj : j = 1
      · rw [if_pos hj, hj, hL]; omega
      · rw [if_neg hj]
  | succ k ih =>
    intro n s M hs hk hn hL hb
    cases n with
    | zero => omega
    | succ n =>
      unfold f_Tape_add_L3
      rw [hL, tn_nat, i_ad_eq (a := s) (by omega)]
      refine ok_neg (by omega) (ok_neg (by omega) (ok_pos (by omega) (ok_bd (ok_bd ?_))))
      rw [show pm_ms M 38 L (i_an (i_us x s) 255) 37 1 = L by rw [msn, if_neg (by omega)]; exact hL, i_ad_eq (by omega)]
      generalize hM2 : pm_ms (pm_ms M 38 L (i_an (i_us x s) 255)) 37 1 ((L : Int) + 1) = M2
      have g37 : M2 37 = aS (M 37) 1 (L + 1) := by rw [← hM2, msc, msn, if_neg (by omega)]
      have g38 : M2 38 = aS (M 38) L (i_an (i_us x s) 255) := by rw [← hM2, msn, if_neg (by omega), msc]
      have gf : fr [37, 38] M M2 := by rw [← hM2]; exact fr_2 (fr_ms (by decide)) (fr_ms (by decide))
      refine ok_mono (ih (L := L + 1) n (s + -8) M2 (by omega) (by omega) (by omega) (by rw [g37, aSn, if_pos rfl]; omega) (by omega)) (fun M' h => ⟨?_, fun j => ?_, fr_2 gf h.2.2⟩)
      · rw [h.1, g37]
        funext j
        rw [aSn, aSn, aSn]
        by_cases hj : j = 1
        · rw [if_pos hj, if_pos hj]; omega
        · rw [if_neg hj, if_neg hj, if_neg hj]
      · rw [h.2.1 j, g38, aSn]
        by_cases hj : j = L
        · rw [if_neg (by omega), if_pos hj, if_pos (by omega), show s - 8 * ((j : Int) - (L : Int)) = s by omega]
        · rw [if_neg hj]
          by_cases h2 : L + 1 ≤ j ∧ j < L + 1 + k
          · rw [if_pos h2, if_pos (by omega), show s + -8 - 8 * ((j : Int) - ((L + 1 : Nat) : Int)) = s - 8 * ((j : Int) - (L : Int)) by omega]
          · rw [if_neg h2, if_neg (by omega)]
theorem q_add4 {L : Nat} (x : Int) : ∀ (k n : Nat) (s : Int) (M : pm_M), s = 8 * k - 8 → k ≤ 4 → k < n → M 87 3 = L → L + k ≤ 300 →
    ok (f_Q_feeds_L3 n x s M) (fun M' => M' 87 = aS (M 87) 3 (L + k) ∧ (∀ j, M' 90 j = if L ≤ j ∧ j < L + k then i_2b (i_2b (i_sr x (s - 8 * (j - L)))) else M 90 j) ∧ fr [87, 90] M M') := by
  intro k
  induction k generalizing L with
  | zero =>
    intro n s M hs hk hn hL hb
    cases n with
    | zero => omega
    | succ n =>
      unfold f_Q_feeds_L3
      refine ok_pos (by omega) (ok_some ⟨?_, fun j => by rw [if_neg (by omega)], fr_rf _ _⟩)
      funext j
      rw [aSn]
      by_cases hj : j = 3
      · rw [if_pos hj, hj, hL]; omega
      · rw [if_neg hj]
  | succ k ih =>
    intro n s M hs hk hn hL hb
    cases n with
    | zero => omega
    | succ n =>
      unfold f_Q_feeds_L3
      rw [hL, tn_nat, i_sb_eq (a := s) (by omega)]
      refine ok_neg (by omega) (ok_pos (by omega) (ok_bd (ok_bd ?_)))
      rw [show pm_ms M 90 L (i_2b (i_2b (i_sr x s))) 87 3 = L by rw [msn, if_neg (by omega)]; exact hL, i_ad_eq (by omega)]
      generalize hM2 : pm_ms (pm_ms M 90 L (i_2b (i_2b (i_sr x s)))) 87 3 ((L : Int) + 1) = M2
      have g37 : M2 87 = aS (M 87) 3 (L + 1) := by rw [← hM2, msc, msn, if_neg (by omega)]
      have g38 : M2 90 = aS (M 90) L (i_2b (i_2b (i_sr x s))) := by rw [← hM2, msn, if_neg (by omega), msc]
      have gf : fr [87, 90] M M2 := by rw [← hM2]; exact fr_2 (fr_ms (by decide)) (fr_ms (by decide))
      refine ok_mono (ih (L := L + 1) n (s - 8) M2 (by omega) (by omega) (by omega) (by rw [g37, aSn, if_pos rfl]; omega) (by omega)) (fun M' h => ⟨?_, fun j => ?_, fr_2 gf h.2.2⟩)
      · rw [h.1, g37]
        funext j
        rw [aSn, aSn, aSn]
        by_cases hj : j = 3
        · rw [if_pos hj, if_pos hj]; omega
        · rw [if_neg hj, if_neg hj, if_neg hj]
      · rw [h.2.1 j, g38, aSn]
        by_cases hj : j = L
        · rw [if_neg (by omega), if_pos hj, if_pos (by omega), show s - 8 * ((j : Int) - (L : Int)) = s by omega]
        · rw [if_neg hj]
          by_cases h2 : L + 1 ≤ j ∧ j < L + 1 + k
          · rw [if_pos h2, if_pos (by omega), show s - 8 - 8 * ((j : Int) - ((L + 1 : Nat) : Int)) = s - 8 * ((j : Int) - (L : Int)) by omega]
          · rw [if_neg h2, if_neg (by omega)]
/-- the bytes behind one int -/
def by4 (f : Nat → Int) (L : Nat) (x : Int) (w : Int → Int → Int) : Nat → Int := fun j => if L ≤ j ∧ j < L + 4 then w x (24 - 8 * (j - L)) else f j
def wX (x s : Int) : Int := i_an (i_us x s) 255
def wQ (x s : Int) : Int := i_2b (i_2b (i_sr x s))
theorem x_add {L : Nat} (x : Int) {M : pm_M} (hL : M 37 1 = L) (hb : L + 4 ≤ 300) : ok (f_Tape_add x M) (fun M' => M' 37 = aS (M 37) 1 (L + 4) ∧ M' 38 = by4 (M 38) L x wX ∧ fr [37, 38] M M') := by
  unfold f_Tape_add
  refine ok_bind (x_add4 x 4 pm_F 24 M (by omega) (by omega) (by unfold pm_F; omega) hL hb) (fun M' h => ok_some ⟨h.1, funext h.2.1, h.2.2⟩)
theorem q_add {L : Nat} (x : Int) {M : pm_M} (hL : M 87 3 = L) (hb : L + 4 ≤ 300) : ok (f_Q_feeds x M) (fun M' => M' 87 = aS (M 87) 3 (L + 4) ∧ M' 90 = by4 (M 90) L x wQ ∧ fr [87, 90] M M') := by
  unfold f_Q_feeds
  refine ok_bind (q_add4 x 4 pm_F 24 M (by omega) (by omega) (by unfold pm_F; omega) hL hb) (fun M' h => ok_some ⟨h.1, funext h.2.1, h.2.2⟩)
/-- tape pictures that agree on the first L bytes -/
def tpr (L : Nat) (f g : Nat → Int) : Prop := ∀ k, k < L → f k = g k % 256 ∧ -128 ≤ g k ∧ g k < 128
theorem tpr4 {L : Nat} {f g : Nat → Int} (h : tpr L f g) (x : Int) : tpr (L + 4) (by4 f L x wX) (by4 g L x wQ) := by
  intro k hk
  unfold by4
  by_cases h1 : L ≤ k ∧ k < L + 4
  · rw [if_pos h1, if_pos h1]
    exact byte_eq (by omega)
  · rw [if_neg h1, if_neg h1]; exact h k (by omega)
theorem st_feed {M : pm_M} (h : TP M) (a b c d e : Int) : ok (f_X_feed a b c d e M) (fun y => ok (f_Q_feed a b c d e y.2) (fun z => y.1 = z.1 ∧ TP z.2 ∧ fr [37, 38, 87, 90] M z.2 ∧ ∀ k, k ≠ 3 → z.2 87 k = M 87 k)) := by
  obtain ⟨h1, h2, h3⟩ := h
  obtain ⟨L, eL⟩ : ∃ L : Nat, M 37 1 = L := ⟨(M 37 1).toNat, by omega⟩
  rw [eL] at h1 h2 h3
  have h3' : tpr L (M 38) (M 90) := fun k hk => h3 k (by omega)
  unfold f_X_feed f_Tape_hasRoomForTwenty
  rw [eL, i_ad_eq (by omega)]
  by_cases hr : (300 : Int) < L + 20
  · rw [if_pos hr]
    refine ok_be rfl (ok_pos rfl (ok_some ?_))
    show ok (f_Q_feed a b c d e M) _
    unfold f_Q_feed
    rw [h2, i_ad_eq (by omega)]
    exact ok_neg (by omega) (ok_some ⟨rfl, ⟨by dsimp only; omega, by dsimp only; omega, fun k hk => h3 k (by dsimp only at hk; omega)⟩, fr_rf _ _, fun _ _ => rfl⟩)
  · rw [if_neg hr]
    refine ok_be rfl (ok_neg (by omega) ?_)
    refine ok_bind (x_add (L := L) a eL (by omega)) (fun M1 k1 => ?_)
    refine ok_bind (x_add (L := L + 4) b (by rw [k1.1, aSn, if_pos rfl]; omega) (by omega)) (fun M2 k2 => ?_)
    refine ok_bind (x_add (L := L + 8) c (by rw [k2.1, aSn, if_pos rfl]; omega) (by omega)) (fun M3 k3 => ?_)
    refine ok_bind (x_add (L := L + 12) d (by rw [k3.1, aSn, if_pos rfl]; omega) (by omega)) (fun M4 k4 => ?_)
    refine ok_bind (x_add (L := L + 16) e (by rw [k4.1, aSn, if_pos rfl]; omega) (by omega)) (fun M5 k5 => ?_)
    unfold f_Tape_length
    have f5 : fr [37, 38] M M5 := fr_2 (fr_2 (fr_2 (fr_2 k1.2.2 k2.2.2) k3.2.2) k4.2.2) k5.2.2
    have e5 : M5 37 1 = (L : Int) + 20 := by rw [k5.1, aSn, if_pos rfl]; omega
    refine ok_be rfl (ok_some ?_)
    show ok (f_Q_feed a b c d e M5) _
    unfold f_Q_feed
    have g0 : M5 87 3 = L := by rw [f5 87 (by decide)]; exact h2
    rw [g0, i_ad_eq (by omega)]
    refine ok_pos (by omega) ?_
    refine ok_bind (q_add (L := L) a g0 (by omega)) (fun N1 q1 => ?_)
    refine ok_bind (q_add (L := L + 4) b (by rw [q1.1, aSn, if_pos rfl]; omega) (by omega)) (fun N2 q2 => ?_)
    refine ok_bind (q_add (L := L + 8) c (by rw [q2.1, aSn, if_pos rfl]; omega) (by omega)) (fun N3 q3 => ?_)
    refine ok_bind (q_add (L := L + 12) d (by rw [q3.1, aSn, if_pos rfl]; omega) (by omega)) (fun N4 q4 => ?_)
    refine ok_bind (q_add (L := L + 16) e (by rw [q4.1, aSn, if_pos rfl]; omega) (by omega)) (fun N5 q5 => ?_)
    have f6 : fr [87, 90] M5 N5 := fr_2 (fr_2 (fr_2 (fr_2 q1.2.2 q2.2.2) q3.2.2) q4.2.2) q5.2.2
    have e6 : N5 87 3 = (L : Int) + 20 := by rw [q5.1, aSn, if_pos rfl]; omega
    have e7 : N5 37 1 = (L : Int) + 20 := by rw [f6 37 (by decide)]; exact e5
    refine ok_some ⟨by dsimp only; rw [e5, e6], ⟨?_, ?_, ?_⟩, fr_tr f5 f6 (by decide) (by decide), fun k hk => ?_⟩
    · dsimp only; omega
    · dsimp only; omega
    · dsimp only
      rw [e7]
      have t : tpr (L + 20) (N5 38) (N5 90) := by
        rw [f6 38 (by decide), k5.2.1, k4.2.1, k3.2.1, k2.2.1, k1.2.1, q5.2.1, q4.2.1, q3.2.1, q2.2.1, q1.2.1, f5 90 (by decide)]
        exact tpr4 (tpr4 (tpr4 (tpr4 (tpr4 h3' a) b) c) d) e
      intro k hk
      exact t k (by omega)
    · dsimp only
      rw [q5.1, q4.1, q3.1, q2.1, q1.1, aSn, if_neg hk, aSn, if_neg hk, aSn, if_neg hk, aSn, if_neg hk, aSn, if_neg hk, f5 87 (by decide)]
theorem st_end {M : pm_M} (h : TP M) (n : Int) : ok (f_X_end n M) (fun y => ok (f_Q_end n y.2) (fun z => y.1 = z.1 ∧ TP z.2 ∧ fr [37, 38, 87, 90] M z.2 ∧ ∀ k, k ≠ 3 → z.2 87 k = M 87 k)) := by
  obtain ⟨h1, h2, h3⟩ := id h
  unfold f_X_end
  have no : ¬ (0 ≤ n ∧ n ≤ M 37 1) → ok (f_Q_end n M) (fun z => -1 = z.1 ∧ TP z.2 ∧ fr [37, 38, 87, 90] M z.2 ∧ ∀ k, k ≠ 3 → z.2 87 k = M 87 k) := by
    intro hn
    unfold f_Q_end
    rw [h2]
    exact ok_dc (f_Q_in_eq n 0 (M 37 1) M) (fun z => absurd z hn) (fun _ => ok_pos rfl (ok_some ⟨rfl, h, fr_rf _ _, fun _ _ => rfl⟩))
  refine ok_ite (fun h4 => ok_some (no (by omega))) (fun h4 => ?_)
  unfold f_Tape_length
  refine ok_be rfl ?_
  refine ok_ite (fun h5 => ?_) (fun h5 => ok_some (no (by omega)))
  unfold f_Tape_cut
  refine ok_be rfl (ok_some ?_)
  unfold f_Q_end
  dsimp only
  rw [show pm_ms M 37 1 n 87 = M 87 from rfl, h2]
  refine ok_dc (f_Q_in_eq n 0 (M 37 1) _) (fun z => ok_neg (by omega) ?_) (fun z => absurd ⟨by omega, by omega⟩ z)
  refine ok_bd (ok_some ⟨rfl, ⟨?_, rfl, ?_⟩, fr_tr (S1 := [37]) (S2 := [87]) (fr_ms (by decide)) (fr_ms (by decide)) (by decide) (by decide), fun k hk => ?_⟩)
  · show 0 ≤ n ∧ n ≤ 300
    omega
  · intro k hk
    exact h3 k (Int.lt_of_lt_of_le hk h5)
  · show pm_ms (pm_ms M 37 1 n) 87 3 n 87 k = _
    rw [msc, aSn, if_neg hk]; rfl
theorem st_fault {M : pm_M} (h : TF M) (x : Int) : ok (f_X_fault x M) (fun y => f_Q_fault x M = some y) := by
  unfold f_X_fault f_Q_fault f_Reader_latestFault f_Reader_latestPlace
  by_cases h0 : x = 0
  · rw [if_pos h0, if_pos h0, ob]; exact ok_some (congrArg some h.1.symm)
  · rw [if_neg h0, if_neg h0]
    by_cases h1 : x = 1
    · rw [if_pos h1, if_pos h1, ob]; exact ok_some (congrArg some h.2.symm)
    · rw [if_neg h1, if_neg h1]; exact ok_some rfl
