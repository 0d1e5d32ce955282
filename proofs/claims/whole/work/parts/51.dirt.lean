/-! ROUNDS: the arithmetic of dirt -/
def smv : Nat → (Nat → Int) → Int
  | 0, _ => 0
  | k + 1, f => smv k f + f k
theorem smv_congr {f g : Nat → Int} : ∀ k, (∀ p, p < k → f p = g p) → smv k f = smv k g
  | 0, _ => rfl
  | k + 1, h => by rw [smv, smv, smv_congr k (fun p hp => h p (by omega)), h k (by omega)]
theorem smv_add (f g : Nat → Int) : ∀ k, smv k (fun p => f p + g p) = smv k f + smv k g
  | 0 => rfl
  | k + 1 => by rw [smv, smv, smv, smv_add f g k]; omega
theorem smv_set (f : Nat → Int) (c : Nat) (x : Int) : ∀ k, smv k (fun p => if p = c then x else f p) = smv k f + if c < k then x - f c else 0
  | 0 => rfl
  | k + 1 => by
    rw [smv, smv, smv_set f c x k]
    by_cases h : k = c
    · rw [if_pos h, if_neg (by omega), if_pos (by omega), h]; omega
    · rw [if_neg h]
      by_cases h2 : c < k
      · rw [if_pos h2, if_pos (by omega)]; omega
      · rw [if_neg h2, if_neg (by omega)]; omega
theorem smv_b {f : Nat → Int} {B : Int} : ∀ k, (∀ p, p < k → 0 ≤ f p ∧ f p ≤ B) → 0 ≤ smv k f ∧ smv k f ≤ B * k
  | 0, _ => ⟨Int.le_refl _, by rw [smv]; simp⟩
  | k + 1, h => by
    have h1 := smv_b k (fun p hp => h p (by omega))
    have h2 := h k (by omega)
    have e : B * ((k + 1 : Nat) : Int) = B * k + B := by rw [Int.natCast_add, Int.mul_add]; simp
    rw [smv, e]; omega
def tt : Nat → Int → Int → Int
  | 0, _, _ => 0
  | m + 1, d, x => (d - x) + tt m (d + 1) x
theorem tt_d (d x y : Int) : ∀ (m : Nat) (e : Int), tt m e x - tt m e y = m * (y - x)
  | 0, _ => by show (0 : Int) - 0 = ((0 : Nat) : Int) * _; simp
  | m + 1, e => by
    have := tt_d d x y m (e + 1)
    rw [tt, tt, Int.natCast_add, Int.add_mul]
    simp only [Int.natCast_one, Int.one_mul]
    omega
/-- what a way of cleaning spares -/
def spa (b : Nat → Int) : Int → (Nat → Int) → List Nat → Int
  | _, _, [] => 0
  | d, cl, c :: cs => b c * (d - cl c) * ((cs.length : Int) + 1) + spa b (d + 1) (aS cl c d) cs
def dg (P : Nat) : Nat → Nat → List Nat
  | 0, _ => []
  | m + 1, k => (k / P ^ m) :: dg P m (k % P ^ m)
theorem dg_len (P : Nat) : ∀ m k, (dg P m k).length = m
  | 0, _ => rfl
  | m + 1, k => by rw [dg, List.length_cons, dg_len P m]
theorem dg_c {P m c k : Nat} (hk : k < P ^ m) : dg P (m + 1) (c * P ^ m + k) = c :: dg P m k := by
  have h0 : 0 < P ^ m := by omega
  rw [dg, Nat.mul_comm c, Nat.mul_add_div h0, Nat.div_eq_of_lt hk, Nat.mul_add_mod, Nat.mod_eq_of_lt hk, Nat.add_zero]
/-- all dirt without a keeper, from a day on -/
def gg (b : Nat → Int) (P m : Nat) (d : Int) (cl : Nat → Int) : Int := smv P (fun p => b p * tt m d (cl p))
theorem gg_step (b cl : Nat → Int) {P m c : Nat} (hc : c < P) (d : Int) : smv P (fun p => if p = c then 0 else b p * (d - cl p)) + gg b P m (d + 1) (aS cl c d) = gg b P (m + 1) d cl - b c * (d - cl c) * ((m : Int) + 1) := by
  have h1 := smv_set (fun p => b p * (d - cl p)) c 0 P
  rw [if_pos hc] at h1
  have h2 : gg b P m (d + 1) (aS cl c d) = smv P (fun p => if p = c then b c * tt m (d + 1) d else b p * tt m (d + 1) (cl p)) := by
    unfold gg
    refine smv_congr P (fun p _ => ?_)
    rw [aSn]
    by_cases h : p = c
    · rw [if_pos h, if_pos h, h]
    · rw [if_neg h, if_neg h]
  have h3 := smv_set (fun p => b p * tt m (d + 1) (cl p)) c (b c * tt m (d + 1) d) P
  rw [if_pos hc] at h3
  have h4 : gg b P (m + 1) d cl = smv P (fun p => b p * (d - cl p)) + smv P (fun p => b p * tt m (d + 1) (cl p)) := by
    rw [← smv_add]
    unfold gg
    refine smv_congr P (fun p _ => ?_)
    rw [tt, Int.mul_add]
  have h5 := tt_d d (cl c) d m (d + 1)
  have h6 : b c * tt m (d + 1) (cl c) - b c * tt m (d + 1) d = b c * (d - cl c) * m := by rw [← Int.mul_sub, h5, Int.mul_assoc, Int.mul_comm (m : Int)]
  have h7 : b c * (d - cl c) * ((m : Int) + 1) = b c * (d - cl c) * m + b c * (d - cl c) := by rw [Int.mul_add, Int.mul_one]
  omega
theorem mul_bd {a b A B : Int} (ha : 0 ≤ a ∧ a ≤ A) (hb : 0 ≤ b ∧ b ≤ B) : 0 ≤ a * b ∧ a * b ≤ A * B := ⟨Int.mul_nonneg ha.1 hb.1, Int.mul_le_mul ha.2 hb.2 hb.1 (by omega)⟩
-- the reference's dirt
section
variable {M : pm_M} {P : Nat}
theorem q_d67 {b D : Nat → Int} (hP : P ≤ 8) (hb : ∀ p, p < P → 0 ≤ b p ∧ b p ≤ 999) (hD : ∀ p, p < P → 0 ≤ D p ∧ D p ≤ 5000) (y2 y3 y4 y5 y6 : Int) : ∀ (k n q : Nat) (M : pm_M), q + k = P → k < n → M 88 0 = P → (∀ p, p < P → M 118 p = b p) → (∀ p, p < P → M 117 p = if p < q then D p + b p else D p) →
    ok (f_Q_dirtBy_L67 n y2 y3 y4 y5 y6 q M) (fun z => ∃ M', z = (y2, y3, y4, y5, y6, M') ∧ (∀ p, p < P → M' 117 p = D p + b p) ∧ fr [117] M M') := by
  intro k
  induction k with
  | zero =>
    intro n q M hq hn h8 h118 h117
    cases n with
    | zero => omega
    | succ n =>
      unfold f_Q_dirtBy_L67
      refine ok_pos (by omega) (ok_some ⟨M, rfl, fun p hp => ?_, fr_rf _ _⟩)
      rw [h117 p hp, if_pos (by omega)]
  | succ k ih =>
    intro n q M hq hn h8 h118 h117
    cases n with
    | zero => omega
    | succ n =>
      have e1 := h117 q (by omega)
      rw [if_neg (by omega)] at e1
      have b1 := hb q (by omega)
      have d1 := hD q (by omega)
      unfold f_Q_dirtBy_L67
      rw [tn_nat, e1, h118 q (by omega), i_ad_eq (a := D q) (by omega), i_ad_eq (a := (q : Int)) (by omega)]
      refine ok_neg (by omega) (ok_pos (by omega) (ok_pos (by omega) (ok_pos (by omega) (ok_bd ?_))))
      refine ok_mono (ih n (q + 1) _ (by omega) (by omega) (by rw [msn, if_neg (by omega)]; exact h8) (fun p hp => by rw [msn, if_neg (by omega)]; exact h118 p hp) (fun p hp => ?_)) ?_
      · rw [msc, aSn]
        by_cases h : p = q
        · rw [if_pos h, if_pos (by omega), h]
        · rw [if_neg h, h117 p hp]
          by_cases h2 : p < q
          · rw [if_pos h2, if_pos (by omega)]
          · rw [if_neg h2, if_neg (by omega)]
      · rintro z ⟨M', h1, h2, h3⟩
        exact ⟨M', h1, h2, fr_2 (fr_ms (by decide)) h3⟩
theorem q_d133 {D : Nat → Int} (hP : P ≤ 8) (hD : ∀ p, p < P → 0 ≤ D p ∧ D p ≤ 6000) (h8 : M 88 0 = P) (h117 : ∀ p, p < P → M 117 p = D p) (y2 y4 y5 y6 : Int) {s : Int} (hs : 0 ≤ s ∧ s ≤ 1000000) : ∀ (k n q : Nat), q + k = P → k < n → f_Q_dirtBy_L133 M n y2 (s + smv q D) y4 y5 y6 q = some (y2, s + smv P D, y4, y5, y6) := by
  intro k
  induction k with
  | zero =>
    intro n q hq hn
    cases n with
    | zero => omega
    | succ n =>
      unfold f_Q_dirtBy_L133
      rw [if_pos (by omega), show q = P by omega]
  | succ k ih =>
    intro n q hq hn
    cases n with
    | zero => omega
    | succ n =>
      have b1 := smv_b q (fun p (hp : p < q) => hD p (by omega))
      have d1 := hD q (by omega)
      have := ih n (q + 1) (by omega) (by omega)
      unfold f_Q_dirtBy_L133
      rw [tn_nat, h117 q (by omega), if_neg (by omega), if_pos (by omega), i_ad_eq (a := s + smv q D) (by omega), i_ad_eq (a := (q : Int)) (by omega)]
      rw [smv, ← Int.add_assoc, show ((q + 1 : Nat) : Int) = (q : Int) + 1 by omega] at this
      exact this
theorem pw_pos (hP : 0 < P) (m : Nat) : 0 < P ^ m := Nat.pow_pos hP
theorem pw_le (hP : P ≤ 8) : ∀ m, m ≤ 5 → P ^ m ≤ 8 ^ m := fun m _ => Nat.pow_le_pow_left hP m
theorem q_d58 {b : Nat → Int} {N : Nat} (hP : 0 < P ∧ P ≤ 8) (hN : N ≤ 5) (hb : ∀ p, p < P → 0 ≤ b p ∧ b p ≤ 999) : ∀ (m n d k : Nat) (s y5 : Int) (cl : Nat → Int) (M : pm_M), d + m = N → m < n → k < P ^ m → (∀ m', m = m' + 1 → y5 = ((P ^ m' : Nat) : Int)) → 0 ≤ s → s ≤ 40000 * d → M 88 0 = P → (∀ p, p < P → M 118 p = b p) → (∀ p, p < P → M 117 p = b p * ((d : Int) - 1 - cl p)) → (∀ p, p < P → -1 ≤ cl p ∧ cl p < d) →
    ok (f_Q_dirtBy_L58 n N s k y5 d M) (fun y => y.1 = s + gg b P m d cl - spa b d cl (dg P m k) ∧ fr [117] M y.2) := by
  intro m
  induction m with
  | zero =>
    intro n d k s y5 cl M hd hn hk hy hs1 hs2 h8 h118 h117 hcl
    cases n with
    | zero => omega
    | succ n =>
      unfold f_Q_dirtBy_L58
      refine ok_pos (by omega) (ok_some ⟨?_, fr_rf _ _⟩)
      have : gg b P 0 d cl = 0 := by
        have e := smv_b (f := fun p => b p * tt 0 d (cl p)) (B := 0) P (fun p _ => by simp [tt])
        unfold gg; omega
      show s = s + gg b P 0 d cl - spa b d cl []
      rw [this, spa]; omega
  | succ m ih =>
    intro n d k s y5 cl M hd hn hk hy hs1 hs2 h8 h118 h117 hcl
    cases n with
    | zero => omega
    | succ n =>
      have hpm := pw_pos hP.1 m
      have hple : P ^ m ≤ 8 ^ 4 := Nat.le_trans (pw_le hP.2 m (by omega)) (Nat.pow_le_pow_right (by omega) (by omega))
      have hy5 := hy m rfl
      have hcP : k / P ^ m < P := by
        rw [Nat.div_lt_iff_lt_mul hpm, Nat.mul_comm, ← Nat.pow_succ]; exact hk
      have hcK : k < 8 ^ 5 := Nat.lt_of_lt_of_le hk (Nat.le_trans (pw_le hP.2 (m + 1) (by omega)) (Nat.pow_le_pow_right (by omega) (by omega)))
      have hD : ∀ p, p < P → 0 ≤ b p * ((d : Int) - 1 - cl p) ∧ b p * ((d : Int) - 1 - cl p) ≤ 999 * 4 := fun p hp => mul_bd (hb p hp) (by have := hcl p hp; omega)
      unfold f_Q_dirtBy_L58
      refine ok_neg (by omega) (ok_bind (q_d67 (D := fun p => b p * ((d : Int) - 1 - cl p)) hP.2 hb (fun p hp => ⟨(hD p hp).1, Int.le_trans (hD p hp).2 (by decide)⟩) N s k y5 d P pm_F 0 M (by omega) (by unfold pm_F; omega) h8 h118 (fun p hp => by rw [if_neg (by omega)]; exact h117 p hp)) ?_)
      rintro _ ⟨M1, rfl, g117, gf⟩
      dsimp only
      generalize hc : k / P ^ m = c at hcP
      have e1 : i_dv (k : Int) y5 = (c : Int) := by rw [hy5, i_dv_eq (by omega) (by omega), ← hc]; omega
      have e2 : i_rm (k : Int) y5 = ((k % P ^ m : Nat) : Int) := by rw [hy5, i_rm_eq (by omega) (by omega)]; omega
      have m188 : M1 88 = M 88 := gf 88 (by decide)
      rw [e1, e2]
      refine ok_neg (by omega) (ok_pos (by omega) (ok_bd (ok_neg (by omega) (ok_bd ?_))))
      have e88 : (pm_ms M1 117 (c : Int).toNat 0) 88 0 = P := by rw [msn, if_neg (by omega), m188]; exact h8
      rw [e88]
      refine ok_neg (by omega) (ok_bd ?_)
      have hD2 : ∀ p, p < P → (pm_ms M1 117 (c : Int).toNat 0) 117 p = (fun p => if p = c then 0 else b p * ((d : Int) - cl p)) p := by
        intro p hp
        rw [msc, aSn, tn_nat]
        by_cases h : p = c
        · rw [if_pos h]; dsimp only; rw [if_pos h]
        · rw [if_neg h, g117 p hp]; dsimp only; rw [if_neg h, show (d : Int) - cl p = ((d : Int) - 1 - cl p) + 1 by omega, Int.mul_add, Int.mul_one]
      have hDb : ∀ p, p < P → 0 ≤ (fun p => if p = c then 0 else b p * ((d : Int) - cl p)) p ∧ (fun p => if p = c then 0 else b p * ((d : Int) - cl p)) p ≤ 999 * 5 := by
        intro p hp
        dsimp only
        have := hcl p hp
        have := mul_bd (hb p hp) (b := (d : Int) - cl p) (B := 5) (by omega)
        split <;> omega
      have hsum := smv_b P hDb
      have h133 := q_d133 (M := pm_ms M1 117 (c : Int).toNat 0) hP.2 (fun p hp => ⟨(hDb p hp).1, Int.le_trans (hDb p hp).2 (by decide)⟩) e88 hD2 N ((k % P ^ m : Nat) : Int) (i_dv y5 P) d (s := s) (by omega) P pm_F 0 (by omega) (by unfold pm_F; omega)
      rw [show s + smv 0 (fun p => if p = c then 0 else b p * ((d : Int) - cl p)) = s by rw [smv]; omega, show ((0 : Nat) : Int) = 0 from rfl] at h133
      refine ok_be h133 ?_
      dsimp only
      have hkm : k % P ^ m < P ^ m := Nat.mod_lt _ hpm
      rw [i_ad_eq (a := (d : Int)) (by omega)]
      have hfr : fr [117] M (pm_ms M1 117 (c : Int).toNat 0) := fr_2 gf (fr_ms (by decide))
      refine ok_mono (ih n (d + 1) (k % P ^ m) (s + smv P fun p => if p = c then 0 else b p * ((d : Int) - cl p)) (i_dv y5 P) (aS cl c d) _ (by omega) (by omega) hkm (fun m' hm' => ?_) (by omega) (by omega) e88 (fun p hp => by rw [hfr 118 (by decide)]; exact h118 p hp) (fun p hp => ?_) (fun p hp => ?_)) (fun y hy => ⟨?_, fr_2 hfr hy.2⟩)
      · subst hm'
        have hpm' := pw_pos hP.1 m'
        rw [hy5, i_dv_eq (by omega) (by omega), Nat.pow_succ]
        rw [show ((P ^ m' * P : Nat) : Int) = ((P ^ m' : Nat) : Int) * (P : Int) by simp]
        exact Int.mul_ediv_cancel _ (by omega)
      · rw [hD2 p hp, aSn]
        dsimp only
        by_cases h : p = c
        · rw [if_pos h, if_pos h, show ((d + 1 : Nat) : Int) - 1 - (d : Int) = 0 by omega, Int.mul_zero]
        · rw [if_neg h, if_neg h, show ((d + 1 : Nat) : Int) - 1 - cl p = (d : Int) - cl p by omega]
      · rw [aSn]
        have := hcl p hp
        split <;> omega
      · rw [hy.1, dg, spa, dg_len, hc]
        have := gg_step b cl (m := m) hcP d
        rw [show ((d + 1 : Nat) : Int) = (d : Int) + 1 by omega]
        omega
end
