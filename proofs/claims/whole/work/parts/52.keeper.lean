/-! ROUNDS: the reference's choice, the keeper's choice -/
section
variable {M : pm_M} {P N : Nat} {b : Nat → Int}
def cl0 : Nat → Int := fun _ => -1
theorem q_d2 (y1 y2 : Int) : ∀ (k n q : Nat) (M : pm_M), q + k = 8 → k < n → (∀ p, p < q → M 117 p = 0) → ok (f_Q_dirtBy_L2 n y1 y2 q M) (fun z => ∃ M', z = (y1, y2, M') ∧ (∀ p, p < 8 → M' 117 p = 0) ∧ fr [117] M M') := by
  intro k
  induction k with
  | zero =>
    intro n q M hq hn h
    cases n with
    | zero => omega
    | succ n =>
      unfold f_Q_dirtBy_L2
      exact ok_pos (by omega) (ok_some ⟨M, rfl, fun p hp => h p (by omega), fr_rf _ _⟩)
  | succ k ih =>
    intro n q M hq hn h
    cases n with
    | zero => omega
    | succ n =>
      unfold f_Q_dirtBy_L2
      rw [tn_nat, i_ad_eq (by omega)]
      refine ok_neg (by omega) (ok_pos (by omega) (ok_bd (ok_mono (ih n (q + 1) _ (by omega) (by omega) (fun p hp => ?_)) ?_)))
      · rw [msc, aSn]
        split
        · rfl
        · exact h p (by omega)
      · rintro z ⟨M', h1, h2, h3⟩
        exact ⟨M', h1, h2, fr_2 (fr_ms (by decide)) h3⟩
theorem q_d32 (hP : 0 < P ∧ P ≤ 8) (hN : N ≤ 5) (h8 : M 88 0 = P) (y3 y4 : Int) : ∀ (k n q : Nat), q + k + 1 = N → k < n → f_Q_dirtBy_L32 M n N y3 y4 ((P ^ q : Nat) : Int) ((q + 1 : Nat) : Int) = some ((N : Int), y3, y4, ((P ^ (N - 1) : Nat) : Int)) := by
  intro k
  induction k with
  | zero =>
    intro n q hq hn
    cases n with
    | zero => omega
    | succ n =>
      unfold f_Q_dirtBy_L32
      rw [if_pos (by omega), show N - 1 = q by omega]
  | succ k ih =>
    intro n q hq hn
    cases n with
    | zero => omega
    | succ n =>
      have hle : P ^ q ≤ 8 ^ 4 := Nat.le_trans (pw_le hP.2 q (by omega)) (Nat.pow_le_pow_right (by omega) (by omega))
      have := ih n (q + 1) (by omega) (by omega)
      have hm : 0 ≤ ((P ^ q : Nat) : Int) * (P : Int) ∧ ((P ^ q : Nat) : Int) * (P : Int) ≤ 4096 * 8 := mul_bd (by omega) (by omega)
      unfold f_Q_dirtBy_L32
      rw [if_neg (by omega), h8, i_ml_eq (by omega), i_ad_eq (by omega)]
      rw [Nat.pow_succ, show ((P ^ q * P : Nat) : Int) = ((P ^ q : Nat) : Int) * (P : Int) by simp, show ((q + 1 + 1 : Nat) : Int) = ((q + 1 : Nat) : Int) + 1 by omega] at this
      exact this
/-- what the round j spares; what lies without a keeper -/
def vv (b : Nat → Int) (P N j : Nat) : Int := spa b 0 cl0 (dg P N j)
def tot (b : Nat → Int) (P N : Nat) : Int := gg b P N 0 cl0
theorem q_dirt (hP : 0 < P ∧ P ≤ 8) (hN : 1 ≤ N ∧ N ≤ 5) (hb : ∀ p, p < P → 0 ≤ b p ∧ b p ≤ 999) (h8 : M 88 0 = P) (h118 : ∀ p, p < P → M 118 p = b p) {j : Nat} (hj : j < P ^ N) : ok (f_Q_dirtBy j N M) (fun y => y.1 = tot b P N - vv b P N j ∧ fr [117] M y.2) := by
  unfold f_Q_dirtBy
  refine ok_bind (q_d2 j N 8 pm_F 0 M (by omega) (by unfold pm_F; omega) (fun p hp => by omega)) ?_
  rintro _ ⟨M1, rfl, g, gf⟩
  dsimp only
  have h81 : M1 88 0 = P := by rw [gf 88 (by decide)]; exact h8
  have := q_d32 (M := M1) hP hN.2 h81 0 j (N - 1) pm_F 0 (by omega) (by unfold pm_F; omega)
  rw [show ((P ^ 0 : Nat) : Int) = 1 from rfl, show ((0 + 1 : Nat) : Int) = 1 from rfl] at this
  refine ok_be this ?_
  dsimp only
  refine ok_bind (q_d58 hP hN.2 hb N pm_F 0 j 0 _ cl0 M1 (by omega) (by unfold pm_F; omega) hj (fun m' hm' => by rw [show N - 1 = m' by omega]) (by omega) (by omega) h81 (fun p hp => by rw [gf 118 (by decide)]; exact h118 p hp) (fun p hp => ?_) (fun p hp => by unfold cl0; omega)) (fun y hy => ok_some ⟨?_, fr_2 gf hy.2⟩)
  · rw [g p (by omega), show ((0 : Nat) : Int) - 1 - cl0 p = 0 from rfl, Int.mul_zero]
  · show y.1 = _
    rw [hy.1, Int.zero_add]; rfl
/-- of the rounds below x the first that is best -/
def PR (P N : Nat) (V : Nat → Int) (x : Nat) (ms : Int) (fn : Nat → Int) : Prop :=
  (x = 0 ∧ ms = -1) ∨ ∃ f, f < x ∧ ms = V f ∧ (∀ j, j < f → V j < ms) ∧ (∀ j, j < x → V j ≤ ms) ∧ ∀ e, e < N → fn e = ((f / P ^ (N - 1 - e) % P : Nat) : Int)
theorem PR_ext {V : Nat → Int} {x x' : Nat} {ms : Int} {fn : Nat → Int} (h : PR P N V x ms fn) (h0 : 0 ≤ ms) (hx : x ≤ x') (hv : ∀ j, x ≤ j → j < x' → V j ≤ ms) : PR P N V x' ms fn := by
  rcases h with ⟨_, h⟩ | ⟨f, h1, h2, h3, h4, h5⟩
  · omega
  · refine Or.inr ⟨f, by omega, h2, h3, fun j hj => ?_, h5⟩
    by_cases h : j < x
    · exact h4 j h
    · exact hv j (by omega) hj
theorem spa_b {B : Int} (hb : ∀ p, p < P → 0 ≤ b p ∧ b p ≤ B) (hB : 0 ≤ B ∧ B ≤ 999) : ∀ (m : Nat) (d : Int) (cl : Nat → Int) (k : Nat), k < P ^ m → (∀ p, p < P → -1 ≤ cl p ∧ cl p < d) → 0 ≤ d → 0 ≤ spa b d cl (dg P m k)
  | 0, d, cl, k, _, _, _ => by rw [dg, spa]; omega
  | m + 1, d, cl, k, hk, hcl, hd => by
    have hp0 : 0 < P := by
      cases P with
      | zero => rw [Nat.zero_pow (by omega)] at hk; omega
      | succ P => omega
    have hpm := pw_pos hp0 m
    have hcP : k / P ^ m < P := by rw [Nat.div_lt_iff_lt_mul hpm, Nat.mul_comm, ← Nat.pow_succ]; exact hk
    rw [dg, spa, dg_len]
    have h1 := hcl _ hcP
    have h2 := hb _ hcP
    have h3 : 0 ≤ b (k / P ^ m) * (d - cl (k / P ^ m)) * ((m : Int) + 1) := Int.mul_nonneg (Int.mul_nonneg h2.1 (by omega)) (by omega)
    have h4 := spa_b hb hB m (d + 1) (aS cl (k / P ^ m) d) (k % P ^ m) (Nat.mod_lt _ hpm) (fun p hp => by rw [aSn]; have := hcl p hp; split <;> omega) (by omega)
    omega
/-- what all days from one on can spare at most -/
def hop (B : Int) (N : Nat) : Nat → Int
  | 0 => 0
  | m + 1 => hop B N m + B * ((N : Int) - (m + 1) + 1) * ((m : Int) + 1)
theorem spa_h {B : Int} (hb : ∀ p, p < P → 0 ≤ b p ∧ b p ≤ B) (hB : 0 ≤ B ∧ B ≤ 999) : ∀ (m : Nat) (d : Nat) (cl : Nat → Int) (k : Nat), d + m = N → k < P ^ m → (∀ p, p < P → -1 ≤ cl p ∧ cl p < d) → spa b d cl (dg P m k) ≤ hop B N m
  | 0, d, cl, k, _, _, _ => by rw [dg, spa, hop]; omega
  | m + 1, d, cl, k, hd, hk, hcl => by
    have hp0 : 0 < P := by
      cases P with
      | zero => rw [Nat.zero_pow (by omega)] at hk; omega
      | succ P => omega
    have hpm := pw_pos hp0 m
    have hcP : k / P ^ m < P := by rw [Nat.div_lt_iff_lt_mul hpm, Nat.mul_comm, ← Nat.pow_succ]; exact hk
    rw [dg, spa, dg_len, hop]
    have h1 := hcl _ hcP
    have h2 := hb _ hcP
    have h3 := mul_bd h2 (b := (d : Int) - cl (k / P ^ m)) (B := (N : Int) - (m + 1) + 1) (by omega)
    have h5 := (mul_bd h3 (b := (m : Int) + 1) (B := (m : Int) + 1) (by omega)).2
    have h4 := spa_h hb hB m (d + 1) (aS cl (k / P ^ m) d) (k % P ^ m) (by omega) (Nat.mod_lt _ hpm) (fun p hp => by rw [aSn]; have := hcl p hp; split <;> omega)
    rw [show ((d + 1 : Nat) : Int) = (d : Int) + 1 by omega] at h4
    omega
theorem hop_b {B : Int} (hB : 0 ≤ B ∧ B ≤ 999) (hN : N ≤ 5) : ∀ m, m ≤ N → 0 ≤ hop B N m ∧ hop B N m ≤ 24975 * m
  | 0, _ => ⟨Int.le_refl _, by rw [hop]; omega⟩
  | m + 1, hm => by
    have h := hop_b hB hN m (by omega)
    have h3 := mul_bd hB (b := (N : Int) - (m + 1) + 1) (B := 5) (by omega)
    have h5 := mul_bd h3 (b := (m : Int) + 1) (B := 5) (by omega)
    rw [hop]; omega
theorem q_dig {q c d e : Nat} (hP : 0 < P) (hc : c < P) (he : e < d + 1) : (q * P + c) / P ^ (d + 1 - 1 - e) % P = if e = d then c else q / P ^ (d - 1 - e) % P := by
  by_cases h : e = d
  · rw [if_pos h, h, show d + 1 - 1 - d = 0 by omega, Nat.pow_zero, Nat.div_one, Nat.mul_add_mod_of_lt hc]
  · rw [if_neg h, show d + 1 - 1 - e = (d - 1 - e) + 1 by omega, Nat.pow_succ, Nat.mul_comm (P ^ _), ← Nat.div_div_eq_div_mul, Nat.mul_comm q, Nat.mul_add_div hP, Nat.div_eq_of_lt hc, Nat.add_zero]
end
