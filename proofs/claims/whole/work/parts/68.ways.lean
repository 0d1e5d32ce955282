/-! NIGHTS: the reference's ways -/
def cnt (r : Nat → Int) : Nat → Nat
  | 0 => 0
  | k + 1 => cnt r k + if r k = -1 then 0 else 1
def dgt (r : Nat → Int) (q : Nat) : Nat := if r q = -1 then 0 else cnt r (q + 1)
theorem cnt_le (r : Nat → Int) : ∀ k, cnt r k ≤ k
  | 0 => Nat.le_refl _
  | k + 1 => by have := cnt_le r k; rw [cnt]; split <;> omega
theorem dgt_lt (r : Nat → Int) {q : Nat} (hq : q < 5) : dgt r q < 6 := by
  have := cnt_le r (q + 1)
  unfold dgt; split <;> omega
/-- the digit of a place in an order -/
def dS (r : Nat → Int) (s p : Nat) : Nat := dgt r ((wr s).getD p 0)
def phi (r : Nat → Int) (s : Nat) : Nat := dS r s 0 + 6 * dS r s 1 + 36 * dS r s 2 + 216 * dS r s 3 + 1296 * dS r s 4
theorem dS_lt (r : Nat → Int) {s p : Nat} (hs : s < 120) (hp : p < 5) : dS r s p < 6 := dgt_lt r (getD_lt hs hp)
theorem phi_lt (r : Nat → Int) {s : Nat} (hs : s < 120) : phi r s < 7776 := by
  have h0 := dS_lt r hs (show 0 < 5 by omega)
  have h1 := dS_lt r hs (show 1 < 5 by omega)
  have h2 := dS_lt r hs (show 2 < 5 by omega)
  have h3 := dS_lt r hs (show 3 < 5 by omega)
  have h4 := dS_lt r hs (show 4 < 5 by omega)
  unfold phi; omega
def sx (p : Nat) : Int := if p = 0 then 1 else if p = 1 then 6 else if p = 2 then 36 else if p = 3 then 216 else 1296
theorem q_six {p : Nat} (hp : p < 5) (M : pm_M) : f_Q_sixes p M = some (sx p) := by
  rcases (show p = 0 ∨ p = 1 ∨ p = 2 ∨ p = 3 ∨ p = 4 by omega) with rfl | rfl | rfl | rfl | rfl <;> rfl
theorem q_at6 {r : Nat → Int} {s p : Nat} (hs : s < 120) (hp : p < 5) (M : pm_M) : f_Q_at6 (phi r s) p M = some (dS r s p : Int) := by
  have h0 := dS_lt r hs (show 0 < 5 by omega)
  have h1 := dS_lt r hs (show 1 < 5 by omega)
  have h2 := dS_lt r hs (show 2 < 5 by omega)
  have h3 := dS_lt r hs (show 3 < 5 by omega)
  have h4 := dS_lt r hs (show 4 < 5 by omega)
  have hl := phi_lt r hs
  have hx : 0 < sx p ∧ sx p ≤ 1296 := by
    rcases (show p = 0 ∨ p = 1 ∨ p = 2 ∨ p = 3 ∨ p = 4 by omega) with rfl | rfl | rfl | rfl | rfl <;> decide
  unfold f_Q_at6
  rw [q_six hp, ob, if_neg (by omega), i_dv_eq (by omega) (by omega)]
  have hd : 0 ≤ (phi r s : Int) / sx p ∧ (phi r s : Int) / sx p ≤ phi r s := ⟨Int.ediv_nonneg (by omega) (by omega), Int.ediv_le_self _ (by omega)⟩
  rw [i_rm_eq (by omega) (by omega)]
  refine congrArg some ?_
  unfold phi
  rcases (show p = 0 ∨ p = 1 ∨ p = 2 ∨ p = 3 ∨ p = 4 by omega) with rfl | rfl | rfl | rfl | rfl
  · show ((dS r s 0 + 6 * dS r s 1 + 36 * dS r s 2 + 216 * dS r s 3 + 1296 * dS r s 4 : Nat) : Int) / 1 % 6 = _; omega
  · show ((dS r s 0 + 6 * dS r s 1 + 36 * dS r s 2 + 216 * dS r s 3 + 1296 * dS r s 4 : Nat) : Int) / 6 % 6 = _; omega
  · show ((dS r s 0 + 6 * dS r s 1 + 36 * dS r s 2 + 216 * dS r s 3 + 1296 * dS r s 4 : Nat) : Int) / 36 % 6 = _; omega
  · show ((dS r s 0 + 6 * dS r s 1 + 36 * dS r s 2 + 216 * dS r s 3 + 1296 * dS r s 4 : Nat) : Int) / 216 % 6 = _; omega
  · show ((dS r s 0 + 6 * dS r s 1 + 36 * dS r s 2 + 216 * dS r s 3 + 1296 * dS r s 4 : Nat) : Int) / 1296 % 6 = _; omega
theorem dS_T (r : Nat → Int) {s a b p : Nat} (hs : s < 120) (hb : b < 5) (ha : a < b) (hp : p < 5) : dS r (tT a b s) p = if p = b then dS r s a else if p = a then dS r s b else dS r s p := by
  obtain ⟨_, h2, _⟩ := w_T hs hb ha
  unfold dS
  rw [h2, swl_g (w_num hs).2.1 (by omega) hb p hp]
  by_cases e1 : p = b
  · rw [if_pos e1, if_pos e1]
  · rw [if_neg e1, if_neg e1]
    by_cases e2 : p = a
    · rw [if_pos e2, if_pos e2]
    · rw [if_neg e2, if_neg e2]
theorem q_chg {r : Nat → Int} {s a b : Nat} (hs : s < 120) (hb : b < 5) (ha : a < b) (M : pm_M) : f_Q_changed (phi r s) a b M = some (phi r (tT a b s) : Int) := by
  have h0 := dS_lt r hs (show 0 < 5 by omega)
  have h1 := dS_lt r hs (show 1 < 5 by omega)
  have h2 := dS_lt r hs (show 2 < 5 by omega)
  have h3 := dS_lt r hs (show 3 < 5 by omega)
  have h4 := dS_lt r hs (show 4 < 5 by omega)
  have t0 := dS_T r hs hb ha (show 0 < 5 by omega)
  have t1 := dS_T r hs hb ha (show 1 < 5 by omega)
  have t2 := dS_T r hs hb ha (show 2 < 5 by omega)
  have t3 := dS_T r hs hb ha (show 3 < 5 by omega)
  have t4 := dS_T r hs hb ha (show 4 < 5 by omega)
  have hl := phi_lt r hs
  unfold f_Q_changed
  rw [q_at6 hs (by omega), ob, q_at6 hs hb, ob, q_six (by omega), ob, q_six hb, ob]
  have e : phi r (tT a b s) = dS r (tT a b s) 0 + 6 * dS r (tT a b s) 1 + 36 * dS r (tT a b s) 2 + 216 * dS r (tT a b s) 3 + 1296 * dS r (tT a b s) 4 := rfl
  have e2 : phi r s = dS r s 0 + 6 * dS r s 1 + 36 * dS r s 2 + 216 * dS r s 3 + 1296 * dS r s 4 := rfl
  rw [t0, t1, t2, t3, t4] at e
  rcases (show b = 1 ∨ b = 2 ∨ b = 3 ∨ b = 4 by omega) with rfl | rfl | rfl | rfl
  all_goals rcases (show a = 0 ∨ a = 1 ∨ a = 2 ∨ a = 3 by omega) with rfl | rfl | rfl | rfl
  all_goals first
    | (exfalso; omega)
    | (simp [sx] at e ⊢
       rw [i_sb_eq (by omega), i_sb_eq (by omega), i_ml_eq (by omega), i_ml_eq (by omega), i_ad_eq (a := (phi r s : Int)) (by omega), i_ad_eq (by omega)]
       omega)
/-- a cost that only looks at ways -/
def fac (r c : Nat → Int) : Prop := ∀ s s', s < 120 → s' < 120 → phi r s = phi r s' → c s = c s'
theorem phi_c {r : Nat → Int} {s s' a b : Nat} (hs : s < 120) (hs' : s' < 120) (hb : b < 5) (ha : a < b) (h : phi r s = phi r s') : phi r (tT a b s) = phi r (tT a b s') := by
  have h1 := q_chg (r := r) hs hb ha (fun _ _ => 0)
  have h2 := q_chg (r := r) hs' hb ha (fun _ _ => 0)
  rw [h, h2] at h1
  have := Option.some.inj h1
  omega
theorem fac_rlx {r c : Nat → Int} {j h : Nat} (hh : h < 5) (hj : j < h) (H : fac r c) : fac r (rlx j h c) := by
  intro s s' hs hs' he
  obtain ⟨a1, _, _⟩ := w_T hs hh hj
  obtain ⟨b1, _, _⟩ := w_T hs' hh hj
  unfold rlx
  rw [H s s' hs hs' he, H _ _ a1 b1 (phi_c hs hs' hh hj he)]
theorem fac_rlH {r : Nat → Int} {h : Nat} (hh : h < 5) : ∀ (k j : Nat) (c : Nat → Int), j + k = h → fac r c → fac r (rlH h k j c)
  | 0, _, _, _, H => H
  | k + 1, j, c, e, H => fac_rlH hh k (j + 1) (rlx j h c) (by omega) (fac_rlx hh (by omega) H)
theorem fac_sprL {r : Nat → Int} {P : Nat} (hP : P ≤ 5) : ∀ (k h : Nat) (c : Nat → Int), h + k ≤ P ∨ k = 0 → fac r c → fac r (sprL k h c)
  | 0, _, _, _, H => H
  | k + 1, h, c, e, H => fac_sprL hP k (h + 1) _ (by omega) (fac_rlH (by omega) h 0 c (by omega) H)
theorem fac_spr {r c : Nat → Int} {P : Nat} (hP : P ≤ 5) (H : fac r c) : fac r (spr P c) := fac_sprL hP (P - 1) 1 c (by omega) H
theorem cn_last {P : Nat} (hP : P ≤ 5) : ∀ (m s t : Nat), s < 120 → cn P (m + 1) s t → ∃ a b, a < b ∧ b < P ∧ t < 120 ∧ cn P m s (tT a b t)
  | 0, s, t, hs, ⟨a, b, ha, hb, h⟩ => by
    have h : tT a b s = t := h
    obtain ⟨a1, _, a3⟩ := w_T hs (show b < 5 by omega) ha
    subst h
    exact ⟨a, b, ha, hb, a1, a3.symm⟩
  | m + 1, s, t, hs, ⟨a, b, ha, hb, h⟩ => by
    obtain ⟨a1, _, a3⟩ := w_T hs (show b < 5 by omega) ha
    obtain ⟨c, d, hc, hd, ht, h2⟩ := cn_last hP m _ t a1 h
    exact ⟨c, d, hc, hd, ht, ⟨a, b, ha, hb, h2⟩⟩
