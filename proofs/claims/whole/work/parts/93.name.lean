/-! ONE: a name, a fault, a sign that opens -/
section
variable {t0 N : Nat} {X Q : pm_M}
theorem x_nmd (h : 14 ≤ X 66 3 ∧ X 66 3 ≤ 23) : f_Reader_named X = if (X 66 2 = 3 ∧ X 66 3 ≤ 18) ∨ (X 66 2 ≠ 3 ∧ X 66 3 ≠ 18) then ((f_Reader_emit (X 66 3) X).bind fun M1359 => (f_Reader_advance M1359).bind fun M1360 => some (1, M1360)) else ((f_Reader_fail 5 X).bind fun r => if r.1 = 0 ∨ r.1 = 1 then some (r.1, r.2) else none) := by
  unfold f_Reader_named
  by_cases h1 : X 66 3 = 18
  · rw [if_pos h1, if_pos (by omega)]
    by_cases h2 : X 66 2 = 3
    · rw [if_pos h2, if_pos (by omega)]
    · rw [if_neg h2, if_neg (by omega)]
  · rw [if_neg h1]
    by_cases h3 : 18 ≤ X 66 3
    · rw [if_pos h3]
      by_cases h2 : X 66 2 = 3
      · rw [if_pos h2, if_neg (by omega)]
      · rw [if_neg h2, if_pos (by omega)]
    · rw [if_neg h3, if_pos (by omega)]
theorem nm_t : ∀ n : Fin 10, i_an (i_sr 31 ((n : Nat) : Int)) 1 = (if (n : Nat) ≤ 4 then 1 else 0) ∧ i_an (i_sr 1007 ((n : Nat) : Int)) 1 = (if (n : Nat) = 4 then 0 else 1) := by decide +kernel
theorem q_nmd (h16 : Q 87 16 = 1) (h : 14 ≤ Q 87 17 ∧ Q 87 17 ≤ 23) : f_Q_begins Q = if (Q 87 29 = 3 ∧ Q 87 17 ≤ 18) ∨ (Q 87 29 ≠ 3 ∧ Q 87 17 ≠ 18) then ((f_Q_emits 401 (Q 87 17 - 14) Q).bind fun M872 => (f_Q_next M872).bind fun M873 => (f_Q_oneIsOver M873).bind fun M880 => some M880) else ((f_Q_errs 5 Q).bind fun M => some M) := by
  unfold f_Q_begins
  rw [if_neg (by omega), if_pos h16, if_neg (by omega), i_sb_eq (a := Q 87 17) (by omega), i_sb_eq (by omega), pbd]
  obtain ⟨n, hn⟩ : ∃ n : Nat, Q 87 17 - 14 = n := ⟨(Q 87 17 - 14).toNat, by omega⟩
  have hn2 : n < 10 := by omega
  obtain ⟨b1, b2⟩ := nm_t ⟨n, hn2⟩
  have b1 : i_an (i_sr 31 (n : Int)) 1 = (if n ≤ 4 then 1 else 0) := b1
  have b2 : i_an (i_sr 1007 (n : Int)) 1 = (if n = 4 then 0 else 1) := b2
  rw [show Q 87 17 - 13 - 1 = (n : Int) by omega, hn, b1, b2]
  by_cases h3 : Q 87 29 = 3
  · rw [if_pos h3]
    by_cases h4 : n ≤ 4
    · rw [if_pos h4, if_neg (by omega), if_pos (by omega)]
    · rw [if_neg h4, if_pos rfl, if_neg (by omega)]
  · rw [if_neg h3]
    by_cases h4 : n = 4
    · rw [if_pos h4, if_pos rfl, if_neg (by omega)]
    · rw [if_neg h4, if_neg (by omega), if_pos (by omega)]
/-- a name -/
theorem s_name {o p k : Nat} {frs : List Int} {ws cl ql : List (Int × Int)} {L : Int} {s : List Bool} (ht : tx4 t0) (hY : SY t0 N X Q cl) (hR : RS Q o frs ws ql) (h27 : Q 87 27 = 1) (h29 : Q 87 29 = L) (hp : Q 87 15 = p) (h16 : Q 87 16 = 1) (h17 : 14 ≤ Q 87 17) (hcl : cl.length ≤ p) (hql : ql.length ≤ p + 24) (hs : s.length ≤ 39) : ok (f_Reader_one (f_rd k) o X) (fun y => FLS t0 N X Q p y ∨ SUC t0 N E1 (fun pend => pend = []) o frs ws cl ql L false CA s X Q p y) := by
  have hY' := hY
  obtain ⟨y1, y2, y3, y4⟩ := hY'
  have y2' := y2
  obtain ⟨k1, k2, k3, k4, k5, k6, _⟩ := y2'
  have hpN := (p_le y2 hp).2 (by omega)
  have h300 := y1.2.1
  have hb := k5 h16
  have h3 : X 66 3 = Q 87 17 := by rw [k1, h16]; rfl
  have h18 : Q 87 18 = 0 := hR.2.2.2.2.2.2.2.2
  unfold f_Reader_one
  rw [if_neg (by omega), if_neg (by omega), if_neg (by omega), x_nmd (by omega), h3, y4]
  by_cases hc : (Q 87 29 = 3 ∧ Q 87 17 ≤ 18) ∨ (Q 87 29 ≠ 3 ∧ Q 87 17 ≠ 18)
  · rw [if_pos hc]
    obtain ⟨X1, a1, a2⟩ := x_emit (x := Q 87 17) (c := (401, Q 87 17 - 14)) ht y3 (by omega) (by show 10014 + (Q 87 17 - 14) = _; omega) (by omega)
    obtain ⟨X2, b1, b2⟩ := s_leaf (c := (401, Q 87 17 - 14)) (L := L) (s := s) ht hY hR hp (by omega) hcl hql ⟨by show s.length + 1 ≤ 40; omega, Or.inr (Or.inl ⟨rfl, by show 0 ≤ Q 87 17 - 14 ∧ Q 87 17 - 14 ≤ 9; omega, fun z => by show Q 87 17 - 14 ≤ 4; omega, fun z => by show Q 87 17 - 14 ≠ 4; omega, rfl⟩)⟩ a2 (fun n => by
      rw [L_1 n h18 h27, q_nmd h16 (by omega), if_pos hc])
    rw [a1, ob, b1, ob, ob, if_pos (Or.inr rfl)]
    exact ok_some (Or.inr b2)
  · rw [if_neg hc]
    obtain ⟨X2, b1, b2⟩ := fls_1 (N := N) (p := p) (e := 5) ht (gx_rf t0 X) (XS_lo y3 (by omega)) k2 h18 (by omega) (fun n => by
      rw [L_1 n h18 h27, q_nmd h16 (by omega), if_neg hc]
      cases f_Q_errs 5 Q <;> rfl)
    rw [b1, ob, if_pos (Or.inl rfl), ob, if_pos (Or.inl rfl)]
    exact ok_some (Or.inl b2)
/-- no beginning of one -/
theorem s_none {o p k : Nat} {frs : List Int} {ws cl ql : List (Int × Int)} (ht : tx4 t0) (hY : SY t0 N X Q cl) (hR : RS Q o frs ws ql) (h27 : Q 87 27 = 1) (hp : Q 87 15 = p) (h2 : Q 87 16 ≠ 2) (h1 : Q 87 16 = 1 → Q 87 17 ≤ 13) (h3 : Q 87 16 = 3 → Q 87 17 ≠ 40 ∧ Q 87 17 ≠ 45) (hcl : cl.length ≤ p) : ok (f_Reader_one (f_rd k) o X) (FLS t0 N X Q p) := by
  obtain ⟨y1, y2, y3, y4⟩ := hY
  have y2' := y2
  obtain ⟨k1, k2, k3, k4, k5, k6, _⟩ := y2'
  have hpN := (p_le y2 hp).1
  have h300 := y1.2.1
  have h18 : Q 87 18 = 0 := hR.2.2.2.2.2.2.2.2
  have hsg := sg_ge (Q 87 17)
  have hk : X 66 3 ≠ 37 ∧ (X 66 3 < 14 ∨ 23 < X 66 3) ∧ X 66 3 ≠ 32 ∧ X 66 3 ≠ 29 := by
    rw [k1]
    unfold ckd
    by_cases z0 : Q 87 16 = 0
    · rw [if_pos z0]; omega
    · rw [if_neg z0]
      by_cases z1 : Q 87 16 = 1
      · rw [if_pos z1]; have := h1 z1; have := k5 z1; omega
      · rw [if_neg z1, if_neg h2]
        by_cases z3 : Q 87 16 = 3
        · rw [if_pos z3]; have := h3 z3; omega
        · rw [if_neg z3]; omega
  obtain ⟨X2, b1, b2⟩ := fls_1 (N := N) (p := p) (e := 1) ht (gx_rf t0 X) (XS_lo y3 (by omega)) k2 h18 (by omega) (fun n => by
    rw [L_1 n h18 h27]
    unfold f_Q_begins f_Q_isSign
    rw [if_neg h2]
    by_cases z1 : Q 87 16 = 1
    · rw [if_pos z1, if_pos (h1 z1), if_neg (by omega), ob, if_pos rfl, if_neg (by omega), ob, if_pos rfl]
      cases f_Q_errs 1 Q <;> rfl
    · rw [if_neg z1]
      by_cases z3 : Q 87 16 = 3
      · rw [if_pos z3, if_neg (h3 z3).1, ob, if_pos rfl, if_pos z3, if_neg (h3 z3).2, ob, if_pos rfl]
        cases f_Q_errs 1 Q <;> rfl
      · rw [if_neg z3, ob, if_pos rfl, if_neg z3, ob, if_pos rfl]
        cases f_Q_errs 1 Q <;> rfl)
  have eJ : f_Reader_one_J57 (f_rd k) o X = some (0, X2) := by
    unfold f_Reader_one_J57
    rw [if_neg hk.2.2.1, if_neg hk.2.2.2, b1, ob, if_pos (Or.inl rfl)]
  unfold f_Reader_one
  rw [if_neg hk.1, eJ]
  rcases hk.2.1 with z | z
  · rw [if_pos z]
    exact ok_some b2
  · rw [if_neg (by omega), if_pos z]
    exact ok_some b2
end
