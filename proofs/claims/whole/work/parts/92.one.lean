/-! ONE: a number, a name, faults -/
section
variable {t0 N : Nat} {X Q : pm_M}
theorem x_fail (e : Int) (X : pm_M) : ∃ X', f_Reader_fail e X = some (0, X') ∧ fs 66 [7, 8] X X' ∧ X' 66 7 = e ∧ X' 66 8 = X 66 5 := by
  unfold f_Reader_fail
  rw [pbd, pbd]
  refine ⟨_, rfl, fs_tr (fs_ms (by decide)) (fs_ms (by decide)), ?_, ?_⟩
  · rw [ms_nj _ _ _ _ (by omega), ms_at]
  · rw [ms_at, ms_nj _ _ _ _ (by omega)]
theorem q_errs0 (e : Int) (h : Q 87 18 = 0) : ∃ Q', f_Q_errs e Q = some Q' ∧ fs 87 [18, 19] Q Q' ∧ Q' 87 18 = e ∧ Q' 87 19 = Q 87 15 := by
  unfold f_Q_errs
  rw [if_pos h, pbd, pbd]
  refine ⟨_, rfl, fs_tr (fs_ms (by decide)) (fs_ms (by decide)), ?_, ?_⟩
  · rw [ms_nj _ _ _ _ (by omega), ms_at]
  · rw [ms_at, ms_nj _ _ _ _ (by omega)]
theorem lo_fs {X' : pm_M} {S : List Nat} (ht : tx4 t0) (H : lo3 t0 X) (h : fs 66 S X X') (h1 : 1 ∉ S) : lo3 t0 X' := by
  unfold lo3
  rw [h.2 1 h1, fs_o h (a := t0) (by unfold tx4 at ht; omega)]
  exact H
/-- both fail at the token in hand -/
theorem fls_1 {X1 : pm_M} {p : Nat} {e : Int} (ht : tx4 t0) (hg : gx t0 X X1) (hlo : lo3 t0 X1) (h5 : X1 66 5 = Q 87 15) (hq : Q 87 18 = 0) (he : 0 < e) (hs : ∀ n, f_Q_text_L74 (n + 1) Q = (f_Q_errs e Q).bind (f_Q_text_L74 n)) : ∃ X', f_Reader_fail e X1 = some (0, X') ∧ FLS t0 N X Q p (0, X') := by
  obtain ⟨X', a1, a2, a3, a4⟩ := x_fail e X1
  obtain ⟨Q', b1, b2, b3, b4⟩ := q_errs0 e hq
  refine ⟨X', a1, rfl, gx_tr hg (gx_fs ht a2 (by decide) (by decide)), lo_fs ht hlo a2 (by decide), 2, Q', by omega, fun n => ?_, by rw [b3]; exact a3.symm, ?_, ?_, fz_mo (fz_fs b2) (by decide) (by decide)⟩
  · rw [show n + 2 = (n + 1) + 1 from rfl, hs, b1, ob, L_stop n (by omega)]
  · show Q' 87 19 = X' 66 8
    rw [b4, a4, h5]
  · show 0 < X' 66 7
    rw [a3]; exact he
theorem TK_mo {X' Q' : pm_M} (h : TK N X Q) (hx : X' 66 = X 66) (h14 : Q' 87 14 = Q 87 14) (h15 : Q' 87 15 = Q 87 15) (h16 : Q' 87 16 = Q 87 16) (h17 : Q' 87 17 = Q 87 17) : TK N X' Q' := by
  unfold TK
  rw [hx, h14, h15, h16, h17]
  exact h
/-- one token on -/
theorem b_step {p : Nat} (hT : TPX X Q N) (hK : TK N X Q) (hp : Q 87 15 = p) : ∃ X' Q' p', f_Reader_advance X = some X' ∧ f_Q_next Q = some Q' ∧ TPX X' Q' N ∧ TK N X' Q' ∧ Q' 87 15 = ((p' : Nat) : Int) ∧ (Q 87 16 ≠ 0 → p < p') ∧ p ≤ p' ∧ p' ≤ N ∧ fs 66 [3, 4, 5, 6] X X' ∧ fs 87 [14, 15, 16, 17] Q Q' := by
  obtain ⟨_, _, k3, _, _, _, p0, i, k7, k8, k9, k10, k11⟩ := hK
  obtain ⟨X', Q', a1, a2, a3, ⟨p', a4, a5⟩, a6, a7⟩ := b_next hT (i := i) (by rw [k3, k8]) k8 k10
  have a3' := a3
  obtain ⟨_, _, _, _, _, _, p1, i1, m7, m8, m9, m10, m11⟩ := a3'
  exact ⟨X', Q', p', a1, a2, TPX_fs hT a6 a7 (by decide), a3, a4, fun z => by have := k11 z; omega, by omega, by omega, a6, a7⟩
theorem TPX_g {X' Q' : pm_M} {C S : List Nat} (h : TPX X Q N) (ht : tx4 t0) (hg : gx t0 X X') (hf : fz C S Q Q') (h90 : 90 ∉ C) (h13 : 13 ∉ S) : TPX X' Q' N := by
  unfold TPX
  rw [hf.1 90 h90, hf.2 13 h13, hg.1 37 (by unfold tx4 at ht; rcases ht with e | e | e | e <;> subst e <;> decide), hg.1 38 (by unfold tx4 at ht; rcases ht with e | e | e | e <;> subst e <;> decide)]
  exact h
def CA : List Nat := [87, 98, 100, 101, 106, 107]
theorem p_le {p : Nat} (hK : TK N X Q) (hp : Q 87 15 = p) : p ≤ N ∧ (Q 87 16 ≠ 0 → p < N) := by
  obtain ⟨_, _, _, _, _, _, p0, i, k7, k8, k9, k10, k11⟩ := hK
  exact ⟨by omega, fun z => by have := k11 z; omega⟩
/-- a leaf: both emit one code and take the token -/
theorem s_leaf {o p : Nat} {frs : List Int} {ws cl ql : List (Int × Int)} {L : Int} {s : List Bool} {c : Int × Int} {X1 : pm_M} (ht : tx4 t0) (hY : SY t0 N X Q cl) (hR : RS Q o frs ws ql) (hp : Q 87 15 = p) (h16 : Q 87 16 ≠ 0) (hcl : cl.length ≤ p) (hql : ql.length ≤ p + 24) (htr : tr L c s (false :: s)) (hX1 : XS X1 t0 (cl ++ [c]) ∧ gx t0 X X1 ∧ X1 66 = X 66) (hL : ∀ n, f_Q_text_L74 (n + 1) Q = ((f_Q_emits c.1 c.2 Q).bind fun M872 => (f_Q_next M872).bind fun M873 => (f_Q_oneIsOver M873).bind fun M880 => some M880).bind (f_Q_text_L74 n)) : ∃ X2, f_Reader_advance X1 = some X2 ∧ SUC t0 N E1 (fun pend => pend = []) o frs ws cl ql L false CA s X Q p (1, X2) := by
  obtain ⟨y1, y2, y3, y4⟩ := hY
  have hpN := p_le y2 hp
  have hpN2 := hpN.2 h16
  have h300 := y1.2.1
  obtain ⟨Q1, a1, a2, a3⟩ := q_emits hR (by omega) c.1 c.2
  have T1 : TPX X1 Q1 N := TPX_g y1 ht hX1.2.1 a3 (by decide) (by decide)
  have K1 : TK N X1 Q1 := TK_mo y2 hX1.2.2 (a3.2 14 (by decide)) (a3.2 15 (by decide)) (a3.2 16 (by decide)) (a3.2 17 (by decide))
  obtain ⟨X2, Q2, p', b1, b2, b3, b4, b5, b6, b7, b8, b9, b10⟩ := b_step T1 K1 (p := p) (by rw [a3.2 15 (by decide)]; exact hp)
  have hlt := b6 (by rw [a3.2 16 (by decide)]; exact h16)
  have g2 : gx t0 X1 X2 := gx_fs ht b9 (by decide) (by decide)
  refine ⟨X2, b1, rfl, gx_tr hX1.2.1 g2, ?_, ?_, [c], [], Q2, 1, p', b5, hlt, by omega, ⟨b3, b4, XS_fs ht hX1.1 b9 (by decide), ?_⟩, ?_, ?_, rfl, ?_, ?_, ?_⟩
  · show X2 66 7 = X 66 7
    rw [b9.2 7 (by decide), hX1.2.2]
  · show X2 66 8 = X 66 8
    rw [b9.2 8 (by decide), hX1.2.2]
  · show X2 66 2 = Q2 87 29
    rw [b9.2 2 (by decide), hX1.2.2, b10.2 29 (by decide), a3.2 29 (by decide)]
    exact y4
  · exact RS_fz (C := [87]) (S := [14, 15, 16, 17]) a2 b10 (by decide) (by decide) (by decide) (by decide) (by decide) (by decide) (by decide) (by decide) (by decide) (by decide)
  · show 1 + 0 ≤ p' - p
    omega
  · exact ⟨_, htr, rfl⟩
  · intro n
    rw [hL, a1, ob, b2, ob]
    cases f_Q_oneIsOver Q2 <;> rfl
  · exact fz_tr a3 (fz_fs b10) (by decide) (by decide) (by decide) (by decide)
/-- the kind of sign by the class's number -/
theorem sg_ge (b : Int) : 24 ≤ sg b ∧ sg b ≤ 39 ∧ sg b ≠ 37 ∧ sg b ≠ 38 ∧ (sg b = 32 ↔ b = 40) ∧ (sg b = 29 ↔ b = 45) ∧ (sg b = 33 ↔ b = 41) ∧ (sg b = 34 ↔ b = 59) := by
  unfold sg
  repeat' split
  all_goals omega
theorem ob1 {α : Type} {y : Int × α} (h : y.1 = 0 ∨ y.1 = 1) : (if y.1 = 0 ∨ y.1 = 1 then some (y.1, y.2) else none) = some y := by rw [if_pos h]
/-- a number -/
theorem s_num {o p k : Nat} {frs : List Int} {ws cl ql : List (Int × Int)} {L : Int} {s : List Bool} (ht : tx4 t0) (hY : SY t0 N X Q cl) (hR : RS Q o frs ws ql) (h27 : Q 87 27 = 1) (hp : Q 87 15 = p) (h16 : Q 87 16 = 2) (hcl : cl.length ≤ p) (hql : ql.length ≤ p + 24) (hs : s.length ≤ 39) : ok (f_Reader_one (f_rd k) o X) (fun y => FLS t0 N X Q p y ∨ SUC t0 N E1 (fun pend => pend = []) o frs ws cl ql L false CA s X Q p y) := by
  have hY' := hY
  obtain ⟨y1, y2, y3, y4⟩ := hY'
  have y2' := y2
  obtain ⟨k1, k2, k3, k4, k5, k6, _⟩ := y2'
  have hpN := (p_le y2 hp).2 (by omega)
  have h300 := y1.2.1
  obtain ⟨n1, n2, n3⟩ := k6 h16
  have h3 : X 66 3 = 37 := by rw [k1, h16]; rfl
  have hto := t_or ht y3.1
  have h18 : Q 87 18 = 0 := hR.2.2.2.2.2.2.2.2
  unfold f_Reader_one
  rw [if_pos h3, if_pos hto.1, hto.2]
  by_cases hb : Q 87 17 ≤ 9999
  · have hv : X 66 4 = Q 87 17 := by rw [n3]; unfold i_mn; rw [if_neg (by omega)]
    have hv2 : i_mn (X 66 4) 9999 = oc (400, Q 87 17) := by rw [hv]; unfold i_mn; rw [if_neg (by omega)]; rfl
    obtain ⟨X1, a1, a2, a3, a4⟩ := x_emitT ht y3 (by omega) (400, Q 87 17)
    rw [hv2, a1, ob]
    unfold f_Reader_numberUpTo
    rw [a4, h3, if_pos rfl, hv, if_pos hb]
    obtain ⟨X2, b1, b2⟩ := s_leaf (c := (400, Q 87 17)) (L := L) (s := s) ht hY hR hp (by omega) hcl hql ⟨by show s.length + 1 ≤ 40; omega, Or.inl ⟨rfl, ⟨n1, hb⟩, rfl⟩⟩ ⟨a2, a3, a4⟩ (fun n => by
      rw [L_1 n h18 h27]
      unfold f_Q_begins
      rw [if_pos h16, if_pos hb])
    rw [b1, ob, ob, if_pos (Or.inr rfl)]
    exact ok_some (Or.inr b2)
  · have hv : X 66 4 = 10000 := by
      rw [n3]; unfold i_mn
      by_cases z : 10000 < Q 87 17
      · rw [if_pos z]
      · rw [if_neg z]; omega
    obtain ⟨X1, a1, a2, a3, a4⟩ := x_emitT ht y3 (by omega) (400, 9999)
    rw [show i_mn (X 66 4) 9999 = oc (400, 9999) by rw [hv]; rfl, a1, ob]
    unfold f_Reader_numberUpTo
    rw [a4, h3, if_pos rfl, hv, if_neg (by omega)]
    obtain ⟨X2, b1, b2⟩ := fls_1 (N := N) (p := p) (e := 2) ht a3 (XS_lo a2 (by rw [List.length_append]; show cl.length + 1 ≤ 300; omega)) (by rw [a4]; exact k2) h18 (by omega) (fun n => by
      rw [L_1 n h18 h27]
      unfold f_Q_begins
      rw [if_pos h16, if_neg hb]
      cases f_Q_errs 2 Q <;> rfl)
    rw [b1, ob, if_pos (Or.inl rfl), ob, if_pos (Or.inl rfl)]
    exact ok_some (Or.inl b2)
end
