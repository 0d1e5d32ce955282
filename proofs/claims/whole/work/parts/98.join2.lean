/-! JOINED: parts of the next level with joiners between them -/
section
variable {t0 N : Nat}
/-- what a joiner at a level means for both -/
def JN (N : Nat) (lv : Int) (r st af : Int) (bb : Bool) (Jc J : Int → Int → Prop) (o : Nat) (frs : List Int) : Prop :=
  ∀ (X Q : pm_M) (ws ql : List (Int × Int)), TK N X Q → RS Q o frs ws ql → Q 87 27 = af → Jc (Q 87 16) (Q 87 17) →
    (f_Reader_joins lv X = some 0 ∧ J (Q 87 16) (Q 87 17)) ∨ (∃ x : Int, f_Reader_joins lv X = some 1 ∧ rkq x = r ∧ oc (x, 0) = 10000 + X 66 3 ∧ (0 ≤ X 66 3 ∧ X 66 3 ≤ 40) ∧ Q 87 16 ≠ 0 ∧ ((bb = false ∧ isA x) ∨ (bb = true ∧ isB x)) ∧ ∀ n, f_Q_text_L74 (n + 1) Q = ((f_Q_waitsFor x Q).bind fun M => some (pm_ms M 87 27 st)).bind (f_Q_text_L74 n))
theorem zw_app (a b : List (Int × Int)) : zw (a ++ b) = zw a ++ zw b := List.map_append ..
theorem tr_join {L x : Int} {bb : Bool} {s : List Bool} (h : (bb = false ∧ isA x) ∨ (bb = true ∧ isB x)) (hs : s.length ≤ 39) : tr L (x, 0) (bb :: bb :: s) (bb :: s) := by
  refine ⟨by rw [List.length_cons]; omega, ?_⟩
  rcases h with ⟨rfl, h⟩ | ⟨rfl, h⟩
  · exact Or.inr (Or.inr (Or.inr (Or.inr (Or.inl ⟨h, s, rfl, rfl⟩))))
  · exact Or.inr (Or.inr (Or.inr (Or.inr (Or.inr (Or.inr ⟨h, s, rfl, rfl⟩)))))
theorem bar_x {x r : Int} {F : Nat} {ws : List (Int × Int)} (h : rkq x = r) : bar (r + 1) F ((x, (F : Int)) :: ws) := Or.inr (by show rkq x < r + 1; omega)
/-- the loop -/
theorem s_joinL {lv r st af L : Int} {o k d wb sb : Nat} {frs : List Int} {bb : Bool} {Jc J : Int → Int → Prop} {C : List Nat} (ht : tx4 t0) (hlv : 0 ≤ lv ∧ lv ≤ 4) (hC1 : ∀ c ∈ [87, 100, 101, 106, 107], c ∈ C) (hC2 : ∀ c ∈ C, c ∈ CC) (hd : d + wb < 79) (hsb : sb ≤ 38) (hJN : JN N lv r st af bb Jc J o frs)
    (IH : ∀ ws', bar (r + 1) frs.length ws' → (∀ c ∈ ws', c.2 ≤ (frs.length : Int)) → ws'.length ≤ wb + 1 → SM t0 N (fun X => f_rd k 1 (lv + 1) (o : Int) X) (Ej af Jc) st (Pw (r + 1) d frs.length) o frs ws' L bb C (sb + 1))
    {ws cl ql : List (Int × Int)} {s : List Bool} {X0 Q0 : pm_M} {p0 : Nat} (hb : bar r frs.length ws) (hwd : ∀ c ∈ ws, c.2 ≤ (frs.length : Int)) (hwl : ws.length ≤ wb) (h29 : Q0 87 29 = L) (hcl : cl.length ≤ p0) (hql : ql.length ≤ p0 + 24) (hs : s.length ≤ sb) :
    ∀ (n y4 p : Nat) (X : pm_M), SUC t0 N (Ej af Jc) (Pw r (d + 1) frs.length) o frs ws cl ql L bb C s X0 Q0 p0 (1, X) → X 66 5 = p → y4 < p → N < n + p →
      ok (f_Reader_joined_L12 (f_rd k) (n + 1) lv (o : Int) 1 (y4 : Int) X) (fun y => FLS t0 N X0 Q0 p0 y ∨ SUC t0 N (Ej af J) (Pw r (d + 1) frs.length) o frs ws cl ql L bb C s X0 Q0 p0 y) := by
  intro n
  induction n with
  | zero =>
    intro y4 p X hS hp hy hn
    exfalso
    obtain ⟨_, _, _, _, lq, pend, Q, c, p', d1, _, _, d4, _⟩ := hS
    have := (p_le d4.2.1 d1).1
    have e : X 66 5 = Q 87 15 := d4.2.1.2.1
    omega
  | succ n ih =>
    intro y4 p X hS hp hy hn
    obtain ⟨c1, c2, c3, c4, lq, pend, Q, c, p', d1, d2, d3, d4, d5, d6, d7, d8, ⟨d9, dJ, dL⟩, d10⟩ := hS
    have c3 : X 66 7 = X0 66 7 := c3
    have c4 : X 66 8 = X0 66 8 := c4
    have c2 : gx t0 X0 X := c2
    have d4 : SY t0 N X Q (cl ++ (lq ++ zw pend)) := d4
    have e5 : X 66 5 = Q 87 15 := d4.2.1.2.1
    have hpp : p' = p := by omega
    subst hpp
    have hpN := p_le d4.2.1 d1
    have h300 := d4.1.2.1
    rw [f_Reader_joined_L12, if_neg (by omega)]
    rcases hJN X Q _ _ d4.2.1 d5 d9 dJ with ⟨j1, j2⟩ | ⟨x, j1, j2, j3, j4, j5, j6, j7⟩
    · rw [j1, ob, if_pos rfl]
      exact ok_some (Or.inr ⟨rfl, c2, c3, c4, lq, pend, Q, c, p', d1, d2, d3, d4, d5, d6, d7, d8, ⟨d9, j2, dL⟩, d10⟩)
    · have hpN2 := hpN.2 j5
      rw [j1, ob, if_neg (by omega), if_neg (by omega)]
      have hll : (ql ++ lq).length + pend.length ≤ p' + 24 := by rw [List.length_append]; omega
      have hcc : (cl ++ (lq ++ zw pend)).length ≤ p' := by rw [List.length_append, List.length_append, zw_len]; omega
      obtain ⟨Q1, a1, a2, a3⟩ := q_waits (x := x) d5 (by rw [j2]; exact hb) (by rw [List.length_append]; have := d7.1; omega) (by omega) (fun z hz => by rw [j2]; exact d7.2 z hz)
      have T1 : TPX X Q1 N := TPX_g d4.1 ht (gx_rf t0 X) a3 (by decide) (by decide)
      have K1 : TK N X Q1 := TK_mo d4.2.1 rfl (a3.2 14 (by decide)) (a3.2 15 (by decide)) (a3.2 16 (by decide)) (a3.2 17 (by decide))
      obtain ⟨X1, Q2, p1, b1, b2, b3, b4, b5, b6, b7, b8, b9, b10⟩ := b_step T1 K1 (p := p') (by rw [a3.2 15 (by decide)]; exact d1)
      have hlt := b6 (by rw [a3.2 16 (by decide)]; exact j5)
      generalize hQ3 : pm_ms Q2 87 27 st = Q3
      have f3 : fz [87] [27] Q2 Q3 := by rw [← hQ3]; exact fz_87 (by decide) (by decide)
      have f13 : fz [87] [14, 15, 16, 17, 27] Q1 Q3 := fz_tr (fz_fs b10) f3 (by decide) (by decide) (by decide) (by decide)
      have g1 : gx t0 X X1 := gx_fs ht b9 (by decide) (by decide)
      have hY3 : SY t0 N X1 Q3 (cl ++ (lq ++ zw pend)) := ⟨TPX_g b3 ht (gx_rf t0 X1) f3 (by decide) (by decide), TK_mo b4 rfl (f3.2 14 (by decide)) (f3.2 15 (by decide)) (f3.2 16 (by decide)) (f3.2 17 (by decide)), XS_fs ht d4.2.2.1 b9 (by decide), by rw [b9.2 2 (by decide), f13.2 29 (by decide), a3.2 29 (by decide)]; exact d4.2.2.2⟩
      have hR3 : RS Q3 o frs ((x, (frs.length : Int)) :: ws) (ql ++ lq ++ zw pend) := RS_fz (C := [87]) (S := [14, 15, 16, 17, 27]) a2 f13 (by decide) (by decide) (by decide) (by decide) (by decide) (by decide) (by decide) (by decide) (by decide) (by decide)
      have fQ : fz C SS Q Q3 := fz_tr a3 f13 hC1 (by decide) (fun z hz => hC1 z (by rw [List.mem_singleton.mp hz]; exact List.mem_cons_self ..)) (by decide)
      have e29 : Q3 87 29 = L := by rw [fQ.2 29 (by decide), d10.2 29 (by decide)]; exact h29
      have hL1 : ∀ m, f_Q_text_L74 (m + (c + 1)) Q0 = f_Q_text_L74 m Q3 := fun m => by
        rw [show m + (c + 1) = (m + 1) + c by omega, dL, j7, a1, b2, ob, ob, ob, hQ3]
      rw [b1, ob, i_ad_eq (by omega)]
      refine ok_bind (IH _ (bar_x j2) (fun z hz => ?_) (by rw [List.length_cons]; omega) X1 Q3 (cl ++ (lq ++ zw pend)) (ql ++ lq ++ zw pend) (bb :: s) p1 hY3 hR3 (by rw [← hQ3, ms_at]) e29 (by rw [f3.2 15 (by decide)]; exact b5) (by omega) (by rw [List.length_append, zw_len]; omega) (by rw [List.length_cons]; omega)) (fun y hy' => ?_)
      · rcases List.mem_cons.mp hz with z1 | z1
        · rw [z1]; exact Int.le_refl _
        · exact hwd z z1
      rcases hy' with hy' | hy'
      · obtain ⟨X', e1, e2⟩ := fls_post ht hy' (X 66 3)
        rw [e1, ob, hy'.1, f_Reader_joined_L12, if_pos rfl]
        exact ok_some (Or.inl (fls_pre hL1 (gx_tr c2 g1) (fz_tr (C := CC) (S := SS) d10 fQ hC2 (idm _) hC2 (idm _)) (by omega) (by omega) b8 e2))
      · obtain ⟨u1, u2, u3, u4, lq2, pend2, Q4, c', p2, v1, v2, v3, v4, v5, v6, v7, v8, ⟨v9, vJ, vL⟩, v10⟩ := hy'
        have hpN4 := p_le v4.2.1 v1
        have hlen : (cl ++ (lq ++ zw pend) ++ (lq2 ++ zw pend2)).length < p2 := by rw [List.length_append, List.length_append (as := lq2), zw_len]; omega
        obtain ⟨X', e1, e2, e3, e4⟩ := x_emit (x := X 66 3) (c := (x, 0)) ht v4.2.2.1 (by omega) j3 j4
        rw [e1, ob, u1, i_ad_eq (by omega), show (y4 : Int) + 1 = ((y4 + 1 : Nat) : Int) by omega]
        have ez : lq ++ zw pend ++ lq2 ++ zw (pend2 ++ [(x, (frs.length : Int))]) = (lq ++ zw pend) ++ ((lq2 ++ zw pend2) ++ [(x, 0)]) := by
          rw [zw_app]
          show lq ++ zw pend ++ lq2 ++ (zw pend2 ++ [(x, 0)]) = _
          simp only [List.append_assoc]
        have ec : cl ++ (lq ++ zw pend ++ lq2 ++ zw (pend2 ++ [(x, (frs.length : Int))])) = cl ++ (lq ++ zw pend) ++ (lq2 ++ zw pend2) ++ [(x, 0)] := by
          rw [ez]
          simp only [List.append_assoc]
        have eR : RS Q4 o frs (pend2 ++ [(x, (frs.length : Int))] ++ ws) (ql ++ (lq ++ zw pend ++ lq2)) := by
          rw [List.append_assoc pend2, ← List.append_assoc ql, ← List.append_assoc ql]
          exact v5
        refine ih (y4 + 1) p2 X' ⟨rfl, gx_tr c2 (gx_tr g1 (gx_tr u2 e3)), ?_, ?_, lq ++ zw pend ++ lq2, pend2 ++ [(x, (frs.length : Int))], Q4, c + 1 + c', p2, v1, by omega, by omega, ⟨TPX_g v4.1 ht e3 (fz_rf [] [] Q4) (by decide) (by decide), TK_mo v4.2.1 e4 rfl rfl rfl rfl, by rw [ec]; exact e2, ?_⟩, eR, ?_, ⟨?_, ?_⟩, ?_, ⟨v9, vJ, ?_⟩, ?_⟩ ?_ (by omega) (by omega)
        · show X' 66 7 = X0 66 7
          rw [e4, u3, b9.2 7 (by decide)]; exact c3
        · show X' 66 8 = X0 66 8
          rw [e4, u4, b9.2 8 (by decide)]; exact c4
        · show X' 66 2 = Q4 87 29
          rw [e4]; exact v4.2.2.2
        · rw [List.length_append, List.length_append, List.length_append, zw_len]
          show lq.length + pend.length + lq2.length + (pend2.length + 1) ≤ p2 - p0
          omega
        · rw [List.length_append]
          have := v7.1
          show pend2.length + 1 ≤ d + 1
          omega
        · intro z hz
          rcases List.mem_append.mp hz with z1 | z1
          · have := v7.2 z z1
            exact ⟨this.1, by omega⟩
          · rw [List.mem_singleton.mp z1]
            exact ⟨rfl, by show r ≤ rkq x; omega⟩
        · rw [ez]
          exact trs_app _ _ _ _ _ d8 (trs_app _ _ _ _ _ v8 ⟨_, tr_join j6 (by omega), rfl⟩)
        · intro m
          rw [show m + (c + 1 + c') = (m + c') + (c + 1) by omega, hL1, vL]
        · exact fz_tr (C := C) (S := SS) (fz_tr (C := C) (S := SS) d10 fQ (idm _) (idm _) (idm _) (idm _)) v10 (idm _) (idm _) (idm _) (idm _)
        · rw [e4, v4.2.1.2.1]; exact v1
/-- parts with joiners -/
theorem s_joined {lv r st af L : Int} {o k d wb sb : Nat} {frs : List Int} {bb : Bool} {Jc J : Int → Int → Prop} {C : List Nat} (ht : tx4 t0) (hlv : 0 ≤ lv ∧ lv ≤ 4) (hC1 : ∀ c ∈ [87, 100, 101, 106, 107], c ∈ C) (hC2 : ∀ c ∈ C, c ∈ CC) (hd : d + wb < 79) (hsb : sb ≤ 38) (hJN : JN N lv r st af bb Jc J o frs)
    (IH : ∀ ws', bar (r + 1) frs.length ws' → (∀ c ∈ ws', c.2 ≤ (frs.length : Int)) → ws'.length ≤ wb + 1 → SM t0 N (fun X => f_rd k 1 (lv + 1) (o : Int) X) (Ej af Jc) st (Pw (r + 1) d frs.length) o frs ws' L bb C (sb + 1))
    (ws : List (Int × Int)) (hb : bar r frs.length ws) (hwd : ∀ c ∈ ws, c.2 ≤ (frs.length : Int)) (hwl : ws.length ≤ wb) :
    SM t0 N (fun X => f_rd (k + 1) 0 lv (o : Int) X) (Ej af J) st (Pw r (d + 1) frs.length) o frs ws L bb C sb := by
  intro X Q cl ql s p hY hR h27 h29 hp hcl hql hs
  show ok (f_Reader_joined (f_rd k) lv o X) _
  unfold f_Reader_joined
  have hb' : bar (r + 1) frs.length ws := by
    cases ws with
    | nil => trivial
    | cons c w => rcases hb with z | z; exact Or.inl z; exact Or.inr (by omega)
  rw [i_ad_eq (by omega)]
  refine ok_bind (IH ws hb' hwd (by omega) X Q cl ql s p hY hR h27 h29 hp hcl hql (by omega)) (fun y hy => ?_)
  rcases hy with hy | hy
  · rw [hy.1, show pm_F = 999999999 + 1 from rfl, f_Reader_joined_L12, if_pos rfl, ob, if_pos (Or.inl rfl), ← hy.1]
    exact ok_some (Or.inl hy)
  · obtain ⟨u1, u2, u3, u4, lq, pend, Q', c, p', d1, d2, d3, d4, d5, d6, d7, d8, d9, d10⟩ := hy
    have hS : SUC t0 N (Ej af Jc) (Pw r (d + 1) frs.length) o frs ws cl ql L bb C s X Q p (1, y.2) := ⟨rfl, u2, u3, u4, lq, pend, Q', c, p', d1, d2, d3, d4, d5, d6, ⟨by have := d7.1; omega, fun z hz => by have := d7.2 z hz; exact ⟨this.1, by omega⟩⟩, d8, d9, d10⟩
    have hpN := p_le d4.2.1 d1
    have h300 := d4.1.2.1
    rw [u1, show pm_F = 999999999 + 1 from rfl]
    refine ok_bind (s_joinL (lv := lv) (r := r) (st := st) (af := af) (Jc := Jc) (J := J) (C := C) ht hlv hC1 hC2 hd hsb hJN IH hb hwd hwl h29 hcl hql hs 999999999 0 p' y.2 hS (by rw [d4.2.1.2.1]; exact d1) (by omega) (by omega)) (fun z hz => ?_)
    rcases hz with hz | hz
    · rw [if_pos (Or.inl hz.1)]; exact ok_some (Or.inl hz)
    · rw [if_pos (Or.inr hz.1)]; exact ok_some (Or.inr hz)
end
