/-! THE INVARIANT: every call keeps it -/
section
variable {M : pm_M} {A A' : Nat → Int}
theorem rT_Q {t : Nat} (hA : WF A) (e : ∀ k, k < 4012 → A' k = A k) (h : rT t A M) : rT t A' M := by
  obtain ⟨⟨t1, t2, t3, t4, t5⟩, t6, t7, t8, t9⟩ := h
  refine ⟨?_, fun p hp => ?_, fun p hp => ?_, fun p hp => ?_, fun p hp => ?_⟩
  · rw [e 0 (by omega), e 1 (by omega), e 5 (by omega), e 2 (by omega), e 3 (by omega)]
    exact ⟨t1, t2, t3, t4, t5⟩
  · rw [e (10 + 4 * p) (by omega), e (11 + 4 * p) (by omega), e (12 + 4 * p) (by omega), e (13 + 4 * p) (by omega)]
    exact t6 p hp
  · rw [e 0 (by omega)] at hp ⊢
    rw [t7 p hp, a_cl_congr (by have := hA.1; omega) (fun k _ _ => e k (by omega)) _ (by have := hA.1; omega)]
  · rw [e (42 + 2 * p) (by omega), e (43 + 2 * p) (by omega)]; exact t8 p hp
  · rw [e (256 + 3 * p) (by omega), e (257 + 3 * p) (by omega), e (258 + 3 * p) (by omega)]; exact t9 p hp
theorem CX_Q {t r s : Nat} (hA : WF A) (e : ∀ k, k < 4012 → A' k = A k) (h : CX t r s A M) : CX t r s A' M :=
  ⟨rT_Q hA e h.1, rR_B (fun k _ _ => e k (by omega)) h.2.1, rS_B hA.2.2.2.2.1 (e 4 (by omega)) (fun k _ h2 => e k h2) h.2.2⟩
theorem WF_Q (hA : WF A) (e : ∀ k, k < 4012 → A' k = A k) : WF A' := by
  obtain ⟨w0, w1, w2, w3, w4, w5, w6, w7, w8, w9, w10⟩ := id hA
  refine WF_T hA (fun k hk => e k (by omega)) (by rw [e 0 (by omega)]; omega) (by rw [e 1 (by omega)]; omega) (by rw [e 2 (by omega)]; exact w2) (by rw [e 2 (by omega), e 3 (by omega)]; exact w3) (by rw [e 5 (by omega)]; exact w5) (fun p hp => ?_) (fun p hp => ?_) (fun p hp => ?_)
  · rw [e (10 + 4 * p) (by omega), e (11 + 4 * p) (by omega), e (12 + 4 * p) (by omega), e (13 + 4 * p) (by omega)]; exact w6 p hp
  · rw [e (42 + 2 * p) (by omega), e (43 + 2 * p) (by omega)]; exact w7 p hp
  · rw [e 5 (by omega)] at hp
    rw [e (256 + 3 * p) (by omega), e (257 + 3 * p) (by omega), e (258 + 3 * p) (by omega), e 0 (by omega)]; exact w8 p hp
/-- the image's picture -/
def Im (M : pm_M) : Prop := WF (M 89) ∧ CX 3 15 16 (M 89) M
def Inv (M : pm_M) : Prop := St M ∧ Im M ∧ M 89 2 ≤ M 88 2 ∧ TP M ∧ TF M ∧ TXS M (M 88 2) ∧ (M 77 7 = 0 ∨ NT M)
abbrev RV (y z : Int × pm_M) : Prop := y.1 = z.1 ∧ Inv z.2
theorem Im_c {M' : pm_M} (h : Im M) (hc : ∀ c ∈ [3, 4, 5, 6, 7, 8, 9, 10, 11, 12, 13, 15, 16, 17, 89], M' c = M c) : Im M' := by
  refine ⟨by rw [hc 89 (by decide)]; exact h.1, ?_⟩
  rw [hc 89 (by decide)]
  refine ⟨rT_congr (fun k hk => hc (3 + k) ?_) h.2.1, rR_congr (hc 15 (by decide)) h.2.2.1, rS_congr (hc 16 (by decide)) (hc 17 (by decide)) h.2.2.2⟩
  have : k = 0 ∨ k = 1 ∨ k = 2 ∨ k = 3 ∨ k = 4 ∨ k = 5 ∨ k = 6 ∨ k = 7 ∨ k = 8 ∨ k = 9 ∨ k = 10 := by omega
  rcases this with rfl | rfl | rfl | rfl | rfl | rfl | rfl | rfl | rfl | rfl | rfl <;> decide
theorem TXS_c {M' : pm_M} {n : Int} (hn : n ≤ 4) (h : TXS M n) (hc : ∀ c ∈ [40, 41, 42, 43, 44, 45, 46, 47, 48, 49, 50, 51, 52, 53, 54, 55, 56, 57, 58, 59, 60, 61, 62, 63, 91, 92, 93, 94, 95, 96, 97], M' c = M c) : TXS M' n := by
  intro t ht
  refine TXt_cg (h t ht) (fun i hi => ?_) (by rw [hc 91 (by decide)]) (fun c _ => by rw [hc 92 (by decide), hc 93 (by decide), hc 94 (by decide), hc 95 (by decide)]; exact ⟨rfl, rfl, rfl, rfl⟩) (fun i _ _ => by rw [hc 96 (by decide), hc 97 (by decide)]; exact ⟨rfl, rfl⟩)
  refine hc _ ?_
  have k : ∀ t : Fin 4, ∀ i : Fin 6, 40 + 6 * t.1 + i.1 ∈ [40, 41, 42, 43, 44, 45, 46, 47, 48, 49, 50, 51, 52, 53, 54, 55, 56, 57, 58, 59, 60, 61, 62, 63, 91, 92, 93, 94, 95, 96, 97] := by decide
  exact k ⟨t, by omega⟩ ⟨i, hi⟩
theorem Inv_n {y z : Int × pm_M} (h : Inv M) (e : ENn M y z) : RV y z := by
  obtain ⟨i1, i2, i3, i4, i5, i6, i7⟩ := h
  obtain ⟨e1, e2, e3, k1, k2, k3, k4, k5⟩ := e
  have hn := i1.1.2.2.1
  have c1 : ∀ c ∈ [3, 4, 5, 6, 7, 8, 9, 10, 11, 12, 13, 15, 16, 17, 89], c ∈ KL ∧ c ≠ 78 ∧ c ≠ 79 := by decide
  have c2 : ∀ c ∈ [40, 41, 42, 43, 44, 45, 46, 47, 48, 49, 50, 51, 52, 53, 54, 55, 56, 57, 58, 59, 60, 61, 62, 63, 91, 92, 93, 94, 95, 96, 97], c ∈ KL ∧ c ≠ 78 ∧ c ≠ 79 := by decide
  refine ⟨e1, e2, Im_c i2 (fun c hc => k1 c (c1 c hc).1 (c1 c hc).2.1 (c1 c hc).2.2), ?_, ?_, ?_, ?_, k5⟩
  · rw [e3, k1 89 (by decide) (by decide) (by decide)]; exact i3
  · unfold TP
    rw [k1 37 (by decide) (by decide) (by decide), k1 38 (by decide) (by decide) (by decide), k1 90 (by decide) (by decide) (by decide), k2]
    exact i4
  · unfold TF
    rw [k1 66 (by decide) (by decide) (by decide), k3, k4]
    exact i5
  · rw [e3]
    exact TXS_c (by omega) i6 (fun c hc => k1 c (c2 c hc).1 (c2 c hc).2.1 (c2 c hc).2.2)
theorem Inv_e {y z : Int × pm_M} (h : Inv M) (e : EN M y z) : RV y z := Inv_n h (EN_n h.2.2.2.2.2.2 e)
/-- feed and end -/
theorem Inv_f {M' : pm_M} (h : Inv M) (hT : TP M') (hf : fr [37, 38, 87, 90] M M') (hk : ∀ k, k ≠ 3 → M' 87 k = M 87 k) : Inv M' := by
  obtain ⟨i1, i2, i3, i4, i5, i6, i7⟩ := h
  have hn := i1.1.2.2.1
  have c1 : ∀ c ∈ [3, 4, 5, 6, 7, 8, 9, 10, 11, 12, 13, 15, 16, 17, 89], c ∉ [37, 38, 87, 90] := by decide
  have c2 : ∀ c ∈ [40, 41, 42, 43, 44, 45, 46, 47, 48, 49, 50, 51, 52, 53, 54, 55, 56, 57, 58, 59, 60, 61, 62, 63, 91, 92, 93, 94, 95, 96, 97], c ∉ [37, 38, 87, 90] := by decide
  have e88 : M' 88 = M 88 := hf 88 (by decide)
  refine ⟨⟨by rw [e88]; exact i1.1, by rw [e88]; exact CX_fr hf (by decide) i1.2⟩, Im_c i2 (fun c hc => hf c (c1 c hc)), by rw [e88, hf 89 (by decide)]; exact i3, hT, ?_, by rw [e88]; exact TXS_c (by omega) i6 (fun c hc => hf c (c2 c hc)), ?_⟩
  · unfold TF
    rw [hf 66 (by decide), hk 4 (by omega), hk 5 (by omega)]; exact i5
  · unfold NT
    rw [hf 77 (by decide), hf 78 (by decide), hf 79 (by decide)]; exact i7
theorem iv_feed (h : Inv M) (a b c d e : Int) : ok (f_X_feed a b c d e M) (fun y => ok (f_Q_feed a b c d e y.2) (fun z => RV y z)) :=
  ok_mono (st_feed h.2.2.2.1 a b c d e) (fun y hy => ok_mono hy (fun z hz => ⟨hz.1, Inv_f h hz.2.1 hz.2.2.1 hz.2.2.2⟩))
theorem iv_end (h : Inv M) (n : Int) : ok (f_X_end n M) (fun y => ok (f_Q_end n y.2) (fun z => RV y z)) :=
  ok_mono (st_end h.2.2.2.1 n) (fun y hy => ok_mono hy (fun z hz => ⟨hz.1, Inv_f h hz.2.1 hz.2.2.1 hz.2.2.2⟩))
theorem iv_text (h : Inv M) : ok (f_X_text M) (fun y => ok (f_Q_text y.2) (fun z => RV y z)) := by
  obtain ⟨i1, i2, i3, i4, i5, i6, i7⟩ := h
  refine ok_mono (st_text i1 i4 i5 i6) (fun y hy => ok_mono hy (fun z hz => ?_))
  obtain ⟨z1, z2, z3, z4, z5, z6, z7⟩ := hz
  have c1 : ∀ c ∈ [3, 4, 5, 6, 7, 8, 9, 10, 11, 12, 13, 15, 16, 17, 89], c ∈ KI := by decide
  refine ⟨z1, z2, Im_c i2 (fun c hc => z7 c (c1 c hc)), ?_, z3, z4, z5, ?_⟩
  · rw [z7 89 (by decide)]; omega
  · unfold NT
    rw [z7 77 (by decide), z7 78 (by decide), z7 79 (by decide)]; exact i7
theorem iv_image (h : Inv M) : ok (f_X_image M) (fun y => ok (f_Q_image y.2) (fun z => RV y z)) := by
  obtain ⟨i1, i2, i3, i4, i5, i6, i7⟩ := h
  have hn := i1.1.2.2.1
  refine ok_mono (x_image i1.1 i1.2) (fun y hy => ?_)
  obtain ⟨y1, y2, y3⟩ := hy
  have e88 : y.2 88 = M 88 := y3 88 (by decide)
  unfold f_Q_image
  refine ok_bind (q_copies1 y.2) (fun M' hM => ok_some ?_)
  obtain ⟨m1, m2, m3⟩ := hM
  have f : fr [3, 4, 5, 6, 7, 8, 9, 10, 11, 12, 13, 15, 16, 17, 89] M M' := fr_tr y3 m3 (by decide) (by decide)
  have e88' : M' 88 = M 88 := by rw [m1]; exact e88
  have e89 : ∀ k, k < 4012 → M' 89 k = M 88 k := fun k hk => by rw [m2, e88]; show (if k < 4012 then _ else _) = _; rw [if_pos hk]
  have c2 : ∀ c ∈ [40, 41, 42, 43, 44, 45, 46, 47, 48, 49, 50, 51, 52, 53, 54, 55, 56, 57, 58, 59, 60, 61, 62, 63, 91, 92, 93, 94, 95, 96, 97], c ∉ [3, 4, 5, 6, 7, 8, 9, 10, 11, 12, 13, 15, 16, 17, 89] := by decide
  have c3 : CX 3 15 16 (M 88) M' := ⟨rT_congr (fun k hk => m3 (3 + k) (by simp; omega)) y2.1, rR_congr (m3 15 (by decide)) y2.2.1, rS_congr (m3 16 (by decide)) (m3 17 (by decide)) y2.2.2⟩
  refine ⟨?_, show Inv M' from ⟨⟨by rw [e88']; exact i1.1, by rw [e88']; exact CX_fr f (by decide) i1.2⟩, ⟨WF_Q i1.1 e89, CX_Q i1.1 e89 c3⟩, ?_, ?_, ?_, ?_, ?_⟩⟩
  · show y.1 = M' 88 99
    rw [e88']; exact y1
  · show M' 89 2 ≤ M' 88 2
    rw [e89 2 (by omega), e88']; exact Int.le_refl _
  · unfold TP
    rw [f 37 (by decide), f 38 (by decide), f 90 (by decide), f 87 (by decide)]; exact i4
  · unfold TF
    rw [f 66 (by decide), f 87 (by decide)]; exact i5
  · rw [e88']; exact TXS_c (by omega) i6 (fun c hc => f c (c2 c hc))
  · unfold NT
    rw [f 77 (by decide), f 78 (by decide), f 79 (by decide)]; exact i7
theorem iv_back (h : Inv M) : ok (f_X_back M) (fun y => ok (f_Q_back y.2) (fun z => RV y z)) := by
  obtain ⟨i1, i2, i3, i4, i5, i6, i7⟩ := h
  have hn := i1.1.2.2.1
  refine ok_mono (x_back i2.1 i2.2) (fun y hy => ?_)
  obtain ⟨y1, y2, y3⟩ := hy
  unfold f_Q_back
  refine ok_bind (q_copies0 y.2) (fun M' hM => ok_some ?_)
  obtain ⟨m1, m2, m3⟩ := hM
  have e89y : y.2 89 = M 89 := y3 89 (by decide)
  have f : fr [1, 2, 24, 25, 26, 27, 28, 29, 30, 31, 32, 33, 34, 36, 88] M M' := fr_tr y3 m3 (by decide) (by decide)
  have e88 : ∀ k, k < 4012 → M' 88 k = M 89 k := fun k hk => by rw [m2, e89y]; show (if k < 4012 then _ else _) = _; rw [if_pos hk]
  have e89 : M' 89 = M 89 := f 89 (by decide)
  have c1 : ∀ c ∈ [3, 4, 5, 6, 7, 8, 9, 10, 11, 12, 13, 15, 16, 17, 89], c ∉ [1, 2, 24, 25, 26, 27, 28, 29, 30, 31, 32, 33, 34, 36, 88] := by decide
  have c2 : ∀ c ∈ [40, 41, 42, 43, 44, 45, 46, 47, 48, 49, 50, 51, 52, 53, 54, 55, 56, 57, 58, 59, 60, 61, 62, 63, 91, 92, 93, 94, 95, 96, 97], c ∉ [1, 2, 24, 25, 26, 27, 28, 29, 30, 31, 32, 33, 34, 36, 88] := by decide
  have c3 : CX 24 36 1 (M 89) M' := CX_fr m3 (by decide) y2
  refine ⟨?_, show Inv M' from ⟨⟨WF_Q i2.1 e88, CX_Q i2.1 e88 c3⟩, Im_c i2 (fun c hc => f c (c1 c hc)), ?_, ?_, ?_, ?_, ?_⟩⟩
  · show y.1 = M' 88 99
    rw [e88 99 (by omega)]; exact y1
  · show M' 89 2 ≤ M' 88 2
    rw [e89, e88 2 (by omega)]; exact Int.le_refl _
  · unfold TP
    rw [f 37 (by decide), f 38 (by decide), f 90 (by decide), f 87 (by decide)]; exact i4
  · unfold TF
    rw [f 66 (by decide), f 87 (by decide)]; exact i5
  · rw [e88 2 (by omega)]
    exact TXS_c (by omega) (fun t ht => i6 t (by omega)) (fun c hc => f c (c2 c hc))
  · unfold NT
    rw [f 77 (by decide), f 78 (by decide), f 79 (by decide)]; exact i7
-- the other calls
theorem iv_plinth (h : Inv M) (a b c d : Int) : ok (f_X_plinth a b c d M) (fun y => ok (f_Q_plinth a b c d y.2) (fun z => RV y z)) :=
  ok_mono (x_plinth h.1.1 h.1.2 a b c d) (fun _ hy => ok_mono (st_comb h.1 hy (fun _ e => q_plinth h.1.1 e a b c d) (fun z => w_plinth h.1.1 z) (by decide) (by decide)) (fun _ hz => Inv_e h hz))
theorem iv_head (h : Inv M) (a b : Int) : ok (f_X_head a b M) (fun y => ok (f_Q_head a b y.2) (fun z => RV y z)) :=
  ok_mono (x_head h.1.1 h.1.2 a b) (fun _ hy => ok_mono (st_comb h.1 hy (fun _ e => q_head h.1.1 e a b) (fun z => w_head h.1.1 z) (by decide) (by decide)) (fun _ hz => Inv_e h hz))
theorem iv_put (h : Inv M) (a b : Int) : ok (f_X_put a b M) (fun y => ok (f_Q_put a b y.2) (fun z => RV y z)) :=
  ok_mono (x_put h.1.1 h.1.2 a b) (fun _ hy => ok_mono (st_comb h.1 hy (fun _ e => q_put h.1.1 e a b) (fun z => w_put h.1.1 z) (by decide) (by decide)) (fun _ hz => Inv_e h hz))
theorem iv_off (h : Inv M) (a : Int) : ok (f_X_off a M) (fun y => ok (f_Q_off a y.2) (fun z => RV y z)) :=
  ok_mono (x_off h.1.1 h.1.2 a) (fun _ hy => ok_mono (st_comb h.1 hy (fun _ e => q_off h.1.1 e a) (fun z => w_off h.1.1 z.1) (by decide) (by decide)) (fun _ hz => Inv_e h hz))
theorem iv_change (h : Inv M) (a b : Int) : ok (f_X_change a b M) (fun y => ok (f_Q_change a b y.2) (fun z => RV y z)) :=
  ok_mono (x_change h.1.1 h.1.2 a b) (fun _ hy => ok_mono (st_comb h.1 hy (fun _ e => q_change h.1.1 e a b) (fun z => w_change h.1.1 z) (by decide) (by decide)) (fun _ hz => Inv_e h hz))
theorem iv_carve (h : Inv M) (a b : Int) : ok (f_X_carve a b M) (fun y => ok (f_Q_carve a b y.2) (fun z => RV y z)) :=
  ok_mono (x_carve h.1.1 h.1.2 a b) (fun _ hy => ok_mono (st_comb h.1 hy (fun _ e => q_carve h.1.1 e a b) (fun z => w_carve h.1.1 z) (by decide) (by decide)) (fun _ hz => Inv_e h hz))
theorem iv_pay (h : Inv M) (a b : Int) : ok (f_X_pay a b M) (fun y => ok (f_Q_pay a b y.2) (fun z => RV y z)) :=
  ok_mono (x_pay h.1.1 h.1.2 a b) (fun _ hy => ok_mono (st_comb h.1 hy (fun _ e => q_pay h.1.1 e a b) (fun z => w_pay h.1.1 z) (by decide) (by decide)) (fun _ hz => Inv_e h hz))
theorem iv_undo (h : Inv M) : ok (f_X_undo M) (fun y => ok (f_Q_undo y.2) (fun z => RV y z)) :=
  ok_mono (x_undo h.1.1 h.1.2) (fun _ hy => ok_mono (st_comb h.1 hy (fun _ e => q_undo h.1.1 e) (fun z => w_undo h.1.1 z) (by decide) (by decide)) (fun _ hz => Inv_e h hz))
theorem iv_seen (h : Inv M) (a b c : Int) : ok (f_X_seen a b c M) (fun y => ok (f_Q_seen a b c y.2) (fun z => RV y z)) :=
  ok_mono (x_seen h.1.1 h.1.2 a b c) (fun _ hy => ok_mono (st_comb h.1 hy (fun _ e => q_seen h.1.1 e a b c) (fun z => w_seen h.1.1 z) (by decide) (by decide)) (fun _ hz => Inv_e h hz))
theorem iv_forget (h : Inv M) : ok (f_X_forget M) (fun y => ok (f_Q_forget y.2) (fun z => RV y z)) :=
  ok_mono (x_forget h.1.1 h.1.2) (fun _ hy => ok_mono (st_comb h.1 hy (fun _ e => q_forget e) (fun _ => w_forget h.1.1) (by decide) (by decide)) (fun _ hz => Inv_e h hz))
theorem iv_by (h : Inv M) (a : Int) : ok (f_X_by a M) (fun y => ok (f_Q_by a y.2) (fun z => RV y z)) :=
  ok_mono (st_by h.1 a) (fun _ hy => ok_mono hy (fun _ hz => Inv_e h hz))
theorem iv_pass (h : Inv M) (a : Int) : ok (f_X_pass a M) (fun y => ok (f_Q_pass a y.2) (fun z => RV y z)) :=
  ok_mono (st_pass h.1 h.2.2.2.2.2.1 a) (fun _ hy => ok_mono hy (fun _ hz => Inv_e h hz))
theorem iv_played (h : Inv M) (a : Int) : ok (f_X_played a M) (fun y => ok (f_Q_played a y.2) (fun z => RV y z)) :=
  ok_mono (st_played h.1 h.2.2.2.2.2.1 a) (fun _ hy => ok_mono hy (fun _ hz => Inv_e h hz))
theorem iv_of (h : Inv M) (a b : Int) : ok (f_X_of a b M) (fun y => ok (f_Q_of a b y.2) (fun z => RV y z)) :=
  ok_mono (st_of h.1 h.2.2.2.2.2.1 a b) (fun _ hy => ok_mono hy (fun _ hz => Inv_e h hz))
theorem iv_best (h : Inv M) (a : Int) : ok (f_X_best a M) (fun y => ok (f_Q_best a y.2) (fun z => RV y z)) :=
  ok_mono (st_best h.1 h.2.2.2.2.2.1 a) (fun _ hy => ok_mono hy (fun _ hz => Inv_e h hz))
theorem iv_fewest (h : Inv M) : ok (f_X_fewest M) (fun y => ok (f_Q_fewest y.2) (fun z => RV y z)) :=
  ok_mono (st_fewest h.1 h.2.2.2.2.2.2) (fun _ hy => ok_mono hy (fun _ hz => Inv_n h hz))
theorem iv_who (h : Inv M) (a b : Int) : ok (f_X_who a b M) (fun y => ok (f_Q_who a b y.2) (fun z => RV y z)) :=
  ok_mono (st_who h.1 h.2.2.2.2.2.2 a b) (fun _ hy => ok_mono hy (fun _ hz => Inv_n h hz))
theorem iv_tour (h : Inv M) (a b c : Int) (hc : pm_i32 c) : ok (f_X_tour a b c M) (fun y => ok (f_Q_tour a b c y.2) (fun z => RV y z)) :=
  ok_mono (st_tour h.1 a b c hc) (fun _ hy => ok_mono hy (fun _ hz => Inv_e h hz))
theorem iv_rounds (h : Inv M) (a b : Int) : ok (f_X_rounds a b M) (fun y => ok (f_Q_rounds a b y.2) (fun z => RV y z)) :=
  ok_mono (st_rounds h.1 h.2.2.2.2.2.1 a b) (fun _ hy => ok_mono hy (fun _ hz => Inv_e h hz))
theorem iv_rev (h : Inv M) (a b : Int) : ok (f_X_revolution a b M) (fun y => ok (f_Q_revolution a b y.2) (fun z => RV y z)) :=
  ok_mono (st_rev h.1 a b) (fun _ hy => ok_mono hy (fun _ hz => Inv_e h hz))
end
