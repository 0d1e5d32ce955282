/-! THE LAW from its entry, in the pure machine -/
theorem pm_ns_out {N : pm_N} {a i c k v : Nat} (ha : a < 119) (hi : i < 60) (h : 119 ≤ c ∨ 60 ≤ k) : pm_ns N a i v c k = N c k := by
  unfold pm_ns
  by_cases h1 : c = a
  · rw [if_pos h1]
    have : k ≠ i := by omega
    simp [this, h1]
  · rw [if_neg h1]
theorem pm_RF_in : ∀ c, c < 119 → ∀ k, k < 60 → k_Q_init_87_N (k_X_init_0_N (fun _ _ => 0)) c k = pm_RF c k := by decide +kernel
theorem pm_RFl_out {c : Nat} (h : 119 ≤ c) : pm_RFl c = [] := by
  unfold pm_RFl
  repeat' (first | (rw [show Nat.blt c _ = false by (cases hb : Nat.blt c _ with | false => rfl | true => rw [Nat.blt_eq] at hb; omega)]; simp only [cond_false]) | (rw [show Nat.beq c _ = false by (cases hb : Nat.beq c _ with | false => rfl | true => have := Nat.eq_of_beq_eq_true hb; omega)]; rfl))
theorem pm_RFl_len : ∀ c, c < 119 → (pm_RFl c).length ≤ 60 := by decide +kernel
theorem pm_RF_out {c k : Nat} (h : 119 ≤ c ∨ 60 ≤ k) : pm_RF c k = 0 := by
  unfold pm_RF
  by_cases hc : c < 119
  · have := pm_RFl_len c hc
    rw [List.getD_eq_getElem?_getD, List.getElem?_eq_none (by omega)]; rfl
  · rw [pm_RFl_out (by omega)]; rfl
theorem pm_tower {c k : Nat} (h : 119 ≤ c ∨ 60 ≤ k) : k_Q_init_87_N (k_X_init_0_N (fun _ _ => 0)) c k = 0 := by
  simp only [k_Q_init_87_N, k_X_init_0_N, k_Steps_init_1_N, k_Told_init_3_N, k_Moment_init_14_N, k_Steps_init_16_N, k_Keeper_init_18_N, k_Told_init_24_N, k_Moment_init_35_N, k_Tape_init_37_N, k_Text_init_40_N, k_Text_init_46_N, k_Text_init_52_N, k_Text_init_58_N, k_Judge_init_64_N, k_Reader_init_66_N, k_Placing_init_67_N, k_Nights_init_77_N, k_Walk_init_83_N]
  repeat rw [pm_ns_out (by decide) (by decide) h]
theorem pm_hRF : k_Q_init_87_N (k_X_init_0_N (fun _ _ => 0)) = pm_RF := by
  funext c k
  by_cases h : c < 119 ∧ k < 60
  · exact pm_RF_in c h.1 k h.2
  · have h' : 119 ≤ c ∨ 60 ≤ k := by omega
    rw [pm_tower h', pm_RF_out h']
theorem law_run (G : pm_G) (ho : pm_oG G mt_L_law) : pm_R G mt_L_law 120 (0, [(0, .inr (.inr (30, 0)))], [], 0, fun _ _ => 0, fun _ _ => 0)
    ((f_Q_copies 1 pm_M1).bind fun M_ => f_L_law_L18 G pm_F 0 M_) (fun M' q => q = (1025, [], [.inl 1], 119, pm_RF, M')) := by
  refine R_st ho 2 (q' := (4, [(0, .inr (.inr (30, 0)))], [.inr (.inr (0, 0)), .inr (.inr (0, 0))], 1, fun _ _ => 0, fun _ _ => 0)) rfl ?_
  refine R_callC ho mi_X_init (Or.inl lk_13_9) rfl (As := []) (kd := 0) (a := 0) (st := [.inr (.inr (0, 0))]) rfl (by decide) (Nat.le_of_ble_eq_true rfl) rfl (by decide) (Nat.le_of_ble_eq_true rfl) (ok_X_init_0 G _ _) ?_
  show pm_R _ _ _ (7, [(0, .inr (.inr (30, 0)))], [.inr (.inr (0, 0))], 87, k_X_init_0_N (fun _ _ => 0), k_X_init_0_M (fun _ _ => 0)) _ _
  refine R_st ho 3 (q' := (12, [(1, .inr (.inr (0, 0))), (0, .inr (.inr (30, 0)))], [.inr (.inr (1, 87)), .inr (.inr (1, 87))], 88, k_X_init_0_N (fun _ _ => 0), k_X_init_0_M (fun _ _ => 0))) rfl ?_
  have hc := ok_Q_init_87 G (k_X_init_0_N (fun _ _ => 0)) (k_X_init_0_M (fun _ _ => 0)) pm_hRF
  have e1 : ((f_Q_copies 1 pm_M1).bind fun M_ => f_L_law_L18 G pm_F 0 M_) = (((f_Q_copies 1 (k_Q_init_87_M (k_X_init_0_M (fun _ _ => 0)))).map (fun M_ => (119, pm_RF, M_))).bind fun y : Nat × pm_N × pm_M => if y.1 = 119 ∧ True then f_L_law_L18 G pm_F 0 y.2.2 else none) := by
    show (f_Q_copies 1 (k_Q_init_87_M (k_X_init_0_M (fun _ _ => 0)))).bind _ = _
    cases f_Q_copies 1 (k_Q_init_87_M (k_X_init_0_M (fun _ _ => 0))) <;> simp
  rw [e1]
  intro y hy
  obtain ⟨b, hb, hk⟩ := Option.bind_eq_some_iff.mp hy
  obtain ⟨M0, hM0, rfl⟩ := Option.map_eq_some_iff.mp hb
  simp only [and_self, if_true] at hk
  have hcall := pm_callI (t := mt_L_law) (tc := mt_Q_init) (idx := 12) (pc := 12) (d := 120) (ls := [(1, .inr (.inr (0, 0))), (0, .inr (.inr (30, 0)))]) (st := [.inr (.inr (1, 87))]) (As := []) (kd := 1) (a := 87) ho.1 mi_Q_init.1.1 mi_Q_init.2.1 mi_Q_init.1.2.2 rfl (Or.inl lk_13_12) mi_Q_init.2.2.1 mi_Q_init.2.2.2.1 mi_Q_init.2.2.2.2 (by decide) (Nat.le_of_ble_eq_true rfl) rfl (by decide) (Nat.le_of_ble_eq_true rfl) (R_rt hc hb)
  have hrest : pm_R G mt_L_law 120 (15, [(1, .inr (.inr (0, 0))), (0, .inr (.inr (30, 0)))], [.inr (.inr (1, 87))], 119, pm_RF, M0) (f_L_law_L18 G pm_F 0 M0) (fun M' q => q = (1025, [], [.inl 1], 119, pm_RF, M')) := by
    refine R_st ho 3 (q' := (18, [(3, .inl 0), (2, .inr (.inr (1, 87))), (1, .inr (.inr (0, 0))), (0, .inr (.inr (30, 0)))], [], 119, pm_RF, M0)) rfl ?_
    refine R_pk [0, 1, 2, 3] rfl ?_
    intro y2 hy2
    obtain ⟨q1, h1, h2⟩ := ok_L_law_L18 G G ho pm_F 0 M0 y2 hy2
    subst h1
    obtain ⟨q2, h3, h4⟩ := (R_st ho 1 (q' := (1025, [], [.inl 1], 119, pm_RF, y2)) rfl (R_ret rfl) : pm_R G mt_L_law 120 (1024, [], [], 119, pm_RF, y2) (some y2) (fun M' q => q = (1025, [], [.inl 1], 119, pm_RF, M'))) y2 rfl
    exact ⟨q2, h3, pm_re_trans h2 h4⟩
  obtain ⟨q2, h3, h4⟩ := hrest y hk
  exact ⟨q2, h3, pm_re_trans hcall h4⟩
