/-! CONSTANTS, the stack, conversions, jumps -/
section
variable {G : pm_G} {t : pm_T} {d : Nat} {pc len n : Nat} {ls : pm_L} {st : List pm_V} {N : pm_N} {M : pm_M} {q' : pm_Q}
theorem pm_s_push {v : pm_V} {pc' : Nat} (hv : pm_okv n v)
    (hl : ∀ (p : Program) (e : Env) (R : Room) (s : State) (m : MethodId) (args : Array Value) (below : List Frame) (meth : Method) (c : Code) (H : Heap) (locs : List Loc) (cells slots : Nat) (Q : State → Prop) (A : Nat → Prop) (ad : Nat → Nat) (lsr : Array Slot) (rest : List Value), pm_Ss G args A s → pm_Fx t d p R s m meth c →
      W p (g_l G) e R s m args below meth c H locs cells slots Q (F0 m pc' lsr (pm_tv G ad v :: rest)) → W p (g_l G) e R s m args below meth c H locs cells slots Q (F0 m pc lsr rest)) :
    pm_re G t d (pc, ls, st, n, N, M) (pc', ls, v :: st, n, N, M) := by
  refine pm_re_stk (fun h1 h2 _ _ w hw => ?_) ?_
  · rcases List.mem_cons.mp hw with rfl | hw
    · exact hv
    · exact h2 w hw
  · intro p e R s m args below meth c H locs cells slots Q A ad lsr hS hF hX hD kk
    exact hl p e R s m args below meth c H locs cells slots Q A ad lsr _ hS hF kk
theorem pm_s_iconst {x : Int} (hdg : decode (pm_tB t) pc = .ok (.iconst x, 1)) (h : pm_st (g_L G) (g_sx G) (pm_tL t) (pm_tO t) (.iconst x) pc ls st n N M = some q') : pm_re G t d (pc, ls, st, n, N, M) q' := by
  simp only [pm_st] at h
  split at h
  · rename_i hx
    cases h
    exact pm_s_push ⟨by omega, by omega⟩ (fun p e R s m args below meth c H locs cells slots Q A ad lsr rest hS hF kk => lv_iconst hF.1 hF.2.1 hdg rfl kk)
  · cases h
theorem pm_b8 {x : Int} (h : -128 ≤ x ∧ x ≤ 127) : (Int8.ofInt x).toInt32 = Int32.ofInt x := by
  apply Int32.toInt_inj.mp
  rw [Int8.toInt_toInt32, e32 ⟨by omega, by omega⟩, Int8.toInt_ofInt]
  have hz : Int8.size = 256 := rfl
  rw [hz]
  exact Int.bmod_eq_of_le (by omega) (by omega)
theorem pm_b16 {x : Int} (h : -32768 ≤ x ∧ x ≤ 32767) : (Int16.ofInt x).toInt32 = Int32.ofInt x := by
  apply Int32.toInt_inj.mp
  rw [Int16.toInt_toInt32, e32 ⟨by omega, by omega⟩, Int16.toInt_ofInt]
  have hz : Int16.size = 65536 := rfl
  rw [hz]
  exact Int.bmod_eq_of_le (by omega) (by omega)
theorem pm_s_bipush {x : Int} (hdg : decode (pm_tB t) pc = .ok (.bipush x, 2)) (h : pm_st (g_L G) (g_sx G) (pm_tL t) (pm_tO t) (.bipush x) pc ls st n N M = some q') : pm_re G t d (pc, ls, st, n, N, M) q' := by
  simp only [pm_st] at h
  split at h
  · rename_i hx
    cases h
    exact pm_s_push ⟨by omega, by omega⟩ (fun p e R s m args below meth c H locs cells slots Q A ad lsr rest hS hF kk => lv_bipush hF.1 hF.2.1 hdg (pm_b8 hx) kk)
  · cases h
theorem pm_s_sipush {x : Int} (hdg : decode (pm_tB t) pc = .ok (.sipush x, 3)) (h : pm_st (g_L G) (g_sx G) (pm_tL t) (pm_tO t) (.sipush x) pc ls st n N M = some q') : pm_re G t d (pc, ls, st, n, N, M) q' := by
  simp only [pm_st] at h
  split at h
  · rename_i hx
    cases h
    exact pm_s_push ⟨by omega, by omega⟩ (fun p e R s m args below meth c H locs cells slots Q A ad lsr rest hS hF kk => lv_sipush hF.1 hF.2.1 hdg (pm_b16 hx) kk)
  · cases h
theorem pm_s_lconst {x : Fin 2} (hdg : decode (pm_tB t) pc = .ok (.lconst x, 1)) (h : pm_st (g_L G) (g_sx G) (pm_tL t) (pm_tO t) (.lconst x) pc ls st n N M = some q') : pm_re G t d (pc, ls, st, n, N, M) q' := by
  simp only [pm_st] at h
  cases h
  have hx := x.isLt
  exact pm_s_push ⟨by omega, by omega⟩ (fun p e R s m args below meth c H locs cells slots Q A ad lsr rest hS hF kk => lv_lconst hF.1 hF.2.1 hdg (by rcases (show x = 0 ∨ x = 1 by omega) with rfl | rfl <;> rfl) kk)
theorem pm_s_ldc {k : Nat} (hdg : decode (pm_tB t) pc = .ok (.ldc k, 2)) (h : pm_st (g_L G) (g_sx G) (pm_tL t) (pm_tO t) (.ldc k) pc ls st n N M = some q') : pm_re G t d (pc, ls, st, n, N, M) q' := by
  simp only [pm_st] at h
  unfold pm_ldi at h
  split at h
  · rename_i x hg
    cases h
    obtain ⟨hw, hr⟩ := pm_wC hg
    exact pm_s_push hr (fun p e R s m args below meth c H locs cells slots Q A ad lsr rest hS hF kk => lv_ldc hF.1 hF.2.1 hF.2.2.2.1 (hS.1 _ hw) hdg kk)
  · cases h
theorem pm_s_ldcw {k : Nat} (hdg : decode (pm_tB t) pc = .ok (.ldc_w k, 3)) (h : pm_st (g_L G) (g_sx G) (pm_tL t) (pm_tO t) (.ldc_w k) pc ls st n N M = some q') : pm_re G t d (pc, ls, st, n, N, M) q' := by
  simp only [pm_st] at h
  unfold pm_ldi at h
  split at h
  · rename_i x hg
    cases h
    obtain ⟨hw, hr⟩ := pm_wC hg
    exact pm_s_push hr (fun p e R s m args below meth c H locs cells slots Q A ad lsr rest hS hF kk => lv_ldcw hF.1 hF.2.1 hF.2.2.2.1 (hS.1 _ hw) hdg kk)
  · cases h
theorem pm_s_ldc2 {k : Nat} (hdg : decode (pm_tB t) pc = .ok (.ldc2_w k, 3)) (h : pm_st (g_L G) (g_sx G) (pm_tL t) (pm_tO t) (.ldc2_w k) pc ls st n N M = some q') : pm_re G t d (pc, ls, st, n, N, M) q' := by
  simp only [pm_st] at h
  unfold pm_ldl at h
  split at h
  · rename_i x hg
    cases h
    obtain ⟨hw, hr⟩ := pm_wL hg
    exact pm_s_push hr (fun p e R s m args below meth c H locs cells slots Q A ad lsr rest hS hF kk => lv_ldc2 hF.1 hF.2.1 hF.2.2.2.1 (hS.1 _ hw) hdg kk)
  · cases h
theorem pm_s_dup (hdg : decode (pm_tB t) pc = .ok (.dup, 1)) (h : pm_st (g_L G) (g_sx G) (pm_tL t) (pm_tO t) .dup pc ls st n N M = some q') : pm_re G t d (pc, ls, st, n, N, M) q' := by
  simp only [pm_st] at h
  split at h
  · rename_i v st'
    split at h
    · rename_i hc
      cases h
      refine pm_re_stk (fun h1 h2 _ _ w hw => ?_) ?_
      · rcases List.mem_cons.mp hw with rfl | hw
        · exact h2 _ List.mem_cons_self
        · exact h2 w hw
      · intro p e R s m args below meth c H locs cells slots Q A ad lsr hS hF hX hD kk
        exact lv_dup hF.1 hF.2.1 hdg (by rw [pm_cat_eq]; exact hc) kk
    · cases h
  · cases h
theorem pm_s_dup2 (hdg : decode (pm_tB t) pc = .ok (.dup2, 1)) (h : pm_st (g_L G) (g_sx G) (pm_tL t) (pm_tO t) .dup2 pc ls st n N M = some q') : pm_re G t d (pc, ls, st, n, N, M) q' := by
  simp only [pm_st] at h
  split at h
  · rename_i v w st'
    split at h
    · rename_i hc
      cases h
      refine pm_re_stk (fun h1 h2 _ _ u hu => ?_) ?_
      · rcases List.mem_cons.mp hu with rfl | hu
        · exact h2 _ List.mem_cons_self
        · rcases List.mem_cons.mp hu with rfl | hu
          · exact h2 _ (List.mem_cons_of_mem _ List.mem_cons_self)
          · exact h2 u hu
      · intro p e R s m args below meth c H locs cells slots Q A ad lsr hS hF hX hD kk
        exact lv_dup2_11 hF.1 hF.2.1 hdg (by rw [pm_cat_eq]; exact hc.1) (by rw [pm_cat_eq]; exact hc.2) kk
    · cases h
  · cases h
theorem pm_s_ldiv (hdg : decode (pm_tB t) pc = .ok (.ldiv, 1)) (h : pm_st (g_L G) (g_sx G) (pm_tL t) (pm_tO t) .ldiv pc ls st n N M = some q') : pm_re G t d (pc, ls, st, n, N, M) q' := by
  simp only [pm_st] at h
  split at h
  · rename_i b a st'
    split at h
    · cases h
    · rename_i hb
      cases h
      refine pm_re_stk (fun h1 h2 _ _ v hv => ?_) ?_
      · rcases List.mem_cons.mp hv with rfl | hv
        · exact r64 _
        · exact h2 v (List.mem_cons_of_mem _ (List.mem_cons_of_mem _ hv))
      · intro p e R s m args below meth c H locs cells slots Q A ad lsr hS hF hX hD kk
        have hbo : pm_i64 b := hD.2.2.2.2.1 (.inr (.inl b)) List.mem_cons_self
        refine lv_ldiv hF.1 hF.2.1 hdg (fun z => hb ((q64 hbo z64).mp (by rw [z]; rfl))) ?_
        have e1 : Int64.ofInt (l_dv a b) = Int64.ofInt a / Int64.ofInt b := Int64.ofInt_toInt _
        rw [← e1]; exact kk
  · cases h
theorem pm_s_lneg (hdg : decode (pm_tB t) pc = .ok (.lneg, 1)) (h : pm_st (g_L G) (g_sx G) (pm_tL t) (pm_tO t) .lneg pc ls st n N M = some q') : pm_re G t d (pc, ls, st, n, N, M) q' := by
  simp only [pm_st] at h
  split at h
  · rename_i a st'
    cases h
    refine pm_re_stk (fun h1 h2 _ _ v hv => ?_) ?_
    · rcases List.mem_cons.mp hv with rfl | hv
      · exact r64 _
      · exact h2 v (List.mem_cons_of_mem _ hv)
    · intro p e R s m args below meth c H locs cells slots Q A ad lsr hS hF hX hD kk
      refine lv_lneg hF.1 hF.2.1 hdg ?_
      have e1 : Int64.ofInt (l_ng a) = -Int64.ofInt a := Int64.ofInt_toInt _
      rw [← e1]; exact kk
  · cases h
theorem pm_cmp {a b : Int} (ha : pm_i64 a) (hb : pm_i64 b) : lg_cmp (Int64.ofInt a) (Int64.ofInt b) = Int32.ofInt (l_cm a b) := by
  unfold lg_cmp l_cm
  have h1 := l64 hb ha
  have h2 := q64 ha hb
  by_cases c1 : a < b
  · rw [if_pos c1, if_neg (by rw [gt_iff_lt, h1]; omega), if_neg (by rw [h2]; omega)]; rfl
  · rw [if_neg c1]
    by_cases c2 : a = b
    · rw [if_pos c2, if_neg (by rw [gt_iff_lt, h1]; omega), if_pos (h2.mpr c2)]; rfl
    · rw [if_neg c2, if_pos (by rw [gt_iff_lt, h1]; omega)]; rfl
theorem pm_s_lcmp (hdg : decode (pm_tB t) pc = .ok (.lcmp, 1)) (h : pm_st (g_L G) (g_sx G) (pm_tL t) (pm_tO t) .lcmp pc ls st n N M = some q') : pm_re G t d (pc, ls, st, n, N, M) q' := by
  simp only [pm_st] at h
  split at h
  · rename_i b a st'
    cases h
    refine pm_re_stk (fun h1 h2 _ _ v hv => ?_) ?_
    · rcases List.mem_cons.mp hv with rfl | hv
      · show pm_i32 (l_cm a b)
        unfold l_cm pm_i32
        by_cases c1 : a < b
        · rw [if_pos c1]; omega
        · rw [if_neg c1]; by_cases c2 : a = b
          · rw [if_pos c2]; omega
          · rw [if_neg c2]; omega
      · exact h2 v (List.mem_cons_of_mem _ (List.mem_cons_of_mem _ hv))
    · intro p e R s m args below meth c H locs cells slots Q A ad lsr hS hF hX hD kk
      have hbo : pm_i64 b := hD.2.2.2.2.1 (.inr (.inl b)) List.mem_cons_self
      have hao : pm_i64 a := hD.2.2.2.2.1 (.inr (.inl a)) (List.mem_cons_of_mem _ List.mem_cons_self)
      refine W.lcmp hF.1 hF.2.1 hdg ?_
      rw [pm_cmp hao hbo]; exact kk
  · cases h
theorem pm_s_i2l (hdg : decode (pm_tB t) pc = .ok (.i2l, 1)) (h : pm_st (g_L G) (g_sx G) (pm_tL t) (pm_tO t) .i2l pc ls st n N M = some q') : pm_re G t d (pc, ls, st, n, N, M) q' := by
  simp only [pm_st] at h
  split at h
  · rename_i a st'
    cases h
    refine pm_re_stk (fun h1 h2 _ _ v hv => ?_) ?_
    · rcases List.mem_cons.mp hv with rfl | hv
      · have := h2 (.inl a) List.mem_cons_self
        exact ⟨by have := this.1; omega, by have := this.2; omega⟩
      · exact h2 v (List.mem_cons_of_mem _ hv)
    · intro p e R s m args below meth c H locs cells slots Q A ad lsr hS hF hX hD kk
      have hao : pm_i32 a := hD.2.2.2.2.1 (.inl a) List.mem_cons_self
      refine lv_i2l (v := Int64.ofInt a) hF.1 hF.2.1 hdg ?_ kk
      apply Int64.toInt_inj.mp
      rw [Int32.toInt_toInt64, e32 hao, e64 ⟨by have := hao.1; omega, by have := hao.2; omega⟩]
  · cases h
theorem pm_s_l2i (hdg : decode (pm_tB t) pc = .ok (.l2i, 1)) (h : pm_st (g_L G) (g_sx G) (pm_tL t) (pm_tO t) .l2i pc ls st n N M = some q') : pm_re G t d (pc, ls, st, n, N, M) q' := by
  simp only [pm_st] at h
  split at h
  · rename_i a st'
    cases h
    refine pm_re_stk (fun h1 h2 _ _ v hv => ?_) ?_
    · rcases List.mem_cons.mp hv with rfl | hv
      · exact r32 _
      · exact h2 v (List.mem_cons_of_mem _ hv)
    · intro p e R s m args below meth c H locs cells slots Q A ad lsr hS hF hX hD kk
      exact lv_l2i (v := Int32.ofInt (l_2i a)) hF.1 hF.2.1 hdg (Int32.ofInt_toInt _).symm kk
  · cases h
theorem pm_to_eq {off : Int} (h : 0 ≤ (pc : Int) + off) : (pc : Int) + off = (pm_to pc off : Int) := by
  unfold pm_to; omega
theorem pm_s_goto {off : Int} (hdg : decode (pm_tB t) pc = .ok (.goto off, 3)) (h : pm_st (g_L G) (g_sx G) (pm_tL t) (pm_tO t) (.goto off) pc ls st n N M = some q') : pm_re G t d (pc, ls, st, n, N, M) q' := by
  simp only [pm_st] at h
  split at h
  · rename_i ho
    cases h
    exact pm_re_stk (fun h1 h2 _ _ => h2) (fun p e R s m args below meth c H locs cells slots Q A ad lsr hS hF hX hD kk => lv_goto hF.1 hF.2.1 hdg (pm_to_eq ho) kk)
  · cases h
theorem pm_s_if {k : ClassFile.Cond} {off : Int} (hdg : decode (pm_tB t) pc = .ok (.ifCond k off, 3)) (h : pm_st (g_L G) (g_sx G) (pm_tL t) (pm_tO t) (.ifCond k off) pc ls st n N M = some q') : pm_re G t d (pc, ls, st, n, N, M) q' := by
  simp only [pm_st] at h
  split at h
  · rename_i a st'
    split at h
    · rename_i ho
      cases h
      refine pm_re_stk (fun h1 h2 _ _ v hv => h2 v (List.mem_cons_of_mem _ hv)) ?_
      intro p e R s m args below meth c H locs cells slots Q A ad lsr hS hF hX hD kk
      have hao : pm_i32 a := hD.2.2.2.2.1 (.inl a) List.mem_cons_self
      have z0 : (0 : Int32) = Int32.ofInt 0 := rfl
      have c1 := q32 hao z32
      have c2 := l32 hao z32
      have c3 := k32 hao z32
      have c4 := l32 z32 hao
      have c5 := k32 z32 hao
      rw [← z0] at c1 c2 c3 c4 c5
      cases k with
      | eq => exact lv_if_eq hF.1 hF.2.1 hdg (pm_to_eq ho) (fun z => by rw [pm_cnd, if_pos (c1.mp z)] at kk; exact kk) (fun z => by rw [pm_cnd, if_neg (fun y => z (c1.mpr y))] at kk; exact kk)
      | ne => exact lv_if_ne hF.1 hF.2.1 hdg (pm_to_eq ho) (fun z => by rw [pm_cnd, if_neg (fun y => z (c1.mpr y))] at kk; exact kk) (fun z => by rw [pm_cnd, if_pos (c1.mp z)] at kk; exact kk)
      | lt => exact lv_if_lt hF.1 hF.2.1 hdg (pm_to_eq ho) (fun z => by rw [pm_cnd, if_pos (c2.mp z)] at kk; exact kk) (fun z => by rw [pm_cnd, if_neg (fun y => z (c2.mpr y))] at kk; exact kk)
      | ge => exact lv_if_ge hF.1 hF.2.1 hdg (pm_to_eq ho) (fun z => by rw [pm_cnd, if_pos (c5.mp z)] at kk; exact kk) (fun z => by rw [pm_cnd, if_neg (fun y => z (c5.mpr y))] at kk; exact kk)
      | gt => exact lv_if_gt hF.1 hF.2.1 hdg (pm_to_eq ho) (fun z => by rw [pm_cnd, if_pos (c4.mp z)] at kk; exact kk) (fun z => by rw [pm_cnd, if_neg (fun y => z (c4.mpr y))] at kk; exact kk)
      | le => exact lv_if_le hF.1 hF.2.1 hdg (pm_to_eq ho) (fun z => by rw [pm_cnd, if_pos (c3.mp z)] at kk; exact kk) (fun z => by rw [pm_cnd, if_neg (fun y => z (c3.mpr y))] at kk; exact kk)
    · cases h
  · cases h
theorem pm_s_icmp {k : ClassFile.Cond} {off : Int} (hdg : decode (pm_tB t) pc = .ok (.if_icmp k off, 3)) (h : pm_st (g_L G) (g_sx G) (pm_tL t) (pm_tO t) (.if_icmp k off) pc ls st n N M = some q') : pm_re G t d (pc, ls, st, n, N, M) q' := by
  simp only [pm_st] at h
  split at h
  · rename_i b a st'
    split at h
    · rename_i ho
      cases h
      refine pm_re_stk (fun h1 h2 _ _ v hv => h2 v (List.mem_cons_of_mem _ (List.mem_cons_of_mem _ hv))) ?_
      intro p e R s m args below meth c H locs cells slots Q A ad lsr hS hF hX hD kk
      have hbo : pm_i32 b := hD.2.2.2.2.1 (.inl b) List.mem_cons_self
      have hao : pm_i32 a := hD.2.2.2.2.1 (.inl a) (List.mem_cons_of_mem _ List.mem_cons_self)
      have c1 := q32 hao hbo
      have c2 := l32 hao hbo
      have c3 := k32 hao hbo
      have c4 := l32 hbo hao
      have c5 := k32 hbo hao
      cases k with
      | eq => exact lv_icmp_eq hF.1 hF.2.1 hdg (pm_to_eq ho) (fun z => by rw [pm_cnd, if_pos (c1.mp z)] at kk; exact kk) (fun z => by rw [pm_cnd, if_neg (fun y => z (c1.mpr y))] at kk; exact kk)
      | ne => exact lv_icmp_ne hF.1 hF.2.1 hdg (pm_to_eq ho) (fun z => by rw [pm_cnd, if_neg (fun y => z (c1.mpr y))] at kk; exact kk) (fun z => by rw [pm_cnd, if_pos (c1.mp z)] at kk; exact kk)
      | lt => exact lv_icmp_lt hF.1 hF.2.1 hdg (pm_to_eq ho) (fun z => by rw [pm_cnd, if_pos (c2.mp z)] at kk; exact kk) (fun z => by rw [pm_cnd, if_neg (fun y => z (c2.mpr y))] at kk; exact kk)
      | ge => exact lv_icmp_ge hF.1 hF.2.1 hdg (pm_to_eq ho) (fun z => by rw [pm_cnd, if_pos (c5.mp z)] at kk; exact kk) (fun z => by rw [pm_cnd, if_neg (fun y => z (c5.mpr y))] at kk; exact kk)
      | gt => exact lv_icmp_gt hF.1 hF.2.1 hdg (pm_to_eq ho) (fun z => by rw [pm_cnd, if_pos (c4.mp z)] at kk; exact kk) (fun z => by rw [pm_cnd, if_neg (fun y => z (c4.mpr y))] at kk; exact kk)
      | le => exact lv_icmp_le hF.1 hF.2.1 hdg (pm_to_eq ho) (fun z => by rw [pm_cnd, if_pos (c3.mp z)] at kk; exact kk) (fun z => by rw [pm_cnd, if_neg (fun y => z (c3.mpr y))] at kk; exact kk)
    · cases h
  · cases h
theorem pm_s_table {dd lo hi : Int} {offs : Array Int} (hdg : decode (pm_tB t) pc = .ok (.tableswitch dd lo hi offs, len)) (h : pm_st (g_L G) (g_sx G) (pm_tL t) (pm_tO t) (.tableswitch dd lo hi offs) pc ls st n N M = some q') : pm_re G t d (pc, ls, st, n, N, M) q' := by
  simp only [pm_st] at h
  split at h
  · rename_i x st'
    split at h
    · rename_i p0 hp
      split at h
      · rename_i ho
        cases h
        refine pm_re_stk (fun h1 h2 _ _ v hv => h2 v (List.mem_cons_of_mem _ hv)) ?_
        intro p e R s m args below meth c H locs cells slots Q A ad lsr hS hF hX hD kk
        have hao : pm_i32 x := hD.2.2.2.2.1 (.inl x) List.mem_cons_self
        have ex := e32 hao
        unfold pm_sw at hp
        split at hp
        · rename_i hr
          cases hp
          exact lv_tableOut hF.1 hF.2.1 hdg (by rw [ex]; exact hr) (pm_to_eq ho.1) kk
        · rename_i hr
          split at hp
          · rename_i o hoo
            cases hp
            have hall := Array.all_eq_true.mp ho.2
            obtain ⟨hlt, heq⟩ := Array.getElem?_eq_some_iff.mp hoo
            have h3 := hall _ hlt
            rw [heq] at h3
            exact lv_tableIn hF.1 hF.2.1 hdg (by rw [ex]; omega) (by rw [ex]; omega) (by rw [ex]; exact hoo) (pm_to_eq (by simpa using h3)) kk
          · cases hp
      · cases h
    · cases h
  · cases h
theorem pm_s_lookup {dd : Int} {ps : Array (Int × Int)} (hdg : decode (pm_tB t) pc = .ok (.lookupswitch dd ps, len)) (h : pm_st (g_L G) (g_sx G) (pm_tL t) (pm_tO t) (.lookupswitch dd ps) pc ls st n N M = some q') : pm_re G t d (pc, ls, st, n, N, M) q' := by
  simp only [pm_st] at h
  split at h
  · rename_i x st'
    split at h
    · rename_i ho
      cases h
      refine pm_re_stk (fun h1 h2 _ _ v hv => h2 v (List.mem_cons_of_mem _ hv)) ?_
      intro p e R s m args below meth c H locs cells slots Q A ad lsr hS hF hX hD kk
      have hao : pm_i32 x := hD.2.2.2.2.1 (.inl x) List.mem_cons_self
      exact lv_lookup hF.1 hF.2.1 hdg ho.1 (by rw [e32 hao]) (pm_to_eq ho.2) kk
    · cases h
  · cases h
end
