/-! NEW CELLS; Object.<init>; System.arraycopy; ONE STEP and k STEPS of the pure machine are steps of the machine -/
theorem pm_okx0 (n : Nat) (k : Nat × Nat) : pm_okx n k 0 := by
  unfold pm_okx
  split
  · exact z32
  · exact Or.inl rfl
  · exact z64
  · omega
  · exact Or.inl rfl
  · trivial
theorem pm_okM_up {n : Nat} {M : pm_M} (h : pm_okM n M) : pm_okM (n + 1) M := by
  refine ⟨fun c hc k => ?_, fun c hc k => h.2 c (by omega) k⟩
  by_cases h1 : c < n
  · exact pm_okx_mono (by omega) (h.1 c h1 k)
  · rw [h.2 c (by omega) k]; exact pm_okx0 _ _
theorem pm_okN_up {n : Nat} {N : pm_N} (h : pm_okN n N) : pm_okN (n + 1) N := by
  refine ⟨fun c hc k hk => ?_, fun c hc k => h.2 c (by omega) k⟩
  by_cases h1 : c < n
  · exact (h.1 c h1 k hk).imp id (pm_okv_mono (by omega))
  · exact Or.inl (h.2 c (by omega) k)
theorem pm_ws_up {G : pm_G} {ad : Nat → Nat} {n q : Nat} {N : pm_N} {M : pm_M} (hN : pm_okN n N) (hM : pm_okM n M) : pm_ws G (fun a => if a = n then q else ad a) (n + 1) N M = pm_ws G ad n N M ++ [(q, pm_en G (fun a => if a = n then q else ad a) n (N n) (M n))] := by
  unfold pm_ws
  rw [List.range_succ, List.map_append]
  congr 1
  · apply List.map_congr_left
    intro c hc
    have hc' : c < n := List.mem_range.mp hc
    have h1 : ∀ a, a < n → (if a = n then q else ad a) = ad a := fun a ha => if_neg (by omega)
    rw [pm_en_eq h1 hc' hN hM]
    exact congrArg (fun z => (z, pm_en G ad c (N c) (M c))) (h1 c hc')
  · simp
theorem pm_dflt {G : pm_G} {ad : Nat → Nat} {ci k : Nat} (h : ci < 13) (hk : k < pm_nf ci) : defaultValue (pm_fty ci k) = pm_fw G ad ((pm_fk ci).getD k (0, 0)) 0 0 := by
  unfold pm_fw
  rcases pm_fk_spec h hk with ⟨e, z, -⟩ | ⟨e, -, z⟩ | ⟨e, -, z⟩
  · rw [e]
    rcases z with ⟨-, z⟩ | ⟨-, z⟩ <;> rw [z] <;> rfl
  · rw [e]
    cases hty : pm_fty ci k <;> rw [hty] at z <;> first | (cases z; done) | rfl
  · rw [e]
    cases hty : pm_fty ci k <;> rw [hty] at z <;> first | (cases z; done) | rfl
theorem pm_lsm {G : pm_G} {ad ad' : Nat → Nat} {n : Nat} (h : ∀ c, c < n → ad' c = ad c) {ls : pm_L} (hl : ∀ q ∈ ls, pm_okv n q.2) : ls.map (pm_tp G ad') = ls.map (pm_tp G ad) := by
  apply List.map_congr_left
  intro q hq
  unfold pm_tp
  rw [pm_tv_eq h (hl q hq)]
theorem pm_stm {G : pm_G} {ad ad' : Nat → Nat} {n : Nat} (h : ∀ c, c < n → ad' c = ad c) {st : List pm_V} (hl : ∀ v ∈ st, pm_okv n v) : st.map (pm_tv G ad') = st.map (pm_tv G ad) := by
  apply List.map_congr_left
  intro v hv
  rw [pm_tv_eq h (hl v hv)]
section
variable {G : pm_G} {t : pm_T} {d : Nat} {pc len n : Nat} {ls : pm_L} {st : List pm_V} {N : pm_N} {M : pm_M} {q' : pm_Q}
/-- behind a new cell -/
theorem pm_re_new {pc' kd : Nat} {st0 : List pm_V} (hkd : kd < 25) (hlay : (pm_lay n).1 = kd) (hst : (∀ v ∈ st, pm_okv n v) → ∀ v ∈ st0, pm_okv n v)
    (h : ∀ (p : Program) (e : Env) (R : Room) (s : State) (m : MethodId) (args : Array Value) (below : List Frame) (meth : Method) (c : Code) (H : Heap) (locs : List Loc) (cells slots : Nat) (Q : State → Prop) (A : Nat → Prop) (ad : Nat → Nat) (lsr : Array Slot),
      pm_Ss G args A s → pm_Fx t d p R s m meth c → pm_sc G t A s → pm_Dy G A s H locs ad lsr (pm_tL t) ls st n N M → cells + 1 ≤ R.cells → slots + (pm_lay n).2 ≤ R.slots →
      (∀ (q : Nat) (H1 : Heap), va_P (g_D G) pm_cl (pm_ws G ad n N M ++ [(q, pm_en G (fun a => if a = n then q else ad a) n (N n) (M n))]) H1 → va_D A (pm_ws G ad n N M ++ [(q, pm_en G (fun a => if a = n then q else ad a) n (N n) (M n))]) → va_S A s.heap H1 locs →
        W p (g_l G) e R s m args below meth c H1 locs (cells + 1) (slots + (pm_lay n).2) Q (F0 m pc' lsr (.ref q :: st0.map (pm_tv G ad)))) →
      W p (g_l G) e R s m args below meth c H locs cells slots Q (F0 m pc lsr (st.map (pm_tv G ad)))) :
    pm_re G t d (pc, ls, st, n, N, M) (pc', ls, .inr (.inr (kd, n)) :: st0, n + 1, N, M) := by
  refine ⟨Nat.le_succ _, ?_⟩
  intro p e R s m args below meth c H locs cells slots Q A ad lsr hS hF hX hD hc hs kk
  have hsz : pm_SZ (n + 1) = pm_SZ n + (pm_lay n).2 := rfl
  simp only at hc hs kk
  refine h p e R s m args below meth c H locs cells slots Q A ad lsr hS hF hX hD (by omega) (by omega) ?_
  intro q H1 hP1 hD1 hS1
  obtain ⟨⟨hP, hDD, hN, hM⟩, hSS, hA, hls, hst0, hl⟩ := hD
  have h1 : ∀ a, a < n → (fun a => if a = n then q else ad a) a = ad a := fun a ha => if_neg (by omega)
  rw [← pm_ws_up hN hM] at hP1 hD1
  have hst1 := hst hst0
  have k1 := kk H1 locs (cells + 1) (slots + (pm_lay n).2) (fun a => if a = n then q else ad a) lsr h1 ⟨⟨hP1, hD1, pm_okN_up hN, pm_okM_up hM⟩, hS1, hA, fun x hx => pm_okv_mono (Nat.le_succ n) (hls x hx), fun v hv => ?_, by rw [pm_lsm h1 hls]; exact hl⟩ (by omega) (by omega)
  · rw [List.map_cons, pm_tvr hkd, if_pos rfl, pm_stm h1 hst1] at k1
    exact k1
  · rcases List.mem_cons.mp hv with rfl | hv
    · exact Or.inr (Or.inr ⟨hkd, Nat.lt_succ_self n, hlay⟩)
    · exact pm_okv_mono (Nat.le_succ n) (hst1 v hv)
theorem pm_s_new {k : Nat} (hdg : decode (pm_tB t) pc = .ok (.new k, 3)) (h : pm_st (g_L G) (g_sx G) (pm_tL t) (pm_tO t) (.new k) pc ls st n N M = some q') : pm_re G t d (pc, ls, st, n, N, M) q' := by
  simp only [pm_st] at h
  split at h
  · rename_i ci hkn
    split at h
    · rename_i hc
      obtain ⟨hc13, hlay⟩ := hc
      cases h
      have hl1 : (pm_lay n).1 = ci := by rw [hlay]
      have hl2 : (pm_lay n).2 = pm_nf ci := by rw [hlay]
      refine pm_re_new (by omega) hl1 (fun h2 => h2) ?_
      intro p e R s m args below meth c H locs cells slots Q A ad lsr hS hF hX hD hcells hslots kk
      obtain ⟨⟨hP, hDD, hN, hM⟩, hSS, hA, hls, hst, hl⟩ := hD
      rw [hl2] at hslots kk
      refine va_new (own := pm_cn (pm_tO t)) (fs := (List.range (pm_nf ci)).map (fun k => pm_fw G ad ((pm_fk ci).getD k (0, 0)) 0 0)) hF.1 hF.2.1 hS.1 (pm_hin hc13) (pm_fty ci) (pm_hty hc13) hF.2.2.2.1 (hS.1 _ (pm_wN hkn hc13)) (hS.1 _ (pm_wI hc13)) (hS.1 _ (pm_wJ (by omega))) hS.2.1.1 hP hDD hSS hA (pm_cl_at hc13) (fun j hj => ?_) hcells hslots hdg ?_
      · unfold vp_V
        rw [List.getD_eq_getElem?_getD, List.getElem?_map, List.getElem?_range hj]
        exact pm_dflt hc13 hj
      · intro q H1 hP1 hD1 hS1
        have e1 : (List.range (pm_nf ci)).map (fun k => pm_fw G ad ((pm_fk ci).getD k (0, 0)) 0 0) = (List.range (pm_nf ci)).map (fun k => pm_fw G (fun a => if a = n then q else ad a) ((pm_fk ci).getD k (0, 0)) (M n k) (N n k)) := by
          apply List.map_congr_left
          intro j hj
          rw [hM.2 n (Nat.le_refl _) j, hN.2 n (Nat.le_refl _) j, ← pm_dflt hc13 (List.mem_range.mp hj), ← pm_dflt hc13 (List.mem_range.mp hj)]
        refine kk q H1 ?_ ?_ hS1
        · rw [pm_en_obj hl1 hc13, ← e1]; exact hP1
        · rw [pm_en_obj hl1 hc13, ← e1]; exact hD1
    · cases h
  · cases h
theorem pm_wAr {ty : FieldType} (h : ty = .int ∨ ty = .long ∨ ty = .byte ∨ ty = .boolean) : Cond.arrayClass ty ∈ pm_gw := by
  rcases h with rfl | rfl | rfl | rfl
  · exact pm_wat_of (i := 136) (by decide +kernel)
  · exact pm_wat_of (i := 371) (by decide +kernel)
  · exact pm_wat_of (i := 953) (by decide +kernel)
  · exact pm_wat_of (i := 372) (by decide +kernel)
theorem pm_same_cA {G : pm_G} {s : State} {cA : ClassId} {ty : FieldType} {kd : Nat} (h1 : (pm_ty G)[kd - 20]? = some (g_A G kd, ty)) (hK : va_K (g_D G) pm_cl (pm_ty G) s) (hK2 : va_K (g_D G) pm_cl (pm_ty G ++ [(cA, ty)]) s) : cA = g_A G kd := by
  have a1 := (hK.2 _ _ h1).2
  have a2 := (hK2.2 5 (cA, ty) rfl).2
  cases ty with
  | object C => exact Option.some.inj (a2.choose_spec.choose_spec.2.2.2.symm.trans a1.choose_spec.choose_spec.2.2.2)
  | _ => exact Option.some.inj (a2.symm.trans a1)
theorem pm_s_newarray {ty : ArrayType} (hdg : decode (pm_tB t) pc = .ok (.newarray ty, 2)) (h : pm_st (g_L G) (g_sx G) (pm_tL t) (pm_tO t) (.newarray ty) pc ls st n N M = some q') : pm_re G t d (pc, ls, st, n, N, M) q' := by
  simp only [pm_st] at h
  split at h
  · rename_i x st'
    split at h
    · rename_i hc
      obtain ⟨hx0, hx1, hlay, hk24⟩ := hc
      cases h
      have hl1 : (pm_lay n).1 = pm_ak ty := by rw [hlay]
      have hl2 : (pm_lay n).2 = x.toNat := by rw [hlay]
      refine pm_re_new (by omega) hl1 (fun h2 v hv => h2 v (List.mem_cons_of_mem _ hv)) ?_
      intro p e R s m args below meth c H locs cells slots Q A ad lsr hS hF hX hD hcells hslots kk
      obtain ⟨⟨hP, hDD, hN, hM⟩, hSS, hA, hls, hst, hl⟩ := hD
      have hxr : pm_i32 x := hst _ List.mem_cons_self
      have ex := e32 hxr
      have hnn : ¬ Int32.ofInt x < 0 := by
        rw [Int32.lt_iff_toInt_lt, ex]; simp; omega
      have hNc : (Int32.ofInt x).toNatClampNeg = x.toNat := by
        have : (Int32.ofInt x).toNatClampNeg = (Int32.ofInt x).toInt.toNat := rfl
        rw [this, ex]
      rw [hl2] at hslots kk
      have hM0 : ∀ j, M n j = 0 := fun j => hM.2 n (Nat.le_refl _) j
      rw [List.map_cons]
      cases ty with
      | int =>
        refine va_newa (ty := .int) (a0 := (x.toNat, .inl (fun i => Int32.ofInt (M n i)))) hF.1 hF.2.1 (hS.1 _ (pm_wAr (Or.inl rfl))) rfl hS.2.1.1 hP hDD hSS hA (fun cA => by rw [vp_cell_i]; congr 1; funext j; rw [hM0]; rfl) hnn hNc (by show x.toNat * 4 ≤ _; omega) hcells hslots hdg ?_
        intro q cA H1 hK2 hP1 hD1 hS1
        have hcA : cA = g_A G 20 := pm_same_cA (kd := 20) rfl hS.2.1.1 hK2
        subst hcA
        have e1 := pm_en_i (G := G) (ad := fun a => if a = n then q else ad a) (a := n) (kd := 20) hl1 (Or.inl rfl) (N n) (M n)
        have e2 : pm_alen n = x.toNat := hl2
        rw [e2] at e1
        rw [← e1] at hP1 hD1
        exact kk q H1 hP1 hD1 hS1
      | long =>
        refine va_newa (ty := .long) (a0 := (x.toNat, .inr (.inl (fun i => Int64.ofInt (M n i))))) hF.1 hF.2.1 (hS.1 _ (pm_wAr (Or.inr (Or.inl rfl)))) rfl hS.2.1.1 hP hDD hSS hA (fun cA => by rw [vp_cell_l]; congr 1; funext j; rw [hM0]; rfl) hnn hNc (by show x.toNat * 8 ≤ _; omega) hcells hslots hdg ?_
        intro q cA H1 hK2 hP1 hD1 hS1
        have hcA : cA = g_A G 21 := pm_same_cA (kd := 21) rfl hS.2.1.1 hK2
        subst hcA
        have e1 := pm_en_l (G := G) (ad := fun a => if a = n then q else ad a) (a := n) hl1 (N n) (M n)
        have e2 : pm_alen n = x.toNat := hl2
        rw [e2] at e1
        rw [← e1] at hP1 hD1
        exact kk q H1 hP1 hD1 hS1
      | byte =>
        refine va_newa (ty := .byte) (a0 := (x.toNat, .inl (fun i => Int32.ofInt (M n i)))) hF.1 hF.2.1 (hS.1 _ (pm_wAr (Or.inr (Or.inr (Or.inl rfl))))) rfl hS.2.1.1 hP hDD hSS hA (fun cA => by rw [vp_cell_i]; congr 1; funext j; rw [hM0]; rfl) hnn hNc (by show x.toNat * 1 ≤ _; omega) hcells hslots hdg ?_
        intro q cA H1 hK2 hP1 hD1 hS1
        have hcA : cA = g_A G 22 := pm_same_cA (kd := 22) rfl hS.2.1.1 hK2
        subst hcA
        have e1 := pm_en_i (G := G) (ad := fun a => if a = n then q else ad a) (a := n) (kd := 22) hl1 (Or.inr (Or.inl rfl)) (N n) (M n)
        have e2 : pm_alen n = x.toNat := hl2
        rw [e2] at e1
        rw [← e1] at hP1 hD1
        exact kk q H1 hP1 hD1 hS1
      | boolean =>
        refine va_newa (ty := .boolean) (a0 := (x.toNat, .inl (fun i => Int32.ofInt (M n i)))) hF.1 hF.2.1 (hS.1 _ (pm_wAr (Or.inr (Or.inr (Or.inr rfl))))) rfl hS.2.1.1 hP hDD hSS hA (fun cA => by rw [vp_cell_i]; congr 1; funext j; rw [hM0]; rfl) hnn hNc (by show x.toNat * 1 ≤ _; omega) hcells hslots hdg ?_
        intro q cA H1 hK2 hP1 hD1 hS1
        have hcA : cA = g_A G 23 := pm_same_cA (kd := 23) rfl hS.2.1.1 hK2
        subst hcA
        have e1 := pm_en_i (G := G) (ad := fun a => if a = n then q else ad a) (a := n) (kd := 23) hl1 (Or.inr (Or.inr rfl)) (N n) (M n)
        have e2 : pm_alen n = x.toNat := hl2
        rw [e2] at e1
        rw [← e1] at hP1 hD1
        exact kk q H1 hP1 hD1 hS1
      | _ => exact absurd hk24 (by decide)
    · cases h
  · cases h
theorem pm_s_anewarray {k : Nat} (hdg : decode (pm_tB t) pc = .ok (.anewarray k, 3)) (h : pm_st (g_L G) (g_sx G) (pm_tL t) (pm_tO t) (.anewarray k) pc ls st n N M = some q') : pm_re G t d (pc, ls, st, n, N, M) q' := by
  simp only [pm_st] at h
  split at h
  · rename_i x st'
    split at h
    · rename_i hc
      obtain ⟨hx0, hx1, hlay, hkn⟩ := hc
      cases h
      have hl1 : (pm_lay n).1 = 24 := by rw [hlay]
      have hl2 : (pm_lay n).2 = x.toNat := by rw [hlay]
      refine pm_re_new (by omega) hl1 (fun h2 v hv => h2 v (List.mem_cons_of_mem _ hv)) ?_
      intro p e R s m args below meth c H locs cells slots Q A ad lsr hS hF hX hD hcells hslots kk
      obtain ⟨⟨hP, hDD, hN, hM⟩, hSS, hA, hls, hst, hl⟩ := hD
      have hxr : pm_i32 x := hst _ List.mem_cons_self
      have ex := e32 hxr
      have hnn : ¬ Int32.ofInt x < 0 := by
        rw [Int32.lt_iff_toInt_lt, ex]; simp; omega
      have hNc : (Int32.ofInt x).toNatClampNeg = x.toNat := by
        have : (Int32.ofInt x).toNatClampNeg = (Int32.ofInt x).toInt.toNat := rfl
        rw [this, ex]
      rw [hl2] at hslots kk
      rw [List.map_cons]
      refine va_newq (own := pm_cn (pm_tO t)) hF.1 hF.2.1 hF.2.2.2.1 (hS.1 _ (pm_wN24 hkn)) hS.2.1.2.2 hS.2.1.1 hP hDD hSS hA hnn hNc (by omega) hcells hslots hdg ?_
      intro q cA H1 hK2 hP1 hD1 hS1
      have hcA : cA = g_A G 24 := pm_same_cA (kd := 24) rfl hS.2.1.1 hK2
      subst hcA
      have e1 := pm_en_q (G := G) (ad := fun a => if a = n then q else ad a) (a := n) hl1 (N n) (M n)
      have e2 : pm_alen n = x.toNat := hl2
      have e3 : (fun i => if N n i = 0 then none else some ((fun a => if a = n then q else ad a) (N n i - 1))) = (fun _ => (none : Option Nat)) := by
        funext i; rw [hN.2 n (Nat.le_refl _) i]; rfl
      rw [e2, e3] at e1
      rw [← e1] at hP1 hD1
      exact kk q H1 hP1 hD1 hS1
    · cases h
  · cases h
theorem pm_catle {G : pm_G} {ad : Nat → Nat} : ∀ st : List pm_V, ((st.map (pm_tv G ad)).map fun v => v.category).sum ≤ 2 * st.length
  | [] => Nat.zero_le _
  | v :: st => by
    have ih := pm_catle (G := G) (ad := ad) st
    simp only [List.map_cons, List.sum_cons, List.length_cons]
    have : (pm_tv G ad v).category ≤ 2 := by rw [pm_cat_eq]; rcases v with x | x | x <;> simp [pm_cat]
    omega
theorem pm_s_objinit {k : Nat} (hdg : decode (pm_tB t) pc = .ok (.invokespecial k, 3)) (h : pm_st (g_L G) (g_sx G) (pm_tL t) (pm_tO t) (.invokespecial k) pc ls st n N M = some q') : pm_re G t d (pc, ls, st, n, N, M) q' := by
  simp only [pm_st] at h
  split at h
  · rename_i kd a st'
    split at h
    · rename_i hc
      obtain ⟨hoi, hk, hlen⟩ := hc
      cases h
      refine pm_re_stk (fun h1 h2 _ _ v hv => h2 v (List.mem_cons_of_mem _ hv)) ?_
      intro p e R s m args below meth c H locs cells slots Q A ad lsr hS hF hX hD kk
      have hroom := pm_catle (G := G) (ad := ad) st'
      have hR := hF.2.2.2.2.2.2
      rw [List.map_cons, pm_tvr (by omega)]
      refine W.objInit hF.1 hF.2.1 (own := pm_cn (pm_tO t)) hF.2.2.2.1 (hS.1 _ (pm_wO hoi)) (hS.1 _ (pm_wat_of (i := 118) (by decide +kernel))) (hS.1 _ (pm_wat_of (i := 119) (by decide +kernel))) rfl (by rw [hF.2.2.1]; exact hD.2.2.2.2.2.1) rfl hdg (by have := hF.2.2.2.2.2.1; omega) ?_ kk
      show 2 * 0 + _ + 12 ≤ R.locals
      omega
    · cases h
  · cases h
theorem pm_s_copy {k : Nat} (hdg : decode (pm_tB t) pc = .ok (.invokestatic k, 3)) (h : pm_st (g_L G) (g_sx G) (pm_tL t) (pm_tO t) (.invokestatic k) pc ls st n N M = some q') : pm_re G t d (pc, ls, st, n, N, M) q' := by
  simp only [pm_st] at h
  split at h
  · rename_i cnt dp kd b sp ks a st'
    split at h
    · rename_i hc
      obtain ⟨hac, rfl, rfl, hlen⟩ := hc
      split at h
      · rename_i hr
        obtain ⟨⟨r1, r2, r3⟩, r4, r5⟩ := hr
        cases h
        refine pm_re_put (a := b) (fun h2 w hw => h2 w (by simp [hw])) (fun h2 hN hM => ?_) (fun c hc => rfl) (fun c hc => by unfold pm_cp; rw [if_neg hc]) ?_
        · obtain ⟨hb, hlb⟩ := pm_ref (h2 (.inr (.inr (20, b))) (by simp)) (by omega)
          obtain ⟨ha, hla⟩ := pm_ref (h2 (.inr (.inr (20, a))) (by simp)) (by omega)
          refine ⟨hb, hN, fun c hc k => ?_, fun c hc k => ?_⟩
          · unfold pm_cp
            by_cases h1 : c = b
            · subst h1
              rw [if_pos rfl]
              have hs : pm_sk c k = (0, 0) := by unfold pm_sk; rw [hlb]; rfl
              have hs2 : ∀ j, pm_sk a j = (0, 0) := fun j => by unfold pm_sk; rw [hla]; rfl
              rw [hs]
              by_cases h2 : dp.toNat ≤ k ∧ k < dp.toNat + cnt.toNat
              · rw [if_pos h2]
                have := hM.1 a ha (sp.toNat + (k - dp.toNat))
                rw [hs2] at this
                exact this
              · rw [if_neg h2]
                have := hM.1 c hb k
                rw [hs] at this
                exact this
            · rw [if_neg h1]; exact hM.1 c hc k
          · unfold pm_cp
            rw [if_neg (by omega)]; exact hM.2 c hc k
        · intro p e R s m args below meth c H locs cells slots Q A ad lsr hS hF hX hD kk
          obtain ⟨⟨hP, hDD, hN, hM⟩, hSS, hA, hls, hst, hl⟩ := hD
          obtain ⟨hb, hlb⟩ := pm_ref (hst (.inr (.inr (20, b))) (by simp)) (by omega)
          obtain ⟨ha, hla⟩ := pm_ref (hst (.inr (.inr (20, a))) (by simp)) (by omega)
          have hwb := pm_ws_at G ad N M hb
          rw [pm_en_i hlb (Or.inl rfl)] at hwb
          have hwa := pm_ws_at G ad N M ha
          rw [pm_en_i hla (Or.inl rfl)] at hwa
          have hcr : pm_i32 cnt := hst (.inl cnt) (by simp)
          have hdr : pm_i32 dp := hst (.inl dp) (by simp)
          have hsr : pm_i32 sp := hst (.inl sp) (by simp)
          have nn : ∀ z : Int, pm_i32 z → 0 ≤ z → ¬ Int32.ofInt z < 0 ∧ (Int32.ofInt z).toNatClampNeg = z.toNat := by
            intro z hz h0
            have ez := e32 hz
            refine ⟨by rw [Int32.lt_iff_toInt_lt, ez]; simp; omega, ?_⟩
            have : (Int32.ofInt z).toNatClampNeg = (Int32.ofInt z).toInt.toNat := rfl
            rw [this, ez]
          obtain ⟨c1, c2⟩ := nn cnt hcr r3
          obtain ⟨d1, d2⟩ := nn dp hdr r2
          obtain ⟨s1, s2⟩ := nn sp hsr r1
          have hroom := pm_catle (G := G) (ad := ad) st'
          have hR := hF.2.2.2.2.2.2
          simp only [List.map_cons]
          rw [pm_tvr (G := G) (ad := ad) (kd := 20) (a := b) (by omega), pm_tvr (G := G) (ad := ad) (kd := 20) (a := a) (by omega)]
          rw [pm_en_i hlb (Or.inl rfl)] at kk
          refine va_copyi (own := pm_cn (pm_tO t)) hF.1 hF.2.1 (by rw [hF.2.2.1]; exact hl.1.symm) hF.2.2.2.1 (hS.1 _ (pm_wA hac)) (hS.1 _ (pm_wat_of (i := 545) (by decide +kernel))) (hS.1 _ (pm_wat_of (i := 544) (by decide +kernel))) (hS.1 _ (pm_wat_of (i := 105) (by decide +kernel))) hS.2.1.1 hP hDD hSS a b 0 0 hwa hwb rfl rfl rfl s1 d1 c1 (by rw [s2, c2]; omega) (by rw [d2, c2]; omega) (fun i _ => rfl) (by have := hF.2.2.2.2.2.1; omega) ?_ hdg ?_
          · have : nativeFrameWords "java/lang/System" "arraycopy" 5 ≤ 40 := by decide +kernel
            omega
          · rw [s2, d2, c2]
            have e1 : va_cpy (fun i => Int32.ofInt (M a i)) (fun i => Int32.ofInt (M b i)) sp.toNat dp.toNat cnt.toNat = fun i => Int32.ofInt (pm_cp M a b sp.toNat dp.toNat cnt.toNat b i) := by
              funext k
              unfold va_cpy pm_cp
              rw [if_pos rfl]
              by_cases h2 : dp.toNat ≤ k ∧ k < dp.toNat + cnt.toNat
              · rw [if_pos h2, if_pos h2]
              · rw [if_neg h2, if_neg h2]
            rw [e1]
            exact kk
      · cases h
    · cases h
  · cases h
end
