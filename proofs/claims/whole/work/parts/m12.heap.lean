/-! FIELDS AND ARRAYS -/
theorem pm_uT1 (ci k : Nat) : (pm_uT ci k).1 = pm_cn ci := by unfold pm_uT; split <;> rfl
theorem pm_sk_obj {a ci : Nat} (h : (pm_lay a).1 = ci) (hc : ci < 13) (k : Nat) : pm_sk a k = (pm_fk ci).getD k (0, 0) := by
  unfold pm_sk; rw [h, if_pos hc]
theorem pm_en_obj {G : pm_G} {ad : Nat → Nat} {a ci : Nat} (h : (pm_lay a).1 = ci) (hc : ci < 13) (nr : Nat → Nat) (mr : Nat → Int) : pm_en G ad a nr mr = .inr (ci, (List.range (pm_nf ci)).map (fun k => pm_fw G ad ((pm_fk ci).getD k (0, 0)) (mr k) (nr k))) := by
  unfold pm_en
  rw [h, if_pos hc]
  congr 2
  apply List.map_congr_left
  intro k _
  rw [pm_sk_obj h hc]
theorem pm_en_i {G : pm_G} {ad : Nat → Nat} {a kd : Nat} (h : (pm_lay a).1 = kd) (hk : kd = 20 ∨ kd = 22 ∨ kd = 23) (nr : Nat → Nat) (mr : Nat → Int) : pm_en G ad a nr mr = .inl (g_A G kd, pm_alen a, .inl (fun i => Int32.ofInt (mr i))) := by
  unfold pm_en pm_alen
  rw [h, if_neg (by omega), if_neg (by omega), if_neg (by omega)]
theorem pm_en_l {G : pm_G} {ad : Nat → Nat} {a : Nat} (h : (pm_lay a).1 = 21) (nr : Nat → Nat) (mr : Nat → Int) : pm_en G ad a nr mr = .inl (g_A G 21, pm_alen a, .inr (.inl (fun i => Int64.ofInt (mr i)))) := by
  unfold pm_en pm_alen
  rw [h, if_neg (by omega), if_pos rfl]
theorem pm_en_q {G : pm_G} {ad : Nat → Nat} {a : Nat} (h : (pm_lay a).1 = 24) (nr : Nat → Nat) (mr : Nat → Int) : pm_en G ad a nr mr = .inl (g_A G 24, pm_alen a, .inr (.inr (.inr (.inr (fun i => if nr i = 0 then none else some (ad (nr i - 1))))))) := by
  unfold pm_en pm_alen
  rw [h, if_neg (by omega), if_neg (by omega), if_pos rfl]
theorem pm_ref {n kd a : Nat} (h : pm_okv n (.inr (.inr (kd, a)))) (hk : kd < 25) : a < n ∧ (pm_lay a).1 = kd := by
  rcases h with h | ⟨h | h, -⟩ | ⟨-, h1, h2⟩
  · simp only at h; omega
  · simp only at h; omega
  · simp only at h; omega
  · exact ⟨h1, h2⟩
theorem pm_ty_at (G : pm_G) {kd : Nat} (h1 : 20 ≤ kd) (h2 : kd < 25) : ∃ ty : FieldType, (pm_ty G)[kd - 20]? = some (g_A G kd, ty) ∧ (kd = 20 → ty = .int) ∧ (kd = 21 → ty = .long) ∧ (kd = 22 → ty = .byte) ∧ (kd = 23 → ty = .boolean) ∧ (kd = 24 → ty = .object "StatuesWhoOwe$Text") := by
  rcases (show kd = 20 ∨ kd = 21 ∨ kd = 22 ∨ kd = 23 ∨ kd = 24 by omega) with rfl | rfl | rfl | rfl | rfl <;> exact ⟨_, rfl, by simp, by simp, by simp, by simp, by simp⟩
/-- an index in range, as the machine sees it -/
theorem pm_ix {i : Int} {len : Nat} (h : 0 ≤ i ∧ i < (len : Int)) (hi : pm_i32 i) : vp_in (Int32.ofInt i) len ∧ (Int32.ofInt i).toNatClampNeg = i.toNat := by
  have e := e32 hi
  refine ⟨vp_in_iff.mpr ⟨by rw [e]; exact h.1, by rw [e]; exact h.2⟩, ?_⟩
  have : (Int32.ofInt i).toNatClampNeg = (Int32.ofInt i).toInt.toNat := rfl
  rw [this, e]
section
variable {G : pm_G} {t : pm_T} {d : Nat} {pc len n : Nat} {ls : pm_L} {st : List pm_V} {N : pm_N} {M : pm_M} {q' : pm_Q}
theorem pm_s_getfield {k : Nat} (hdg : decode (pm_tB t) pc = .ok (.getfield k, 3)) (h : pm_st (g_L G) (g_sx G) (pm_tL t) (pm_tO t) (.getfield k) pc ls st n N M = some q') : pm_re G t d (pc, ls, st, n, N, M) q' := by
  simp only [pm_st] at h
  split at h
  · rename_i kd a st'
    split at h
    · rename_i ci f hfd
      split at h
      · rename_i hc
        obtain ⟨rfl, hc13, hf⟩ := hc
        split at h
        · rename_i v hv
          cases h
          have hvv : ∀ (ad : Nat → Nat), pm_okv n (.inr (.inr (kd, a))) → pm_okN n N → pm_okM n M → pm_okv n v ∧ pm_fw G ad ((pm_fk kd).getD f (0, 0)) (M a f) (N a f) = pm_tv G ad v := by
            intro ad ho hN hM
            obtain ⟨ha, hl⟩ := pm_ref ho (by omega)
            have hsk := pm_sk_obj hl hc13 f
            have hx := hM.1 a ha f
            have hn := hN.1 a ha f
            rw [hsk] at hx hn
            unfold pm_fv at hv
            unfold pm_fw
            rcases pm_fk_spec hc13 hf with ⟨e, -⟩ | ⟨e, -⟩ | ⟨e, -⟩
            · rw [e] at hv ⊢
              cases hv
              unfold pm_okx at hx
              rw [e] at hx
              exact ⟨hx, rfl⟩
            · rw [e] at hv ⊢
              simp only at hv ⊢
              split at hv
              · cases hv
              · rename_i b hb
                cases hv
                rw [hb] at hn ⊢
                have h1 := (hn e).resolve_left (by omega)
                exact ⟨h1, by rw [if_neg (by omega)]; rfl⟩
            · rw [e] at hv ⊢
              simp only at hv ⊢
              split at hv
              · cases hv
              · rename_i hm
                cases hv
                unfold pm_okx at hx
                rw [e] at hx
                have h1 := hx.resolve_left (by omega)
                exact ⟨h1.2, by rw [if_neg (by omega)]; rfl⟩
          refine pm_re_stk (fun h1 h2 hN hM w hw => ?_) ?_
          · rcases List.mem_cons.mp hw with rfl | hw
            · exact (hvv id (h2 _ List.mem_cons_self) hN hM).1
            · exact h2 w (List.mem_cons_of_mem _ hw)
          · intro p e R s m args below meth c H locs cells slots Q A ad lsr hS hF hX hD kk
            obtain ⟨⟨hP, hDD, hN, hM⟩, hSS, hA, hls, hst, hl⟩ := hD
            have ho := hst _ List.mem_cons_self
            obtain ⟨ha, hlay⟩ := pm_ref ho (by omega)
            have hws := pm_ws_at G ad N M ha
            rw [pm_en_obj hlay hc13] at hws
            have e1 : pm_tv G ad (.inr (.inr (kd, a))) = .ref (ad a) := by simp only [pm_tv]; rw [pm_ra_lt (show kd < 25 by omega)]
            rw [List.map_cons, e1]
            refine va_get (own := pm_cn (pm_tO t)) (ref := pm_cn kd) hF.1 hF.2.1 hS.1 (pm_hin hc13) hF.2.2.2.1 hS.2.1.1 hP a hws (pm_cl_at hc13) f hf (hS.1 _ (pm_wF hfd hc13)) (fun x hx => by rw [pm_uT1] at hx; exact hx) (v := pm_tv G ad v) ?_ hdg kk
            rw [List.getElem?_map, List.getElem?_range hf]
            simp only [Option.map_some]
            rw [(hvv ad ho hN hM).2]
        · cases h
      · cases h
    · cases h
  · cases h
/-- behind a store into a cell -/
theorem pm_re_put {pc' a : Nat} {st' : List pm_V} {N' : pm_N} {M' : pm_M} (hst : (∀ v ∈ st, pm_okv n v) → ∀ v ∈ st', pm_okv n v)
    (hok : (∀ v ∈ st, pm_okv n v) → pm_okN n N → pm_okM n M → a < n ∧ pm_okN n N' ∧ pm_okM n M') (hN : ∀ c, c ≠ a → N' c = N c) (hM : ∀ c, c ≠ a → M' c = M c)
    (h : ∀ (p : Program) (e : Env) (R : Room) (s : State) (m : MethodId) (args : Array Value) (below : List Frame) (meth : Method) (c : Code) (H : Heap) (locs : List Loc) (cells slots : Nat) (Q : State → Prop) (A : Nat → Prop) (ad : Nat → Nat) (lsr : Array Slot),
      pm_Ss G args A s → pm_Fx t d p R s m meth c → pm_sc G t A s → pm_Dy G A s H locs ad lsr (pm_tL t) ls st n N M →
      (∀ (H1 : Heap) (locs1 : List Loc), va_P (g_D G) pm_cl ((pm_ws G ad n N M).set a (ad a, pm_en G ad a (N' a) (M' a))) H1 → va_D A ((pm_ws G ad n N M).set a (ad a, pm_en G ad a (N' a) (M' a))) → va_S A s.heap H1 locs1 →
        W p (g_l G) e R s m args below meth c H1 locs1 cells slots Q (F0 m pc' lsr (st'.map (pm_tv G ad)))) →
      W p (g_l G) e R s m args below meth c H locs cells slots Q (F0 m pc lsr (st.map (pm_tv G ad)))) :
    pm_re G t d (pc, ls, st, n, N, M) (pc', ls, st', n, N', M') := by
  refine ⟨Nat.le_refl _, ?_⟩
  intro p e R s m args below meth c H locs cells slots Q A ad lsr hS hF hX hD hc hs kk
  refine h p e R s m args below meth c H locs cells slots Q A ad lsr hS hF hX hD ?_
  intro H1 locs1 hP1 hD1 hS1
  obtain ⟨⟨hP, hDD, hN0, hM0⟩, hSS, hA, hls, hst0, hl⟩ := hD
  obtain ⟨ha, o1, o2⟩ := hok hst0 hN0 hM0
  rw [pm_ws_set G ad ha hN hM rfl] at hP1 hD1
  exact kk H1 locs1 cells slots ad lsr (fun _ _ => rfl) ⟨⟨hP1, hD1, o1, o2⟩, hS1, hA, hls, hst hst0, hl⟩ (by omega) (by omega)
theorem pm_set_fw {G : pm_G} {ad : Nat → Nat} {ci f : Nat} (hf : f < pm_nf ci) {nr nr' : Nat → Nat} {mr mr' : Nat → Int} {v : Value} (h : ∀ j, j ≠ f → nr' j = nr j ∧ mr' j = mr j) (hv : v = pm_fw G ad ((pm_fk ci).getD f (0, 0)) (mr' f) (nr' f)) :
    ((List.range (pm_nf ci)).map (fun k => pm_fw G ad ((pm_fk ci).getD k (0, 0)) (mr k) (nr k))).set f v = (List.range (pm_nf ci)).map (fun k => pm_fw G ad ((pm_fk ci).getD k (0, 0)) (mr' k) (nr' k)) := by
  apply List.ext_getElem?
  intro k
  by_cases hk : k = f
  · subst hk
    rw [List.getElem?_set_self (by simpa using hf), List.getElem?_map, List.getElem?_range hf, hv]; rfl
  · rw [List.getElem?_set_ne (Ne.symm hk), List.getElem?_map, List.getElem?_map]
    by_cases hl : k < pm_nf ci
    · rw [List.getElem?_range hl]; simp only [Option.map_some]; rw [(h k hk).1, (h k hk).2]
    · rw [List.getElem?_eq_none (by simp; omega)]; rfl
theorem pm_s_putfield {k : Nat} (hdg : decode (pm_tB t) pc = .ok (.putfield k, 3)) (hnm : (pm_tY t).name = "<init>" ∨ ∀ ci f, pm_fd (pm_tO t) k = some (ci, f) → ((pm_fk ci).getD f (9, 0)).1 ≠ 1) (h : pm_st (g_L G) (g_sx G) (pm_tL t) (pm_tO t) (.putfield k) pc ls st n N M = some q') : pm_re G t d (pc, ls, st, n, N, M) q' := by
  simp only [pm_st] at h
  split at h
  · rename_i ci f hfd
    split at h
    · rename_i x kd a st'
      split at h
      · rename_i hc
        obtain ⟨rfl, hc13, hf, hk0, hz⟩ := hc
        cases h
        rw [pm_fkd hc13 hf] at hk0 hz
        refine pm_re_put (a := a) (fun h2 w hw => h2 w (List.mem_cons_of_mem _ (List.mem_cons_of_mem _ hw))) (fun h2 hN hM => ?_) (fun c hc => rfl) (fun c hc => pm_ms_ne hc) ?_
        · obtain ⟨ha, hlay⟩ := pm_ref (h2 _ (List.mem_cons_of_mem _ List.mem_cons_self)) (by omega)
          refine ⟨ha, hN, pm_okM_ms hM ha ?_⟩
          rw [pm_sk_obj hlay hc13]
          unfold pm_okx
          rw [hk0]
          exact h2 _ List.mem_cons_self
        · intro p e R s m args below meth c H locs cells slots Q A ad lsr hS hF hX hD kk
          obtain ⟨⟨hP, hDD, hN, hM⟩, hSS, hA, hls, hst, hl⟩ := hD
          have ho := hst _ (List.mem_cons_of_mem _ List.mem_cons_self)
          obtain ⟨ha, hlay⟩ := pm_ref ho (by omega)
          have hws := pm_ws_at G ad N M ha
          rw [pm_en_obj hlay hc13] at hws
          have e1 : pm_tv G ad (.inr (.inr (kd, a))) = .ref (ad a) := by simp only [pm_tv]; rw [pm_ra_lt (show kd < 25 by omega)]
          rw [List.map_cons, List.map_cons, e1]
          have hsp : (((pm_fk kd).getD f (0, 0)).2 = 0 ∧ pm_fty kd f = .int ∨ ((pm_fk kd).getD f (0, 0)).2 = 1 ∧ pm_fty kd f = .boolean) ∧ (pm_uT kd f).2.2.2 = false := by
            rcases pm_fk_spec hc13 hf with ⟨e, z⟩ | ⟨e, -⟩ | ⟨e, -⟩
            · exact z
            · omega
            · omega
          have hnf : narrow (pm_fty kd f) (.int (Int32.ofInt x)) = .int (Int32.ofInt x) ∧ fits (pm_fty kd f) (.int (Int32.ofInt x)) = true := by
            rcases hsp.1 with ⟨-, z⟩ | ⟨z1, z⟩
            · rw [z]; exact ⟨rfl, rfl⟩
            · rw [z]
              rcases hz with hz | rfl | rfl
              · omega
              · exact ⟨rfl, rfl⟩
              · exact ⟨rfl, rfl⟩
          refine va_put (own := pm_cn (pm_tO t)) (ref := pm_cn kd) hF.1 hF.2.1 hS.1 (pm_hin hc13) (pm_fty kd) (pm_hty hc13) (pm_hnm kd hc13) hF.2.2.2.1 hS.2.1.1 hP hDD hSS a hws (pm_cl_at hc13) f hf (hS.1 _ (pm_wF hfd hc13)) (fun y hy => by rw [pm_uT1] at hy; exact hy) hsp.2 (pm_hty hc13 f hf) hnf.1 hnf.2 (by simpa using hf) hdg ?_
          intro H1 locs1 hP1 hD1 hS1
          have e2 : pm_tv G ad (.inl x) = pm_fw G ad ((pm_fk kd).getD f (0, 0)) (pm_ms M a f x a f) (N a f) := by
            rw [pm_ms_self]
            unfold pm_fw
            rw [hk0]
            simp [pm_tv]
          refine kk H1 locs1 ?_ ?_ hS1
          · rw [pm_en_obj hlay hc13]
            rw [pm_set_fw hf (nr' := N a) (mr' := pm_ms M a f x a) (fun j hj => ⟨rfl, by rw [pm_ms_self]; simp [hj]⟩) e2] at hP1
            exact hP1
          · rw [pm_en_obj hlay hc13]
            rw [pm_set_fw hf (nr' := N a) (mr' := pm_ms M a f x a) (fun j hj => ⟨rfl, by rw [pm_ms_self]; simp [hj]⟩) e2] at hD1
            exact hD1
      · cases h
    · rename_i kv v kd a st'
      split at h
      · rename_i hc
        obtain ⟨rfl, hc13, hf, hk2, hkv⟩ := hc
        rw [pm_fkd hc13 hf] at hk2 h
        split at h
        · rename_i hk1
          split at h
          · rename_i hoc
            cases h
            refine pm_re_put (a := a) (fun h2 w hw => h2 w (List.mem_cons_of_mem _ (List.mem_cons_of_mem _ hw))) (fun h2 hN hM => ?_) (fun c hc => pm_ns_ne hc) (fun c hc => rfl) ?_
            · obtain ⟨ha, hlay⟩ := pm_ref (h2 _ (List.mem_cons_of_mem _ List.mem_cons_self)) (by omega)
              refine ⟨ha, pm_okN_ns hN ha (fun _ => Or.inr ?_), hM⟩
              rw [pm_sk_obj hlay hc13, hk2]
              exact h2 _ List.mem_cons_self
            · intro p e R s m args below meth c H locs cells slots Q A ad lsr hS hF hX hD kk
              obtain ⟨⟨hP, hDD, hN, hM⟩, hSS, hA, hls, hst, hl⟩ := hD
              have ho := hst _ (List.mem_cons_of_mem _ List.mem_cons_self)
              obtain ⟨ha, hlay⟩ := pm_ref ho (by omega)
              have hws := pm_ws_at G ad N M ha
              rw [pm_en_obj hlay hc13] at hws
              have e1 : pm_tv G ad (.inr (.inr (kd, a))) = .ref (ad a) := by simp only [pm_tv]; rw [pm_ra_lt (show kd < 25 by omega)]
              rw [List.map_cons, List.map_cons, e1]
              have hsp : (pm_uT kd f).2.2.2 = true ∧ refKind (pm_fty kd f) = true := by
                rcases pm_fk_spec hc13 hf with ⟨e, -⟩ | ⟨e, z⟩ | ⟨e, -⟩
                · omega
                · exact z
                · omega
              have hnf : narrow (pm_fty kd f) (pm_tv G ad (.inr (.inr (kv, v)))) = pm_tv G ad (.inr (.inr (kv, v))) ∧ fits (pm_fty kd f) (pm_tv G ad (.inr (.inr (kv, v)))) = true := by
                have z := hsp.2
                cases hty : pm_fty kd f <;> rw [hty] at z <;> first | (cases z; done) | exact ⟨rfl, rfl⟩
              have hini : meth.name = "<init>" := by
                rw [hF.2.2.2.2.1]
                rcases hnm with z | z
                · exact z
                · exact absurd (by rw [pm_fkd hc13 hf]; exact hk1) (z kd f hfd)
              refine va_putF (own := pm_cn (pm_tO t)) (ref := pm_cn kd) hF.1 hF.2.1 hS.1 (pm_hin hc13) (pm_fty kd) (pm_hty hc13) (pm_hnm kd hc13) hF.2.2.2.1 hS.2.1.1 hP hDD hSS a hws (pm_cl_at hc13) f hf (hS.1 _ (pm_wF hfd hc13)) (fun y hy => by rw [pm_uT1] at hy; exact hy) hsp.1 hini (by rw [pm_uT1, hoc]) (pm_hty hc13 f hf) hnf.1 hnf.2 (by simpa using hf) hdg ?_
              intro H1 locs1 hP1 hD1 hS1
              have e2 : pm_tv G ad (.inr (.inr (kv, v))) = pm_fw G ad ((pm_fk kd).getD f (0, 0)) (M a f) (pm_ns N a f (v + 1) a f) := by
                rw [pm_ns_self]
                unfold pm_fw
                rw [hk1, hk2]
                simp [pm_tv]
              refine kk H1 locs1 ?_ ?_ hS1
              · rw [pm_en_obj hlay hc13]
                rw [pm_set_fw hf (nr' := pm_ns N a f (v + 1) a) (mr' := M a) (fun j hj => ⟨by rw [pm_ns_self]; simp [hj], rfl⟩) e2] at hP1
                exact hP1
              · rw [pm_en_obj hlay hc13]
                rw [pm_set_fw hf (nr' := pm_ns N a f (v + 1) a) (mr' := M a) (fun j hj => ⟨by rw [pm_ns_self]; simp [hj], rfl⟩) e2] at hD1
                exact hD1
          · cases h
        · rename_i hk1
          cases h
          refine pm_re_put (a := a) (fun h2 w hw => h2 w (List.mem_cons_of_mem _ (List.mem_cons_of_mem _ hw))) (fun h2 hN hM => ?_) (fun c hc => rfl) (fun c hc => pm_ms_ne hc) ?_
          · obtain ⟨ha, hlay⟩ := pm_ref (h2 _ (List.mem_cons_of_mem _ List.mem_cons_self)) (by omega)
            refine ⟨ha, hN, pm_okM_ms hM ha ?_⟩
            rw [pm_sk_obj hlay hc13]
            unfold pm_okx
            rw [hk1]
            refine Or.inr ⟨by omega, ?_⟩
            rw [hk2, show ((v : Int) + 1 - 1).toNat = v by omega]
            exact h2 _ List.mem_cons_self
          · intro p e R s m args below meth c H locs cells slots Q A ad lsr hS hF hX hD kk
            obtain ⟨⟨hP, hDD, hN, hM⟩, hSS, hA, hls, hst, hl⟩ := hD
            have ho := hst _ (List.mem_cons_of_mem _ List.mem_cons_self)
            obtain ⟨ha, hlay⟩ := pm_ref ho (by omega)
            have hws := pm_ws_at G ad N M ha
            rw [pm_en_obj hlay hc13] at hws
            have e1 : pm_tv G ad (.inr (.inr (kd, a))) = .ref (ad a) := by simp only [pm_tv]; rw [pm_ra_lt (show kd < 25 by omega)]
            rw [List.map_cons, List.map_cons, e1]
            have hsp : (pm_uT kd f).2.2.2 = false ∧ refKind (pm_fty kd f) = true := by
              rcases pm_fk_spec hc13 hf with ⟨e, -⟩ | ⟨e, z⟩ | ⟨e, z⟩
              · omega
              · omega
              · exact z
            have hnf : narrow (pm_fty kd f) (pm_tv G ad (.inr (.inr (kv, v)))) = pm_tv G ad (.inr (.inr (kv, v))) ∧ fits (pm_fty kd f) (pm_tv G ad (.inr (.inr (kv, v)))) = true := by
              have z := hsp.2
              cases hty : pm_fty kd f <;> rw [hty] at z <;> first | (cases z; done) | exact ⟨rfl, rfl⟩
            refine va_put (own := pm_cn (pm_tO t)) (ref := pm_cn kd) hF.1 hF.2.1 hS.1 (pm_hin hc13) (pm_fty kd) (pm_hty hc13) (pm_hnm kd hc13) hF.2.2.2.1 hS.2.1.1 hP hDD hSS a hws (pm_cl_at hc13) f hf (hS.1 _ (pm_wF hfd hc13)) (fun y hy => by rw [pm_uT1] at hy; exact hy) hsp.1 (pm_hty hc13 f hf) hnf.1 hnf.2 (by simpa using hf) hdg ?_
            intro H1 locs1 hP1 hD1 hS1
            have e2 : pm_tv G ad (.inr (.inr (kv, v))) = pm_fw G ad ((pm_fk kd).getD f (0, 0)) (pm_ms M a f ((v : Int) + 1) a f) (N a f) := by
              rw [pm_ms_self]
              unfold pm_fw
              rw [hk1, hk2]
              simp only [if_true, pm_tv]
              rw [if_neg (by omega), show ((v : Int) + 1 - 1).toNat = v by omega]
            refine kk H1 locs1 ?_ ?_ hS1
            · rw [pm_en_obj hlay hc13]
              rw [pm_set_fw hf (nr' := N a) (mr' := pm_ms M a f ((v : Int) + 1) a) (fun j hj => ⟨rfl, by rw [pm_ms_self]; simp [hj]⟩) e2] at hP1
              exact hP1
            · rw [pm_en_obj hlay hc13]
              rw [pm_set_fw hf (nr' := N a) (mr' := pm_ms M a f ((v : Int) + 1) a) (fun j hj => ⟨rfl, by rw [pm_ms_self]; simp [hj]⟩) e2] at hD1
              exact hD1
        · cases h
      · cases h
    · cases h
  · cases h
end
