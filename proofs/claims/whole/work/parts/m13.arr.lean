/-! ARRAYS, NEW CELLS -/
section
variable {G : pm_G} {t : pm_T} {d : Nat} {pc len n : Nat} {ls : pm_L} {st : List pm_V} {N : pm_N} {M : pm_M} {q' : pm_Q}
theorem pm_tvr {G : pm_G} {ad : Nat → Nat} {kd a : Nat} (h : kd < 25) : pm_tv G ad (.inr (.inr (kd, a))) = .ref (ad a) := by simp only [pm_tv]; rw [pm_ra_lt h]
theorem pm_s_alen (hdg : decode (pm_tB t) pc = .ok (.arraylength, 1)) (h : pm_st (g_L G) (g_sx G) (pm_tL t) (pm_tO t) .arraylength pc ls st n N M = some q') (hlen : ∀ a, pm_alen a < 2147483648) (hgl : pm_tO t = 13 → g_L G < 2147483648) : pm_re G t d (pc, ls, st, n, N, M) q' := by
  simp only [pm_st] at h
  split at h
  · rename_i kd a st'
    split at h
    · rename_i hk
      obtain ⟨rfl, ho⟩ := hk
      cases h
      refine pm_re_stk (fun h1 h2 _ _ w hw => ?_) ?_
      · rcases List.mem_cons.mp hw with rfl | hw
        · have := hgl ho
          exact ⟨by omega, by omega⟩
        · exact h2 w (List.mem_cons_of_mem _ hw)
      · intro p e R s m args below meth c H locs cells slots Q A ad lsr hS hF hX hD kk
        obtain ⟨x1, x2, x3, x4⟩ := hX ho
        exact va_slen hF.1 hF.2.1 x1 x2 x3 hD.2.1 hdg kk
    · split at h
      · rename_i hk0 hk
        cases h
        refine pm_re_stk (fun h1 h2 _ _ w hw => ?_) ?_
        · rcases List.mem_cons.mp hw with rfl | hw
          · have := hlen a
            exact ⟨by omega, by omega⟩
          · exact h2 w (List.mem_cons_of_mem _ hw)
        · intro p e R s m args below meth c H locs cells slots Q A ad lsr hS hF hX hD kk
          obtain ⟨⟨hP, hDD, hN, hM⟩, hSS, hA, hls, hst, hl⟩ := hD
          obtain ⟨ha, hlay⟩ := pm_ref (hst _ List.mem_cons_self) (by omega)
          have hws := pm_ws_at G ad N M ha
          rw [List.map_cons, pm_tvr (by omega)]
          obtain ⟨ty, hty, -⟩ := pm_ty_at G hk.1 hk.2
          rcases (show kd = 20 ∨ kd = 22 ∨ kd = 23 ∨ kd = 21 ∨ kd = 24 by omega) with z | z | z | z | z
          · rw [pm_en_i hlay (by omega)] at hws
            exact va_alen hF.1 hF.2.1 hS.2.1.1 hP a (kd - 20) hws hty rfl hdg kk
          · rw [pm_en_i hlay (by omega)] at hws
            exact va_alen hF.1 hF.2.1 hS.2.1.1 hP a (kd - 20) hws hty rfl hdg kk
          · rw [pm_en_i hlay (by omega)] at hws
            exact va_alen hF.1 hF.2.1 hS.2.1.1 hP a (kd - 20) hws hty rfl hdg kk
          · subst z
            rw [pm_en_l hlay] at hws
            exact va_alen hF.1 hF.2.1 hS.2.1.1 hP a 1 hws hty rfl hdg kk
          · subst z
            rw [pm_en_q hlay] at hws
            exact va_alen hF.1 hF.2.1 hS.2.1.1 hP a 4 hws hty rfl hdg kk
      · cases h
  · cases h
theorem pm_s_iaload (hdg : decode (pm_tB t) pc = .ok (.iaload, 1)) (h : pm_st (g_L G) (g_sx G) (pm_tL t) (pm_tO t) .iaload pc ls st n N M = some q') : pm_re G t d (pc, ls, st, n, N, M) q' := by
  simp only [pm_st] at h
  split at h
  · rename_i i kd a st'
    split at h
    · rename_i hk
      subst hk
      split at h
      · rename_i hi
        cases h
        refine pm_re_stk (fun h1 h2 _ hM w hw => ?_) ?_
        · rcases List.mem_cons.mp hw with rfl | hw
          · obtain ⟨ha, hlay⟩ := pm_ref (h2 _ (List.mem_cons_of_mem _ List.mem_cons_self)) (by omega)
            have hx := hM.1 a ha i.toNat
            unfold pm_sk at hx
            rw [hlay] at hx
            exact hx
          · exact h2 w (List.mem_cons_of_mem _ (List.mem_cons_of_mem _ hw))
        · intro p e R s m args below meth c H locs cells slots Q A ad lsr hS hF hX hD kk
          obtain ⟨⟨hP, hDD, hN, hM⟩, hSS, hA, hls, hst, hl⟩ := hD
          obtain ⟨ha, hlay⟩ := pm_ref (hst _ (List.mem_cons_of_mem _ List.mem_cons_self)) (by omega)
          have hws := pm_ws_at G ad N M ha
          rw [pm_en_i hlay (by omega)] at hws
          obtain ⟨i1, i2⟩ := pm_ix hi (hst _ List.mem_cons_self)
          rw [List.map_cons, List.map_cons, pm_tvr (by omega)]
          refine va_iald hF.1 hF.2.1 hS.2.1.1 hP a 0 hws rfl i1 hdg ?_
          rw [i2]; exact kk
      · cases h
    · split at h
      · rename_i hk
        obtain ⟨rfl, ho⟩ := hk
        split at h
        · rename_i hi
          cases h
          refine pm_re_stk (fun h1 h2 _ hM w hw => ?_) ?_
          · rcases List.mem_cons.mp hw with rfl | hw
            · exact r32 _
            · exact h2 w (List.mem_cons_of_mem _ (List.mem_cons_of_mem _ hw))
          · intro p e R s m args below meth c H locs cells slots Q A ad lsr hS hF hX hD kk
            obtain ⟨x1, x2, x3, x4⟩ := hX ho
            obtain ⟨i1, i2⟩ := pm_ix hi (hD.2.2.2.2.1 _ List.mem_cons_self)
            refine va_sld hF.1 hF.2.1 x1 x2 x3 hD.2.1 i1 hdg ?_
            rw [i2]
            have e1 : pm_tv G ad (.inl (g_sx G i.toNat)) = .int (g_x G i.toNat) := by
              simp only [pm_tv, g_sx]; rw [Int32.ofInt_toInt]
            rw [List.map_cons, e1] at kk
            exact kk
        · cases h
      · cases h
  · cases h
theorem pm_s_laload (hdg : decode (pm_tB t) pc = .ok (.laload, 1)) (h : pm_st (g_L G) (g_sx G) (pm_tL t) (pm_tO t) .laload pc ls st n N M = some q') : pm_re G t d (pc, ls, st, n, N, M) q' := by
  simp only [pm_st] at h
  split at h
  · rename_i i kd a st'
    split at h
    · rename_i hk
      subst hk
      split at h
      · rename_i hi
        cases h
        refine pm_re_stk (fun h1 h2 _ hM w hw => ?_) ?_
        · rcases List.mem_cons.mp hw with rfl | hw
          · obtain ⟨ha, hlay⟩ := pm_ref (h2 _ (List.mem_cons_of_mem _ List.mem_cons_self)) (by omega)
            have hx := hM.1 a ha i.toNat
            unfold pm_sk at hx
            rw [hlay] at hx
            exact hx
          · exact h2 w (List.mem_cons_of_mem _ (List.mem_cons_of_mem _ hw))
        · intro p e R s m args below meth c H locs cells slots Q A ad lsr hS hF hX hD kk
          obtain ⟨⟨hP, hDD, hN, hM⟩, hSS, hA, hls, hst, hl⟩ := hD
          obtain ⟨ha, hlay⟩ := pm_ref (hst _ (List.mem_cons_of_mem _ List.mem_cons_self)) (by omega)
          have hws := pm_ws_at G ad N M ha
          rw [pm_en_l hlay] at hws
          obtain ⟨i1, i2⟩ := pm_ix hi (hst _ List.mem_cons_self)
          rw [List.map_cons, List.map_cons, pm_tvr (by omega)]
          refine va_lald hF.1 hF.2.1 hS.2.1.1 hP a 1 hws rfl i1 hdg ?_
          rw [i2]; exact kk
      · cases h
    · cases h
  · cases h
theorem pm_s_baload (hdg : decode (pm_tB t) pc = .ok (.baload, 1)) (h : pm_st (g_L G) (g_sx G) (pm_tL t) (pm_tO t) .baload pc ls st n N M = some q') : pm_re G t d (pc, ls, st, n, N, M) q' := by
  simp only [pm_st] at h
  split at h
  · rename_i i kd a st'
    split at h
    · rename_i hk
      split at h
      · rename_i hi
        cases h
        refine pm_re_stk (fun h1 h2 _ hM w hw => ?_) ?_
        · rcases List.mem_cons.mp hw with rfl | hw
          · obtain ⟨ha, hlay⟩ := pm_ref (h2 _ (List.mem_cons_of_mem _ List.mem_cons_self)) (by omega)
            have hx := hM.1 a ha i.toNat
            unfold pm_sk at hx
            rw [hlay] at hx
            rcases hk with rfl | rfl
            · obtain ⟨x1, x2⟩ : -128 ≤ M a i.toNat ∧ M a i.toNat < 128 := hx
              exact ⟨by omega, by omega⟩
            · have hx : M a i.toNat = 0 ∨ M a i.toNat = 1 := hx
              exact ⟨by omega, by omega⟩
          · exact h2 w (List.mem_cons_of_mem _ (List.mem_cons_of_mem _ hw))
        · intro p e R s m args below meth c H locs cells slots Q A ad lsr hS hF hX hD kk
          obtain ⟨⟨hP, hDD, hN, hM⟩, hSS, hA, hls, hst, hl⟩ := hD
          obtain ⟨ha, hlay⟩ := pm_ref (hst _ (List.mem_cons_of_mem _ List.mem_cons_self)) (by omega)
          have hws := pm_ws_at G ad N M ha
          rw [pm_en_i hlay (by omega)] at hws
          obtain ⟨i1, i2⟩ := pm_ix hi (hst _ List.mem_cons_self)
          rw [List.map_cons, List.map_cons, pm_tvr (by omega)]
          rcases hk with rfl | rfl
          · refine va_bald hF.1 hF.2.1 hS.2.1.1 hP a 2 hws rfl i1 hdg ?_
            rw [i2]; exact kk
          · refine va_zald hF.1 hF.2.1 hS.2.1.1 hP a 3 hws rfl i1 hdg ?_
            rw [i2]; exact kk
      · cases h
    · cases h
  · cases h
theorem pm_upd_eq {M : pm_M} {a i : Nat} {x : Int} : upd (fun j => Int32.ofInt (M a j)) i (Int32.ofInt x) = fun j => Int32.ofInt (pm_ms M a i x a j) := by
  funext j
  rw [pm_ms_self]
  unfold upd
  by_cases h : j = i
  · simp [h]
  · simp [h]
theorem pm_updL_eq {M : pm_M} {a i : Nat} {x : Int} : vp_updL (fun j => Int64.ofInt (M a j)) i (Int64.ofInt x) = fun j => Int64.ofInt (pm_ms M a i x a j) := by
  funext j
  rw [pm_ms_self]
  unfold vp_updL
  by_cases h : j = i
  · simp [h]
  · simp [h]
theorem pm_s_iastore (hdg : decode (pm_tB t) pc = .ok (.iastore, 1)) (h : pm_st (g_L G) (g_sx G) (pm_tL t) (pm_tO t) .iastore pc ls st n N M = some q') : pm_re G t d (pc, ls, st, n, N, M) q' := by
  simp only [pm_st] at h
  split at h
  · rename_i x i kd a st'
    split at h
    · rename_i hk
      subst hk
      split at h
      · rename_i hi
        cases h
        refine pm_re_put (a := a) (fun h2 w hw => h2 w (List.mem_cons_of_mem _ (List.mem_cons_of_mem _ (List.mem_cons_of_mem _ hw)))) (fun h2 hN hM => ?_) (fun c hc => rfl) (fun c hc => pm_ms_ne hc) ?_
        · obtain ⟨ha, hlay⟩ := pm_ref (h2 _ (List.mem_cons_of_mem _ (List.mem_cons_of_mem _ List.mem_cons_self))) (by omega)
          refine ⟨ha, hN, pm_okM_ms hM ha ?_⟩
          unfold pm_sk
          rw [hlay]
          exact h2 _ List.mem_cons_self
        · intro p e R s m args below meth c H locs cells slots Q A ad lsr hS hF hX hD kk
          obtain ⟨⟨hP, hDD, hN, hM⟩, hSS, hA, hls, hst, hl⟩ := hD
          obtain ⟨ha, hlay⟩ := pm_ref (hst _ (List.mem_cons_of_mem _ (List.mem_cons_of_mem _ List.mem_cons_self))) (by omega)
          have hws := pm_ws_at G ad N M ha
          rw [pm_en_i hlay (by omega)] at hws
          obtain ⟨i1, i2⟩ := pm_ix hi (hst _ (List.mem_cons_of_mem _ List.mem_cons_self))
          rw [List.map_cons, List.map_cons, List.map_cons, pm_tvr (by omega)]
          rw [pm_en_i hlay (by omega)] at kk
          refine va_iast hF.1 hF.2.1 hS.2.1.1 hP hDD hSS a 0 hws rfl i1 hdg ?_
          rw [i2, pm_upd_eq]
          exact kk
      · cases h
    · cases h
  · cases h
theorem pm_s_lastore (hdg : decode (pm_tB t) pc = .ok (.lastore, 1)) (h : pm_st (g_L G) (g_sx G) (pm_tL t) (pm_tO t) .lastore pc ls st n N M = some q') : pm_re G t d (pc, ls, st, n, N, M) q' := by
  simp only [pm_st] at h
  split at h
  · rename_i x i kd a st'
    split at h
    · rename_i hk
      subst hk
      split at h
      · rename_i hi
        cases h
        refine pm_re_put (a := a) (fun h2 w hw => h2 w (List.mem_cons_of_mem _ (List.mem_cons_of_mem _ (List.mem_cons_of_mem _ hw)))) (fun h2 hN hM => ?_) (fun c hc => rfl) (fun c hc => pm_ms_ne hc) ?_
        · obtain ⟨ha, hlay⟩ := pm_ref (h2 _ (List.mem_cons_of_mem _ (List.mem_cons_of_mem _ List.mem_cons_self))) (by omega)
          refine ⟨ha, hN, pm_okM_ms hM ha ?_⟩
          unfold pm_sk
          rw [hlay]
          exact h2 _ List.mem_cons_self
        · intro p e R s m args below meth c H locs cells slots Q A ad lsr hS hF hX hD kk
          obtain ⟨⟨hP, hDD, hN, hM⟩, hSS, hA, hls, hst, hl⟩ := hD
          obtain ⟨ha, hlay⟩ := pm_ref (hst _ (List.mem_cons_of_mem _ (List.mem_cons_of_mem _ List.mem_cons_self))) (by omega)
          have hws := pm_ws_at G ad N M ha
          rw [pm_en_l hlay] at hws
          obtain ⟨i1, i2⟩ := pm_ix hi (hst _ (List.mem_cons_of_mem _ List.mem_cons_self))
          rw [List.map_cons, List.map_cons, List.map_cons, pm_tvr (by omega)]
          rw [pm_en_l hlay] at kk
          refine va_last hF.1 hF.2.1 hS.2.1.1 hP hDD hSS a 1 hws rfl i1 hdg ?_
          rw [i2, pm_updL_eq]
          exact kk
      · cases h
    · cases h
  · cases h
theorem pm_s_bastore (hdg : decode (pm_tB t) pc = .ok (.bastore, 1)) (h : pm_st (g_L G) (g_sx G) (pm_tL t) (pm_tO t) .bastore pc ls st n N M = some q') : pm_re G t d (pc, ls, st, n, N, M) q' := by
  simp only [pm_st] at h
  split at h
  · rename_i x i kd a st'
    split at h
    · rename_i hk
      subst hk
      split at h
      · rename_i hi
        cases h
        have e1 : Int32.ofInt (i_2b x) = (Int32.ofInt x).toInt8.toInt32 := Int32.ofInt_toInt _
        refine pm_re_put (a := a) (fun h2 w hw => h2 w (List.mem_cons_of_mem _ (List.mem_cons_of_mem _ (List.mem_cons_of_mem _ hw)))) (fun h2 hN hM => ?_) (fun c hc => rfl) (fun c hc => pm_ms_ne hc) ?_
        · obtain ⟨ha, hlay⟩ := pm_ref (h2 _ (List.mem_cons_of_mem _ (List.mem_cons_of_mem _ List.mem_cons_self))) (by omega)
          refine ⟨ha, hN, pm_okM_ms hM ha ?_⟩
          unfold pm_sk
          rw [hlay]
          show -128 ≤ i_2b x ∧ i_2b x < 128
          unfold i_2b
          rw [Int8.toInt_toInt32]
          have h1 := (Int32.ofInt x).toInt8.toInt_lt
          have h2 := (Int32.ofInt x).toInt8.le_toInt
          exact ⟨by omega, by omega⟩
        · intro p e R s m args below meth c H locs cells slots Q A ad lsr hS hF hX hD kk
          obtain ⟨⟨hP, hDD, hN, hM⟩, hSS, hA, hls, hst, hl⟩ := hD
          obtain ⟨ha, hlay⟩ := pm_ref (hst _ (List.mem_cons_of_mem _ (List.mem_cons_of_mem _ List.mem_cons_self))) (by omega)
          have hws := pm_ws_at G ad N M ha
          rw [pm_en_i hlay (by omega)] at hws
          obtain ⟨i1, i2⟩ := pm_ix hi (hst _ (List.mem_cons_of_mem _ List.mem_cons_self))
          rw [List.map_cons, List.map_cons, List.map_cons, pm_tvr (by omega)]
          rw [pm_en_i hlay (by omega)] at kk
          refine va_bast hF.1 hF.2.1 hS.2.1.1 hP hDD hSS a 2 hws rfl i1 hdg ?_
          rw [i2, vp_nar_byte, ← e1, pm_upd_eq]
          exact kk
      · cases h
    · split at h
      · rename_i hk0 hk
        obtain ⟨rfl, hx⟩ := hk
        split at h
        · rename_i hi
          cases h
          refine pm_re_put (a := a) (fun h2 w hw => h2 w (List.mem_cons_of_mem _ (List.mem_cons_of_mem _ (List.mem_cons_of_mem _ hw)))) (fun h2 hN hM => ?_) (fun c hc => rfl) (fun c hc => pm_ms_ne hc) ?_
          · obtain ⟨ha, hlay⟩ := pm_ref (h2 _ (List.mem_cons_of_mem _ (List.mem_cons_of_mem _ List.mem_cons_self))) (by omega)
            refine ⟨ha, hN, pm_okM_ms hM ha ?_⟩
            unfold pm_sk
            rw [hlay]
            exact hx
          · intro p e R s m args below meth c H locs cells slots Q A ad lsr hS hF hX hD kk
            obtain ⟨⟨hP, hDD, hN, hM⟩, hSS, hA, hls, hst, hl⟩ := hD
            obtain ⟨ha, hlay⟩ := pm_ref (hst _ (List.mem_cons_of_mem _ (List.mem_cons_of_mem _ List.mem_cons_self))) (by omega)
            have hws := pm_ws_at G ad N M ha
            rw [pm_en_i hlay (by omega)] at hws
            obtain ⟨i1, i2⟩ := pm_ix hi (hst _ (List.mem_cons_of_mem _ List.mem_cons_self))
            rw [List.map_cons, List.map_cons, List.map_cons, pm_tvr (by omega)]
            rw [pm_en_i hlay (by omega)] at kk
            refine va_zast hF.1 hF.2.1 hS.2.1.1 hP hDD hSS a 3 hws rfl i1 hdg ?_
            have e1 : vp_nar .boolean (Int32.ofInt x) = Int32.ofInt x := by
              rcases hx with rfl | rfl <;> rfl
            rw [i2, e1, pm_upd_eq]
            exact kk
        · cases h
      · cases h
  · cases h
theorem pm_s_aaload (hdg : decode (pm_tB t) pc = .ok (.aaload, 1)) (h : pm_st (g_L G) (g_sx G) (pm_tL t) (pm_tO t) .aaload pc ls st n N M = some q') : pm_re G t d (pc, ls, st, n, N, M) q' := by
  simp only [pm_st] at h
  split at h
  · rename_i i kd a st'
    split at h
    · rename_i hk
      subst hk
      split at h
      · rename_i hi
        split at h
        · cases h
        · rename_i v hv
          cases h
          have hok : pm_okv n (.inr (.inr (24, a))) → pm_okN n N → pm_okv n (.inr (.inr (10, v))) := by
            intro ho hN
            obtain ⟨ha, hlay⟩ := pm_ref ho (by omega)
            have hx := hN.1 a ha i.toNat
            unfold pm_sk at hx
            rw [hlay, hv] at hx
            exact (hx rfl).resolve_left (by omega)
          refine pm_re_stk (fun h1 h2 hN hM w hw => ?_) ?_
          · rcases List.mem_cons.mp hw with rfl | hw
            · exact hok (h2 _ (List.mem_cons_of_mem _ List.mem_cons_self)) hN
            · exact h2 w (List.mem_cons_of_mem _ (List.mem_cons_of_mem _ hw))
          · intro p e R s m args below meth c H locs cells slots Q A ad lsr hS hF hX hD kk
            obtain ⟨⟨hP, hDD, hN, hM⟩, hSS, hA, hls, hst, hl⟩ := hD
            obtain ⟨ha, hlay⟩ := pm_ref (hst _ (List.mem_cons_of_mem _ List.mem_cons_self)) (by omega)
            have hws := pm_ws_at G ad N M ha
            rw [pm_en_q hlay] at hws
            obtain ⟨i1, i2⟩ := pm_ix hi (hst _ List.mem_cons_self)
            rw [List.map_cons, List.map_cons, pm_tvr (by omega)]
            refine va_aldq hF.1 hF.2.1 hS.2.1.1 hP a 4 hws rfl i1 hdg ?_
            rw [i2, hv, if_neg (by omega)]
            rw [List.map_cons, pm_tvr (by omega)] at kk
            exact kk
      · cases h
    · cases h
  · cases h
theorem pm_s_aastore (hdg : decode (pm_tB t) pc = .ok (.aastore, 1)) (h : pm_st (g_L G) (g_sx G) (pm_tL t) (pm_tO t) .aastore pc ls st n N M = some q') : pm_re G t d (pc, ls, st, n, N, M) q' := by
  simp only [pm_st] at h
  split at h
  · rename_i kv v i kd a st'
    split at h
    · rename_i hk
      obtain ⟨rfl, rfl⟩ := hk
      split at h
      · rename_i hi
        cases h
        refine pm_re_put (a := a) (fun h2 w hw => h2 w (List.mem_cons_of_mem _ (List.mem_cons_of_mem _ (List.mem_cons_of_mem _ hw)))) (fun h2 hN hM => ?_) (fun c hc => pm_ns_ne hc) (fun c hc => rfl) ?_
        · obtain ⟨ha, hlay⟩ := pm_ref (h2 _ (List.mem_cons_of_mem _ (List.mem_cons_of_mem _ List.mem_cons_self))) (by omega)
          refine ⟨ha, pm_okN_ns hN ha (fun _ => Or.inr ?_), hM⟩
          have e1 : pm_sk a i.toNat = (1, 10) := by unfold pm_sk; rw [hlay]; rfl
          rw [e1]
          exact h2 _ List.mem_cons_self
        · intro p e R s m args below meth c H locs cells slots Q A ad lsr hS hF hX hD kk
          obtain ⟨⟨hP, hDD, hN, hM⟩, hSS, hA, hls, hst, hl⟩ := hD
          obtain ⟨ha, hlay⟩ := pm_ref (hst _ (List.mem_cons_of_mem _ (List.mem_cons_of_mem _ List.mem_cons_self))) (by omega)
          obtain ⟨hv, hlv⟩ := pm_ref (hst _ List.mem_cons_self) (by omega)
          have hws := pm_ws_at G ad N M ha
          rw [pm_en_q hlay] at hws
          have hwv := pm_ws_at G ad N M hv
          rw [pm_en_obj hlv (by omega)] at hwv
          obtain ⟨i1, i2⟩ := pm_ix hi (hst _ (List.mem_cons_of_mem _ List.mem_cons_self))
          rw [List.map_cons, List.map_cons, List.map_cons, pm_tvr (show (24 : Nat) < 25 by omega), pm_tvr (show (10 : Nat) < 25 by omega)]
          rw [pm_en_q hlay] at kk
          refine va_astq (r := (pm_cn 10, pm_uT 10, pm_nf 10)) hF.1 hF.2.1 hS.2.1.1 hP hDD hSS a 4 v 10 hws rfl hwv (pm_cl_at (by omega)) i1 hdg ?_
          have e2 : va_up (fun j => if N a j = 0 then none else some (ad (N a j - 1))) i.toNat (some (ad v)) = fun j => if pm_ns N a i.toNat (v + 1) a j = 0 then none else some (ad (pm_ns N a i.toNat (v + 1) a j - 1)) := by
            funext j
            rw [pm_ns_self]
            unfold va_up
            by_cases hj : j = i.toNat
            · simp [hj]
            · simp [hj]
          rw [i2, e2]
          exact kk
      · cases h
    · cases h
  · cases h
end
