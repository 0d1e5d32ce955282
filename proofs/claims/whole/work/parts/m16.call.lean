/-! METHODS: a contract out of a run to a return; calls -/
def pm_ag : Nat → List pm_V → pm_L
  | _, [] => []
  | i, v :: vs => (i, v) :: pm_ag (bif Nat.beq (pm_cat v) 2 then i + 2 else i + 1) vs
theorem pm_ag_eq (G : pm_G) (ad : Nat → Nat) : ∀ (i : Nat) (vs : List pm_V), lv_args i (vs.map (pm_tv G ad)) = (pm_ag i vs).map (pm_tp G ad)
  | i, [] => rfl
  | i, v :: vs => by
    rw [List.map_cons]
    simp only [lv_args, pm_ag, List.map_cons]
    rw [pm_cat_eq]
    have e1 : (if pm_cat v = 2 then i + 2 else i + 1) = (bif Nat.beq (pm_cat v) 2 then i + 2 else i + 1) := by
      rcases v with x | x | x <;> rfl
    rw [e1, pm_ag_eq G ad _ vs]
    rfl
theorem pm_ag_mem : ∀ {i : Nat} {vs : List pm_V} {q : Nat × pm_V}, q ∈ pm_ag i vs → q.2 ∈ vs
  | i, [], q, h => by simp [pm_ag] at h
  | i, v :: vs, q, h => by
    simp only [pm_ag] at h
    rcases List.mem_cons.mp h with rfl | h
    · exact List.mem_cons_self
    · exact List.mem_cons_of_mem _ (pm_ag_mem h)
def pm_wd : List pm_V → Nat
  | [] => 0
  | v :: vs => pm_cat v + pm_wd vs
theorem pm_wd_eq (G : pm_G) (ad : Nat → Nat) : ∀ vs : List pm_V, (lg_sl (vs.map (pm_tv G ad))).length = pm_wd vs
  | [] => rfl
  | v :: vs => by
    have ih := pm_wd_eq G ad vs
    unfold lg_sl at *
    rw [List.map_cons, List.flatMap_cons, List.length_append, ih, pm_cat_eq]
    rcases v with x | x | x <;> simp [pm_cat, pm_wd]
theorem pm_wd_sum (G : pm_G) (ad : Nat → Nat) : ∀ vs : List pm_V, ((vs.map (pm_tv G ad)).map fun v => v.category).sum = pm_wd vs
  | [] => rfl
  | v :: vs => by
    have ih := pm_wd_sum G ad vs
    simp only [List.map_cons, List.sum_cons, pm_wd]
    rw [ih, pm_cat_eq]
/-- a value that a method may answer -/
def pm_rok (ret : Option FieldType) (r : Option pm_V) : Prop := match r with
  | none => ret = none
  | some (.inl x) => ret = some .int ∨ (ret = some .boolean ∧ (x = 0 ∨ x = 1))
  | some (.inr (.inl _)) => ret = some .long
  | _ => False
def pm_ri (r : Option pm_V) : Instr := match r with
  | none => .return_
  | some (.inr (.inl _)) => .lreturn
  | _ => .ireturn
/-- the method t, called with vs, comes to its end with the answer r -/
def pm_rt (G : pm_G) (t : pm_T) (d : Nat) (vs : List pm_V) (n : Nat) (N : pm_N) (M : pm_M) (r : Option pm_V) (n' : Nat) (N' : pm_N) (M' : pm_M) : Prop :=
  ∃ (pc : Nat) (ls : pm_L), pm_tI t pc = some (pm_ri r, 1) ∧ pm_rok (pm_tR t) r ∧ pm_re G t d (0, pm_ag 0 vs, [], n, N, M) (pc, ls, r.toList, n', N', M')
/-- what a method's words are -/
def pm_mw (t : pm_T) (na : Nat) : Prop := Cond.code (pm_tY t) (pm_tB t) (pm_tL t) (pm_tR t) ∈ pm_gw ∧ ((pm_tY t).cls ≠ "java/lang/invoke/MethodHandle" ∧ (pm_tY t).cls ≠ "java/lang/invoke/VarHandle") ∧ (parseMethodDescriptor (pm_tY t).desc).map (fun z => z.parameters.length) = some na ∧ pm_tL t ≤ 40 ∧ plainName (pm_tY t).cls = true
def pm_ws0 (t : pm_T) : List Cond := Cond.code (pm_tY t) (pm_tB t) (pm_tL t) (pm_tR t) :: pm_gw
def pm_rm (d mc ms : Nat) : Room := { frames := d + 1, cells := mc, slots := ms, locals := 64 * (d + 1) }
def pm_AA (G : pm_G) (ad : Nat → Nat) (n : Nat) (N : pm_N) (M : pm_M) (sz : Nat) : Nat → Prop := va_A (pm_ws G ad n N M) sz
def pm_Pc (G : pm_G) (ad : Nat → Nat) (vs : List pm_V) (n : Nat) (N : pm_N) (M : pm_M) (sz : Nat) : Array Value → State → Prop :=
  va_Pc (vs.map (pm_tv G ad)) (fun U => U.heap.size = sz ∧ pm_Wo G (fun _ => True) ad n N M U.heap ∧ pm_Ts G U ∧ pm_Sg G (pm_AA G ad n N M sz) U U.heap)
def pm_Qc (G : pm_G) (ad : Nat → Nat) (n : Nat) (N : pm_N) (M : pm_M) (sz : Nat) (r : Option pm_V) (n' : Nat) (N' : pm_N) (M' : pm_M) : Array Value → State → Outcome → State → Prop := fun _ st oc u =>
  (∃ ad' : Nat → Nat, (∀ a, a < n → ad' a = ad a) ∧ oc = .returned (r.map (pm_tv G ad')) ∧ pm_Wo G (pm_AA G ad n N M sz) ad' n' N' M' u.heap ∧ ∀ v ∈ r, pm_okv n' v) ∧ va_F (pm_AA G ad n N M sz) st u
theorem pm_met {G : pm_G} {t : pm_T} {d na n n' : Nat} {vs : List pm_V} {N N' : pm_N} {M M' : pm_M} {r : Option pm_V} (hT : pm_okT t) (hw : pm_mw t na) (h13 : pm_tO t ≠ 13) (hv : ∀ v ∈ vs, pm_okv n v) (hL : pm_wd vs ≤ pm_tL t) (h : pm_rt G t d vs n N M r n' N' M') (ad : Nat → Nat) (sz : Nat) :
    Met (g_l G) (pm_tY t) (pm_ws0 t) (pm_rm d (n' - n) (pm_SZ n' - pm_SZ n)) (pm_Pc G ad vs n N M sz) (pm_Qc G ad n N M sz r n' N' M') (n' - n) (pm_SZ n' - pm_SZ n) (pm_AA G ad n N M sz) := by
  obtain ⟨pcr, lsR, hri, hrok, hmono, hre⟩ := h
  obtain ⟨-, -, -, -, hpl⟩ := hw
  refine Met.ofW (cc := pm_tB t) (maxL := pm_tL t) (ret := pm_tR t) (ws' := pm_gw) hpl rfl ?_
  intro p e s m args below meth c s₁ B hml hvp
  obtain ⟨rfl, hsz, ⟨hP, hD0, hN, hM⟩, hTs, hSg⟩ := hvp
  have hx := B.exec
  have hb := B.bytes
  have hr := B.returns
  have hts := atoms_spec (ws := pm_ws0 t) B.pre
  have hown : s.vm.findClass (pm_tY t).cls = some m.cls := findClass_of_methodNamed B.named
  have hlocks := B.notSynchronized
  have hnm : meth.name = (pm_tY t).name := (name_of_methodNamed B.named B.method).1
  subst hsz
  have hD := hD0.self (sz := s.heap.size)
  have hA : ∀ q : Nat, s.heap.size ≤ q → pm_AA G ad n N M s.heap.size q := fun q hq => Or.inr hq
  have hSS : va_S (pm_AA G ad n N M s.heap.size) s.heap s.heap [] := va_S.rf
  have hl := lv_entry (vs.map (pm_tv G ad)) (n := pm_tL t) (by rw [pm_wd_eq]; exact hL)
  rw [lg_entry_eq]
  generalize (lg_sl (vs.map (pm_tv G ad)) ++ List.replicate (pm_tL t - (lg_sl (vs.map (pm_tv G ad))).length) Slot.unset).toArray = ls at hl ⊢
  rw [pm_ag_eq] at hl
  have hSs : pm_Ss G (vs.map (pm_tv G ad)).toArray (pm_AA G ad n N M s.heap.size) s := ⟨fun w hw => hts w (List.mem_cons_of_mem _ hw), hTs, hSg⟩
  have hFx : pm_Fx t d p (pm_rm d (n' - n) (pm_SZ n' - pm_SZ n)) s m meth c := ⟨hx, hb, hml, by rw [← hT.2.2]; exact hown, hnm, Nat.le_refl _, Nat.le_refl _⟩
  refine hre p e (pm_rm d (n' - n) (pm_SZ n' - pm_SZ n)) s m _ below meth c s.heap [] 0 0 _ (pm_AA G ad n N M s.heap.size) ad ls hSs hFx (fun z => absurd z h13) ⟨⟨hP, hD, hN, hM⟩, hSS, hA, fun q hq => hv _ (pm_ag_mem hq), fun v hv => absurd hv List.not_mem_nil, hl⟩ (by simp [pm_rm]) (by simp [pm_rm]) ?_
  intro H' locs' cells' slots' ad' lsr' had hDy hc' hs'
  obtain ⟨hWo, hSS', -, -, hst', -⟩ := hDy
  refine W.widen (k := n' - n) (n := pm_SZ n' - pm_SZ n) (by simpa using hc') (by simpa using hs') ?_
  have hdec := (hT.1 _ _ _ hri).1
  have hq : ∀ t' : State, t'.heap = H' → s.WarmedH t'.vm → pm_Qc G ad n N M s.heap.size r n' N' M' (vs.map (pm_tv G ad)).toArray s (.returned (r.map (pm_tv G ad'))) t' := by
    intro t' ht _
    refine ⟨⟨ad', had, rfl, by rw [ht]; exact hWo, fun v hv => hst' v (by cases r with | none => cases hv | some w => cases hv; simp)⟩, hSS'.F ht⟩
  rcases r with _ | x | x | x
  · exact W.vret hx hb (by rw [hr]; exact hrok) hq hSS'.2.2 hdec
  · rcases hrok with z | ⟨z, zx⟩
    · exact W.iret hx hb (by rw [hr]; exact z) hq hSS'.2.2 hdec
    · exact W.zret hx hb (by rw [hr]; exact z) (by rcases zx with rfl | rfl <;> rfl) hq hSS'.2.2 hdec
  · exact W.lret hx hb (by rw [hr]; exact hrok) hq hSS'.2.2 hdec
  · exact hrok.elim
section
variable {p : Program} {l : Launch} {e : Env} {R : Room} {s : State} {m : MethodId} {args : Array Value} {below : List Frame} {meth : Method} {c : Code} {H : Heap} {locs : List Loc} {cells slots : Nat} {Q : State → Prop} {pc : Nat} {ls : Array Slot} {rest st0 : List Value} {A A1 : Nat → Prop} {mc ms : Nat} {free : Addr → Prop}
/-- behind a call whose answer is any -/
theorem pm_callX {Qa : State → Outcome → State → Prop} (hr : va_Run p l e R s m args below meth c H locs cells slots mc ms (F0 m pc ls st0) rest Qa free) (hS : va_S A s.heap H locs) (hA : ∀ q, q < H.size → A1 q → A q) (hf : ∀ q, free q → A q) (hQ : ∀ st oc u, Qa st oc u → va_F A1 st u)
    (kk : ∀ (v : Option Value) (st u : State) (H1 : Heap) (locs1 : List Loc), st.heap = H → u.heap = H1 → s.vm.Alike u.vm → Qa st (.returned v) u → va_S A s.heap H1 locs1 → W p l e R s m args below meth c H1 locs1 (cells + mc) (slots + ms) Q (F0 m (pc + 3) ls (v.toList ++ rest))) : W p l e R s m args below meth c H locs cells slots Q (F0 m pc ls st0) := by
  intro T hT X
  obtain ⟨v, st₀, t, T', L, h0, X', hL, e1, e2, hq, st⟩ := hr T hT X
  obtain ⟨hz, hk⟩ := hQ _ _ _ hq
  rw [h0] at hz hk
  obtain ⟨t2, a1, b1⟩ := kk v st₀ t T'.heap (locs ++ L) h0 e1.symm (by rw [← e2]; exact X'.warmed.alike) hq
    ⟨Nat.le_trans hS.1 (by rw [e1]; exact hz), fun q h1 h2 => by rw [e1, hk q (Nat.lt_of_lt_of_le h1 hS.1) (fun z => h2 (hA q (Nat.lt_of_lt_of_le h1 hS.1) z))]; exact hS.2.1 q h1 h2, fun q hq => by
      rcases List.mem_append.mp hq with h | h
      · exact hS.2.2 q h
      · exact hf _ (hL q h)⟩ T' rfl X'
  exact ⟨t2, st t2 a1, b1⟩
end
theorem pm_Ts_warm {G : pm_G} {s U : State} (hW : s.WarmedH U.vm) (h : pm_Ts G s) : pm_Ts G U := by
  refine ⟨va_K.moved hW.alike h.1, fun w hw => ?_, va_AO.moved hW.alike h.2.2⟩
  have h1 := h.2.1 w hw
  unfold pm_nw at hw
  simp only [List.mem_cons, List.not_mem_nil, or_false] at hw
  rcases hw with rfl | rfl | rfl | rfl | rfl <;> exact va_Nw.warmM hW h1
theorem pm_Sg_warm {G : pm_G} {A A1 : Nat → Prop} {s U : State} {H : Heap} {locs : List Loc} (hW : s.WarmedH U.vm) (hH : U.heap = H) (hS : va_S A s.heap H locs) (hA : ∀ q, A1 q → A q) (h : pm_Sg G A s s.heap) : pm_Sg G A1 U U.heap := by
  obtain ⟨h1, h2, h3, h4, h5⟩ := h
  have hk : ∀ a : Nat, a < s.heap.size → ¬ A a → U.heap[a]? = s.heap[a]? := fun a h1 h2 => by rw [hH]; exact hS.2.1 a h1 h2
  exact ⟨((h1.kept hk).moved hW.alike).narrow hA, vk_R.warm hW h2, vk_R.warm hW h3, ((h4.kept hk).moved hW.alike).narrow hA, ((h5.kept hk).moved hW.alike).narrow hA⟩
theorem pm_blind (G : pm_G) (ad : Nat → Nat) (vs : List pm_V) (n : Nat) (N : pm_N) (M : pm_M) (sz : Nat) : FrameBlind (pm_Pc G ad vs n N M sz) := by
  intro a U g mk h
  obtain ⟨h1, h2, h3, h4, h5⟩ := h
  refine ⟨h1, h2, h3, ?_, ?_⟩
  · refine ⟨va_K.moved (u := U) (U := U.calling g mk a) (Vm.Alike.refl U.vm) h4.1, fun w hw => ?_, va_AO.moved (u := U) (U := U.calling g mk a) (Vm.Alike.refl U.vm) h4.2.2⟩
    have z := h4.2.1 w hw
    unfold pm_nw at hw
    simp only [List.mem_cons, List.not_mem_nil, or_false] at hw
    rcases hw with rfl | rfl | rfl | rfl | rfl <;> exact va_Nw.same (u := U) rfl rfl z
  · obtain ⟨g1, g2, g3, g4, g5⟩ := h5
    exact ⟨vk_S.moved (u := U) (U := U.calling g mk a) (Vm.Alike.refl U.vm) g1, vk_R.same (u := U) rfl g2, vk_R.same (u := U) rfl g3, va_Z.moved (u := U) (U := U.calling g mk a) (Vm.Alike.refl U.vm) g4, va_Zq.moved (u := U) (U := U.calling g mk a) (Vm.Alike.refl U.vm) g5⟩
/-- a call, by any of the ways of a call: what is left of it is the run -/
theorem pm_re_call {G : pm_G} {t : pm_T} {d pc n n' : Nat} {ls : pm_L} {st vs st0 : List pm_V} {N N' : pm_N} {M M' : pm_M} {r : Option pm_V}
    (hv : (∀ v ∈ st0, pm_okv n v) → (∀ v ∈ vs, pm_okv n v) ∧ ∀ v ∈ st, pm_okv n v) (hmono : n ≤ n')
    (hrun : (∀ v ∈ vs, pm_okv n v) → ∀ (p : Program) (e : Env) (R : Room) (s : State) (m : MethodId) (args : Array Value) (below : List Frame) (meth : Method) (c : Code) (H : Heap) (locs : List Loc) (cells slots : Nat) (A : Nat → Prop) (ad : Nat → Nat) (lsr : Array Slot),
      pm_Ss G args A s → pm_Fx t d p R s m meth c → pm_Dy G A s H locs ad lsr (pm_tL t) ls st0 n N M → cells + (n' - n) ≤ R.cells → slots + (pm_SZ n' - pm_SZ n) ≤ R.slots →
      (∀ U : State, U.heap = H → s.WarmedH U.vm → pm_Pc G ad vs n N M H.size (vs.map (pm_tv G ad)).toArray U) →
      va_Run p (g_l G) e R s m args below meth c H locs cells slots (n' - n) (pm_SZ n' - pm_SZ n) (F0 m pc lsr (st0.map (pm_tv G ad))) (st.map (pm_tv G ad)) (pm_Qc G ad n N M H.size r n' N' M' (vs.map (pm_tv G ad)).toArray) (pm_AA G ad n N M H.size)) :
    pm_re G t d (pc, ls, st0, n, N, M) (pc + 3, ls, r.toList ++ st, n', N', M') := by
  refine ⟨hmono, ?_⟩
  intro p e R s m args below meth c H locs cells slots Q A ad lsr hS hF hX hD hc hs kk
  obtain ⟨⟨hP, hDD, hN, hM⟩, hSS, hA, hls, hst0, hl⟩ := id hD
  obtain ⟨hvs, hst⟩ := hv hst0
  have hsub : ∀ q, pm_AA G ad n N M H.size q → A q := by
    intro q hq
    rcases hq with ⟨k, e', hk⟩ | hq
    · exact hDD.2 k (q, e') hk
    · exact hA q (Nat.le_trans hSS.1 hq)
  refine pm_callX (A1 := pm_AA G ad n N M H.size) (hrun hvs p e R s m args below meth c H locs cells slots A ad lsr hS hF hD hc hs ?_) hSS (fun q _ h => hsub q h) hsub (fun _ _ _ h => h.2) ?_
  · intro U hU hW
    exact ⟨rfl, by rw [hU], ⟨by rw [hU]; exact hP, hDD.weaken (fun _ _ _ _ => trivial), hN, hM⟩, pm_Ts_warm hW hS.2.1, pm_Sg_warm hW hU hSS hsub hS.2.2⟩
  · intro v st1 u H1 locs1 hst1 hu hvm hq hS1
    obtain ⟨⟨ad', had, hv', hWo, hrv⟩, -⟩ := hq
    cases hv'
    rw [hu] at hWo
    obtain ⟨hP1, hD1, hN1, hM1⟩ := hWo
    have k1 := kk H1 locs1 (cells + (n' - n)) (slots + (pm_SZ n' - pm_SZ n)) ad' lsr had ⟨⟨hP1, hD1.weaken (fun k q _ h => hsub q.1 h), hN1, hM1⟩, hS1, hA, fun q hq => pm_okv_mono hmono (hls q hq), fun w hw => ?_, by rw [pm_lsm had hls]; exact hl⟩ (Nat.le_refl _) (Nat.le_refl _)
    · rw [List.map_append, pm_stm had hst] at k1
      have e1 : (r.map (pm_tv G ad')).toList = r.toList.map (pm_tv G ad') := by cases r <;> rfl
      rw [e1]
      exact k1
    · rcases List.mem_append.mp hw with h | h
      · exact hrv w (by cases r with | none => simp at h | some z => simpa [eq_comm] using h)
      · exact pm_okv_mono hmono (hst w h)
section
variable {G : pm_G} {t tc : pm_T} {d dc pc idx na n n' : Nat} {ls : pm_L} {st As : List pm_V} {N N' : pm_N} {M M' : pm_M} {r : Option pm_V}
theorem pm_okvs {n : Nat} {As st : List pm_V} {x : pm_V} (h : ∀ v ∈ As.reverse ++ x :: st, pm_okv n v) : (∀ v ∈ x :: As, pm_okv n v) ∧ ∀ v ∈ st, pm_okv n v := by
  refine ⟨fun v hv => h v ?_, fun v hv => h v (by simp [hv])⟩
  rcases List.mem_cons.mp hv with rfl | hv
  · simp
  · simp [hv]
theorem pm_goodw : GoodIn pm_gw pm_gw := fun w hw => ⟨hw, (pm_gw_good w hw).2⟩
theorem pm_goods {t : pm_T} (h : Cond.code (pm_tY t) (pm_tB t) (pm_tL t) (pm_tR t) ∈ pm_gw) : GoodIn pm_gw (pm_ws0 t) := by
  intro w hw
  rcases List.mem_cons.mp hw with rfl | hw
  · exact pm_goodw _ h
  · exact pm_goodw w hw
theorem pm_callV {kd a : Nat} (hT : pm_okT t) (hTc : pm_okT tc) (hw : pm_mw tc na) (h13 : pm_tO tc ≠ 13) (hi : pm_tI t pc = some (.invokevirtual idx, 3)) (hlk : Cond.methodLink (pm_cn (pm_tO t)) idx (pm_tY tc) ∈ pm_gw) (hin : Cond.instanceMethod (pm_tY tc) ∈ pm_gw) (hse : Cond.selects (pm_tY tc).cls (pm_tY tc) (pm_tY tc) ∈ pm_gw)
    (hkd : kd = pm_tO tc) (hk13 : kd < 13) (hL : pm_wd (.inr (.inr (kd, a)) :: As) ≤ pm_tL tc) (hna : As.length = na) (hd : dc < d) (hst : pm_wd st ≤ 8) (h : pm_rt G tc dc (.inr (.inr (kd, a)) :: As) n N M r n' N' M') :
    pm_re G t d (pc, ls, As.reverse ++ .inr (.inr (kd, a)) :: st, n, N, M) (pc + 3, ls, r.toList ++ st, n', N', M') := by
  refine pm_re_call (vs := .inr (.inr (kd, a)) :: As) (fun h => pm_okvs h) h.choose_spec.choose_spec.2.2.1 ?_
  intro hvs p e R s m args below meth c H locs cells slots A ad lsr hS hF hD hc hs hpre
  have hmet := pm_met hTc hw h13 hvs hL h ad H.size
  obtain ⟨⟨hP, hDD, hN, hM⟩, hSS, hA, hls, hst0, hl⟩ := hD
  obtain ⟨ha, hlay⟩ := pm_ref (hvs _ List.mem_cons_self) (by omega)
  have hws := pm_ws_at G ad N M ha
  rw [pm_en_obj hlay hk13] at hws
  obtain ⟨f1, f2, f3, f4, f5, f6, f7⟩ := hF
  obtain ⟨w1, w2, w3, w4, w5⟩ := hw
  rw [List.map_cons, pm_tvr (by omega)] at hpre
  have hst1 : (F0 m pc lsr ((As.reverse ++ .inr (.inr (kd, a)) :: st).map (pm_tv G ad))).stack = (As.map (pm_tv G ad)).reverse ++ .ref (ad a) :: st.map (pm_tv G ad) := by
    show (As.reverse ++ .inr (.inr (kd, a)) :: st).map (pm_tv G ad) = _
    rw [List.map_append, List.map_cons, List.map_reverse, pm_tvr (by omega)]
  rw [List.map_cons, pm_tvr (by omega)]
  refine va_runV (As := As.map (pm_tv G ad)) (rest := st.map (pm_tv G ad)) (n := na) (C := (pm_tY tc).cls) ⟨f1, f2, f3, f4, hS.1⟩ hmet ⟨⟨rfl, rfl, ?_, ?_, pay_in hS.1 (pm_goods w1), List.mem_cons_self, hS.1 _ w1, hS.1 _ ?_, w2, fun sig hsig => ?_, hS.1 _ hlk⟩, hS.1 _ hin, hS.1 _ hse⟩ ⟨pm_blind G ad _ n N M H.size, ?_, hpre⟩ rfl (by rw [List.length_map]; exact hna) hl.1 hst1 (lv_room (by rw [pm_wd_sum]; exact hst)) (hT.1 _ _ _ hi).1 ⟨hc, hs⟩
  · simp only [pm_rm]; omega
  · simp only [pm_rm]; omega
  · rw [hTc.2.2]; exact pm_wJ hTc.2.1
  · rw [hsig] at w3
    exact (Option.some.inj w3).symm
  · have := va_recv hS.2.1.1 hP (pm_cl_at hk13) hws
    rw [hTc.2.2, ← hkd]
    exact this
theorem pm_callS (hT : pm_okT t) (hTc : pm_okT tc) (hw : pm_mw tc na) (h13 : pm_tO tc ≠ 13) (hi : pm_tI t pc = some (.invokestatic idx, 3)) (hlk : Cond.methodLink (pm_cn (pm_tO t)) idx (pm_tY tc) ∈ pm_gw) (hsta : Cond.static (pm_tY tc) ∈ pm_gw)
    (hL : pm_wd As ≤ pm_tL tc) (hna : As.length = na) (hd : dc < d) (hst : pm_wd st ≤ 8) (h : pm_rt G tc dc As n N M r n' N' M') :
    pm_re G t d (pc, ls, As.reverse ++ st, n, N, M) (pc + 3, ls, r.toList ++ st, n', N', M') := by
  refine pm_re_call (vs := As) (fun h => ⟨fun v hv => h v (by simp [hv]), fun v hv => h v (by simp [hv])⟩) h.choose_spec.choose_spec.2.2.1 ?_
  intro hvs p e R s m args below meth c H locs cells slots A ad lsr hS hF hD hc hs hpre
  have hmet := pm_met hTc hw h13 hvs hL h ad H.size
  obtain ⟨⟨hP, hDD, hN, hM⟩, hSS, hA, hls, hst0, hl⟩ := hD
  obtain ⟨f1, f2, f3, f4, f5, f6, f7⟩ := hF
  obtain ⟨w1, w2, w3, w4, w5⟩ := hw
  have hst1 : (F0 m pc lsr ((As.reverse ++ st).map (pm_tv G ad))).stack = (As.map (pm_tv G ad)).reverse ++ st.map (pm_tv G ad) := by
    show (As.reverse ++ st).map (pm_tv G ad) = _
    rw [List.map_append, List.map_reverse]
  refine va_runS (As := As.map (pm_tv G ad)) (rest := st.map (pm_tv G ad)) (n := na) ⟨f1, f2, f3, f4, hS.1⟩ hmet ⟨⟨rfl, rfl, ?_, ?_, pay_in hS.1 (pm_goods w1), List.mem_cons_self, hS.1 _ w1, hS.1 _ ?_, w2, fun sig hsig => ?_, hS.1 _ hlk⟩, hS.1 _ hsta⟩ ⟨pm_blind G ad _ n N M H.size, hpre⟩ rfl (by rw [List.length_map]; exact hna) hl.1 hst1 (lv_room (by rw [pm_wd_sum]; exact hst)) (hT.1 _ _ _ hi).1 ⟨hc, hs⟩
  · simp only [pm_rm]; omega
  · simp only [pm_rm]; omega
  · rw [hTc.2.2]; exact pm_wJ hTc.2.1
  · rw [hsig] at w3
    exact (Option.some.inj w3).symm
/-- a constructor; the link is a plain one, or a nest mate's -/
theorem pm_callI {kd a : Nat} (hT : pm_okT t) (hTc : pm_okT tc) (hw : pm_mw tc na) (h13 : pm_tO tc ≠ 13) (hi : pm_tI t pc = some (.invokespecial idx, 3)) (hlk : Cond.methodLink (pm_cn (pm_tO t)) idx (pm_tY tc) ∈ pm_gw ∨ (.methodLinkNest (pm_cn (pm_tO t)) idx (pm_tY tc) "StatuesWhoOwe" : Cond) ∈ pm_nw) (hin : Cond.instanceMethod (pm_tY tc) ∈ pm_gw) (hnm : (pm_tY tc).name = "<init>") (hret : pm_tR tc = none)
    (hk13 : kd < 25) (hL : pm_wd (.inr (.inr (kd, a)) :: As) ≤ pm_tL tc) (hna : As.length = na) (hd : dc < d) (hst : pm_wd st ≤ 8) (h : pm_rt G tc dc (.inr (.inr (kd, a)) :: As) n N M r n' N' M') :
    pm_re G t d (pc, ls, As.reverse ++ .inr (.inr (kd, a)) :: st, n, N, M) (pc + 3, ls, r.toList ++ st, n', N', M') := by
  refine pm_re_call (vs := .inr (.inr (kd, a)) :: As) (fun h => pm_okvs h) h.choose_spec.choose_spec.2.2.1 ?_
  intro hvs p e R s m args below meth c H locs cells slots A ad lsr hS hF hD hc hs hpre
  have hmet := pm_met hTc hw h13 hvs hL h ad H.size
  obtain ⟨⟨hP, hDD, hN, hM⟩, hSS, hA, hls, hst0, hl⟩ := hD
  obtain ⟨f1, f2, f3, f4, f5, f6, f7⟩ := hF
  obtain ⟨w1, w2, w3, w4, w5⟩ := hw
  have hcode : Cond.code (pm_tY tc) (pm_tB tc) (pm_tL tc) none = Cond.code (pm_tY tc) (pm_tB tc) (pm_tL tc) (pm_tR tc) := by rw [hret]
  rw [List.map_cons, pm_tvr (by omega)] at hpre
  have hst1 : (F0 m pc lsr ((As.reverse ++ .inr (.inr (kd, a)) :: st).map (pm_tv G ad))).stack = (As.map (pm_tv G ad)).reverse ++ .ref (ad a) :: st.map (pm_tv G ad) := by
    show (As.reverse ++ .inr (.inr (kd, a)) :: st).map (pm_tv G ad) = _
    rw [List.map_append, List.map_cons, List.map_reverse, pm_tvr (by omega)]
  rw [List.map_cons, pm_tvr (by omega)]
  have hini : (Cond.initialized (pm_tY tc).cls).before args s = true := hS.1 _ (by rw [hTc.2.2]; exact pm_wJ hTc.2.1)
  have hsig : ∀ sig, parseMethodDescriptor (pm_tY tc).desc = some sig → na = sig.parameters.length := fun sig hsig => by
    rw [hsig] at w3
    exact (Option.some.inj w3).symm
  have hR1 : (pm_rm dc (n' - n) (pm_SZ n' - pm_SZ n)).frames + 1 ≤ R.frames := by simp only [pm_rm]; omega
  have hR2 : 8 + (pm_tL tc + 11) + (pm_rm dc (n' - n) (pm_SZ n' - pm_SZ n)).locals ≤ R.locals := by simp only [pm_rm]; omega
  rcases hlk with hlk | hlk
  · exact va_runI (As := As.map (pm_tv G ad)) (rest := st.map (pm_tv G ad)) (n := na) (bytes := pm_tB tc) (maxL := pm_tL tc) ⟨f1, f2, f3, f4, hS.1⟩ hmet ⟨⟨rfl, rfl, hR1, hR2, pay_in hS.1 (pm_goods w1), by rw [hcode]; exact List.mem_cons_self, by rw [hcode]; exact hS.1 _ w1, hini, w2, hsig, hS.1 _ hlk⟩, hnm, hS.1 _ hin⟩ ⟨pm_blind G ad _ n N M H.size, hpre⟩ rfl (by rw [List.length_map]; exact hna) hl.1 hst1 (lv_room (by rw [pm_wd_sum]; exact hst)) (hT.1 _ _ _ hi).1 ⟨hc, hs⟩
  · exact va_runIN (As := As.map (pm_tv G ad)) (rest := st.map (pm_tv G ad)) (n := na) (bytes := pm_tB tc) (maxL := pm_tL tc) (host := "StatuesWhoOwe") ⟨f1, f2, f3, f4, hS.1⟩ hmet ⟨⟨⟨rfl, rfl, hR1, hR2, pay_in hS.1 (pm_goods w1), by rw [hcode]; exact List.mem_cons_self⟩, by rw [hcode]; exact hS.1 _ w1, hini, w2, hsig, va_Nw.use rfl (hS.2.1.2.1 _ hlk)⟩, hnm, hS.1 _ hin⟩ ⟨pm_blind G ad _ n N M H.size, hpre⟩ rfl (by rw [List.length_map]; exact hna) hl.1 hst1 (lv_room (by rw [pm_wd_sum]; exact hst)) (hT.1 _ _ _ hi).1 ⟨hc, hs⟩
end
