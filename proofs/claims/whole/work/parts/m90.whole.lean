theorem lw_c1 : 0 + (119 - 0) ≤ room_1.cells := by decide +kernel
theorem lw_c2 : 0 + (pm_SZ 119 - pm_SZ 0) ≤ room_1.slots := by decide +kernel
theorem lw_c3 : 0 + (119 - 0) ≤ 600000 := by decide +kernel
theorem lw_c4 : 0 + (pm_SZ 119 - pm_SZ 0) ≤ 7302250 := by decide +kernel
theorem lw_okP : pm_okP mt_L_law := pm_okP_of 1026 (by decide +kernel) (fun _ h => pm_out h)
/-! THE CLAIM OUT OF ONE WALK OF THE LAW'S BODY. Your part is whole_start (and what it stands on); all else here is the same for every law, but numbers. -/
def R_law : String := "StatuesWhoOweLaw"
def lw_P (b : Addr) (xs : List Int32) (args : Array Value) (s : State) : Prop := args = #[.ref b] ∧ s.IntsAt b xs ∧ xs.length ≤ 3072 ∧ (Jvm.Cond.and given_1 narrow_1).before args s = true
def lw_Q (_ : Array Value) (s : State) (o : Outcome) (t : State) : Prop := o = .returned (some (.int 1)) ∧ Framed s o t [] 600000 7302250
def lw_Z (below : List Frame) (a : Array Value) (s : State) : State → Prop := fun t => ∃ o, t.status = .running ∧ Ended t below o ∧ lw_Q a s o t
/-- the law's own end, with 1 on the stack, nothing written that was there before, its room as the claim has it -/
theorem lw_ret {p : Program} {l : Launch} {e : Env} {s : State} {m : MethodId} {below : List Frame} {meth : Method} {c : Code} {b : Nat} (hx : p.tables.exec = Jvm.exec) (hb : c.code = code) (hr : meth.sig.returnType = ret) (hlocks : meth.locks = false) {pc : Nat} {H : Heap} {ls : Array Slot} (hdg : decode code pc = .ok (.ireturn, 1)) : W p l e room_1 s m #[Value.ref b] below meth c H [] 600000 7302250 (lw_Z below #[Value.ref b] s) (F0 m pc ls [.int 1]) := by
  intro T hT X
  obtain ⟨fs, hret, hrun, hended, hW, hframe⟩ := X.leave (v := some (.int 1)) (hlocks := hlocks) (fun h => by rw [hr] at h; cases h)
  have hmeth' : T.vm.method? m = some meth := X.method'
  refine ⟨T.setFrames fs, ?_, .returned (some (.int 1)), hrun, hended, rfl, ⟨_, rfl⟩, hW, hframe⟩
  jvm_step X.here [X.here.top, hx, hb, hdg, hmeth', hr, ret, narrow_b1]
  (try refine ⟨rfl, ?_⟩); (try refine ⟨rfl, ?_⟩)
  first | (intro acts; rw [hret _ acts rfl rfl rfl]) | rw [hret _ _ rfl rfl rfl]
  exact Steps.refl _
/-- what holds at the law's entry: the machine, the code, the tables' words (any of lw_tbl by 'hts w (by decide +kernel)'), the script of L ints xs at the cell b, what the Statement gives of the start (any of its parts by flat_of_before) -/
def lw_At (p : Program) (s : State) (m : MethodId) (meth : Method) (c : Code) (b L : Nat) (xs : Nat → Int32) : Prop :=
  p.tables.exec = Jvm.exec ∧ c.code = code ∧ meth.sig.returnType = ret ∧ c.maxLocals = 4 ∧ s.vm.findClass R_law = some m.cls ∧ (∀ w ∈ lw_tbl, w.before #[Value.ref b] s = true) ∧ va_X b L xs s s.heap ∧ b < s.heap.size ∧ meth.locks = false ∧ (Jvm.Cond.and given_1 narrow_1).before #[Value.ref b] s = true ∧ meth.name = "law"
-- ===== YOUR PART BEGINS
def lw_tm (i : Nat) : Term := if i = 0 then .string "StatuesWhoOwe$Reader" 138 else .string "StatuesWhoOwe$Reader" 147
def lw_fl : List Cond := flatC (Jvm.Cond.and given_1 narrow_1)
theorem lw_f1 : ∀ i, i < 2 → Cond.exactly (lw_tm i) "java/lang/String" ∈ lw_fl := by decide +kernel
theorem lw_f2 : ∀ i, i < 2 → Cond.eq (.field (lw_tm i) "java/lang/String" "coder" "B") (.int 0) ∈ lw_fl := by decide +kernel
theorem lw_f3 : ∀ i, i < 2 → Cond.arrayOf (.field (lw_tm i) "java/lang/String" "value" "[B") .byte ∈ lw_fl := by decide +kernel
theorem lw_f4 : ∀ i, i < 2 → Cond.eq (.length (.field (lw_tm i) "java/lang/String" "value" "[B")) (.int (Int32.ofNat (pm_len.getD i 0))) ∈ lw_fl := by decide +kernel
theorem lw_f5 : ∀ i, i < 2 → ∀ j, j < pm_len.getD i 0 → Cond.eq (.elem (.field (lw_tm i) "java/lang/String" "value" "[B") (.int (Int32.ofNat j))) (.int ((pm_byt.getD i []).getD j 0)) ∈ lw_fl := by decide +kernel
theorem lw_f6 : Cond.not (Cond.eq (lw_tm 0) (lw_tm 1)) ∈ lw_fl ∨ Cond.not (Cond.eq (lw_tm 1) (lw_tm 0)) ∈ lw_fl := by decide +kernel
theorem lw_f7 : Cond.eq (.static "java/lang/String" "COMPACT_STRINGS" "Z") (.int 1) ∈ lw_fl := by decide +kernel
theorem lw_f8 : Cond.isRef (.static "jdk/internal/util/Preconditions" "SIOOBE_FORMATTER" "Ljava/util/function/BiFunction;") ∈ lw_fl := by decide +kernel
theorem lw_t1 : ∀ w ∈ pm_nw, w ∈ lw_tbl := by decide +kernel
theorem lw_t2 : Cond.arrayOver (.object "StatuesWhoOwe$Text") ∈ lw_tbl := List.mem_of_getElem? (i := 244) (by decide +kernel)
theorem lw_t3 : Cond.stringRef "StatuesWhoOwe$Reader" 138 "due pays birds price falls put off change pass on with or and not plinth shade view day close head fame name right owes " ∈ lw_tbl := List.mem_of_getElem? (i := 759) (by decide +kernel)
theorem lw_t4 : Cond.stringRef "StatuesWhoOwe$Reader" 147 "<>=#+-*/();" ∈ lw_tbl := List.mem_of_getElem? (i := 822) (by decide +kernel)
theorem lw_t5 : Cond.laysStatic "java/lang/String" "COMPACT_STRINGS" "Z" ∈ lw_tbl := by decide +kernel
theorem lw_t6 : Cond.laysStatic "jdk/internal/util/Preconditions" "SIOOBE_FORMATTER" "Ljava/util/function/BiFunction;" ∈ lw_tbl := by decide +kernel
theorem lw_t7 : Cond.initialized "java/lang/String" ∈ lw_tbl := by decide +kernel
theorem lw_t8 : Cond.initialized "jdk/internal/util/Preconditions" ∈ lw_tbl := by decide +kernel
set_option maxHeartbeats 4000000 in
theorem whole_start {p : Program} {e : Env} {s : State} {m : MethodId} {below : List Frame} {meth : Method} {c : Code} (l : Launch) {b L : Nat} {xs : Nat → Int32} (hL : L ≤ 3072) (C0 : lw_At p s m meth c b L xs) : W p l e room_1 s m #[Value.ref b] below meth c s.heap [] 0 0 (lw_Z below #[Value.ref b] s) (entryFrame m ([Value.ref b] : List Value).toArray 4) := by
  obtain ⟨hx, hb, hr, hml, hown, hts, hX, hbl, hlocks, hgv, hnm⟩ := id C0
  have hgw : ∀ w ∈ pm_gw, w.before #[Value.ref b] s = true := fun w hw => hts w (pm_gw_in hw)
  have hfl : ∀ w ∈ lw_fl, w.before #[Value.ref b] s = true := flat_of_before _ hgv
  have hnA : ∀ a : Nat, a < s.heap.size → ¬ (fun q : Nat => s.heap.size ≤ q) a := fun a h => Nat.not_le.mpr h
  have hk0 : ∀ ci : Nat, ∃ q : ClassId × (Nat → Nat), ci < 13 → u_Kn s (pm_cn ci) (pm_uT ci) (pm_nf ci) q.1 q.2 := by
    intro ci
    by_cases h : ci < 13
    · obtain ⟨cC, iS, hk⟩ := u_known (n := pm_nf ci) hgw (pm_hin h) (hgw _ (pm_wI h))
      exact ⟨(cC, iS), fun _ => hk⟩
    · exact ⟨(m.cls, fun _ => 0), fun z => absurd z h⟩
  obtain ⟨kn, hkn⟩ := Classical.axiomOfChoice hk0
  obtain ⟨cI, kI, pI, i1, i2, i3⟩ := Cond.arrayClass_spec (hgw _ (pm_wAr (ty := .int) (Or.inl rfl)))
  obtain ⟨cJ, kJ, pJ, j1, j2, j3⟩ := Cond.arrayClass_spec (hgw _ (pm_wAr (ty := .long) (Or.inr (Or.inl rfl))))
  obtain ⟨cB, kB, pB, b1, b2, b3⟩ := Cond.arrayClass_spec (hgw _ (pm_wAr (ty := .byte) (Or.inr (Or.inr (Or.inl rfl)))))
  obtain ⟨cZ, kZ, pZ, z1, z2, z3⟩ := Cond.arrayClass_spec (hgw _ (pm_wAr (ty := .boolean) (Or.inr (Or.inr (Or.inr rfl)))))
  have hao := hts _ lw_t2
  obtain ⟨pT, cT, kT, t1, t2, t3, t4, t5⟩ := Cond.arrayOver_spec hao
  obtain ⟨adK, adV, hvS, hvE⟩ := vk_Sof (A := fun q : Nat => s.heap.size ≤ q) (N := 2) (tm := lw_tm) (len := pm_len) (byt := pm_byt) (by decide) (fun i hi => hfl _ (lw_f1 i hi)) (fun i hi => hfl _ (lw_f2 i hi)) (fun i hi => hfl _ (lw_f3 i hi)) (fun i hi => hfl _ (lw_f4 i hi)) (fun i hi j hj => hfl _ (lw_f5 i hi j hj))
    (fun i j hi hj hij => by
      have h6 : (Cond.not (Cond.eq (lw_tm 0) (lw_tm 1))).before #[Value.ref b] s = true ∨ (Cond.not (Cond.eq (lw_tm 1) (lw_tm 0))).before #[Value.ref b] s = true := lw_f6.imp (hfl _) (hfl _)
      rcases (show (i = 0 ∧ j = 1) ∨ (i = 1 ∧ j = 0) by omega) with ⟨rfl, rfl⟩ | ⟨rfl, rfl⟩
      · exact h6
      · exact h6.symm) hnA
  let G : pm_G := (l, fun k => (kn k).1, fun k => (kn k).2, fun k => if k = 20 then cI else if k = 21 then cJ else if k = 22 then cB else if k = 23 then cZ else cT, b, L, xs, adK, adV)
  have hK : va_K (g_D G) pm_cl (pm_ty G) s := by
    refine ⟨fun k q hq => ?_, fun k q hq => ?_⟩
    · obtain ⟨h1, rfl⟩ := pm_cl_inv hq
      exact hkn k h1
    · match k, hq with
      | 0, hq => cases hq; exact ⟨fun n z => ⟨fun k h => (by cases h), kI, i2, pI, i3⟩, i1⟩
      | 1, hq => cases hq; exact ⟨fun n z => ⟨fun k h => (by cases h), kJ, j2, pJ, j3⟩, j1⟩
      | 2, hq => cases hq; exact ⟨fun n z => ⟨fun k h => (by cases h), kB, b2, pB, b3⟩, b1⟩
      | 3, hq => cases hq; exact ⟨fun n z => ⟨fun k h => (by cases h), kZ, z2, pZ, z3⟩, z1⟩
      | 4, hq => cases hq; exact ⟨fun n z => ⟨fun k h => (by cases h), kT, t3, pT, t4⟩, kT, pT, t3, t4, t1, t5⟩
      | k + 5, hq => simp [pm_ty] at hq
  have hS : pm_Ss G #[Value.ref b] (fun q : Nat => s.heap.size ≤ q) s := by
    refine ⟨hgw, ⟨hK, fun w hw => ?_, va_AO.of hao⟩, hvS, vk_R.of (hts _ lw_t3) (hvE 0 (by decide)), vk_R.of (hts _ lw_t4) (hvE 1 (by decide)), va_Zof (hts _ lw_t5) (hts _ lw_t7) (va_eqt (hfl _ lw_f7)) hnA, va_Zqof (hts _ lw_t6) (hts _ lw_t8) (hfl _ lw_f8) hnA⟩
    have h1 := hts w (lw_t1 w hw)
    unfold pm_nw at hw
    simp only [List.mem_cons, List.not_mem_nil, or_false] at hw
    rcases hw with rfl | rfl | rfl | rfl | rfl <;> exact va_Nw.of rfl h1
  have ho : pm_oG G mt_L_law := ⟨od_L_law, lw_okP, fun _ => by show L < 2147483648; omega⟩
  have hF : pm_Fx mt_L_law 120 p room_1 s m meth c := ⟨hx, hb, hml, hown, hnm, by decide, by decide⟩
  have hXs : pm_sc G mt_L_law (fun q : Nat => s.heap.size ≤ q) s := fun _ => ⟨hX, hbl, Nat.not_le.mpr hbl, by show L < 2147483648; omega⟩
  obtain ⟨M', hM'⟩ := pure_law G hL
  obtain ⟨q1, hq1, hmono, hre⟩ := law_run G ho M' hM'
  subst hq1
  have hl := lv_entry ([.ref b]) (n := 4) (Nat.le_of_ble_eq_true rfl)
  rw [lg_entry_eq]
  generalize (lg_sl ([.ref b]) ++ List.replicate (4 - (lg_sl ([.ref b])).length) Slot.unset).toArray = ls at hl ⊢
  refine hre p e room_1 s m #[Value.ref b] below meth c s.heap [] 0 0 (lw_Z below #[Value.ref b] s) (fun q : Nat => s.heap.size ≤ q) (fun _ => 0) ls hS hF hXs ?_ lw_c1 lw_c2 ?_
  · refine ⟨⟨fun k q h => by simp [pm_ws] at h, ⟨fun i j p q h => by simp [pm_ws] at h, fun k q h => by simp [pm_ws] at h⟩, ⟨fun c hc => absurd hc (Nat.not_lt_zero _), fun _ _ _ => rfl⟩, ⟨fun c hc => absurd hc (Nat.not_lt_zero _), fun _ _ _ => rfl⟩⟩, va_S.rf, fun _ h => h, ?_, fun v hv => absurd hv List.not_mem_nil, hl⟩
    intro q hq
    simp only [List.mem_singleton] at hq
    subst hq
    exact Or.inl rfl
  · intro H' locs' cells' slots' ad' lsr' had hDy hc' hs'
    obtain ⟨hWo, hSS', -, -, -, -⟩ := hDy
    refine va_forget (fun q hq => hSS'.2.2 q hq) ?_
    refine W.widen (k := 600000) (n := 7302250) (Nat.le_trans hc' lw_c3) (Nat.le_trans hs' lw_c4) ?_
    exact lw_ret hx hb hr hlocks (od_L_law.1 1025 .ireturn 1 rfl).1
-- ===== YOUR PART ENDS =====
set_option maxHeartbeats 4000000 in
theorem lw_walk (l : Launch) (b : Addr) (xs : List Int32) : MetFree l x (headSpec (Jvm.Cond.code x code maxLocals ret :: tables_1) room_1) (lw_P b xs) (fun _ _ _ _ _ => True) lw_Q := by
  refine MetFree.of_bodyS (code := code) (maxLocals := maxLocals) (ret := ret) (by decide) ?_ ?_
  · intro args s m h hn
    obtain ⟨meth, c, h1, h2, h3, h4, h5, h6, -, -⟩ := Cond.code_spec hn (atoms_spec (ws := Jvm.Cond.code x code maxLocals ret :: tables_1) h _ List.mem_cons_self)
    exact ⟨meth, c, h1, h2, h3, h4, h5, h6⟩
  · intro p e s m args below meth c s₁ B hml0 hP _
    obtain ⟨rfl, hx, hbd, hgv⟩ := hP
    obtain ⟨scr, harrAt, hlist, hof, hsmall⟩ := hx
    obtain ⟨hcb, hkn, -, -⟩ := State.arrayAt?_spec harrAt
    have hown : s.vm.findClass R_law = some m.cls := findClass_of_methodNamed B.named
    have hts0 : ∀ c ∈ (Jvm.Cond.code x code maxLocals ret :: tables_1), c.before #[Value.ref b] s = true := atoms_spec (ws := Jvm.Cond.code x code maxLocals ret :: tables_1) B.pre
    have hts : ∀ w ∈ lw_tbl, w.before #[Value.ref b] s = true := k2_hts_sels lw_privs (fun w hw => hts0 w (List.mem_cons_of_mem _ hw)) lw_privs_ok
    have hml : c.maxLocals = 4 := B.maxLocals_eq (hts0 _ List.mem_cons_self)
    have X₀ : Stand p l e room_1 s m #[Value.ref b] below meth c s₁ [] 0 0 := Stand.of_body B
    have hh0 : s₁.heap = s.heap := by rw [B.state]; rfl
    have hsz : scr.slots.size = xs.length := by rw [← Array.length_toList, hlist, List.length_map]
    have hval : ∀ j : Nat, j < xs.length → scr.slots[j]? = some (.int (xs.getD j 0)) := fun j hj => by
      rw [← Array.getElem?_toList, hlist]
      simp [hj]
    have hbl : b < s.heap.size := (Array.getElem?_eq_some_iff.mp hcb).1
    have hX : va_X b xs.length (fun j => xs.getD j 0) s s.heap := ⟨scr, hcb, hof, hkn, hsz, hval⟩
    have K : W p l e room_1 s m #[Value.ref b] below meth c s₁.heap [] 0 0 (lw_Z below #[Value.ref b] s) (entryFrame m ([Value.ref b] : List Value).toArray 4) := by
      rw [hh0]
      exact whole_start l hbd ⟨B.exec, B.bytes, B.returns, hml, hown, hts, hX, hbl, B.notSynchronized, hgv, (name_of_methodNamed B.named B.method).1⟩
    obtain ⟨t, a1, o, b1, b2, b3⟩ := K s₁ rfl X₀
    exact ⟨t, o, a1, b1, b2, b3⟩
theorem lw_pre_spec {args : Array Value} {s : State} (h : (Jvm.Cond.and given_1 narrow_1).before args s = true) (hr : rest_1_c.before args s = true) : ∃ (b : Addr) (xs : List Int32), lw_P b xs args s := by
  have hs := flat_of_before _ h
  have hq := flat_of_before _ hr
  have hc : (Cond.count 1).before args s = true := hs _ (by decide +kernel)
  have harr : (Cond.arrayOf (.arg 0) .int).before args s = true := hs _ (by decide +kernel)
  have hle : (Cond.le (.length (.arg 0)) (.int 3072)).before args s = true := hs _ (by decide +kernel)
  have hlen : (Cond.isInt (.length (.arg 0))).before args s = true := hq _ (by decide +kernel)
  have hall : (Cond.all (.arg 0) (.isInt (.elem (.arg 0) (.index 0)))).before args s = true := hq _ (by decide +kernel)
  obtain ⟨b, xs, hb, hx⟩ := State.ints_of_pre rfl harr hlen hall
  have hsm : xs.length < 2 ^ 31 := hx.choose_spec.2.2.2
  have hev : (Term.length (.arg 0)).eval args s none [] s = some (.int xs.length.toInt32) := hx.length_eval hb
  have hv := Cond.le_ints hev (show (Term.int 3072).eval args s none [] s = some (.int 3072) from rfl)
  have hd : xs.length.toInt32 ≤ 3072 := by
    simpa [Cond.before, Cond.holds, hv] using hle
  have hN : xs.length ≤ 3072 := (Int32.ofNat_le_ofNat hsm (by decide)).mp (show Int32.ofNat xs.length ≤ Int32.ofNat 3072 from hd)
  exact ⟨b, xs, Cond.one_arg hc (show args[0]? = some (.ref b) from hb), hx, hN, h⟩
theorem lw_comes (l : Launch) : Comes l x (Jvm.Cond.code x code maxLocals ret :: tables_1) room_1 (fun tb e args s => Calls_1 tb e args s ∧ rest_1 tb e args s ∧ Pre_1 tb e args s)
    (fun _ _ args s o t => lw_Q args s o t) := by
  intro p e ha hc hk s m args below hf hfit hheap happ hpre
  obtain ⟨b, xs, hP⟩ := lw_pre_spec hpre.2.2 hpre.2.1
  obtain ⟨k, o, h1, h2, h3, hQ⟩ := lw_walk l b xs p e ha hc hk s m args below hf ((Spec.applies_iff_loose hf).mp happ).1 hP trivial
  exact ⟨k, o, h1, h2, h3, hQ⟩
theorem lw_frame {s t : State} {o : Outcome} {args : Array Value} (h : Framed s o t [] 600000 7302250) :
    Framed s o t (fieldLocs frame_1_writes args s ++ arrayLocs frame_1_arrays args s ++ staticLocs frame_1_statics s) 600000 7302250 := h
theorem lw_limb (L : Cond) (hL : ∀ (args : Array Value) (s t : State), L.after args s (.returned (some (.int 1))) t = true) :
    ArmFor flags0 classFile x code maxLocals ret World_1 tables_1 room_1 Calls_1 rest_1 Pre_1
      (fun tb e a s o t => postC L tb e a s o t ∧ Framed s o t (fieldLocs frame_1_writes a s ++ arrayLocs frame_1_arrays a s ++ staticLocs frame_1_statics s) 600000 7302250) := by
  intro l _ _ _ p e ha hc hk s m args below hf hfit hheap happ hpre
  obtain ⟨k, o, h1, h2, h3, rfl, hF⟩ := lw_comes l p e ha hc hk s m args below hf hfit hheap happ hpre
  exact ⟨k, _, h1, h2, h3, hL args s _, lw_frame hF⟩
theorem i_vc : Claimed_1_1 ∧ Claimed_1_2 := ⟨lw_limb limb_1_1 (fun args s t => by simp [limb_1_1, Cond.after, Cond.holds, Cond.value]), lw_limb limb_1_2 (fun args s t => Cond.after_iff.mpr (by
  first | (rw [show limb_1_2 = Cond.eq .result (.int 1) from rfl, Cond.eq_ints (x := 1) (y := 1) rfl rfl]; simp; done) | (simp [limb_1_2, Cond.value, Term.eval]; done)))⟩
