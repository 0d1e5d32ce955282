/-! REACHING: from a place of the pure machine the machine comes to another -/
def pm_len : List Nat := [120, 11]
def pm_byt : List (List Int32) := [[100, 117, 101, 32, 112, 97, 121, 115, 32, 98, 105, 114, 100, 115, 32, 112, 114, 105, 99, 101, 32, 102, 97, 108, 108, 115, 32, 112, 117, 116, 32, 111, 102, 102, 32, 99, 104, 97, 110, 103, 101, 32, 112, 97, 115, 115, 32, 111, 110, 32, 119, 105, 116, 104, 32, 111, 114, 32, 97, 110, 100, 32, 110, 111, 116, 32, 112, 108, 105, 110, 116, 104, 32, 115, 104, 97, 100, 101, 32, 118, 105, 101, 119, 32, 100, 97, 121, 32, 99, 108, 111, 115, 101, 32, 104, 101, 97, 100, 32, 102, 97, 109, 101, 32, 110, 97, 109, 101, 32, 114, 105, 103, 104, 116, 32, 111, 119, 101, 115, 32], [60, 62, 61, 35, 43, 45, 42, 47, 40, 41, 59]]
def pm_ty (G : pm_G) : List (ClassId × FieldType) := [(g_A G 20, .int), (g_A G 21, .long), (g_A G 22, .byte), (g_A G 23, .boolean), (g_A G 24, .object "StatuesWhoOwe$Text")]
def pm_nw : List Cond := [.methodLinkNest "StatuesWhoOwe" 11 ⟨"StatuesWhoOwe$Steps", "<init>", "()V"⟩ "StatuesWhoOwe", .methodLinkNest "StatuesWhoOwe" 18 ⟨"StatuesWhoOwe$Told", "<init>", "()V"⟩ "StatuesWhoOwe", .methodLinkNest "StatuesWhoOwe" 35 ⟨"StatuesWhoOwe$Keeper", "<init>", "()V"⟩ "StatuesWhoOwe", .methodLinkNest "StatuesWhoOwe" 42 ⟨"StatuesWhoOwe$Tape", "<init>", "()V"⟩ "StatuesWhoOwe", .methodLinkNest "StatuesWhoOwe" 45 ⟨"StatuesWhoOwe$Text", "<init>", "()V"⟩ "StatuesWhoOwe"]
/-- the literals of the class -/
def pm_Sg (G : pm_G) (A : Nat → Prop) (s : State) (H : Heap) : Prop := vk_S 2 pm_len pm_byt (g_K G) (g_V G) A s H ∧ vk_R "StatuesWhoOwe$Reader" 138 "due pays birds price falls put off change pass on with or and not plinth shade view day close head fame name right owes " (g_K G 0) s ∧ vk_R "StatuesWhoOwe$Reader" 147 "<>=#+-*/();" (g_K G 1) s ∧ va_Z "java/lang/String" "COMPACT_STRINGS" "Z" (.int 1) A s H ∧ va_Zq "jdk/internal/util/Preconditions" "SIOOBE_FORMATTER" "Ljava/util/function/BiFunction;" A s H
/-- what the tables say at a state -/
def pm_Ts (G : pm_G) (s : State) : Prop := va_K (g_D G) pm_cl (pm_ty G) s ∧ (∀ w ∈ pm_nw, va_Nw w s) ∧ va_AO "StatuesWhoOwe$Text" s
def pm_Ss (G : pm_G) (args : Array Value) (A : Nat → Prop) (s : State) : Prop := (∀ w ∈ pm_gw, w.before args s = true) ∧ pm_Ts G s ∧ pm_Sg G A s s.heap
/-- an activation of the method t, with room for d frames above it -/
def pm_Fx (t : pm_T) (d : Nat) (p : Program) (R : Room) (s : State) (m : MethodId) (meth : Method) (c : Code) : Prop := p.tables.exec = Jvm.exec ∧ c.code = pm_tB t ∧ c.maxLocals = pm_tL t ∧ s.vm.findClass (pm_cn (pm_tO t)) = some m.cls ∧ meth.name = (pm_tY t).name ∧ d + 1 ≤ R.frames ∧ 64 * (d + 1) ≤ R.locals
def pm_Wo (G : pm_G) (A : Nat → Prop) (ad : Nat → Nat) (n : Nat) (N : pm_N) (M : pm_M) (H : Heap) : Prop := va_P (g_D G) pm_cl (pm_ws G ad n N M) H ∧ va_D A (pm_ws G ad n N M) ∧ pm_okN n N ∧ pm_okM n M
def pm_Dy (G : pm_G) (A : Nat → Prop) (s : State) (H : Heap) (locs : List Loc) (ad : Nat → Nat) (lsr : Array Slot) (L : Nat) (ls : pm_L) (st : List pm_V) (n : Nat) (N : pm_N) (M : pm_M) : Prop :=
  pm_Wo G A ad n N M H ∧ va_S A s.heap H locs ∧ (∀ q, s.heap.size ≤ q → A q) ∧ (∀ q ∈ ls, pm_okv n q.2) ∧ (∀ v ∈ st, pm_okv n v) ∧ lv_has lsr L (ls.map (pm_tp G ad))
/-- the slots of the cells below n -/
def pm_SZ : Nat → Nat
  | 0 => 0
  | n + 1 => pm_SZ n + (pm_lay n).2
def pm_sc (G : pm_G) (t : pm_T) (A : Nat → Prop) (s : State) : Prop := pm_tO t = 13 → va_X (g_b G) (g_L G) (g_x G) s s.heap ∧ g_b G < s.heap.size ∧ ¬ A (g_b G) ∧ g_L G < 2147483648
def pm_re (G : pm_G) (t : pm_T) (d : Nat) (q q' : pm_Q) : Prop :=
  q.2.2.2.1 ≤ q'.2.2.2.1 ∧ ∀ (p : Program) (e : Env) (R : Room) (s : State) (m : MethodId) (args : Array Value) (below : List Frame) (meth : Method) (c : Code) (H : Heap) (locs : List Loc) (cells slots : Nat) (Q : State → Prop) (A : Nat → Prop) (ad : Nat → Nat) (lsr : Array Slot),
    pm_Ss G args A s → pm_Fx t d p R s m meth c → pm_sc G t A s → pm_Dy G A s H locs ad lsr (pm_tL t) q.2.1 q.2.2.1 q.2.2.2.1 q.2.2.2.2.1 q.2.2.2.2.2 →
    cells + (q'.2.2.2.1 - q.2.2.2.1) ≤ R.cells → slots + (pm_SZ q'.2.2.2.1 - pm_SZ q.2.2.2.1) ≤ R.slots →
    (∀ (H' : Heap) (locs' : List Loc) (cells' slots' : Nat) (ad' : Nat → Nat) (lsr' : Array Slot), (∀ a, a < q.2.2.2.1 → ad' a = ad a) → pm_Dy G A s H' locs' ad' lsr' (pm_tL t) q'.2.1 q'.2.2.1 q'.2.2.2.1 q'.2.2.2.2.1 q'.2.2.2.2.2 → cells' ≤ cells + (q'.2.2.2.1 - q.2.2.2.1) → slots' ≤ slots + (pm_SZ q'.2.2.2.1 - pm_SZ q.2.2.2.1) →
      W p (g_l G) e R s m args below meth c H' locs' cells' slots' Q (F0 m q'.1 lsr' (q'.2.2.1.map (pm_tv G ad')))) →
    W p (g_l G) e R s m args below meth c H locs cells slots Q (F0 m q.1 lsr (q.2.2.1.map (pm_tv G ad)))
theorem pm_SZ_mono {a b : Nat} (h : a ≤ b) : pm_SZ a ≤ pm_SZ b := by
  induction h with
  | refl => exact Nat.le_refl _
  | step _ ih => exact Nat.le_trans ih (Nat.le_add_right _ _)
theorem pm_re_refl (G : pm_G) (t : pm_T) (d : Nat) (q : pm_Q) : pm_re G t d q q := by
  refine ⟨Nat.le_refl _, ?_⟩
  intro p e R s m args below meth c H locs cells slots Q A ad lsr hS hF hX hD hc hs k
  exact k H locs cells slots ad lsr (fun _ _ => rfl) hD (by omega) (by omega)
theorem pm_re_trans {G : pm_G} {t : pm_T} {d : Nat} {q q1 q2 : pm_Q} (h1 : pm_re G t d q q1) (h2 : pm_re G t d q1 q2) : pm_re G t d q q2 := by
  refine ⟨Nat.le_trans h1.1 h2.1, ?_⟩
  intro p e R s m args below meth c H locs cells slots Q A ad lsr hS hF hX hD hc hs k
  have z1 := pm_SZ_mono h1.1
  have z2 := pm_SZ_mono h2.1
  have n1 := h1.1
  have n2 := h2.1
  refine h1.2 p e R s m args below meth c H locs cells slots Q A ad lsr hS hF hX hD (by omega) (by omega) ?_
  intro H' locs' cells' slots' ad' lsr' ha hD' hc' hs'
  refine h2.2 p e R s m args below meth c H' locs' cells' slots' Q A ad' lsr' hS hF hX hD' (by omega) (by omega) ?_
  intro H2 locs2 cells2 slots2 ad2 lsr2 ha2 hD2 hc2 hs2
  exact k H2 locs2 cells2 slots2 ad2 lsr2 (fun a h => (ha2 a (Nat.lt_of_lt_of_le h n1)).trans (ha a h)) hD2 (by omega) (by omega)
/-- a step that leaves the heap as it is -/
theorem pm_re_pure {G : pm_G} {t : pm_T} {d pc pc' n : Nat} {ls ls' : pm_L} {st st' : List pm_V} {N : pm_N} {M : pm_M}
    (hl : ∀ q ∈ ls', q ∈ ls ∨ pm_okv n q.2) (hv : (∀ q ∈ ls, pm_okv n q.2) → (∀ v ∈ st, pm_okv n v) → pm_okN n N → pm_okM n M → ∀ v ∈ st', pm_okv n v)
    (h : ∀ (p : Program) (e : Env) (R : Room) (s : State) (m : MethodId) (args : Array Value) (below : List Frame) (meth : Method) (c : Code) (H : Heap) (locs : List Loc) (cells slots : Nat) (Q : State → Prop) (A : Nat → Prop) (ad : Nat → Nat) (lsr : Array Slot),
      pm_Ss G args A s → pm_Fx t d p R s m meth c → pm_sc G t A s → pm_Dy G A s H locs ad lsr (pm_tL t) ls st n N M →
      (∀ lsr' : Array Slot, lv_has lsr' (pm_tL t) (ls'.map (pm_tp G ad)) → W p (g_l G) e R s m args below meth c H locs cells slots Q (F0 m pc' lsr' (st'.map (pm_tv G ad)))) →
      W p (g_l G) e R s m args below meth c H locs cells slots Q (F0 m pc lsr (st.map (pm_tv G ad)))) :
    pm_re G t d (pc, ls, st, n, N, M) (pc', ls', st', n, N, M) := by
  refine ⟨Nat.le_refl _, ?_⟩
  intro p e R s m args below meth c H locs cells slots Q A ad lsr hS hF hX hD hc hs k
  refine h p e R s m args below meth c H locs cells slots Q A ad lsr hS hF hX hD ?_
  intro lsr' hl'
  obtain ⟨d1, d2, d3, d4, d5, d6⟩ := hD
  exact k H locs cells slots ad lsr' (fun _ _ => rfl) ⟨d1, d2, d3, fun q hq => (hl q hq).elim (d4 q) id, hv d4 d5 d1.2.2.1 d1.2.2.2, hl'⟩ (by omega) (by omega)
