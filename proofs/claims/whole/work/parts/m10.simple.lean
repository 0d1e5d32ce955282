/-! THE SIMPLE INSTRUCTIONS: locals, the stack, numbers, jumps -/
theorem q32 {a b : Int} (ha : pm_i32 a) (hb : pm_i32 b) : Int32.ofInt a = Int32.ofInt b ↔ a = b := by
  rw [← Int32.toInt_inj, e32 ha, e32 hb]
theorem l32 {a b : Int} (ha : pm_i32 a) (hb : pm_i32 b) : Int32.ofInt a < Int32.ofInt b ↔ a < b := by
  rw [Int32.lt_iff_toInt_lt, e32 ha, e32 hb]
theorem k32 {a b : Int} (ha : pm_i32 a) (hb : pm_i32 b) : Int32.ofInt a ≤ Int32.ofInt b ↔ a ≤ b := by
  rw [Int32.le_iff_toInt_le, e32 ha, e32 hb]
theorem q64 {a b : Int} (ha : pm_i64 a) (hb : pm_i64 b) : Int64.ofInt a = Int64.ofInt b ↔ a = b := by
  rw [← Int64.toInt_inj, e64 ha, e64 hb]
theorem l64 {a b : Int} (ha : pm_i64 a) (hb : pm_i64 b) : Int64.ofInt a < Int64.ofInt b ↔ a < b := by
  rw [Int64.lt_iff_toInt_lt, e64 ha, e64 hb]
theorem z32 : pm_i32 0 := ⟨by omega, by omega⟩
theorem z64 : pm_i64 0 := ⟨by omega, by omega⟩
theorem pm_get_mem : ∀ {ls : pm_L} {i : Nat} {v : pm_V}, pm_get ls i = some v → (i, v) ∈ ls
  | [], i, v, h => by simp [pm_get] at h
  | q :: t, i, v, h => by
    unfold pm_get at h
    cases hb : Nat.beq q.1 i with
    | true =>
      rw [hb] at h
      simp only [cond_true, Option.some.injEq] at h
      have : q.1 = i := Nat.eq_of_beq_eq_true hb
      subst this; subst h
      exact List.mem_cons_self
    | false =>
      rw [hb] at h
      exact List.mem_cons_of_mem _ (pm_get_mem h)
theorem pm_cat_eq (G : pm_G) (ad : Nat → Nat) (v : pm_V) : (pm_tv G ad v).category = pm_cat v := by
  rcases v with x | x | r <;> rfl
theorem pm_lv {G : pm_G} {ad : Nat → Nat} {lsr : Array Slot} {L : Nat} {ls : pm_L} {i : Nat} {v : pm_V} (h : lv_has lsr L (ls.map (pm_tp G ad))) (hg : pm_get ls i = some v) : lsr[i]? = some (.val (pm_tv G ad v)) :=
  h.2.2 (i, pm_tv G ad v) (List.mem_map.mpr ⟨(i, v), pm_get_mem hg, rfl⟩)
theorem pm_fl1_eq (G : pm_G) (ad : Nat → Nat) (i : Nat) : ∀ ls : pm_L, (ls.map (pm_tp G ad)).filter (fun q => !(q.1 == i) && !(q.1 + 1 == i && q.2.category == 2)) = (pm_fl1 i ls).map (pm_tp G ad)
  | [] => rfl
  | q :: t => by
    have ih := pm_fl1_eq G ad i t
    have hc := pm_cat_eq G ad q.2
    have e1 : ∀ a b : Nat, Nat.beq a b = (a == b) := fun a b => by rw [Bool.eq_iff_iff]; simp
    rw [List.map_cons, List.filter_cons, ih]
    simp only [pm_fl1, pm_tp, hc, e1]
    cases h1 : (q.1 == i) <;> cases h2 : (q.1 + 1 == i) <;> cases h3 : (pm_cat q.2 == 2) <;> simp [pm_tp]
theorem pm_fl2_eq (G : pm_G) (ad : Nat → Nat) (i : Nat) : ∀ ls : pm_L, (ls.map (pm_tp G ad)).filter (fun q => !(q.1 == i) && (!(q.1 == i + 1) && !(q.1 + 1 == i && q.2.category == 2))) = (pm_fl2 i ls).map (pm_tp G ad)
  | [] => rfl
  | q :: t => by
    have ih := pm_fl2_eq G ad i t
    have hc := pm_cat_eq G ad q.2
    have e1 : ∀ a b : Nat, Nat.beq a b = (a == b) := fun a b => by rw [Bool.eq_iff_iff]; simp
    rw [List.map_cons, List.filter_cons, ih]
    simp only [pm_fl2, pm_tp, hc, e1]
    cases h1 : (q.1 == i) <;> cases h4 : (q.1 == i + 1) <;> cases h2 : (q.1 + 1 == i) <;> cases h3 : (pm_cat q.2 == 2) <;> simp [pm_tp]
theorem pm_fl1_sub {i : Nat} : ∀ {ls : pm_L} {q : Nat × pm_V}, q ∈ pm_fl1 i ls → q ∈ ls
  | [], q, h => h
  | a :: t, q, h => by
    unfold pm_fl1 at h
    cases hb : (Nat.beq a.1 i || (Nat.beq (a.1 + 1) i && Nat.beq (pm_cat a.2) 2)) with
    | true => rw [hb] at h; exact List.mem_cons_of_mem _ (pm_fl1_sub h)
    | false =>
      rw [hb] at h
      rcases List.mem_cons.mp h with rfl | h
      · exact List.mem_cons_self
      · exact List.mem_cons_of_mem _ (pm_fl1_sub h)
theorem pm_fl2_sub {i : Nat} : ∀ {ls : pm_L} {q : Nat × pm_V}, q ∈ pm_fl2 i ls → q ∈ ls
  | [], q, h => h
  | a :: t, q, h => by
    unfold pm_fl2 at h
    cases hb : (Nat.beq a.1 i || (Nat.beq a.1 (i + 1) || (Nat.beq (a.1 + 1) i && Nat.beq (pm_cat a.2) 2))) with
    | true => rw [hb] at h; exact List.mem_cons_of_mem _ (pm_fl2_sub h)
    | false =>
      rw [hb] at h
      rcases List.mem_cons.mp h with rfl | h
      · exact List.mem_cons_self
      · exact List.mem_cons_of_mem _ (pm_fl2_sub h)
section
variable {G : pm_G} {t : pm_T} {d : Nat} {pc len n : Nat} {ls : pm_L} {st : List pm_V} {N : pm_N} {M : pm_M} {q' : pm_Q}
/-- only the stack changes -/
theorem pm_re_stk {pc' : Nat} {st' : List pm_V} (hv : (∀ q ∈ ls, pm_okv n q.2) → (∀ v ∈ st, pm_okv n v) → pm_okN n N → pm_okM n M → ∀ v ∈ st', pm_okv n v)
    (h : ∀ (p : Program) (e : Env) (R : Room) (s : State) (m : MethodId) (args : Array Value) (below : List Frame) (meth : Method) (c : Code) (H : Heap) (locs : List Loc) (cells slots : Nat) (Q : State → Prop) (A : Nat → Prop) (ad : Nat → Nat) (lsr : Array Slot),
      pm_Ss G args A s → pm_Fx t d p R s m meth c → pm_sc G t A s → pm_Dy G A s H locs ad lsr (pm_tL t) ls st n N M →
      W p (g_l G) e R s m args below meth c H locs cells slots Q (F0 m pc' lsr (st'.map (pm_tv G ad))) →
      W p (g_l G) e R s m args below meth c H locs cells slots Q (F0 m pc lsr (st.map (pm_tv G ad)))) :
    pm_re G t d (pc, ls, st, n, N, M) (pc', ls, st', n, N, M) :=
  pm_re_pure (fun q hq => Or.inl hq) hv (fun p e R s m args below meth c H locs cells slots Q A ad lsr hS hF hX hD k => h p e R s m args below meth c H locs cells slots Q A ad lsr hS hF hX hD (k lsr hD.2.2.2.2.2))
theorem pm_s_aload {k : Nat} (hk : (decode (pm_tB t) pc = .ok (.aload k, 2) ∧ len = 2) ∨ ∃ j : Fin 4, decode (pm_tB t) pc = .ok (.aload_n j, 1) ∧ j.val = k ∧ len = 1) (h : pm_ldr (pm_get ls k) (pc + len) ls st n N M = some q') : pm_re G t d (pc, ls, st, n, N, M) q' := by
  unfold pm_ldr at h
  split at h
  · rename_i r hg
    cases h
    refine pm_re_stk (fun h1 h2 _ _ v hv => ?_) ?_
    · rcases List.mem_cons.mp hv with rfl | hv
      · exact h1 _ (pm_get_mem hg)
      · exact h2 v hv
    · intro p e R s m args below meth c H locs cells slots Q A ad lsr hS hF hX hD kk
      have hl := pm_lv hD.2.2.2.2.2 hg
      rcases hk with ⟨hk, rfl⟩ | ⟨j, hk, hj, rfl⟩
      · exact lv_aload hF.1 hF.2.1 hk hl kk
      · exact lv_aload_n hF.1 hF.2.1 hk hj hl kk
  · cases h
theorem pm_s_iload {k : Nat} (hk : (decode (pm_tB t) pc = .ok (.iload k, 2) ∧ len = 2) ∨ ∃ j : Fin 4, decode (pm_tB t) pc = .ok (.iload_n j, 1) ∧ j.val = k ∧ len = 1) (h : pm_ldi (pm_get ls k) (pc + len) ls st n N M = some q') : pm_re G t d (pc, ls, st, n, N, M) q' := by
  unfold pm_ldi at h
  split at h
  · rename_i r hg
    cases h
    refine pm_re_stk (fun h1 h2 _ _ v hv => ?_) ?_
    · rcases List.mem_cons.mp hv with rfl | hv
      · exact h1 _ (pm_get_mem hg)
      · exact h2 v hv
    · intro p e R s m args below meth c H locs cells slots Q A ad lsr hS hF hX hD kk
      have hl := pm_lv hD.2.2.2.2.2 hg
      rcases hk with ⟨hk, rfl⟩ | ⟨j, hk, hj, rfl⟩
      · exact lv_iload hF.1 hF.2.1 hk hl kk
      · exact lv_iload_n hF.1 hF.2.1 hk hj hl kk
  · cases h
theorem pm_s_lload {k : Nat} (hk : (decode (pm_tB t) pc = .ok (.lload k, 2) ∧ len = 2) ∨ ∃ j : Fin 4, decode (pm_tB t) pc = .ok (.lload_n j, 1) ∧ j.val = k ∧ len = 1) (h : pm_ldl (pm_get ls k) (pc + len) ls st n N M = some q') : pm_re G t d (pc, ls, st, n, N, M) q' := by
  unfold pm_ldl at h
  split at h
  · rename_i r hg
    cases h
    refine pm_re_stk (fun h1 h2 _ _ v hv => ?_) ?_
    · rcases List.mem_cons.mp hv with rfl | hv
      · exact h1 _ (pm_get_mem hg)
      · exact h2 v hv
    · intro p e R s m args below meth c H locs cells slots Q A ad lsr hS hF hX hD kk
      have hl := pm_lv hD.2.2.2.2.2 hg
      rcases hk with ⟨hk, rfl⟩ | ⟨j, hk, hj, rfl⟩
      · exact lv_lload hF.1 hF.2.1 hk hl kk
      · exact lv_lload_n hF.1 hF.2.1 hk hj hl kk
  · cases h
/-- storing: the value goes to the front -/
theorem pm_re_sto {pc' k : Nat} {v : pm_V} {st' : List pm_V} {ls' : pm_L} (hsub : ∀ q ∈ ls', q ∈ ls) (hv : (∀ q ∈ ls, pm_okv n q.2) → (∀ v ∈ st, pm_okv n v) → pm_okv n v ∧ ∀ v ∈ st', pm_okv n v)
    (h : ∀ (p : Program) (e : Env) (R : Room) (s : State) (m : MethodId) (args : Array Value) (below : List Frame) (meth : Method) (c : Code) (H : Heap) (locs : List Loc) (cells slots : Nat) (Q : State → Prop) (A : Nat → Prop) (ad : Nat → Nat) (lsr : Array Slot),
      pm_Ss G args A s → pm_Fx t d p R s m meth c → pm_sc G t A s → pm_Dy G A s H locs ad lsr (pm_tL t) ls st n N M →
      (∀ lsr' : Array Slot, lv_has lsr' (pm_tL t) ((k, pm_tv G ad v) :: ls'.map (pm_tp G ad)) → W p (g_l G) e R s m args below meth c H locs cells slots Q (F0 m pc' lsr' (st'.map (pm_tv G ad)))) →
      W p (g_l G) e R s m args below meth c H locs cells slots Q (F0 m pc lsr (st.map (pm_tv G ad)))) :
    pm_re G t d (pc, ls, st, n, N, M) (pc', (k, v) :: ls', st', n, N, M) := by
  refine ⟨Nat.le_refl _, ?_⟩
  intro p e R s m args below meth c H locs cells slots Q A ad lsr hS hF hX hD hc hs kk
  refine h p e R s m args below meth c H locs cells slots Q A ad lsr hS hF hX hD ?_
  intro lsr' hl'
  obtain ⟨d1, d2, d3, d4, d5, d6⟩ := hD
  obtain ⟨o1, o2⟩ := hv d4 d5
  refine kk H locs cells slots ad lsr' (fun _ _ => rfl) ⟨d1, d2, d3, fun q hq => ?_, o2, hl'⟩ (by omega) (by omega)
  rcases List.mem_cons.mp hq with rfl | hq
  · exact o1
  · exact d4 q (hsub q hq)
theorem pm_s_astore {k : Nat} (hk : (decode (pm_tB t) pc = .ok (.astore k, 2) ∧ len = 2) ∨ ∃ j : Fin 4, decode (pm_tB t) pc = .ok (.astore_n j, 1) ∧ j.val = k ∧ len = 1) (h : pm_str k (pm_tL t) (pc + len) ls st n N M = some q') : pm_re G t d (pc, ls, st, n, N, M) q' := by
  unfold pm_str at h
  split at h
  · rename_i r st'
    split at h
    · rename_i hL
      cases h
      refine pm_re_sto (fun q hq => pm_fl1_sub hq) (fun h1 h2 => ⟨h2 _ List.mem_cons_self, fun v hv => h2 v (List.mem_cons_of_mem _ hv)⟩) ?_
      intro p e R s m args below meth c H locs cells slots Q A ad lsr hS hF hX hD kk
      rcases hk with ⟨hk, rfl⟩ | ⟨j, hk, hj, rfl⟩
      · exact lv_astore hF.1 hF.2.1 hk hD.2.2.2.2.2 hL (by rw [pm_fl1_eq]; rfl) kk
      · exact lv_astore_n hF.1 hF.2.1 hk hj hD.2.2.2.2.2 hL (by rw [pm_fl1_eq]; rfl) kk
    · cases h
  · cases h
theorem pm_s_istore {k : Nat} (hk : (decode (pm_tB t) pc = .ok (.istore k, 2) ∧ len = 2) ∨ ∃ j : Fin 4, decode (pm_tB t) pc = .ok (.istore_n j, 1) ∧ j.val = k ∧ len = 1) (h : pm_sti k (pm_tL t) (pc + len) ls st n N M = some q') : pm_re G t d (pc, ls, st, n, N, M) q' := by
  unfold pm_sti at h
  split at h
  · rename_i r st'
    split at h
    · rename_i hL
      cases h
      refine pm_re_sto (fun q hq => pm_fl1_sub hq) (fun h1 h2 => ⟨h2 _ List.mem_cons_self, fun v hv => h2 v (List.mem_cons_of_mem _ hv)⟩) ?_
      intro p e R s m args below meth c H locs cells slots Q A ad lsr hS hF hX hD kk
      rcases hk with ⟨hk, rfl⟩ | ⟨j, hk, hj, rfl⟩
      · exact lv_istore hF.1 hF.2.1 hk hD.2.2.2.2.2 hL (by rw [pm_fl1_eq]; rfl) kk
      · exact lv_istore_n hF.1 hF.2.1 hk hj hD.2.2.2.2.2 hL (by rw [pm_fl1_eq]; rfl) kk
    · cases h
  · cases h
theorem pm_s_lstore {k : Nat} (hk : (decode (pm_tB t) pc = .ok (.lstore k, 2) ∧ len = 2) ∨ ∃ j : Fin 4, decode (pm_tB t) pc = .ok (.lstore_n j, 1) ∧ j.val = k ∧ len = 1) (h : pm_stl k (pm_tL t) (pc + len) ls st n N M = some q') : pm_re G t d (pc, ls, st, n, N, M) q' := by
  unfold pm_stl at h
  split at h
  · rename_i r st'
    split at h
    · rename_i hL
      cases h
      refine pm_re_sto (fun q hq => pm_fl2_sub hq) (fun h1 h2 => ⟨h2 _ List.mem_cons_self, fun v hv => h2 v (List.mem_cons_of_mem _ hv)⟩) ?_
      intro p e R s m args below meth c H locs cells slots Q A ad lsr hS hF hX hD kk
      rcases hk with ⟨hk, rfl⟩ | ⟨j, hk, hj, rfl⟩
      · exact lv_lstore hF.1 hF.2.1 hk hD.2.2.2.2.2 hL (by rw [pm_fl2_eq]; rfl) kk
      · exact lv_lstore_n hF.1 hF.2.1 hk hj hD.2.2.2.2.2 hL (by rw [pm_fl2_eq]; rfl) kk
    · cases h
  · cases h
theorem pm_s_iinc {k : Nat} {x : Int} (hdg : decode (pm_tB t) pc = .ok (.iinc k x, 3)) (h : pm_st (g_L G) (g_sx G) (pm_tL t) (pm_tO t) (.iinc k x) pc ls st n N M = some q') : pm_re G t d (pc, ls, st, n, N, M) q' := by
  simp only [pm_st] at h
  split at h
  · rename_i a hg
    split at h
    · rename_i hL
      cases h
      refine pm_re_sto (fun q hq => pm_fl1_sub hq) (fun h1 h2 => ⟨r32 _, h2⟩) ?_
      intro p e R s m args below meth c H locs cells slots Q A ad lsr hS hF hX hD kk
      obtain ⟨j, hj⟩ := List.getElem?_of_mem (List.mem_map.mpr ⟨(k, (.inl a : pm_V)), pm_get_mem hg, rfl⟩ : pm_tp G ad (k, .inl a) ∈ ls.map (pm_tp G ad))
      exact lv_iinc (v := Int32.ofInt (i_ad a x)) hF.1 hF.2.1 hdg hD.2.2.2.2.2 hj (by unfold i_ad; exact (Int32.ofInt_toInt _).symm) hL (by rw [pm_fl1_eq]; rfl) kk
    · cases h
  · cases h
/-- two ints to one -/
theorem pm_s_b2 {i : Instr} {f : Int → Int → Int} (hf : ∀ a b, pm_i32 (f a b))
    (hl : ∀ (a b : Int) (p : Program) (e : Env) (R : Room) (s : State) (m : MethodId) (args : Array Value) (below : List Frame) (meth : Method) (c : Code) (H : Heap) (locs : List Loc) (cells slots : Nat) (Q : State → Prop) (lsr : Array Slot) (rest : List Value), p.tables.exec = Jvm.exec → c.code = pm_tB t →
      W p (g_l G) e R s m args below meth c H locs cells slots Q (F0 m (pc + 1) lsr (.int (Int32.ofInt (f a b)) :: rest)) → W p (g_l G) e R s m args below meth c H locs cells slots Q (F0 m pc lsr (.int (Int32.ofInt b) :: .int (Int32.ofInt a) :: rest)))
    (h : pm_b2 f (pc + 1) ls st n N M = some q') : pm_re G t d (pc, ls, st, n, N, M) q' := by
  unfold pm_b2 at h
  split at h
  · rename_i b a st'
    cases h
    refine pm_re_stk (fun h1 h2 _ _ v hv => ?_) ?_
    · rcases List.mem_cons.mp hv with rfl | hv
      · exact hf a b
      · exact h2 v (List.mem_cons_of_mem _ (List.mem_cons_of_mem _ hv))
    · intro p e R s m args below meth c H locs cells slots Q A ad lsr hS hF hX hD kk
      exact hl a b p e R s m args below meth c H locs cells slots Q lsr _ hF.1 hF.2.1 kk
  · cases h
theorem pm_s_b2z {i : Instr} {f : Int → Int → Int} (hf : ∀ a b, pm_i32 (f a b))
    (hl : ∀ (a b : Int), ¬ Int32.ofInt b = 0 → ∀ (p : Program) (e : Env) (R : Room) (s : State) (m : MethodId) (args : Array Value) (below : List Frame) (meth : Method) (c : Code) (H : Heap) (locs : List Loc) (cells slots : Nat) (Q : State → Prop) (lsr : Array Slot) (rest : List Value), p.tables.exec = Jvm.exec → c.code = pm_tB t →
      W p (g_l G) e R s m args below meth c H locs cells slots Q (F0 m (pc + 1) lsr (.int (Int32.ofInt (f a b)) :: rest)) → W p (g_l G) e R s m args below meth c H locs cells slots Q (F0 m pc lsr (.int (Int32.ofInt b) :: .int (Int32.ofInt a) :: rest)))
    (h : pm_b2z f (pc + 1) ls st n N M = some q') : pm_re G t d (pc, ls, st, n, N, M) q' := by
  unfold pm_b2z at h
  split at h
  · rename_i b a st'
    split at h
    · cases h
    · rename_i hb
      cases h
      refine pm_re_stk (fun h1 h2 _ _ v hv => ?_) ?_
      · rcases List.mem_cons.mp hv with rfl | hv
        · exact hf a b
        · exact h2 v (List.mem_cons_of_mem _ (List.mem_cons_of_mem _ hv))
      · intro p e R s m args below meth c H locs cells slots Q A ad lsr hS hF hX hD kk
        have hbo : pm_i32 b := hD.2.2.2.2.1 (.inl b) List.mem_cons_self
        exact hl a b (fun z => hb ((q32 hbo z32).mp (by rw [z]; rfl))) p e R s m args below meth c H locs cells slots Q lsr _ hF.1 hF.2.1 kk
  · cases h
theorem pm_s_b1 {f : Int → Int} (hf : ∀ a, pm_i32 (f a))
    (hl : ∀ (a : Int) (p : Program) (e : Env) (R : Room) (s : State) (m : MethodId) (args : Array Value) (below : List Frame) (meth : Method) (c : Code) (H : Heap) (locs : List Loc) (cells slots : Nat) (Q : State → Prop) (lsr : Array Slot) (rest : List Value), p.tables.exec = Jvm.exec → c.code = pm_tB t →
      W p (g_l G) e R s m args below meth c H locs cells slots Q (F0 m (pc + 1) lsr (.int (Int32.ofInt (f a)) :: rest)) → W p (g_l G) e R s m args below meth c H locs cells slots Q (F0 m pc lsr (.int (Int32.ofInt a) :: rest)))
    (h : pm_b1 f (pc + 1) ls st n N M = some q') : pm_re G t d (pc, ls, st, n, N, M) q' := by
  unfold pm_b1 at h
  split at h
  · rename_i a st'
    cases h
    refine pm_re_stk (fun h1 h2 _ _ v hv => ?_) ?_
    · rcases List.mem_cons.mp hv with rfl | hv
      · exact hf a
      · exact h2 v (List.mem_cons_of_mem _ hv)
    · intro p e R s m args below meth c H locs cells slots Q A ad lsr hS hF hX hD kk
      exact hl a p e R s m args below meth c H locs cells slots Q lsr _ hF.1 hF.2.1 kk
  · cases h
theorem pm_s_l2 {f : Int → Int → Int} (hf : ∀ a b, pm_i64 (f a b))
    (hl : ∀ (a b : Int) (p : Program) (e : Env) (R : Room) (s : State) (m : MethodId) (args : Array Value) (below : List Frame) (meth : Method) (c : Code) (H : Heap) (locs : List Loc) (cells slots : Nat) (Q : State → Prop) (lsr : Array Slot) (rest : List Value), p.tables.exec = Jvm.exec → c.code = pm_tB t →
      W p (g_l G) e R s m args below meth c H locs cells slots Q (F0 m (pc + 1) lsr (.long (Int64.ofInt (f a b)) :: rest)) → W p (g_l G) e R s m args below meth c H locs cells slots Q (F0 m pc lsr (.long (Int64.ofInt b) :: .long (Int64.ofInt a) :: rest)))
    (h : pm_l2 f (pc + 1) ls st n N M = some q') : pm_re G t d (pc, ls, st, n, N, M) q' := by
  unfold pm_l2 at h
  split at h
  · rename_i b a st'
    cases h
    refine pm_re_stk (fun h1 h2 _ _ v hv => ?_) ?_
    · rcases List.mem_cons.mp hv with rfl | hv
      · exact hf a b
      · exact h2 v (List.mem_cons_of_mem _ (List.mem_cons_of_mem _ hv))
    · intro p e R s m args below meth c H locs cells slots Q A ad lsr hS hF hX hD kk
      exact hl a b p e R s m args below meth c H locs cells slots Q lsr _ hF.1 hF.2.1 kk
  · cases h
end
