/-! Math.abs, max, min; the literals -/
section
variable {α : Type} {G : pm_G} {t : pm_T} {d pc n : Nat} {ls : pm_L} {st : List pm_V} {N : pm_N} {M : pm_M} {T : Option α} {Z : α → pm_Q → Prop}
/-- a step that leaves all but the stack, with the room's bounds -/
theorem pm_re_rm {pc' : Nat} {st' : List pm_V} (hv : (∀ v ∈ st, pm_okv n v) → ∀ v ∈ st', pm_okv n v)
    (h : ∀ (p : Program) (e : Env) (R : Room) (s : State) (m : MethodId) (args : Array Value) (below : List Frame) (meth : Method) (c : Code) (H : Heap) (locs : List Loc) (cells slots : Nat) (Q : State → Prop) (A : Nat → Prop) (ad : Nat → Nat) (lsr : Array Slot),
      pm_Ss G args A s → pm_Fx t d p R s m meth c → pm_Dy G A s H locs ad lsr (pm_tL t) ls st n N M → cells ≤ R.cells → slots ≤ R.slots →
      W p (g_l G) e R s m args below meth c H locs cells slots Q (F0 m pc' lsr (st'.map (pm_tv G ad))) →
      W p (g_l G) e R s m args below meth c H locs cells slots Q (F0 m pc lsr (st.map (pm_tv G ad)))) :
    pm_re G t d (pc, ls, st, n, N, M) (pc', ls, st', n, N, M) := by
  refine ⟨Nat.le_refl _, ?_⟩
  intro p e R s m args below meth c H locs cells slots Q A ad lsr hS hF hX hD hc hs k
  simp only [Nat.sub_self, Nat.add_zero] at hc hs
  refine h p e R s m args below meth c H locs cells slots Q A ad lsr hS hF hD hc hs ?_
  obtain ⟨d1, d2, d3, d4, d5, d6⟩ := hD
  exact k H locs cells slots ad lsr (fun _ _ => rfl) ⟨d1, d2, d3, d4, hv d5, d6⟩ (by omega) (by omega)
theorem R_i_mx {a b : Int} {idx : Nat} (ho : pm_oG G t) (hlk : pm_lk (pm_tO t) idx mt_Math_max) (hi : pm_tI t pc = some (.invokestatic idx, 3)) (hw : pm_wd st ≤ 8) (r : pm_R G t d (pc + 3, ls, .inl (i_mx a b) :: st, n, N, M) T Z) : pm_R G t d (pc, ls, .inl b :: .inl a :: st, n, N, M) T Z := by
  refine R_re (pm_re_rm (fun h2 v hv => ?_) ?_) r
  · rcases List.mem_cons.mp hv with rfl | hv
    · unfold i_mx
      by_cases c1 : a < b
      · rw [if_pos c1]; exact h2 _ List.mem_cons_self
      · rw [if_neg c1]; exact h2 _ (List.mem_cons_of_mem _ List.mem_cons_self)
    · exact h2 v (List.mem_cons_of_mem _ (List.mem_cons_of_mem _ hv))
  · intro p e R s m args below meth c H locs cells slots Q A ad lsr hS hF hD hc hs kk
    have hbo : pm_i32 b := hD.2.2.2.2.1 (.inl b) List.mem_cons_self
    have hao : pm_i32 a := hD.2.2.2.2.1 (.inl a) (List.mem_cons_of_mem _ List.mem_cons_self)
    have hR := hF.2.2.2.2.2.2
    have hw' : ((st.map (pm_tv G ad)).map fun v => v.category).sum ≤ 8 := by rw [pm_wd_sum]; exact hw
    refine va_mmax hF.1 hF.2.1 (by rw [hF.2.2.1]; exact hD.2.2.2.2.2.1.symm) hF.2.2.2.1 (hS.1 _ hlk) (hS.1 _ (pm_wat_of (i := 839) (by decide +kernel))) (hS.1 _ (pm_wat_of (i := 104) (by decide +kernel))) (hS.1 _ (pm_wat_of (i := 840) (by decide +kernel))) (by have := hF.2.2.2.2.2.1; omega) (by omega) hc hs (ho.1.1 _ _ _ hi).1 ?_
    have e1 : (if Int32.ofInt a < Int32.ofInt b then Int32.ofInt b else Int32.ofInt a) = Int32.ofInt (i_mx a b) := by
      unfold i_mx
      by_cases c1 : a < b
      · rw [if_pos c1, if_pos ((l32 hao hbo).mpr c1)]
      · rw [if_neg c1, if_neg (fun z => c1 ((l32 hao hbo).mp z))]
    rw [e1]; exact kk
theorem R_i_mn {a b : Int} {idx : Nat} (ho : pm_oG G t) (hlk : pm_lk (pm_tO t) idx mt_Math_min) (hi : pm_tI t pc = some (.invokestatic idx, 3)) (hw : pm_wd st ≤ 8) (r : pm_R G t d (pc + 3, ls, .inl (i_mn a b) :: st, n, N, M) T Z) : pm_R G t d (pc, ls, .inl b :: .inl a :: st, n, N, M) T Z := by
  refine R_re (pm_re_rm (fun h2 v hv => ?_) ?_) r
  · rcases List.mem_cons.mp hv with rfl | hv
    · unfold i_mn
      by_cases c1 : b < a
      · rw [if_pos c1]; exact h2 _ List.mem_cons_self
      · rw [if_neg c1]; exact h2 _ (List.mem_cons_of_mem _ List.mem_cons_self)
    · exact h2 v (List.mem_cons_of_mem _ (List.mem_cons_of_mem _ hv))
  · intro p e R s m args below meth c H locs cells slots Q A ad lsr hS hF hD hc hs kk
    have hbo : pm_i32 b := hD.2.2.2.2.1 (.inl b) List.mem_cons_self
    have hao : pm_i32 a := hD.2.2.2.2.1 (.inl a) (List.mem_cons_of_mem _ List.mem_cons_self)
    have hR := hF.2.2.2.2.2.2
    have hw' : ((st.map (pm_tv G ad)).map fun v => v.category).sum ≤ 8 := by rw [pm_wd_sum]; exact hw
    refine va_mmin hF.1 hF.2.1 (by rw [hF.2.2.1]; exact hD.2.2.2.2.2.1.symm) hF.2.2.2.1 (hS.1 _ hlk) (hS.1 _ (pm_wat_of (i := 816) (by decide +kernel))) (hS.1 _ (pm_wat_of (i := 104) (by decide +kernel))) (hS.1 _ (pm_wat_of (i := 817) (by decide +kernel))) (by have := hF.2.2.2.2.2.1; omega) (by omega) hc hs (ho.1.1 _ _ _ hi).1 ?_
    have e1 : (if Int32.ofInt b < Int32.ofInt a then Int32.ofInt b else Int32.ofInt a) = Int32.ofInt (i_mn a b) := by
      unfold i_mn
      by_cases c1 : b < a
      · rw [if_pos c1, if_pos ((l32 hbo hao).mpr c1)]
      · rw [if_neg c1, if_neg (fun z => c1 ((l32 hbo hao).mp z))]
    rw [e1]; exact kk
theorem R_i_ab {a : Int} {idx : Nat} (ho : pm_oG G t) (hlk : pm_lk (pm_tO t) idx mt_Math_abs) (hi : pm_tI t pc = some (.invokestatic idx, 3)) (hw : pm_wd st ≤ 8) (r : pm_R G t d (pc + 3, ls, .inl (i_ab a) :: st, n, N, M) T Z) : pm_R G t d (pc, ls, .inl a :: st, n, N, M) T Z := by
  refine R_re (pm_re_rm (fun h2 v hv => ?_) ?_) r
  · rcases List.mem_cons.mp hv with rfl | hv
    · unfold i_ab
      by_cases c1 : 0 ≤ a
      · rw [if_pos c1]; exact h2 _ List.mem_cons_self
      · rw [if_neg c1]; exact r32 _
    · exact h2 v (List.mem_cons_of_mem _ hv)
  · intro p e R s m args below meth c H locs cells slots Q A ad lsr hS hF hD hc hs kk
    have hao : pm_i32 a := hD.2.2.2.2.1 (.inl a) List.mem_cons_self
    have hR := hF.2.2.2.2.2.2
    have hw' : ((st.map (pm_tv G ad)).map fun v => v.category).sum ≤ 8 := by rw [pm_wd_sum]; exact hw
    refine va_mabs hF.1 hF.2.1 (by rw [hF.2.2.1]; exact hD.2.2.2.2.2.1.symm) hF.2.2.2.1 (hS.1 _ hlk) (hS.1 _ (pm_wat_of (i := 501) (by decide +kernel))) (hS.1 _ (pm_wat_of (i := 104) (by decide +kernel))) (hS.1 _ (pm_wat_of (i := 502) (by decide +kernel))) (by have := hF.2.2.2.2.2.1; omega) (by omega) hc hs (ho.1.1 _ _ _ hi).1 ?_
    have e1 : (if 0 ≤ Int32.ofInt a then Int32.ofInt a else 0 - Int32.ofInt a) = Int32.ofInt (i_ab a) := by
      unfold i_ab
      have z0 : (0 : Int32) = Int32.ofInt 0 := rfl
      by_cases c1 : 0 ≤ a
      · rw [if_pos c1, if_pos (by rw [z0]; exact (k32 z32 hao).mpr c1)]
      · rw [if_neg c1, if_neg (fun z => c1 ((k32 z32 hao).mp (by rw [← z0]; exact z)))]
        exact (Int32.ofInt_toInt _).symm
    rw [e1]; exact kk
/-- a switch at a known number -/
theorem R_swk {dd lo hi x o : Int} {offs : Array Int} {len tgt : Nat} (ho : pm_oG G t) (hi1 : pm_tI t pc = some (.tableswitch dd lo hi offs, len)) (hx : ¬ (x < lo ∨ hi < x)) (hof : offs[(x - lo).toNat]? = some o) (ht : (pc : Int) + o = (tgt : Int)) (hall : 0 ≤ (pc : Int) + dd ∧ offs.all (fun o => 0 ≤ (pc : Int) + o) = true) (r : pm_R G t d (tgt, ls, st, n, N, M) T Z) : pm_R G t d (pc, ls, .inl x :: st, n, N, M) T Z :=
  R_1 ho hi1 (by
    have e1 : pm_sw pc dd lo hi offs x = some tgt := by unfold pm_sw; rw [if_neg hx, hof]; unfold pm_to; simp only; congr 1; omega
    simp only [pm_st]; rw [e1]; simp only; rw [if_pos hall]; rfl) r
end
