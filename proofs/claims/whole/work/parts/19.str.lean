/-! the literals: ldc, length, charAt, indexOf -/
section
variable {α : Type} {G : pm_G} {t : pm_T} {d pc n : Nat} {ls : pm_L} {st : List pm_V} {N : pm_N} {M : pm_M} {T : Option α} {Z : α → pm_Q → Prop}
theorem R_ldcS0 (ho : pm_oG G t) (h7 : pm_tO t = 7) (hi : pm_tI t pc = some (.ldc 138, 2)) (hw : pm_wd st ≤ 8) (r : pm_R G t d (pc + 2, ls, .inr (.inr (31, 0)) :: st, n, N, M) T Z) : pm_R G t d (pc, ls, st, n, N, M) T Z := by
  refine R_re (pm_re_stk (fun h1 h2 _ _ v hv => ?_) ?_) r
  · rcases List.mem_cons.mp hv with rfl | hv
    · exact Or.inr (Or.inl ⟨Or.inl rfl, by decide⟩)
    · exact h2 v hv
  · intro p e R s m args below meth c H locs cells slots Q A ad lsr hS hF hX hD kk
    have hown := hF.2.2.2.1
    rw [h7] at hown
    exact va_ldcS hF.1 hF.2.1 (own := "StatuesWhoOwe$Reader") hown hS.2.2.2.1 (ho.1.1 _ _ _ hi).1 kk
theorem R_ldcS1 (ho : pm_oG G t) (h7 : pm_tO t = 7) (hi : pm_tI t pc = some (.ldc 147, 2)) (hw : pm_wd st ≤ 8) (r : pm_R G t d (pc + 2, ls, .inr (.inr (31, 1)) :: st, n, N, M) T Z) : pm_R G t d (pc, ls, st, n, N, M) T Z := by
  refine R_re (pm_re_stk (fun h1 h2 _ _ v hv => ?_) ?_) r
  · rcases List.mem_cons.mp hv with rfl | hv
    · exact Or.inr (Or.inl ⟨Or.inl rfl, by decide⟩)
    · exact h2 v hv
  · intro p e R s m args below meth c H locs cells slots Q A ad lsr hS hF hX hD kk
    have hown := hF.2.2.2.1
    rw [h7] at hown
    exact va_ldcS hF.1 hF.2.1 (own := "StatuesWhoOwe$Reader") hown hS.2.2.2.2.1 (ho.1.1 _ _ _ hi).1 kk
theorem R_x_len {w : Nat} {K : Int → Option α} (ho : pm_oG G t) (h7 : pm_tO t = 7) (hi : pm_tI t pc = some (.invokevirtual 140, 3)) (hw : pm_wd st ≤ 8) (hd : 6 ≤ d + 6) (k : ∀ y, pm_R G t d (pc + 3, ls, .inl y :: st, n, N, M) (K y) Z) : pm_R G t d (pc, ls, .inr (.inr (31, w)) :: st, n, N, M) ((x_len w).bind K) Z := by
  sorry
theorem R_x_chr {w : Nat} {i : Int} {K : Int → Option α} (ho : pm_oG G t) (h7 : pm_tO t = 7) (hi : pm_tI t pc = some (.invokevirtual 143, 3)) (hw : pm_wd st ≤ 8) (hd : 6 ≤ d + 6) (k : ∀ y, pm_R G t d (pc + 3, ls, .inl y :: st, n, N, M) (K y) Z) : pm_R G t d (pc, ls, .inl i :: .inr (.inr (31, w)) :: st, n, N, M) ((x_chr w i).bind K) Z := by
  sorry
theorem R_x_idx {w : Nat} {c : Int} {K : Int → Option α} (ho : pm_oG G t) (h7 : pm_tO t = 7) (hi : pm_tI t pc = some (.invokevirtual 149, 3)) (hw : pm_wd st ≤ 8) (hd : 6 ≤ d + 6) (k : ∀ y, pm_R G t d (pc + 3, ls, .inl y :: st, n, N, M) (K y) Z) : pm_R G t d (pc, ls, .inl c :: .inr (.inr (31, w)) :: st, n, N, M) ((x_idx w c).bind K) Z := by
  sorry
end
