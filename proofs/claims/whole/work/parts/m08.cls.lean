/-! THE CLASSES: their fields' words, types, names -/
theorem pm_cl_at {ci : Nat} (h : ci < 13) : pm_cl[ci]? = some (pm_cn ci, pm_uT ci, pm_nf ci) := by
  simp [pm_cl, List.getElem?_map, List.getElem?_range h]
theorem pm_cl_inv {k : Nat} {q : vw_C} (h : pm_cl[k]? = some q) : k < 13 ∧ q = (pm_cn k, pm_uT k, pm_nf k) := by
  have hk : k < 13 := by
    have := (List.getElem?_eq_some_iff.mp h).1
    simpa [pm_cl] using this
  rw [pm_cl_at hk] at h
  exact ⟨hk, (Option.some.inj h).symm⟩
def pm_chkL (ci : Nat) : Bool := (List.range (pm_nf ci)).all (fun k => pm_wat ((pm_lp ci).getD k 0) (u_lay (pm_cn ci) (pm_uT ci) k))
theorem pm_okL0 : ∀ ci, ci < 13 → pm_chkL ci = true := by decide +kernel
theorem pm_hin {ci : Nat} (h : ci < 13) : ∀ w ∈ u_ws (pm_cn ci) (pm_uT ci) (pm_nf ci), w ∈ pm_gw := by
  intro w hw
  obtain ⟨k, hk, rfl⟩ := List.mem_map.mp hw
  have h1 := pm_okL0 ci h
  unfold pm_chkL at h1
  exact pm_wat_of (List.all_eq_true.mp h1 k hk)
def pm_fty (ci k : Nat) : FieldType := (parseFieldDescriptor (pm_uT ci k).2.2.1).getD .int
def pm_chkT (ci k : Nat) : Bool := (parseFieldDescriptor (pm_uT ci k).2.2.1).isSome &&
  (match ((pm_fk ci).getD k (9, 0)).1 with
    | 0 => decide (((pm_fk ci).getD k (9, 0)).2 = 0 ∧ pm_fty ci k = .int ∨ ((pm_fk ci).getD k (9, 0)).2 = 1 ∧ pm_fty ci k = .boolean) && !(pm_uT ci k).2.2.2
    | 1 => (pm_uT ci k).2.2.2 && refKind (pm_fty ci k)
    | 2 => !(pm_uT ci k).2.2.2 && refKind (pm_fty ci k)
    | _ => false) && decide ((pm_fk ci).getD k (9, 0) = (pm_fk ci).getD k (0, 0)) && decide (((pm_fk ci).getD k (9, 0)).2 < 25)
theorem pm_okT0 : ∀ ci, ci < 13 → ∀ k, k < pm_nf ci → pm_chkT ci k = true := by decide +kernel
theorem pm_hty {ci : Nat} (h : ci < 13) : ∀ k, k < pm_nf ci → parseFieldDescriptor (pm_uT ci k).2.2.1 = some (pm_fty ci k) := by
  intro k hk
  have h1 := pm_okT0 ci h k hk
  unfold pm_chkT at h1
  simp only [Bool.and_eq_true] at h1
  obtain ⟨x, hx⟩ := Option.isSome_iff_exists.mp h1.1.1.1
  unfold pm_fty
  rw [hx]; rfl
theorem pm_hnm : ∀ ci, ci < 13 → ∀ a, a < pm_nf ci → ∀ b, b < pm_nf ci → a ≠ b → (pm_uT ci a).2.1 ≠ (pm_uT ci b).2.1 := by decide +kernel
theorem pm_fkd {ci k : Nat} (h : ci < 13) (hk : k < pm_nf ci) : (pm_fk ci).getD k (9, 0) = (pm_fk ci).getD k (0, 0) := by
  have h1 := pm_okT0 ci h k hk
  unfold pm_chkT at h1
  simp only [Bool.and_eq_true, decide_eq_true_eq] at h1
  exact h1.1.2
theorem pm_fk2 {ci k : Nat} (h : ci < 13) (hk : k < pm_nf ci) : ((pm_fk ci).getD k (0, 0)).2 < 25 := by
  have h1 := pm_okT0 ci h k hk
  unfold pm_chkT at h1
  simp only [Bool.and_eq_true, decide_eq_true_eq] at h1
  rw [← pm_fkd h hk]
  exact h1.2
/-- what the table says of a field of each kind -/
theorem pm_fk_spec {ci k : Nat} (h : ci < 13) (hk : k < pm_nf ci) :
    (((pm_fk ci).getD k (0, 0)).1 = 0 ∧ (((pm_fk ci).getD k (0, 0)).2 = 0 ∧ pm_fty ci k = .int ∨ ((pm_fk ci).getD k (0, 0)).2 = 1 ∧ pm_fty ci k = .boolean) ∧ (pm_uT ci k).2.2.2 = false) ∨
    (((pm_fk ci).getD k (0, 0)).1 = 1 ∧ (pm_uT ci k).2.2.2 = true ∧ refKind (pm_fty ci k) = true) ∨
    (((pm_fk ci).getD k (0, 0)).1 = 2 ∧ (pm_uT ci k).2.2.2 = false ∧ refKind (pm_fty ci k) = true) := by
  have h1 := pm_okT0 ci h k hk
  unfold pm_chkT at h1
  simp only [Bool.and_eq_true] at h1
  have h2 := h1.1.1.2
  rw [pm_fkd h hk] at h2
  split at h2
  · rename_i e
    simp only [Bool.and_eq_true, decide_eq_true_eq, Bool.not_eq_true'] at h2
    exact Or.inl ⟨e, h2.1, h2.2⟩
  · rename_i e
    simp only [Bool.and_eq_true] at h2
    exact Or.inr (Or.inl ⟨e, h2.1, h2.2⟩)
  · rename_i e
    simp only [Bool.and_eq_true, Bool.not_eq_true'] at h2
    exact Or.inr (Or.inr ⟨e, h2.1, h2.2⟩)
  · cases h2
theorem pm_okI0 : ∀ ci, ci < 13 → pm_wat (pm_ip ci) (.instantiable (pm_cn ci) (pm_nf ci)) = true := by decide +kernel
theorem pm_okJ0 : ∀ o, o < 18 → pm_wat (pm_jp o) (.initialized (pm_cn o)) = true := by decide +kernel
theorem pm_wI {ci : Nat} (h : ci < 13) : Cond.instantiable (pm_cn ci) (pm_nf ci) ∈ pm_gw := pm_wat_of (pm_okI0 ci h)
theorem pm_wJ {o : Nat} (h : o < 18) : Cond.initialized (pm_cn o) ∈ pm_gw := pm_wat_of (pm_okJ0 o h)
/-- the length that an instruction must have -/
def pm_lok (i : Instr) (len : Nat) : Bool := match i with
  | .aload _ => Nat.beq len 2
  | .iload _ => Nat.beq len 2
  | .lload _ => Nat.beq len 2
  | .astore _ => Nat.beq len 2
  | .istore _ => Nat.beq len 2
  | .lstore _ => Nat.beq len 2
  | .bipush _ => Nat.beq len 2
  | .ldc _ => Nat.beq len 2
  | .newarray _ => Nat.beq len 2
  | .sipush _ => Nat.beq len 3
  | .ldc_w _ => Nat.beq len 3
  | .ldc2_w _ => Nat.beq len 3
  | .iinc _ _ => Nat.beq len 3
  | .ifCond _ _ => Nat.beq len 3
  | .if_icmp _ _ => Nat.beq len 3
  | .goto _ => Nat.beq len 3
  | .getfield _ => Nat.beq len 3
  | .putfield _ => Nat.beq len 3
  | .new _ => Nat.beq len 3
  | .anewarray _ => Nat.beq len 3
  | .invokespecial _ => Nat.beq len 3
  | .invokestatic _ => Nat.beq len 3
  | .invokevirtual _ => Nat.beq len 3
  | .tableswitch _ _ _ _ => true
  | .lookupswitch _ _ => true
  | _ => Nat.beq len 1
/-- the table of a method's code is what its bytes say -/
def pm_okT (t : pm_T) : Prop := (∀ pc i len, pm_tI t pc = some (i, len) → decode (pm_tB t) pc = .ok (i, len) ∧ pm_lok i len = true) ∧ pm_tO t < 18 ∧ (pm_tY t).cls = pm_cn (pm_tO t)
def pm_chkD (t : pm_T) (len : Nat) : Bool := (List.range len).all (fun pc => match pm_tI t pc with
  | some q => decide (decode (pm_tB t) pc = .ok q) && pm_lok q.1 q.2
  | none => true) && decide (pm_tO t < 18) && decide ((pm_tY t).cls = pm_cn (pm_tO t))
theorem pm_okT_of {t : pm_T} (len : Nat) (h : pm_chkD t len = true) (hr : ∀ pc, len ≤ pc → pm_tI t pc = none) : pm_okT t := by
  unfold pm_chkD at h
  simp only [Bool.and_eq_true, decide_eq_true_eq] at h
  refine ⟨fun pc i ln hi => ?_, h.1.2, h.2⟩
  by_cases hp : pc < len
  · have h1 := List.all_eq_true.mp h.1.1 pc (List.mem_range.mpr hp)
    rw [hi] at h1
    simpa using h1
  · rw [hr pc (by omega)] at hi; cases hi
theorem pm_out {α : Type} {len : Nat} {x y : α} {pc : Nat} (h : len ≤ pc) : (bif Nat.blt pc len then x else y) = y := by
  have : Nat.blt pc len = false := by
    cases h1 : Nat.blt pc len with
    | false => rfl
    | true => rw [Nat.blt_eq] at h1; omega
  rw [this]; rfl
