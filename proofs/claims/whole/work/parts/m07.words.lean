/-! WORDS of the tables, by their places -/
def pm_gw : List Cond := lw_tbl.filter goodWord
theorem pm_gw_of {w : Cond} (i : Nat) (h : lw_tbl[i]? = some w) (hg : goodWord w = true) : w ∈ pm_gw := List.mem_filter.mpr ⟨List.mem_of_getElem? h, hg⟩
theorem pm_gw_in {w : Cond} (h : w ∈ pm_gw) : w ∈ lw_tbl := (List.mem_filter.mp h).1
theorem pm_gw_good : GoodIn lw_tbl pm_gw := fun w h => ⟨(List.mem_filter.mp h).1, good_of_word (List.mem_filter.mp h).2⟩
def pm_all2 (f : Nat → Nat → Bool) : Bool := (List.range 18).all (fun o => (List.range 1100).all (fun k => f o k))
theorem pm_all2_of {f : Nat → Nat → Bool} (h : pm_all2 f = true) {o k : Nat} (ho : o < 18) (hk : k < 1100) : f o k = true := by
  have h1 := List.all_eq_true.mp h o (List.mem_range.mpr ho)
  exact List.all_eq_true.mp h1 k (List.mem_range.mpr hk)
def pm_wat (i : Nat) (w : Cond) : Bool := decide (lw_tbl[i]? = some w) && goodWord w
theorem pm_wat_of {i : Nat} {w : Cond} (h : pm_wat i w = true) : w ∈ pm_gw := by
  unfold pm_wat at h
  simp only [Bool.and_eq_true, decide_eq_true_eq] at h
  exact pm_gw_of i h.1 h.2
def pm_chkF (o k : Nat) : Bool := match pm_fd o k with
  | some (ci, f) => if ci < 13 then pm_wat (pm_fp o k) (.fieldLink (pm_cn o) k (pm_cn ci) (pm_uT ci f).2.1 (pm_uT ci f).2.2.1) else true
  | none => true
theorem pm_okF0 : pm_all2 pm_chkF = true := by decide +kernel
def pm_chkC (o k : Nat) : Bool := match pm_kc o k with
  | some (.inl x) => pm_wat (pm_kp o k) (.constant (pm_cn o) k (Int32.ofInt x)) && decide (-2147483648 ≤ x) && decide (x < 2147483648)
  | some (.inr (.inl x)) => pm_wat (pm_kp o k) (.constantLong (pm_cn o) k (Int64.ofInt x)) && decide (-9223372036854775808 ≤ x) && decide (x < 9223372036854775808)
  | _ => true
theorem pm_okC0 : pm_all2 pm_chkC = true := by decide +kernel
def pm_chkN (o k : Nat) : Bool := match pm_kn o k with
  | some ci => if ci < 13 then pm_wat (pm_np o k) (.classLink (pm_cn o) k (pm_cn ci)) else pm_wat (pm_np o k) (.classLink (pm_cn o) k "StatuesWhoOwe$Text")
  | none => true
theorem pm_okN0 : pm_all2 pm_chkN = true := by decide +kernel
def pm_chkO (o k : Nat) : Bool := !pm_oi o k || pm_wat (pm_op o k) (.methodLink (pm_cn o) k objectInit)
theorem pm_okO0 : pm_all2 pm_chkO = true := by decide +kernel
def pm_chkA (o k : Nat) : Bool := !pm_ac o k || pm_wat (pm_ap o k) (.methodLink (pm_cn o) k arraycopyName)
theorem pm_okA0 : pm_all2 pm_chkA = true := by decide +kernel
theorem pm_fd_rng {o k : Nat} {q : Nat × Nat} (h : pm_fd o k = some q) : o < 18 ∧ k < 1100 := by
  unfold pm_fd at h
  cases h1 : (Nat.blt o 18 && Nat.blt k 1100) with
  | false => rw [h1] at h; simp at h
  | true => simpa [Nat.blt_eq] using h1
theorem pm_kc_rng {o k : Nat} {q : pm_V} (h : pm_kc o k = some q) : o < 18 ∧ k < 1100 := by
  unfold pm_kc at h
  cases h1 : (Nat.blt o 18 && Nat.blt k 1100) with
  | false => rw [h1] at h; simp at h
  | true => simpa [Nat.blt_eq] using h1
theorem pm_kn_rng {o k : Nat} {q : Nat} (h : pm_kn o k = some q) : o < 18 ∧ k < 1100 := by
  unfold pm_kn at h
  cases h1 : (Nat.blt o 18 && Nat.blt k 1100) with
  | false => rw [h1] at h; simp at h
  | true => simpa [Nat.blt_eq] using h1
theorem pm_oi_rng {o k : Nat} (h : pm_oi o k = true) : o < 18 ∧ k < 1100 := by
  unfold pm_oi at h
  cases h1 : (Nat.blt o 18 && Nat.blt k 1100) with
  | false => rw [h1] at h; simp at h
  | true => simpa [Nat.blt_eq] using h1
theorem pm_ac_rng {o k : Nat} (h : pm_ac o k = true) : o < 18 ∧ k < 1100 := by
  unfold pm_ac at h
  cases h1 : (Nat.blt o 18 && Nat.blt k 1100) with
  | false => rw [h1] at h; simp at h
  | true => simpa [Nat.blt_eq] using h1
theorem pm_wF {o k ci f : Nat} (h : pm_fd o k = some (ci, f)) (hc : ci < 13) : Cond.fieldLink (pm_cn o) k (pm_cn ci) (pm_uT ci f).2.1 (pm_uT ci f).2.2.1 ∈ pm_gw := by
  obtain ⟨h1, h2⟩ := pm_fd_rng h
  have h3 := pm_all2_of pm_okF0 h1 h2
  unfold pm_chkF at h3
  rw [h] at h3
  simp only [if_pos hc] at h3
  exact pm_wat_of h3
theorem pm_wC {o k : Nat} {x : Int} (h : pm_kc o k = some (.inl x)) : Cond.constant (pm_cn o) k (Int32.ofInt x) ∈ pm_gw ∧ pm_i32 x := by
  obtain ⟨h1, h2⟩ := pm_kc_rng h
  have h3 := pm_all2_of pm_okC0 h1 h2
  unfold pm_chkC at h3
  rw [h] at h3
  simp only [Bool.and_eq_true, decide_eq_true_eq] at h3
  exact ⟨pm_wat_of h3.1.1, h3.1.2, h3.2⟩
theorem pm_wL {o k : Nat} {x : Int} (h : pm_kc o k = some (.inr (.inl x))) : Cond.constantLong (pm_cn o) k (Int64.ofInt x) ∈ pm_gw ∧ pm_i64 x := by
  obtain ⟨h1, h2⟩ := pm_kc_rng h
  have h3 := pm_all2_of pm_okC0 h1 h2
  unfold pm_chkC at h3
  rw [h] at h3
  simp only [Bool.and_eq_true, decide_eq_true_eq] at h3
  exact ⟨pm_wat_of h3.1.1, h3.1.2, h3.2⟩
theorem pm_wN {o k ci : Nat} (h : pm_kn o k = some ci) (hc : ci < 13) : Cond.classLink (pm_cn o) k (pm_cn ci) ∈ pm_gw := by
  obtain ⟨h1, h2⟩ := pm_kn_rng h
  have h3 := pm_all2_of pm_okN0 h1 h2
  unfold pm_chkN at h3
  rw [h] at h3
  simp only [if_pos hc] at h3
  exact pm_wat_of h3
theorem pm_wN24 {o k : Nat} (h : pm_kn o k = some 24) : Cond.classLink (pm_cn o) k "StatuesWhoOwe$Text" ∈ pm_gw := by
  obtain ⟨h1, h2⟩ := pm_kn_rng h
  have h3 := pm_all2_of pm_okN0 h1 h2
  unfold pm_chkN at h3
  rw [h] at h3
  simp only [if_neg (show ¬ (24 : Nat) < 13 by omega)] at h3
  exact pm_wat_of h3
theorem pm_wO {o k : Nat} (h : pm_oi o k = true) : Cond.methodLink (pm_cn o) k objectInit ∈ pm_gw := by
  obtain ⟨h1, h2⟩ := pm_oi_rng h
  have h3 := pm_all2_of pm_okO0 h1 h2
  unfold pm_chkO at h3
  rw [h] at h3
  exact pm_wat_of (by simpa using h3)
theorem pm_wA {o k : Nat} (h : pm_ac o k = true) : Cond.methodLink (pm_cn o) k arraycopyName ∈ pm_gw := by
  obtain ⟨h1, h2⟩ := pm_ac_rng h
  have h3 := pm_all2_of pm_okA0 h1 h2
  unfold pm_chkA at h3
  rw [h] at h3
  exact pm_wat_of (by simpa using h3)
