/-! RULES: a method's code follows a function of the pure memory -/
def pm_R {α : Type} (G : pm_G) (t : pm_T) (d : Nat) (q : pm_Q) (T : Option α) (Z : α → pm_Q → Prop) : Prop := ∀ y, T = some y → ∃ q', Z y q' ∧ pm_re G t d q q'
def pm_oA (t : pm_T) : Prop := pm_okT t ∧ pm_okP t ∧ pm_tO t ≠ 13
def pm_oG (G : pm_G) (t : pm_T) : Prop := pm_okT t ∧ pm_okP t ∧ (pm_tO t = 13 → g_L G < 2147483648)
theorem pm_oA.g {t : pm_T} (h : pm_oA t) (G : pm_G) : pm_oG G t := ⟨h.1, h.2.1, fun z => absurd z h.2.2⟩
/-- the end of a method -/
def pm_Zr {α : Type} (t : pm_T) (g : α → Option pm_V × Nat × pm_N × pm_M) (y : α) (q : pm_Q) : Prop := ∃ (pc : Nat) (ls : pm_L), q = (pc, ls, (g y).1.toList, (g y).2.1, (g y).2.2.1, (g y).2.2.2) ∧ pm_tI t pc = some (pm_ri (g y).1, 1) ∧ pm_rok (pm_tR t) (g y).1
def pm_gI (y : Int × pm_M) : Option pm_V × Nat × pm_N × pm_M := (some (.inl y.1), 119, pm_RF, y.2)
def pm_gL (y : Int × pm_M) : Option pm_V × Nat × pm_N × pm_M := (some (.inr (.inl y.1)), 119, pm_RF, y.2)
def pm_gV (y : pm_M) : Option pm_V × Nat × pm_N × pm_M := (none, 119, pm_RF, y)
def pm_gi (M : pm_M) (y : Int) : Option pm_V × Nat × pm_N × pm_M := (some (.inl y), 119, pm_RF, M)
def pm_gl (M : pm_M) (y : Int) : Option pm_V × Nat × pm_N × pm_M := (some (.inr (.inl y)), 119, pm_RF, M)
def pm_gC (y : Nat × pm_N × pm_M) : Option pm_V × Nat × pm_N × pm_M := (none, y)
section
variable {α β : Type} {G : pm_G} {t tc : pm_T} {d dc pc n : Nat} {ls : pm_L} {st : List pm_V} {N : pm_N} {M : pm_M} {q q' : pm_Q} {T T1 T2 : Option α} {Z : α → pm_Q → Prop}
theorem R_none : pm_R G t d q (none : Option α) Z := fun y h => by cases h
theorem R_ret {y : α} (h : Z y q) : pm_R G t d q (some y) Z := fun z hz => by cases hz; exact ⟨q, h, pm_re_refl G t d q⟩
theorem R_end {g : α → Option pm_V × Nat × pm_N × pm_M} {y : α} {v : Option pm_V} (h1 : pm_tI t pc = some (pm_ri v, 1)) (h2 : pm_rok (pm_tR t) v) (h3 : g y = (v, n, N, M)) (h4 : st = v.toList) : pm_R G t d (pc, ls, st, n, N, M) (some y) (pm_Zr t g) := by
  subst h4
  refine R_ret ⟨pc, ls, ?_, ?_, ?_⟩
  · rw [h3]
  · rw [h3]; exact h1
  · rw [h3]; exact h2
theorem R_re (h : pm_re G t d q q') (r : pm_R G t d q' T Z) : pm_R G t d q T Z := fun y hy => by
  obtain ⟨q2, h1, h2⟩ := r y hy
  exact ⟨q2, h1, pm_re_trans h h2⟩
theorem R_st (ho : pm_oG G t) (k : Nat) (h : pm_ex (g_L G) (g_sx G) t k q = some q') (r : pm_R G t d q' T Z) : pm_R G t d q T Z := R_re (pm_ex_ok ho.1 ho.2.1 ho.2.2 k q q' h) r
theorem R_bd {v : β} {K : β → Option α} (r : pm_R G t d q (K v) Z) : pm_R G t d q (pm_bd v K) Z := r
/-- the memory gets a name -/
theorem R_nm {v : pm_M} {K : pm_M → Option α} (r : ∀ M', pm_R G t d (pc, ls, st, n, N, M') (K M') Z) : pm_R G t d (pc, ls, st, n, N, v) (pm_bd v K) Z := r v
theorem R_bind {C : Option β} {K : β → Option α} {Z1 : β → pm_Q → Prop} (r : pm_R G t d q C Z1) (k : ∀ y q1, Z1 y q1 → pm_R G t d q1 (K y) Z) : pm_R G t d q (C.bind K) Z := fun y hy => by
  obtain ⟨b, hb, hk⟩ := Option.bind_eq_some_iff.mp hy
  obtain ⟨q1, h1, h2⟩ := r b hb
  obtain ⟨q2, h3, h4⟩ := k b q1 h1 y hk
  exact ⟨q2, h3, pm_re_trans h2 h4⟩
theorem R_ite {c : Prop} [Decidable c] (r1 : c → pm_R G t d q T1 Z) (r2 : ¬ c → pm_R G t d q T2 Z) : pm_R G t d q (if c then T1 else T2) Z := by
  by_cases h : c
  · rw [if_pos h]; exact r1 h
  · rw [if_neg h]; exact r2 h
theorem R_gd {c : Prop} [Decidable c] (r : c → pm_R G t d q T Z) : pm_R G t d q (if c then T else none) Z := R_ite r (fun _ => R_none)
theorem R_gn {c : Prop} [Decidable c] (r : ¬ c → pm_R G t d q T Z) : pm_R G t d q (if c then none else T) Z := R_ite (fun _ => R_none) r
/-- one step, by what the machine does there -/
theorem R_1 (ho : pm_oG G t) {i : Instr} {len : Nat} (hi : pm_tI t pc = some (i, len)) (h : pm_st (g_L G) (g_sx G) (pm_tL t) (pm_tO t) i pc ls st n N M = some q') (r : pm_R G t d q' T Z) : pm_R G t d (pc, ls, st, n, N, M) T Z := R_re (pm_step_ok ho.1 ho.2.1 ho.2.2 hi h) r
-- arrays
theorem R_iald (ho : pm_oG G t) {a : Nat} {i len : Int} (hl : (pm_alen a : Int) = len) (hi : pm_tI t pc = some (.iaload, 1)) (r : pm_R G t d (pc + 1, ls, .inl (M a i.toNat) :: st, n, N, M) T Z) : pm_R G t d (pc, ls, .inl i :: .inr (.inr (20, a)) :: st, n, N, M) (if 0 ≤ i ∧ i < len then T else none) Z :=
  R_gd fun h => R_1 ho hi (by simp only [pm_st]; rw [if_pos trivial, hl, if_pos h]; rfl) r
theorem R_sald (ho : pm_oG G t) {a : Nat} {i : Int} (h13 : pm_tO t = 13) (hi : pm_tI t pc = some (.iaload, 1)) (r : pm_R G t d (pc + 1, ls, .inl (g_sx G i.toNat) :: st, n, N, M) T Z) : pm_R G t d (pc, ls, .inl i :: .inr (.inr (30, a)) :: st, n, N, M) (if 0 ≤ i ∧ i < (g_L G : Int) then T else none) Z :=
  R_gd fun h => R_1 ho hi (by simp only [pm_st]; rw [if_neg (by decide), if_pos ⟨trivial, h13⟩, if_pos h]; rfl) r
theorem R_lald (ho : pm_oG G t) {a : Nat} {i len : Int} (hl : (pm_alen a : Int) = len) (hi : pm_tI t pc = some (.laload, 1)) (r : pm_R G t d (pc + 1, ls, .inr (.inl (M a i.toNat)) :: st, n, N, M) T Z) : pm_R G t d (pc, ls, .inl i :: .inr (.inr (21, a)) :: st, n, N, M) (if 0 ≤ i ∧ i < len then T else none) Z :=
  R_gd fun h => R_1 ho hi (by simp only [pm_st]; rw [if_pos trivial, hl, if_pos h]; rfl) r
theorem R_bald (ho : pm_oG G t) {a kd : Nat} {i len : Int} (hk : kd = 22 ∨ kd = 23) (hl : (pm_alen a : Int) = len) (hi : pm_tI t pc = some (.baload, 1)) (r : pm_R G t d (pc + 1, ls, .inl (M a i.toNat) :: st, n, N, M) T Z) : pm_R G t d (pc, ls, .inl i :: .inr (.inr (kd, a)) :: st, n, N, M) (if 0 ≤ i ∧ i < len then T else none) Z :=
  R_gd fun h => R_1 ho hi (by simp only [pm_st]; rw [if_pos hk, hl, if_pos h]; rfl) r
theorem R_iast (ho : pm_oG G t) {a : Nat} {x i len : Int} (hl : (pm_alen a : Int) = len) (hi : pm_tI t pc = some (.iastore, 1)) (r : pm_R G t d (pc + 1, ls, st, n, N, pm_ms M a i.toNat x) T Z) : pm_R G t d (pc, ls, .inl x :: .inl i :: .inr (.inr (20, a)) :: st, n, N, M) (if 0 ≤ i ∧ i < len then T else none) Z :=
  R_gd fun h => R_1 ho hi (by simp only [pm_st]; rw [if_pos trivial, hl, if_pos h]; rfl) r
theorem R_last (ho : pm_oG G t) {a : Nat} {x i len : Int} (hl : (pm_alen a : Int) = len) (hi : pm_tI t pc = some (.lastore, 1)) (r : pm_R G t d (pc + 1, ls, st, n, N, pm_ms M a i.toNat x) T Z) : pm_R G t d (pc, ls, .inr (.inl x) :: .inl i :: .inr (.inr (21, a)) :: st, n, N, M) (if 0 ≤ i ∧ i < len then T else none) Z :=
  R_gd fun h => R_1 ho hi (by simp only [pm_st]; rw [if_pos trivial, hl, if_pos h]; rfl) r
theorem R_bast (ho : pm_oG G t) {a : Nat} {x i len : Int} (hl : (pm_alen a : Int) = len) (hi : pm_tI t pc = some (.bastore, 1)) (r : pm_R G t d (pc + 1, ls, st, n, N, pm_ms M a i.toNat (i_2b x)) T Z) : pm_R G t d (pc, ls, .inl x :: .inl i :: .inr (.inr (22, a)) :: st, n, N, M) (if 0 ≤ i ∧ i < len then T else none) Z :=
  R_gd fun h => R_1 ho hi (by simp only [pm_st]; rw [if_pos trivial, hl, if_pos h]; rfl) r
theorem R_zast (ho : pm_oG G t) {a : Nat} {x i len : Int} (hx : x = 0 ∨ x = 1) (hl : (pm_alen a : Int) = len) (hi : pm_tI t pc = some (.bastore, 1)) (r : pm_R G t d (pc + 1, ls, st, n, N, pm_ms M a i.toNat x) T Z) : pm_R G t d (pc, ls, .inl x :: .inl i :: .inr (.inr (23, a)) :: st, n, N, M) (if 0 ≤ i ∧ i < len then T else none) Z :=
  R_gd fun h => R_1 ho hi (by simp only [pm_st]; rw [if_neg (by decide), if_pos ⟨trivial, hx⟩, hl, if_pos h]; rfl) r
theorem R_aald (ho : pm_oG G t) {a : Nat} {i len : Int} (hl : (pm_alen a : Int) = len) (hi : pm_tI t pc = some (.aaload, 1)) (r : pm_R G t d (pc + 1, ls, .inr (.inr (10, N a i.toNat - 1)) :: st, n, N, M) T Z) : pm_R G t d (pc, ls, .inl i :: .inr (.inr (24, a)) :: st, n, N, M) (if (0 ≤ i ∧ i < len) ∧ N a i.toNat ≠ 0 then T else none) Z :=
  R_gd fun h => R_1 ho hi (by
    simp only [pm_st]; rw [if_pos trivial, hl, if_pos h.1]
    cases hz : N a i.toNat with
    | zero => exact absurd hz h.2
    | succ v => rfl) r
/-- the reference that changes -/
theorem R_getR (ho : pm_oG G t) {k ci f a rk : Nat} (hi : pm_tI t pc = some (.getfield k, 3)) (hf : pm_fd (pm_tO t) k = some (ci, f)) (hc : ci < 13 ∧ f < pm_nf ci) (hk : (pm_fk ci).getD f (0, 0) = (2, rk)) (r : pm_R G t d (pc + 3, ls, .inr (.inr (rk, (M a f - 1).toNat)) :: st, n, N, M) T Z) : pm_R G t d (pc, ls, .inr (.inr (ci, a)) :: st, n, N, M) (if M a f < 1 then none else T) Z :=
  R_gn fun h => R_1 ho hi (by simp only [pm_st]; rw [hf]; simp only; rw [if_pos ⟨trivial, hc.1, hc.2⟩, hk]; simp only [pm_fv]; rw [if_neg h]; rfl) r
theorem R_idiv (ho : pm_oG G t) {a b : Int} (hi : pm_tI t pc = some (.idiv, 1)) (r : pm_R G t d (pc + 1, ls, .inl (i_dv a b) :: st, n, N, M) T Z) : pm_R G t d (pc, ls, .inl b :: .inl a :: st, n, N, M) (if b = 0 then none else T) Z :=
  R_gn fun h => R_1 ho hi (by simp only [pm_st, pm_b2z]; rw [if_neg h]; rfl) r
theorem R_irem (ho : pm_oG G t) {a b : Int} (hi : pm_tI t pc = some (.irem, 1)) (r : pm_R G t d (pc + 1, ls, .inl (i_rm a b) :: st, n, N, M) T Z) : pm_R G t d (pc, ls, .inl b :: .inl a :: st, n, N, M) (if b = 0 then none else T) Z :=
  R_gn fun h => R_1 ho hi (by simp only [pm_st, pm_b2z]; rw [if_neg h]; rfl) r
theorem R_ldiv (ho : pm_oG G t) {a b : Int} (hi : pm_tI t pc = some (.ldiv, 1)) (r : pm_R G t d (pc + 1, ls, .inr (.inl (l_dv a b)) :: st, n, N, M) T Z) : pm_R G t d (pc, ls, .inr (.inl b) :: .inr (.inl a) :: st, n, N, M) (if b = 0 then none else T) Z :=
  R_gn fun h => R_1 ho hi (by simp only [pm_st]; rw [if_neg h]; rfl) r
theorem R_copy (ho : pm_oG G t) {k a b : Nat} {cnt dp sp la lb : Int} (hi : pm_tI t pc = some (.invokestatic k, 3)) (hk : pm_ac (pm_tO t) k = true) (hs : st.length ≤ 4) (hla : (pm_alen a : Int) = la) (hlb : (pm_alen b : Int) = lb) (r : pm_R G t d (pc + 3, ls, st, n, N, pm_cp M a b sp.toNat dp.toNat cnt.toNat) T Z) : pm_R G t d (pc, ls, .inl cnt :: .inl dp :: .inr (.inr (20, b)) :: .inl sp :: .inr (.inr (20, a)) :: st, n, N, M) (if (0 ≤ sp ∧ 0 ≤ dp ∧ 0 ≤ cnt) ∧ sp + cnt ≤ la ∧ dp + cnt ≤ lb then T else none) Z :=
  R_gd fun h => R_1 ho hi (by simp only [pm_st]; rw [if_pos ⟨hk, trivial, trivial, hs⟩, hla, hlb, if_pos h]; rfl) r
-- jumps: the branch that is taken first
theorem R_if {k : ClassFile.Cond} {off a : Int} {tgt : Nat} (ho : pm_oG G t) (hi : pm_tI t pc = some (.ifCond k off, 3)) (ht : (pc : Int) + off = (tgt : Int)) (r : pm_R G t d (pm_cnd k a 0 tgt (pc + 3), ls, st, n, N, M) T Z) : pm_R G t d (pc, ls, .inl a :: st, n, N, M) T Z :=
  R_1 ho hi (by simp only [pm_st]; rw [if_pos (by omega), show pm_to pc off = tgt by unfold pm_to; omega]; rfl) r
theorem R_ic {k : ClassFile.Cond} {off a b : Int} {tgt : Nat} (ho : pm_oG G t) (hi : pm_tI t pc = some (.if_icmp k off, 3)) (ht : (pc : Int) + off = (tgt : Int)) (r : pm_R G t d (pm_cnd k a b tgt (pc + 3), ls, st, n, N, M) T Z) : pm_R G t d (pc, ls, .inl b :: .inl a :: st, n, N, M) T Z :=
  R_1 ho hi (by simp only [pm_st]; rw [if_pos (by omega), show pm_to pc off = tgt by unfold pm_to; omega]; rfl) r
theorem R_lc {k : ClassFile.Cond} {off a b : Int} {tgt : Nat} (ho : pm_oG G t) (h0 : pm_tI t pc = some (.lcmp, 1)) (hi : pm_tI t (pc + 1) = some (.ifCond k off, 3)) (ht : ((pc + 1 : Nat) : Int) + off = (tgt : Int)) (r : pm_R G t d (pm_cnd k a b tgt (pc + 4), ls, st, n, N, M) T Z) : pm_R G t d (pc, ls, .inr (.inl b) :: .inr (.inl a) :: st, n, N, M) T Z := by
  refine R_1 ho h0 (q' := (pc + 1, ls, .inl (l_cm a b) :: st, n, N, M)) rfl (R_if ho hi ht ?_)
  have e1 : pm_cnd k (l_cm a b) 0 tgt (pc + 1 + 3) = pm_cnd k a b tgt (pc + 4) := by
    show pm_cnd k (l_cm a b) 0 tgt (pc + 4) = _
    unfold l_cm
    by_cases c1 : a < b
    · rw [if_pos c1]
      cases k <;> simp only [pm_cnd]
      · rw [if_neg (by omega), if_neg (by omega)]
      · rw [if_neg (by omega), if_neg (by omega)]
      · rw [if_pos (by omega), if_pos (by omega)]
      · rw [if_neg (by omega), if_neg (by omega)]
      · rw [if_neg (by omega), if_neg (by omega)]
      · rw [if_pos (by omega), if_pos (by omega)]
    · rw [if_neg c1]
      by_cases c2 : a = b
      · rw [if_pos c2]
        cases k <;> simp only [pm_cnd]
        · rw [if_pos trivial, if_pos (by omega)]
        · rw [if_pos trivial, if_pos (by omega)]
        · rw [if_neg (by omega), if_neg (by omega)]
        · rw [if_pos (by omega), if_pos (by omega)]
        · rw [if_neg (by omega), if_neg (by omega)]
        · rw [if_pos (by omega), if_pos (by omega)]
      · rw [if_neg c2]
        cases k <;> simp only [pm_cnd]
        · rw [if_neg (by omega), if_neg (by omega)]
        · rw [if_neg (by omega), if_neg (by omega)]
        · rw [if_neg (by omega), if_neg (by omega)]
        · rw [if_pos (by omega), if_pos (by omega)]
        · rw [if_pos (by omega), if_pos (by omega)]
        · rw [if_neg (by omega), if_neg (by omega)]
  rw [e1]; exact r
theorem R_eq {a b : Int} {x y : Nat} (r1 : pm_R G t d (x, ls, st, n, N, M) T1 Z) (r2 : pm_R G t d (y, ls, st, n, N, M) T2 Z) : pm_R G t d (pm_cnd .eq a b x y, ls, st, n, N, M) (if a = b then T1 else T2) Z := by
  by_cases h : a = b
  · rw [if_pos h, pm_cnd, if_pos h]; exact r1
  · rw [if_neg h, pm_cnd, if_neg h]; exact r2
theorem R_ne {a b : Int} {x y : Nat} (r1 : pm_R G t d (y, ls, st, n, N, M) T1 Z) (r2 : pm_R G t d (x, ls, st, n, N, M) T2 Z) : pm_R G t d (pm_cnd .ne a b x y, ls, st, n, N, M) (if a = b then T1 else T2) Z := by
  by_cases h : a = b
  · rw [if_pos h, pm_cnd, if_pos h]; exact r1
  · rw [if_neg h, pm_cnd, if_neg h]; exact r2
theorem R_lt {a b : Int} {x y : Nat} (r1 : pm_R G t d (x, ls, st, n, N, M) T1 Z) (r2 : pm_R G t d (y, ls, st, n, N, M) T2 Z) : pm_R G t d (pm_cnd .lt a b x y, ls, st, n, N, M) (if a < b then T1 else T2) Z := by
  by_cases h : a < b
  · rw [if_pos h, pm_cnd, if_pos h]; exact r1
  · rw [if_neg h, pm_cnd, if_neg h]; exact r2
theorem R_ge {a b : Int} {x y : Nat} (r1 : pm_R G t d (x, ls, st, n, N, M) T1 Z) (r2 : pm_R G t d (y, ls, st, n, N, M) T2 Z) : pm_R G t d (pm_cnd .ge a b x y, ls, st, n, N, M) (if b ≤ a then T1 else T2) Z := by
  by_cases h : b ≤ a
  · rw [if_pos h, pm_cnd, if_pos h]; exact r1
  · rw [if_neg h, pm_cnd, if_neg h]; exact r2
theorem R_gt {a b : Int} {x y : Nat} (r1 : pm_R G t d (x, ls, st, n, N, M) T1 Z) (r2 : pm_R G t d (y, ls, st, n, N, M) T2 Z) : pm_R G t d (pm_cnd .gt a b x y, ls, st, n, N, M) (if b < a then T1 else T2) Z := by
  by_cases h : b < a
  · rw [if_pos h, pm_cnd, if_pos h]; exact r1
  · rw [if_neg h, pm_cnd, if_neg h]; exact r2
theorem R_le {a b : Int} {x y : Nat} (r1 : pm_R G t d (x, ls, st, n, N, M) T1 Z) (r2 : pm_R G t d (y, ls, st, n, N, M) T2 Z) : pm_R G t d (pm_cnd .le a b x y, ls, st, n, N, M) (if a ≤ b then T1 else T2) Z := by
  by_cases h : a ≤ b
  · rw [if_pos h, pm_cnd, if_pos h]; exact r1
  · rw [if_neg h, pm_cnd, if_neg h]; exact r2
/-- a case of a switch: the number is known then -/
theorem R_cs {x k : Int} (f : Int → pm_Q) (r1 : pm_R G t d (f k) T1 Z) (r2 : x ≠ k → pm_R G t d (f x) T2 Z) : pm_R G t d (f x) (if x = k then T1 else T2) Z := by
  by_cases h : x = k
  · rw [if_pos h, h]; exact r1
  · rw [if_neg h]; exact r2 h
theorem R_swd {dd lo hi x : Int} {offs : Array Int} {len tgt : Nat} (ho : pm_oG G t) (hi1 : pm_tI t pc = some (.tableswitch dd lo hi offs, len)) (hx : x < lo ∨ hi < x) (ht : (pc : Int) + dd = (tgt : Int)) (hall : offs.all (fun o => 0 ≤ (pc : Int) + o) = true) (r : pm_R G t d (tgt, ls, st, n, N, M) T Z) : pm_R G t d (pc, ls, .inl x :: st, n, N, M) T Z :=
  R_1 ho hi1 (by
    have e1 : pm_sw pc dd lo hi offs x = some tgt := by unfold pm_sw; rw [if_pos hx]; unfold pm_to; congr 1; omega
    simp only [pm_st]; rw [e1]; simp only; rw [if_pos ⟨by omega, hall⟩]; rfl) r
theorem R_lkd {dd x : Int} {ps : Array (Int × Int)} {len tgt : Nat} (ho : pm_oG G t) (hi1 : pm_tI t pc = some (.lookupswitch dd ps, len)) (hx : Op.lookupswitch.offset ps.toList dd x = dd) (hs : (ps.toList.zip (ps.toList.drop 1)).all (fun (a, next) => a.1 < next.1) = true) (ht : (pc : Int) + dd = (tgt : Int)) (r : pm_R G t d (tgt, ls, st, n, N, M) T Z) : pm_R G t d (pc, ls, .inl x :: st, n, N, M) T Z :=
  R_1 ho hi1 (by simp only [pm_st]; rw [hx, if_pos ⟨hs, by omega⟩]; unfold pm_to; rw [show ((pc : Int) + dd).toNat = tgt by omega]; rfl) r
def pm_isT (c : Nat) : Prop := c = 40 ∨ c = 46 ∨ c = 52 ∨ c = 58
theorem pm_isT_tx {i : Int} (h : 0 ≤ i ∧ i < 4) : pm_isT (pm_tx i) := by
  rcases (show i = 0 ∨ i = 1 ∨ i = 2 ∨ i = 3 by omega) with rfl | rfl | rfl | rfl <;> (unfold pm_isT; decide)
theorem R_aaldT (ho : pm_oG G t) {i : Int} (hi : pm_tI t pc = some (.aaload, 1)) (r : pm_isT (pm_tx i) → pm_R G t d (pc + 1, ls, .inr (.inr (10, pm_tx i)) :: st, n, pm_RF, M) T Z) : pm_R G t d (pc, ls, .inl i :: .inr (.inr (24, 39)) :: st, n, pm_RF, M) (if 0 ≤ i ∧ i < 4 then T else none) Z :=
  R_gd fun h => R_1 ho hi (by
    simp only [pm_st]; rw [if_pos trivial, if_pos (by exact h)]
    rcases (show i = 0 ∨ i = 1 ∨ i = 2 ∨ i = 3 by omega) with rfl | rfl | rfl | rfl <;> rfl) (r (pm_isT_tx h))
def pm_isI (x : Int) : Prop := x = 41 ∨ x = 47 ∨ x = 53 ∨ x = 59
theorem pm_isT_I {x : Int} (h : pm_isI x) : pm_isT (x - 1).toNat := by
  rcases h with rfl | rfl | rfl | rfl <;> (unfold pm_isT; decide)
theorem R_getI (ho : pm_oG G t) {k : Nat} (hi : pm_tI t pc = some (.getfield k, 3)) (hf : pm_fd (pm_tO t) k = some (7, 1)) (r : pm_isT (M 66 1 - 1).toNat → pm_R G t d (pc + 3, ls, .inr (.inr (10, (M 66 1 - 1).toNat)) :: st, n, N, M) T Z) : pm_R G t d (pc, ls, .inr (.inr (7, 66)) :: st, n, N, M) (if M 66 1 = 41 ∨ M 66 1 = 47 ∨ M 66 1 = 53 ∨ M 66 1 = 59 then T else none) Z :=
  R_gd fun h => R_1 ho hi (by
    simp only [pm_st]; rw [hf]; simp only; rw [if_pos ⟨trivial, by decide, by decide⟩]
    show (match pm_fv (2, 10) 66 1 N M with | some v => pm_nx (pc + 3) ls (v :: st) n N M | none => none) = _
    simp only [pm_fv]; rw [if_neg (by rcases h with h | h | h | h <;> omega)]; rfl) (r (pm_isT_I h))
/-- a text's own rows -/
theorem R_getT (ho : pm_oG G t) {k a f c : Nat} (hi : pm_tI t pc = some (.getfield k, 3)) (hf : pm_fd (pm_tO t) k = some (10, f)) (hf5 : f < 5) (ha : pm_isT a) (hc : c = a + 1 + f) (r : pm_R G t d (pc + 3, ls, .inr (.inr (20, c)) :: st, n, pm_RF, M) T Z) : pm_R G t d (pc, ls, .inr (.inr (10, a)) :: st, n, pm_RF, M) T Z :=
  R_1 ho hi (by
    subst hc
    simp only [pm_st]; rw [hf]
    rcases (show f = 0 ∨ f = 1 ∨ f = 2 ∨ f = 3 ∨ f = 4 by omega) with rfl | rfl | rfl | rfl | rfl <;> rcases ha with rfl | rfl | rfl | rfl <;> rfl) r
theorem pm_lnT {a : Nat} (f : Nat) {l : Int} (ha : pm_isT a) (h : (f < 3 ∧ l = 24) ∨ (f = 3 ∧ l = 5) ∨ (f = 4 ∧ l = 300)) : (pm_alen (a + 1 + f) : Int) = l := by
  rcases (show (f = 0 ∧ l = 24) ∨ (f = 1 ∧ l = 24) ∨ (f = 2 ∧ l = 24) ∨ (f = 3 ∧ l = 5) ∨ (f = 4 ∧ l = 300) by omega) with ⟨rfl, rfl⟩ | ⟨rfl, rfl⟩ | ⟨rfl, rfl⟩ | ⟨rfl, rfl⟩ | ⟨rfl, rfl⟩ <;> rcases ha with rfl | rfl | rfl | rfl <;> rfl
theorem R_alen (ho : pm_oG G t) {a : Nat} {len : Int} (hl : (pm_alen a : Int) = len) (hi : pm_tI t pc = some (.arraylength, 1)) (r : pm_R G t d (pc + 1, ls, .inl len :: st, n, N, M) T Z) : pm_R G t d (pc, ls, .inr (.inr (20, a)) :: st, n, N, M) T Z :=
  R_1 ho hi (by simp only [pm_st]; rw [if_neg (by omega), if_pos (by omega), hl]; rfl) r
/-- a number gets a name -/
theorem R_nx {v : Int} {K : Int → Option α} (f : Int → pm_Q) (r : ∀ x, pm_R G t d (f x) (K x) Z) : pm_R G t d (f v) (pm_bd v K) Z := r v
/-- fewer locals, in another order -/
def pm_pk (ls : pm_L) : List Nat → Option pm_L
  | [] => some []
  | k :: ks => match pm_get ls k with
    | some v => match pm_pk ls ks with
      | some r => some ((k, v) :: r)
      | none => none
    | none => none
theorem pm_pk_sub {ls : pm_L} : ∀ {ks : List Nat} {r : pm_L}, pm_pk ls ks = some r → ∀ q ∈ r, q ∈ ls
  | [], r, h, q, hq => by simp only [pm_pk, Option.some.injEq] at h; subst h; cases hq
  | k :: ks, r, h, q, hq => by
    simp only [pm_pk] at h
    split at h
    · rename_i v hv
      split at h
      · rename_i r' hr
        cases h
        rcases List.mem_cons.mp hq with rfl | hq
        · exact pm_get_mem hv
        · exact pm_pk_sub hr q hq
      · cases h
    · cases h
theorem R_pk {ls' : pm_L} (ks : List Nat) (h : pm_pk ls ks = some ls') (r : pm_R G t d (pc, ls', st, n, N, M) T Z) : pm_R G t d (pc, ls, st, n, N, M) T Z := by
  have hs := pm_pk_sub h
  refine R_re (pm_re_pure (fun q hq => Or.inl (hs q hq)) (fun _ h2 _ _ => h2) ?_) r
  intro p e R s m args below meth c H locs cells slots Q A ad lsr hS hF hX hD kk
  obtain ⟨d1, d2, d3, d4, d5, d6⟩ := hD
  refine kk lsr ⟨d6.1, d6.2.1, fun q hq => ?_⟩
  obtain ⟨z, hz, rfl⟩ := List.mem_map.mp hq
  exact d6.2.2 _ (List.mem_map.mpr ⟨z, hs z hz, rfl⟩)
-- calls
theorem R_rt {g : β → Option pm_V × Nat × pm_N × pm_M} {C : Option β} {vs : List pm_V} (hc : pm_R G tc dc (0, pm_ag 0 vs, [], n, N, M) C (pm_Zr tc g)) {y : β} (hy : C = some y) : pm_rt G tc dc vs n N M (g y).1 (g y).2.1 (g y).2.2.1 (g y).2.2.2 := by
  obtain ⟨q1, ⟨pc1, ls1, h1, h2, h3⟩, h4⟩ := hc y hy
  subst h1
  exact ⟨pc1, ls1, h2, h3, h4⟩
def pm_mV (tc : pm_T) (na : Nat) : Prop := pm_oA tc ∧ pm_mw tc na ∧ Cond.instanceMethod (pm_tY tc) ∈ pm_gw ∧ Cond.selects (pm_tY tc).cls (pm_tY tc) (pm_tY tc) ∈ pm_gw ∧ pm_tO tc < 13
def pm_mS (tc : pm_T) (na : Nat) : Prop := pm_oA tc ∧ pm_mw tc na ∧ Cond.static (pm_tY tc) ∈ pm_gw
def pm_mI (tc : pm_T) (na : Nat) : Prop := pm_oA tc ∧ pm_mw tc na ∧ Cond.instanceMethod (pm_tY tc) ∈ pm_gw ∧ (pm_tY tc).name = "<init>" ∧ pm_tR tc = none
def pm_lk (o idx : Nat) (tc : pm_T) : Prop := Cond.methodLink (pm_cn o) idx (pm_tY tc) ∈ pm_gw
theorem R_callV {g : β → Option pm_V × Nat × pm_N × pm_M} {C : Option β} {K : β → Option α} {As st0 : List pm_V} {idx na a kd : Nat} (ho : pm_oG G t) (hm : pm_mV tc na) (hlk : pm_lk (pm_tO t) idx tc) (hi : pm_tI t pc = some (.invokevirtual idx, 3)) (hs : As.reverse ++ .inr (.inr (kd, a)) :: st = st0) (hkd : kd = pm_tO tc) (hL : pm_wd (.inr (.inr (kd, a)) :: As) ≤ pm_tL tc) (hna : As.length = na) (hd : dc < d) (hw : pm_wd st ≤ 8)
    (hc : pm_R G tc dc (0, pm_ag 0 (.inr (.inr (kd, a)) :: As), [], n, N, M) C (pm_Zr tc g)) (k : ∀ y, pm_R G t d (pc + 3, ls, (g y).1.toList ++ st, (g y).2.1, (g y).2.2.1, (g y).2.2.2) (K y) Z) : pm_R G t d (pc, ls, st0, n, N, M) (C.bind K) Z := fun y hy => by
  obtain ⟨b, hb, hk⟩ := Option.bind_eq_some_iff.mp hy
  obtain ⟨q2, h3, h4⟩ := k b y hk
  subst hs
  exact ⟨q2, h3, pm_re_trans (pm_callV ho.1 hm.1.1 hm.2.1 hm.1.2.2 hi hlk hm.2.2.1 hm.2.2.2.1 hkd (by rw [hkd]; exact hm.2.2.2.2) hL hna hd hw (R_rt hc hb)) h4⟩
theorem R_callS {g : β → Option pm_V × Nat × pm_N × pm_M} {C : Option β} {K : β → Option α} {As st0 : List pm_V} {idx na : Nat} (ho : pm_oG G t) (hm : pm_mS tc na) (hlk : pm_lk (pm_tO t) idx tc) (hi : pm_tI t pc = some (.invokestatic idx, 3)) (hs : As.reverse ++ st = st0) (hL : pm_wd As ≤ pm_tL tc) (hna : As.length = na) (hd : dc < d) (hw : pm_wd st ≤ 8)
    (hc : pm_R G tc dc (0, pm_ag 0 As, [], n, N, M) C (pm_Zr tc g)) (k : ∀ y, pm_R G t d (pc + 3, ls, (g y).1.toList ++ st, (g y).2.1, (g y).2.2.1, (g y).2.2.2) (K y) Z) : pm_R G t d (pc, ls, st0, n, N, M) (C.bind K) Z := fun y hy => by
  obtain ⟨b, hb, hk⟩ := Option.bind_eq_some_iff.mp hy
  obtain ⟨q2, h3, h4⟩ := k b y hk
  subst hs
  exact ⟨q2, h3, pm_re_trans (pm_callS ho.1 hm.1.1 hm.2.1 hm.1.2.2 hi hlk hm.2.2 hL hna hd hw (R_rt hc hb)) h4⟩
theorem R_callI {g : β → Option pm_V × Nat × pm_N × pm_M} {C : Option β} {K : β → Option α} {As st0 : List pm_V} {idx na a kd : Nat} (ho : pm_oG G t) (hm : pm_mI tc na) (hlk : pm_lk (pm_tO t) idx tc ∨ (.methodLinkNest (pm_cn (pm_tO t)) idx (pm_tY tc) "StatuesWhoOwe" : Cond) ∈ pm_nw) (hi : pm_tI t pc = some (.invokespecial idx, 3)) (hs : As.reverse ++ .inr (.inr (kd, a)) :: st = st0) (hk25 : kd < 25) (hL : pm_wd (.inr (.inr (kd, a)) :: As) ≤ pm_tL tc) (hna : As.length = na) (hd : dc < d) (hw : pm_wd st ≤ 8)
    (hc : pm_R G tc dc (0, pm_ag 0 (.inr (.inr (kd, a)) :: As), [], n, N, M) C (pm_Zr tc g)) (k : ∀ y, pm_R G t d (pc + 3, ls, (g y).1.toList ++ st, (g y).2.1, (g y).2.2.1, (g y).2.2.2) (K y) Z) : pm_R G t d (pc, ls, st0, n, N, M) (C.bind K) Z := fun y hy => by
  obtain ⟨b, hb, hk⟩ := Option.bind_eq_some_iff.mp hy
  obtain ⟨q2, h3, h4⟩ := k b y hk
  subst hs
  exact ⟨q2, h3, pm_re_trans (pm_callI ho.1 hm.1.1 hm.2.1 hm.1.2.2 hi hlk hm.2.2.1 hm.2.2.2.1 hm.2.2.2.2 hk25 hL hna hd hw (R_rt hc hb)) h4⟩
end
