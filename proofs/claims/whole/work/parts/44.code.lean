/-! THE CODE OF A LAW: its types, what it tells -/
def oc (c : Int × Int) : Int :=
  if c.1 = 400 then c.2 else if c.1 = 401 then 10014 + c.2 else if c.1 = 402 then 10040 else if c.1 = 405 then 10013 else if c.1 = 406 then 10012 else if c.1 = 407 then 10011 else if c.1 = 60 then 10024 else if c.1 = 62 then 10025 else if c.1 = 61 then 10026 else if c.1 = 35 then 10027 else if c.1 = 43 then 10028 else if c.1 = 45 then 10029 else if c.1 = 42 then 10030 else if c.1 = 47 then 10031 else if c.1 = 300 then 10035 else 10036
def isA (o : Int) : Prop := o = 43 ∨ o = 45 ∨ o = 42 ∨ o = 47
def isC (o : Int) : Prop := o = 60 ∨ o = 62 ∨ o = 61 ∨ o = 35 ∨ o = 300 ∨ o = 301
def isB (o : Int) : Prop := o = 406 ∨ o = 407
/-- one order of the code, by types: true says a question -/
def tr (L : Int) (c : Int × Int) (s s' : List Bool) : Prop := s'.length ≤ 40 ∧
  ((c.1 = 400 ∧ (0 ≤ c.2 ∧ c.2 ≤ 9999) ∧ s' = false :: s) ∨ (c.1 = 401 ∧ (0 ≤ c.2 ∧ c.2 ≤ 9) ∧ (L = 3 → c.2 ≤ 4) ∧ (L ≠ 3 → c.2 ≠ 4) ∧ s' = false :: s) ∨
   (c.1 = 402 ∧ ∃ r, s = false :: r ∧ s' = false :: r) ∨ (c.1 = 405 ∧ ∃ r, s = true :: r ∧ s' = true :: r) ∨
   (isA c.1 ∧ ∃ r, s = false :: false :: r ∧ s' = false :: r) ∨ (isC c.1 ∧ ∃ r, s = false :: false :: r ∧ s' = true :: r) ∨ (isB c.1 ∧ ∃ r, s = true :: true :: r ∧ s' = true :: r))
def trs (L : Int) : List (Int × Int) → List Bool → List Bool → Prop
  | [], s, s' => s' = s
  | c :: l, s, s' => ∃ m, tr L c s m ∧ trs L l m s'
theorem trs_app {L : Int} : ∀ (l1 l2 : List (Int × Int)) (s s' s'' : List Bool), trs L l1 s s' → trs L l2 s' s'' → trs L (l1 ++ l2) s s''
  | [], _, _, _, _, h1, h2 => by rw [trs] at h1; subst h1; exact h2
  | c :: l1, l2, s, s', s'', ⟨m, h1, h2⟩, h3 => ⟨m, h1, trs_app l1 l2 m s' s'' h2 h3⟩
def cl6 (v : Int) : Int := if v ≤ 1000000 then (if -1000000 ≤ v then v else -1000000) else 1000000
def op2 (o a b : Int) : Int :=
  if o = 43 then cl6 (a + b) else if o = 45 then cl6 (a - b) else if o = 42 then cl6 (a * b) else if o = 47 then (if b = 0 then 0 else a.tdiv b)
  else if o = 60 then (if a < b then 1 else 0) else if o = 62 then (if b < a then 1 else 0) else if o = 61 then (if a = b then 1 else 0) else if o = 35 then (if a = b then 0 else 1)
  else if o = 300 then (if a ≤ b then 1 else 0) else if o = 301 then (if b ≤ a then 1 else 0) else if o = 406 then a * b else (if 0 < a + b then 1 else 0)
def ev1 (nm : Nat → Int) (c : Int × Int) (vs : List Int) : List Int :=
  if c.1 = 400 then c.2 :: vs else if c.1 = 401 then nm c.2.toNat :: vs
  else if c.1 = 402 then (match vs with | v :: r => (-v) :: r | [] => []) else if c.1 = 405 then (match vs with | v :: r => (1 - v) :: r | [] => [])
  else (match vs with | b :: a :: r => op2 c.1 a b :: r | _ => [])
def evl (nm : Nat → Int) : List (Int × Int) → List Int → List Int
  | [], vs => vs
  | c :: l, vs => evl nm l (ev1 nm c vs)
def vt : List Bool → List Int → Prop
  | [], [] => True
  | b :: s, v :: vs => (b = true → v = 0 ∨ v = 1) ∧ (-1000000 ≤ v ∧ v ≤ 1000000) ∧ vt s vs
  | _, _ => False
theorem vt_len : ∀ (s : List Bool) (vs : List Int), vt s vs → vs.length = s.length
  | [], [], _ => rfl
  | _ :: s, _ :: vs, h => by rw [List.length_cons, List.length_cons, vt_len s vs h.2.2]
  | [], _ :: _, h => h.elim
  | _ :: _, [], h => h.elim
theorem cl6_b (v : Int) : -1000000 ≤ cl6 v ∧ cl6 v ≤ 1000000 := by
  unfold cl6
  split
  · split <;> omega
  · omega
theorem tdiv_b {a b : Int} (ha : -1000000 ≤ a ∧ a ≤ 1000000) : -1000000 ≤ a.tdiv b ∧ a.tdiv b ≤ 1000000 := by
  have h : (a.tdiv b).natAbs ≤ a.natAbs := by rw [Int.natAbs_tdiv]; exact Nat.div_le_self _ _
  omega
theorem mul01 {a b : Int} (ha : a = 0 ∨ a = 1) (hb : b = 0 ∨ b = 1) : a * b = 0 ∨ a * b = 1 := by
  rcases ha with rfl | rfl <;> rcases hb with rfl | rfl <;> decide
section
variable {L : Int} {nm : Nat → Int} {c : Int × Int} {s s' : List Bool} {vs : List Int}
/-- the kinds of an order, with what lies on the stack -/
theorem tr_cases (h : tr L c s s') (hv : vt s vs) :
    (c.1 = 400 ∧ (0 ≤ c.2 ∧ c.2 ≤ 9999) ∧ s' = false :: s) ∨ (c.1 = 401 ∧ (0 ≤ c.2 ∧ c.2 ≤ 9) ∧ (L = 3 → c.2 ≤ 4) ∧ (L ≠ 3 → c.2 ≠ 4) ∧ s' = false :: s) ∨
    (∃ v r t, vs = v :: r ∧ vt t r ∧ (-1000000 ≤ v ∧ v ≤ 1000000) ∧ ((c.1 = 402 ∧ s = false :: t ∧ s' = false :: t) ∨ (c.1 = 405 ∧ s = true :: t ∧ s' = true :: t ∧ (v = 0 ∨ v = 1)))) ∨
    (∃ a b r t, vs = b :: a :: r ∧ vt t r ∧ (-1000000 ≤ a ∧ a ≤ 1000000) ∧ (-1000000 ≤ b ∧ b ≤ 1000000) ∧ ((isA c.1 ∧ s = false :: false :: t ∧ s' = false :: t) ∨ (isC c.1 ∧ s = false :: false :: t ∧ s' = true :: t) ∨ (isB c.1 ∧ s = true :: true :: t ∧ s' = true :: t ∧ (a = 0 ∨ a = 1) ∧ (b = 0 ∨ b = 1)))) := by
  rcases h.2 with h | h | ⟨hk, r, hs, hs'⟩ | ⟨hk, r, hs, hs'⟩ | ⟨hk, r, hs, hs'⟩ | ⟨hk, r, hs, hs'⟩ | ⟨hk, r, hs, hs'⟩
  · exact Or.inl h
  · exact Or.inr (Or.inl h)
  · subst hs
    match vs, hv with
    | v :: q, hv => exact Or.inr (Or.inr (Or.inl ⟨v, q, r, rfl, hv.2.2, hv.2.1, Or.inl ⟨hk, rfl, hs'⟩⟩))
  · subst hs
    match vs, hv with
    | v :: q, hv => exact Or.inr (Or.inr (Or.inl ⟨v, q, r, rfl, hv.2.2, hv.2.1, Or.inr ⟨hk, rfl, hs', hv.1 rfl⟩⟩))
  · subst hs
    match vs, hv with
    | b :: a :: q, hv => exact Or.inr (Or.inr (Or.inr ⟨a, b, q, r, rfl, hv.2.2.2.2, hv.2.2.2.1, hv.2.1, Or.inl ⟨hk, rfl, hs'⟩⟩))
    | [_], hv => exact hv.2.2.elim
  · subst hs
    match vs, hv with
    | b :: a :: q, hv => exact Or.inr (Or.inr (Or.inr ⟨a, b, q, r, rfl, hv.2.2.2.2, hv.2.2.2.1, hv.2.1, Or.inr (Or.inl ⟨hk, rfl, hs'⟩)⟩))
    | [_], hv => exact hv.2.2.elim
  · subst hs
    match vs, hv with
    | b :: a :: q, hv => exact Or.inr (Or.inr (Or.inr ⟨a, b, q, r, rfl, hv.2.2.2.2, hv.2.2.2.1, hv.2.1, Or.inr (Or.inr ⟨hk, rfl, hs', hv.2.2.1 rfl, hv.1 rfl⟩)⟩))
    | [_], hv => exact hv.2.2.elim
theorem op2_A {o a b : Int} (h : isA o) (ha : -1000000 ≤ a ∧ a ≤ 1000000) : -1000000 ≤ op2 o a b ∧ op2 o a b ≤ 1000000 := by
  unfold op2
  rcases h with rfl | rfl | rfl | rfl
  · rw [if_pos rfl]; exact cl6_b _
  · rw [if_neg (by decide), if_pos rfl]; exact cl6_b _
  · rw [if_neg (by decide), if_neg (by decide), if_pos rfl]; exact cl6_b _
  · rw [if_neg (by decide), if_neg (by decide), if_neg (by decide), if_pos rfl]
    split
    · omega
    · exact tdiv_b ha
theorem op2_C {o a b : Int} (h : isC o) : op2 o a b = 0 ∨ op2 o a b = 1 := by
  unfold op2
  rcases h with rfl | rfl | rfl | rfl | rfl | rfl
  · rw [if_neg (by decide), if_neg (by decide), if_neg (by decide), if_neg (by decide), if_pos rfl]; split <;> omega
  · rw [if_neg (by decide), if_neg (by decide), if_neg (by decide), if_neg (by decide), if_neg (by decide), if_pos rfl]; split <;> omega
  · rw [if_neg (by decide), if_neg (by decide), if_neg (by decide), if_neg (by decide), if_neg (by decide), if_neg (by decide), if_pos rfl]; split <;> omega
  · rw [if_neg (by decide), if_neg (by decide), if_neg (by decide), if_neg (by decide), if_neg (by decide), if_neg (by decide), if_neg (by decide), if_pos rfl]; split <;> omega
  · rw [if_neg (by decide), if_neg (by decide), if_neg (by decide), if_neg (by decide), if_neg (by decide), if_neg (by decide), if_neg (by decide), if_neg (by decide), if_pos rfl]; split <;> omega
  · rw [if_neg (by decide), if_neg (by decide), if_neg (by decide), if_neg (by decide), if_neg (by decide), if_neg (by decide), if_neg (by decide), if_neg (by decide), if_neg (by decide), if_pos rfl]; split <;> omega
theorem op2_B {o a b : Int} (h : isB o) (ha : a = 0 ∨ a = 1) (hb : b = 0 ∨ b = 1) : op2 o a b = 0 ∨ op2 o a b = 1 := by
  rcases h with rfl | rfl <;> rcases ha with rfl | rfl <;> rcases hb with rfl | rfl <;> decide
theorem ev1_400 (h : c.1 = 400) : ev1 nm c vs = c.2 :: vs := by unfold ev1; rw [if_pos h]
theorem ev1_401 (h : c.1 = 401) : ev1 nm c vs = nm c.2.toNat :: vs := by unfold ev1; rw [if_neg (by omega), if_pos h]
theorem ev1_402 {v : Int} {r : List Int} (h : c.1 = 402) : ev1 nm c (v :: r) = (-v) :: r := by unfold ev1; rw [if_neg (by omega), if_neg (by omega), if_pos h]
theorem ev1_405 {v : Int} {r : List Int} (h : c.1 = 405) : ev1 nm c (v :: r) = (1 - v) :: r := by unfold ev1; rw [if_neg (by omega), if_neg (by omega), if_neg (by omega), if_pos h]
theorem ev1_2 {a b : Int} {r : List Int} (h : c.1 ≠ 400 ∧ c.1 ≠ 401 ∧ c.1 ≠ 402 ∧ c.1 ≠ 405) : ev1 nm c (b :: a :: r) = op2 c.1 a b :: r := by unfold ev1; rw [if_neg h.1, if_neg h.2.1, if_neg h.2.2.1, if_neg h.2.2.2]
theorem isA_n {o : Int} (h : isA o) : o ≠ 400 ∧ o ≠ 401 ∧ o ≠ 402 ∧ o ≠ 405 ∧ o ≠ 408 := by rcases h with h | h | h | h <;> omega
theorem isC_n {o : Int} (h : isC o) : o ≠ 400 ∧ o ≠ 401 ∧ o ≠ 402 ∧ o ≠ 405 ∧ o ≠ 408 := by rcases h with h | h | h | h | h | h <;> omega
theorem isB_n {o : Int} (h : isB o) : o ≠ 400 ∧ o ≠ 401 ∧ o ≠ 402 ∧ o ≠ 405 ∧ o ≠ 408 := by rcases h with h | h <;> omega
def nmW (L : Int) (nm : Nat → Int) : Prop := ∀ n, n ≤ 9 → (L = 3 → n ≤ 4) → (L ≠ 3 → n ≠ 4) → -1000000 ≤ nm n ∧ nm n ≤ 1000000
theorem ev1_vt (hn : nmW L nm) (h : tr L c s s') (hv : vt s vs) : vt s' (ev1 nm c vs) := by
  rcases tr_cases h hv with ⟨h1, h2, rfl⟩ | ⟨h1, h2, h3, h4, rfl⟩ | ⟨v, r, t, rfl, ht, hb, h5⟩ | ⟨a, b, r, t, rfl, ht, ha, hb, h5⟩
  · rw [ev1_400 h1]; exact ⟨(fun z => by cases z), by omega, hv⟩
  · rw [ev1_401 h1]; exact ⟨(fun z => by cases z), hn _ (by omega) (fun z => by have := h3 z; omega) (fun z => by have := h4 z; omega), hv⟩
  · rcases h5 with ⟨h1, _, rfl⟩ | ⟨h1, _, rfl, h01⟩
    · rw [ev1_402 h1]; exact ⟨(fun z => by cases z), by omega, ht⟩
    · rw [ev1_405 h1]; exact ⟨(fun _ => by omega), by omega, ht⟩
  · rcases h5 with ⟨h1, _, rfl⟩ | ⟨h1, _, rfl⟩ | ⟨h1, _, rfl, a01, b01⟩
    · have := isA_n h1
      rw [ev1_2 ⟨this.1, this.2.1, this.2.2.1, this.2.2.2.1⟩]; exact ⟨(fun z => by cases z), op2_A h1 ha, ht⟩
    · have := isC_n h1
      have h2 := op2_C (a := a) (b := b) h1
      rw [ev1_2 ⟨this.1, this.2.1, this.2.2.1, this.2.2.2.1⟩]; exact ⟨fun _ => h2, by omega, ht⟩
    · have := isB_n h1
      have h2 := op2_B h1 a01 b01
      rw [ev1_2 ⟨this.1, this.2.1, this.2.2.1, this.2.2.2.1⟩]; exact ⟨fun _ => h2, by omega, ht⟩
theorem evl_vt (hn : nmW L nm) : ∀ (l : List (Int × Int)) (s s' : List Bool) (vs : List Int), trs L l s s' → vt s vs → vt s' (evl nm l vs)
  | [], s, s', vs, h, hv => by rw [trs] at h; subst h; exact hv
  | c :: l, s, s', vs, ⟨m, h1, h2⟩, hv => evl_vt hn l m s' (ev1 nm c vs) h2 (ev1_vt hn h1 hv)
end
/-- a stack in a row -/
def stk (f : Nat → Int) : List Int → Prop
  | [] => True
  | v :: vs => f vs.length = v ∧ stk f vs
theorem stk_aS {f : Nat → Int} {k : Nat} {x : Int} : ∀ {vs : List Int}, stk f vs → vs.length ≤ k → stk (aS f k x) vs
  | [], _, _ => trivial
  | v :: vs, h, hk => by
    rw [List.length_cons] at hk
    refine ⟨?_, stk_aS h.2 (by omega)⟩
    rw [aSn, if_neg (by omega)]; exact h.1
theorem stk_push {f : Nat → Int} {x : Int} {vs : List Int} (h : stk f vs) : stk (aS f vs.length x) (x :: vs) := ⟨by rw [aSn, if_pos rfl], stk_aS h (Nat.le_refl _)⟩
-- both sides' joined
theorem cl6_J (v : Int) (M : pm_M) : f_Judge_joined_J253 v M = some (cl6 v) := by
  unfold f_Judge_joined_J253 cl6
  by_cases h1 : v ≤ 1000000
  · rw [if_pos h1, if_pos h1]
    by_cases h2 : -1000000 ≤ v
    · rw [if_pos h2, if_pos h2, l_2i_eq (by omega)]
    · rw [if_neg h2, if_neg h2]
  · rw [if_neg h1, if_neg h1]
theorem cl6_Q (v : Int) (M : pm_M) : f_Q_bound v M = some (cl6 v) := by
  unfold f_Q_bound cl6
  by_cases h1 : v ≤ 1000000
  · rw [if_pos h1, if_pos h1]
    by_cases h2 : -1000000 ≤ v
    · rw [if_pos h2, if_pos h2]
    · rw [if_neg h2, if_neg h2]
  · rw [if_neg h1, if_neg h1]
theorem cl6_s {v : Int} (h : -1000000 ≤ v ∧ v ≤ 1000000) : cl6 v = v := by unfold cl6; rw [if_pos h.2, if_pos h.1]
theorem mul_b {a b : Int} (ha : -1000000 ≤ a ∧ a ≤ 1000000) (hb : -1000000 ≤ b ∧ b ≤ 1000000) : -1000000000000 ≤ a * b ∧ a * b ≤ 1000000000000 := by
  have h : (a * b).natAbs ≤ 1000000 * 1000000 := by rw [Int.natAbs_mul]; exact Nat.mul_le_mul (by omega) (by omega)
  omega
theorem i_dv_t {a b : Int} (ha : -1000000 ≤ a ∧ a ≤ 1000000) (hb : -1000000 ≤ b ∧ b ≤ 1000000) : i_dv a b = a.tdiv b := by
  unfold i_dv
  rw [Int32.toInt_div, e32 (a := a) ⟨by omega, by omega⟩, e32 (a := b) ⟨by omega, by omega⟩]
  have := tdiv_b (b := b) ha
  exact bm_eq ⟨by omega, by omega⟩
theorem l_dv_t {a b : Int} (ha : -1000000 ≤ a ∧ a ≤ 1000000) (hb : -1000000 ≤ b ∧ b ≤ 1000000) : l_dv a b = a.tdiv b := by
  unfold l_dv
  rw [Int64.toInt_div, e64 (a := a) ⟨by omega, by omega⟩, e64 (a := b) ⟨by omega, by omega⟩]
  have := tdiv_b (b := b) ha
  exact bm64 ⟨by omega, by omega⟩
theorem x_joined {o a b v : Int} {M : pm_M} (h : isA o ∨ isC o ∨ (isB o ∧ (a = 0 ∨ a = 1) ∧ (b = 0 ∨ b = 1))) (ha : -1000000 ≤ a ∧ a ≤ 1000000) (hb : -1000000 ≤ b ∧ b ≤ 1000000) : f_Judge_joined (oc (o, v) - 10000) a b M = some (op2 o a b) := by
  have hm := mul_b ha hb
  rcases h with h | h | ⟨h, a01, b01⟩
  · rcases h with rfl | rfl | rfl | rfl
    · show f_Judge_joined 28 a b M = _
      simp only [f_Judge_joined, if_neg (show ¬ ((28 : Int) = 11) by decide), if_neg (show ¬ ((28 : Int) = 12) by decide), if_neg (show ¬ ((28 : Int) = 13) by decide), if_neg (show ¬ ((28 : Int) = 14) by decide), if_neg (show ¬ ((28 : Int) = 15) by decide), if_neg (show ¬ ((28 : Int) = 16) by decide), if_neg (show ¬ ((28 : Int) = 17) by decide), if_neg (show ¬ ((28 : Int) = 18) by decide), if_neg (show ¬ ((28 : Int) = 19) by decide), if_neg (show ¬ ((28 : Int) = 20) by decide), if_neg (show ¬ ((28 : Int) = 21) by decide), if_neg (show ¬ ((28 : Int) = 22) by decide), if_neg (show ¬ ((28 : Int) = 23) by decide), if_neg (show ¬ ((28 : Int) = 24) by decide), if_neg (show ¬ ((28 : Int) = 25) by decide), if_neg (show ¬ ((28 : Int) = 26) by decide), if_neg (show ¬ ((28 : Int) = 27) by decide), if_pos]
      rw [l_ad_eq (by omega), cl6_J]; rfl
    · show f_Judge_joined 29 a b M = _
      have e : f_Judge_joined 29 a b M = f_Judge_joined_J253 (l_sb a b) M := rfl
      rw [e, l_sb_eq (by omega), cl6_J]; rfl
    · have e : f_Judge_joined (oc (42, v) - 10000) a b M = f_Judge_joined_J253 (l_ml a b) M := rfl
      rw [e, l_ml_eq (by omega), cl6_J]; rfl
    · have e : f_Judge_joined (oc (47, v) - 10000) a b M = if b = 0 then f_Judge_joined_J253 0 M else if b = 0 then none else f_Judge_joined_J253 (i_dv a b) M := rfl
      have e2 : op2 47 a b = if b = 0 then 0 else a.tdiv b := rfl
      rw [e, e2]
      by_cases h0 : b = 0
      · rw [if_pos h0, if_pos h0]; rfl
      · rw [if_neg h0, if_neg h0, if_neg h0, cl6_J, i_dv_t ha hb, cl6_s (tdiv_b ha)]
  · rcases h with rfl | rfl | rfl | rfl | rfl | rfl
    · have e : f_Judge_joined (oc (60, v) - 10000) a b M = if b ≤ a then f_Judge_joined_J253 0 M else f_Judge_joined_J253 1 M := rfl
      have e2 : op2 60 a b = if a < b then 1 else 0 := rfl
      rw [e, e2]
      by_cases h0 : b ≤ a
      · rw [if_pos h0, if_neg (by omega)]; rfl
      · rw [if_neg h0, if_pos (by omega)]; rfl
    · have e : f_Judge_joined (oc (62, v) - 10000) a b M = if a ≤ b then f_Judge_joined_J253 0 M else f_Judge_joined_J253 1 M := rfl
      have e2 : op2 62 a b = if b < a then 1 else 0 := rfl
      rw [e, e2]
      by_cases h0 : a ≤ b
      · rw [if_pos h0, if_neg (by omega)]; rfl
      · rw [if_neg h0, if_pos (by omega)]; rfl
    · have e : f_Judge_joined (oc (61, v) - 10000) a b M = if a = b then f_Judge_joined_J253 1 M else f_Judge_joined_J253 0 M := rfl
      have e2 : op2 61 a b = if a = b then 1 else 0 := rfl
      rw [e, e2]
      by_cases h0 : a = b
      · rw [if_pos h0, if_pos h0]; rfl
      · rw [if_neg h0, if_neg h0]; rfl
    · have e : f_Judge_joined (oc (35, v) - 10000) a b M = if a = b then f_Judge_joined_J253 0 M else f_Judge_joined_J253 1 M := rfl
      have e2 : op2 35 a b = if a = b then 0 else 1 := rfl
      rw [e, e2]
      by_cases h0 : a = b
      · rw [if_pos h0, if_pos h0]; rfl
      · rw [if_neg h0, if_neg h0]; rfl
    · have e : f_Judge_joined (oc (300, v) - 10000) a b M = if b < a then f_Judge_joined_J253 0 M else f_Judge_joined_J253 1 M := rfl
      have e2 : op2 300 a b = if a ≤ b then 1 else 0 := rfl
      rw [e, e2]
      by_cases h0 : b < a
      · rw [if_pos h0, if_neg (by omega)]; rfl
      · rw [if_neg h0, if_pos (by omega)]; rfl
    · have e : f_Judge_joined (oc (301, v) - 10000) a b M = if a < b then f_Judge_joined_J253 0 M else f_Judge_joined_J253 1 M := rfl
      have e2 : op2 301 a b = if b ≤ a then 1 else 0 := rfl
      rw [e, e2]
      by_cases h0 : a < b
      · rw [if_pos h0, if_neg (by omega)]; rfl
      · rw [if_neg h0, if_pos (by omega)]; rfl
  · rcases h with rfl | rfl <;> rcases a01 with rfl | rfl <;> rcases b01 with rfl | rfl <;> rfl
theorem q_worked {o a b : Int} {M : pm_M} (h : isA o ∨ isC o ∨ (isB o ∧ (a = 0 ∨ a = 1) ∧ (b = 0 ∨ b = 1))) (ha : -1000000 ≤ a ∧ a ≤ 1000000) (hb : -1000000 ≤ b ∧ b ≤ 1000000) : f_Q_worked o a b M = some (op2 o a b) := by
  have hm := mul_b ha hb
  rcases h with h | h | ⟨h, a01, b01⟩
  · rcases h with rfl | rfl | rfl | rfl
    · have e : f_Q_worked 43 a b M = (f_Q_bound (l_ad a b) M).bind fun r => some r := rfl
      rw [e, l_ad_eq (by omega), cl6_Q]; rfl
    · have e : f_Q_worked 45 a b M = (f_Q_bound (l_sb a b) M).bind fun r => some r := rfl
      rw [e, l_sb_eq (by omega), cl6_Q]; rfl
    · have e : f_Q_worked 42 a b M = (f_Q_bound (l_ml a b) M).bind fun r => some r := rfl
      rw [e, l_ml_eq (by omega), cl6_Q]; rfl
    · have e : f_Q_worked 47 a b M = if b = 0 then some 0 else if b = 0 then none else some (l_dv a b) := rfl
      have e2 : op2 47 a b = if b = 0 then 0 else a.tdiv b := rfl
      rw [e, e2]
      by_cases h0 : b = 0
      · rw [if_pos h0, if_pos h0]
      · rw [if_neg h0, if_neg h0, if_neg h0, l_dv_t ha hb]
  · rcases h with rfl | rfl | rfl | rfl | rfl | rfl
    · have e : f_Q_worked 60 a b M = if b ≤ a then some 0 else some 1 := rfl
      have e2 : op2 60 a b = if a < b then 1 else 0 := rfl
      rw [e, e2]
      by_cases h0 : b ≤ a
      · rw [if_pos h0, if_neg (by omega)]
      · rw [if_neg h0, if_pos (by omega)]
    · have e : f_Q_worked 62 a b M = if a ≤ b then some 0 else some 1 := rfl
      have e2 : op2 62 a b = if b < a then 1 else 0 := rfl
      rw [e, e2]
      by_cases h0 : a ≤ b
      · rw [if_pos h0, if_neg (by omega)]
      · rw [if_neg h0, if_pos (by omega)]
    · have e : f_Q_worked 61 a b M = if a = b then some 1 else some 0 := rfl
      have e2 : op2 61 a b = if a = b then 1 else 0 := rfl
      rw [e, e2]
      by_cases h0 : a = b
      · rw [if_pos h0, if_pos h0]
      · rw [if_neg h0, if_neg h0]
    · have e : f_Q_worked 35 a b M = if a = b then some 0 else some 1 := rfl
      have e2 : op2 35 a b = if a = b then 0 else 1 := rfl
      rw [e, e2]
      by_cases h0 : a = b
      · rw [if_pos h0, if_pos h0]
      · rw [if_neg h0, if_neg h0]
    · have e : f_Q_worked 300 a b M = if b < a then some 0 else some 1 := rfl
      have e2 : op2 300 a b = if a ≤ b then 1 else 0 := rfl
      rw [e, e2]
      by_cases h0 : b < a
      · rw [if_pos h0, if_neg (by omega)]
      · rw [if_neg h0, if_pos (by omega)]
    · have e : f_Q_worked 301 a b M = if a < b then some 0 else some 1 := rfl
      have e2 : op2 301 a b = if b ≤ a then 1 else 0 := rfl
      rw [e, e2]
      by_cases h0 : a < b
      · rw [if_pos h0, if_neg (by omega)]
      · rw [if_neg h0, if_pos (by omega)]
  · rcases h with rfl | rfl <;> rcases a01 with rfl | rfl <;> rcases b01 with rfl | rfl <;> rfl
