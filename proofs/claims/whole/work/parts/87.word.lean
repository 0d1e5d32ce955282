/-! WORDS of a text: the class's scan of its list, the reference's packed letters -/
section
variable {M : pm_M}
def tc (M : pm_M) (j : Nat) : Int := if M 37 1 ≤ (j : Int) then -1 else M 38 j
theorem x_tape {N j : Nat} (hN : M 37 1 = N) (h3 : N ≤ 300) : f_Tape_at j M = some (tc M j) := by
  unfold f_Tape_at tc
  rw [if_neg (by omega)]
  by_cases h : M 37 1 ≤ (j : Int)
  · rw [if_pos h, if_pos h]
  · rw [if_neg h, if_neg h, if_pos (by omega), tn_nat]
def lt (f : Nat → Int) : Nat → Nat → List Int
  | _, 0 => []
  | p, n + 1 => f p :: lt f (p + 1) n
def mt (f : Nat → Int) : Nat → List Int → Nat
  | _, [] => 0
  | p, c :: v => (if c = f p then 1 else 0) + mt f (p + 1) v
theorem mt_le (f : Nat → Int) : ∀ (v : List Int) (p : Nat), mt f p v ≤ v.length
  | [], _ => Nat.le_refl _
  | c :: v, p => by
    have := mt_le f v (p + 1)
    show (if c = f p then 1 else 0) + mt f (p + 1) v ≤ v.length + 1
    split <;> omega
theorem mt_all (f : Nat → Int) : ∀ (v : List Int) (p : Nat), mt f p v = v.length ↔ v = lt f p v.length
  | [], _ => ⟨fun _ => rfl, fun _ => rfl⟩
  | c :: v, p => by
    have h1 := mt_le f v (p + 1)
    have h2 := mt_all f v (p + 1)
    show ((if c = f p then 1 else 0) + mt f (p + 1) v = v.length + 1) ↔ c :: v = f p :: lt f (p + 1) v.length
    by_cases hc : c = f p
    · rw [if_pos hc]
      constructor
      · intro h
        rw [← h2.mp (by omega), ← hc]
      · intro h
        have := h2.mpr (List.cons.inj h).2
        omega
    · rw [if_neg hc]
      constructor
      · intro h; omega
      · intro h; exact absurd (List.cons.inj h).1 hc
theorem lt_len (f : Nat → Int) : ∀ (n p : Nat), (lt f p n).length = n
  | 0, _ => rfl
  | n + 1, p => congrArg (· + 1) (lt_len f n (p + 1))
theorem mt_tok (f : Nat → Int) (v : List Int) (p n : Nat) : (mt f p v = v.length ∧ mt f p v = n) ↔ v = lt f p n := by
  constructor
  · intro h
    have h1 := (mt_all f v p).mp h.1
    rw [show n = v.length by omega]
    exact h1
  · intro h
    have h0 : v.length = n := by rw [h, lt_len]
    have h1 := (mt_all f v p).mpr (by rw [h0]; exact h)
    exact ⟨h1, by omega⟩
theorem x_chr_at {pre rest : List Int} {c : Int} (h : x_byt 0 = pre ++ (c :: rest)) : x_chr 0 (pre.length : Nat) = some c := by
  unfold x_chr
  rw [h]
  rw [if_pos (by rw [List.length_append, List.length_cons]; omega), tn_nat]
  rw [List.getD_eq_getElem?_getD, List.getElem?_append_right (Nat.le_refl _), Nat.sub_self]
  rfl
/-- one word of the list -/
theorem x_wd1 {p N : Nat} (h3 : M 66 3 = 39) (h5 : M 66 5 = p) (hN : M 37 1 = N) (hN3 : N ≤ 300) (hp : p ≤ 300) : ∀ (v pre rest : List Int) (n s d y2 w : Nat), x_byt 0 = pre ++ (v ++ 32 :: rest) → (∀ c ∈ v, c ≠ 32) → pre.length = s + d → y2 ≤ d → w ≤ 300 →
    f_Reader_word_L59 (n + v.length + 1) w y2 s pre.length M = f_Reader_word_L59 n (w + 1 : Nat) 0 (pre.length + v.length + 1 : Nat) (pre.length + v.length + 1 : Nat) (if y2 + mt (tc M) (p + d) v = d + v.length ∧ ((y2 + mt (tc M) (p + d) v : Nat) : Int) = i_sb (M 66 6) (M 66 5) then pm_ms M 66 3 w else M) := by
  intro v
  induction v with
  | nil =>
    intro pre rest n s d y2 w hx hv hd hy hw
    have hl := congrArg List.length hx
    have hl2 : (x_byt 0).length = 120 := rfl
    rw [List.length_append, List.length_append, List.length_cons] at hl
    show f_Reader_word_L59 (n + 1) w y2 s pre.length M = _
    rw [f_Reader_word_L59]
    show (some ((x_byt 0).length : Int)).bind _ = _
    rw [ob, if_neg (by omega), if_pos h3, x_chr_at (c := 32) hx, ob, if_pos rfl, i_sb_eq (a := (pre.length : Int)) (by omega), i_ad_eq (a := (w : Int)) (by omega), i_ad_eq (a := (pre.length : Int)) (by omega)]
    show _ = f_Reader_word_L59 n (w + 1 : Nat) 0 (pre.length + 0 + 1 : Nat) (pre.length + 0 + 1 : Nat) (if y2 + 0 = d + 0 ∧ ((y2 + 0 : Nat) : Int) = i_sb (M 66 6) (M 66 5) then pm_ms M 66 3 w else M)
    by_cases h1 : (y2 : Int) = pre.length - s
    · rw [if_pos h1]
      by_cases h2 : (y2 : Int) = i_sb (M 66 6) (M 66 5)
      · rw [if_pos h2, if_pos ⟨by omega, h2⟩]; rfl
      · rw [if_neg h2, if_neg (fun z => h2 z.2)]; rfl
    · rw [if_neg h1, if_neg (fun z => h1 (by omega))]; rfl
  | cons c v ih =>
    intro pre rest n s d y2 w hx hv hd hy hw
    have hl := congrArg List.length hx
    have hl2 : (x_byt 0).length = 120 := rfl
    rw [List.length_append, List.length_append, List.length_cons, List.length_cons] at hl
    show f_Reader_word_L59 (n + v.length + 1 + 1) w y2 s pre.length M = _
    rw [f_Reader_word_L59]
    show (some ((x_byt 0).length : Int)).bind _ = _
    rw [ob, if_neg (by omega), if_pos h3, x_chr_at (c := c) hx, ob, if_neg (hv c (List.mem_cons_self ..)), h5, i_ad_eq (a := (p : Int)) (by omega), i_sb_eq (a := (p : Int) + pre.length) (by omega), show (p : Int) + (pre.length : Int) - (s : Int) = ((p + d : Nat) : Int) by omega, x_tape hN hN3, ob]
    have hx' : x_byt 0 = (pre ++ [c]) ++ (v ++ 32 :: rest) := by rw [hx, List.append_assoc]; rfl
    have hpl : (pre ++ [c]).length = pre.length + 1 := by rw [List.length_append]; rfl
    have hv' : ∀ a ∈ v, a ≠ 32 := fun a ha => hv a (List.mem_cons_of_mem _ ha)
    have e : (if c = tc M (p + d) then f_Reader_word_L59 (n + v.length + 1) w (i_ad y2 1) s (i_ad pre.length 1) M else f_Reader_word_L59 (n + v.length + 1) w (i_ad y2 0) s (i_ad pre.length 1) M) = f_Reader_word_L59 (n + v.length + 1) w ((y2 + (if c = tc M (p + d) then 1 else 0) : Nat) : Int) s (pre ++ [c]).length M := by
      rw [hpl, i_ad_eq (a := (pre.length : Int)) (by omega), i_ad_eq (a := (y2 : Int)) (by omega), i_ad_eq (a := (y2 : Int)) (by omega)]
      by_cases hc : c = tc M (p + d)
      · rw [if_pos hc, if_pos hc]; rfl
      · rw [if_neg hc, if_neg hc]; rfl
    rw [e, ih (pre ++ [c]) rest n s (d + 1) (y2 + (if c = tc M (p + d) then 1 else 0)) w hx' hv' (by omega) (by split <;> omega) hw, hpl]
    have e2 : y2 + (if c = tc M (p + d) then 1 else 0) + mt (tc M) (p + (d + 1)) v = y2 + mt (tc M) (p + d) (c :: v) := by
      show _ = y2 + ((if c = tc M (p + d) then 1 else 0) + mt (tc M) (p + d + 1) v)
      rw [Nat.add_assoc]
      rfl
    rw [e2, show pre.length + 1 + v.length + 1 = pre.length + (c :: v).length + 1 by rw [List.length_cons]; omega, show d + 1 + v.length = d + (c :: v).length by rw [List.length_cons]; omega, h5]
def wfl (ls : List Int) : List (List Int) → Nat → Int
  | [], _ => 39
  | u :: us, w => if u = ls then (w : Int) else wfl ls us (w + 1)
def wfd : List (List Int) → List Int
  | [] => []
  | u :: us => u ++ 32 :: wfd us
/-- the whole list -/
theorem x_wds {p N l : Nat} (h5 : M 66 5 = p) (h6 : M 66 6 = ((p + l : Nat) : Int)) (hN : M 37 1 = N) (hN3 : N ≤ 300) (hp : p + l ≤ 300) : ∀ (ws : List (List Int)) (pre : List Int) (n w : Nat), x_byt 0 = pre ++ wfd ws → (∀ u ∈ ws, ∀ c ∈ u, c ≠ 32) → w + ws.length ≤ 24 → M 66 3 = 39 → (wfd ws).length + 1 < n →
    ok (f_Reader_word_L59 n w 0 pre.length pre.length M) (fun M' => M' 66 3 = wfl (lt (tc M) p l) ws w ∧ (∀ k, k ≠ 3 → M' 66 k = M 66 k) ∧ fr [66] M M') := by
  intro ws
  induction ws with
  | nil =>
    intro pre n w hx hu hw h3 hn
    obtain ⟨n, rfl⟩ : ∃ k, n = k + 1 := ⟨n - 1, by omega⟩
    rw [f_Reader_word_L59]
    have hl := congrArg List.length hx
    rw [List.length_append] at hl
    show ok ((some ((x_byt 0).length : Int)).bind _) _
    rw [ob]
    refine ok_pos ?_ (ok_some ⟨h3, fun _ _ => rfl, fr_rf _ _⟩)
    rw [hl]
    show ((pre.length + 0 : Nat) : Int) ≤ _
    omega
  | cons u us ih =>
    intro pre n w hx hu hw h3 hn
    have hl : (wfd (u :: us)).length = u.length + ((wfd us).length + 1) := by
      show (u ++ 32 :: wfd us).length = _
      rw [List.length_append, List.length_cons]
    rw [List.length_cons] at hw
    obtain ⟨m, rfl⟩ : ∃ m, n = m + u.length + 1 := ⟨n - u.length - 1, by omega⟩
    have h := x_wd1 h3 h5 hN hN3 (by omega) u pre (wfd us) m pre.length 0 0 w hx (hu u (List.mem_cons_self ..)) rfl (Nat.le_refl _) (by omega)
    rw [show ((0 : Nat) : Int) = 0 from rfl] at h
    rw [h, Nat.zero_add, Nat.zero_add, Nat.add_zero p, h6, h5, i_sb_eq (by omega), show ((p + l : Nat) : Int) - (p : Int) = (l : Int) by omega]
    by_cases hm : u = lt (tc M) p l
    · have hm2 := (mt_tok (tc M) u p l).mpr hm
      rw [if_pos ⟨hm2.1, by omega⟩]
      obtain ⟨m, rfl⟩ : ∃ k, m = k + 1 := ⟨m - 1, by omega⟩
      have fin : ok (some (pm_ms M 66 3 (w : Int))) (fun M' => M' 66 3 = wfl (lt (tc M) p l) (u :: us) w ∧ (∀ k, k ≠ 3 → M' 66 k = M 66 k) ∧ fr [66] M M') := by
        refine ok_some ⟨?_, fun k hk => ms_nj M 66 3 _ hk, fr_ms (by decide)⟩
        rw [ms_at]
        show _ = if u = lt (tc M) p l then (w : Int) else _
        rw [if_pos hm]
      rw [f_Reader_word_L59]
      show ok ((some ((x_byt 0).length : Int)).bind _) _
      rw [ob]
      refine ok_ite (fun _ => fin) (fun _ => ok_neg ?_ fin)
      rw [ms_at]; omega
    · have hm2 : ¬ (mt (tc M) p u = u.length ∧ ((mt (tc M) p u : Nat) : Int) = l) := fun z => hm ((mt_tok (tc M) u p l).mp ⟨z.1, by omega⟩)
      rw [if_neg hm2]
      have hx' : x_byt 0 = (pre ++ (u ++ [32])) ++ wfd us := by
        rw [hx, List.append_assoc, List.append_assoc]; rfl
      have hpl : (pre ++ (u ++ [32])).length = pre.length + u.length + 1 := by rw [List.length_append, List.length_append]; rfl
      have := ih (pre ++ (u ++ [32])) m (w + 1) hx' (fun v hv => hu v (List.mem_cons_of_mem _ hv)) (by omega) h3 (by omega)
      rw [hpl] at this
      show ok _ (fun M' : pm_M => M' 66 3 = (if u = lt (tc M) p l then (w : Int) else wfl (lt (tc M) p l) us (w + 1)) ∧ _)
      rw [if_neg hm]
      exact this
def WL : List (List Int) := [[100, 117, 101], [112, 97, 121, 115], [98, 105, 114, 100, 115], [112, 114, 105, 99, 101], [102, 97, 108, 108, 115], [112, 117, 116], [111, 102, 102], [99, 104, 97, 110, 103, 101], [112, 97, 115, 115], [111, 110], [119, 105, 116, 104], [111, 114], [97, 110, 100], [110, 111, 116], [112, 108, 105, 110, 116, 104], [115, 104, 97, 100, 101], [118, 105, 101, 119], [100, 97, 121], [99, 108, 111, 115, 101], [104, 101, 97, 100], [102, 97, 109, 101], [110, 97, 109, 101], [114, 105, 103, 104, 116], [111, 119, 101, 115]]
def pk : List Int → Int → Int
  | [], a => a
  | c :: v, a => pk v (64 * a + c - 64)
def kfl (x : Int) : List (List Int) → Nat → Int
  | [], _ => -1
  | u :: us, w => if x = pk u 0 then (w : Int) else kfl x us (w + 1)
theorem if_kf {x y k w : Int} {T : Option Int} {b : Int} (hk : k = y) (h : T = some b) : (if x = k then some w else T) = some (if x = y then w else b) := by
  rw [hk, h]; split <;> rfl
theorem q_wordOf (x : Int) : f_Q_wordOf x M = some (kfl x WL 0) := by
  unfold f_Q_wordOf
  show _ = some (kfl x (_ :: _) 0)
  exact if_kf (by decide) (if_kf (by decide) (if_kf (by decide) (if_kf (by decide) (if_kf (by decide) (if_kf (by decide) (if_kf (by decide) (if_kf (by decide) (if_kf (by decide) (if_kf (by decide) (if_kf (by decide) (if_kf (by decide) (if_kf (by decide) (if_kf (by decide) (if_kf (by decide) (if_kf (by decide) (if_kf (by decide) (if_kf (by decide) (if_kf (by decide) (if_kf (by decide) (if_kf (by decide) (if_kf (by decide) (if_kf (by decide) (if_kf (by decide) (rfl))))))))))))))))))))))))
def lt6 (c : Int) : Prop := 65 ≤ c ∧ c ≤ 122
theorem pk_inj : ∀ (u v : List Int) (a : Int), 0 ≤ a → (∀ c ∈ u, lt6 c) → (∀ c ∈ v, lt6 c) → ∀ b : Int, 0 ≤ b → u.length = v.length → pk u a = pk v b → a = b ∧ u = v
  | [], [], a, ha, hu, hv, b, hb, hl, h => ⟨h, rfl⟩
  | [], _ :: _, _, _, _, _, _, _, hl, _ => by cases hl
  | _ :: _, [], _, _, _, _, _, _, hl, _ => by cases hl
  | c :: u, d :: v, a, ha, hu, hv, b, hb, hl, h => by
    have hc : 65 ≤ c ∧ c ≤ 122 := hu c (List.mem_cons_self ..)
    have hd : 65 ≤ d ∧ d ≤ 122 := hv d (List.mem_cons_self ..)
    have := pk_inj u v (64 * a + c - 64) (by omega) (fun e he => hu e (List.mem_cons_of_mem _ he)) (fun e he => hv e (List.mem_cons_of_mem _ he)) (64 * b + d - 64) (by omega) (Nat.succ.inj hl) h
    have h2 : c = d := by omega
    have h3 : a = b := by omega
    exact ⟨h3, by rw [h2, this.2]⟩
theorem pk_app : ∀ (u : List Int) (c a : Int), pk (u ++ [c]) a = 64 * pk u a + c - 64
  | [], _, _ => rfl
  | _ :: u, c, _ => pk_app u c _
def p64 : Nat → Int
  | 0 => 1
  | n + 1 => 64 * p64 n
theorem p64_pos : ∀ n, 1 ≤ p64 n
  | 0 => Int.le_refl _
  | n + 1 => by have := p64_pos n; show 1 ≤ 64 * p64 n; omega
/-- the packed number tells the length -/
theorem pk_lo : ∀ (u : List Int) (a : Int), 0 ≤ a → (∀ c ∈ u, lt6 c) → p64 u.length * a ≤ pk u a
  | [], a, _, _ => by show 1 * a ≤ a; omega
  | c :: u, a, ha, hu => by
    have hc : 65 ≤ c ∧ c ≤ 122 := hu c (List.mem_cons_self ..)
    have h := pk_lo u (64 * a + c - 64) (by omega) (fun e he => hu e (List.mem_cons_of_mem _ he))
    have h2 : p64 u.length * (64 * a) ≤ p64 u.length * (64 * a + c - 64) := Int.mul_le_mul_of_nonneg_left (by omega) (by have := p64_pos u.length; omega)
    have h3 : 64 * p64 u.length * a = p64 u.length * (64 * a) := by rw [Int.mul_comm 64, Int.mul_assoc]
    show 64 * p64 u.length * a ≤ pk u (64 * a + c - 64)
    omega
theorem pk_hi : ∀ (u : List Int) (a : Int), 0 ≤ a → (∀ c ∈ u, lt6 c) → pk u a < p64 u.length * (a + 1)
  | [], a, _, _ => by show a < 1 * (a + 1); omega
  | c :: u, a, ha, hu => by
    have hc : 65 ≤ c ∧ c ≤ 122 := hu c (List.mem_cons_self ..)
    have h := pk_hi u (64 * a + c - 64) (by omega) (fun e he => hu e (List.mem_cons_of_mem _ he))
    have h2 : p64 u.length * (64 * a + c - 64 + 1) ≤ p64 u.length * (64 * (a + 1)) := Int.mul_le_mul_of_nonneg_left (by omega) (by have := p64_pos u.length; omega)
    have h3 : 64 * p64 u.length * (a + 1) = p64 u.length * (64 * (a + 1)) := by rw [Int.mul_comm 64, Int.mul_assoc]
    show pk u (64 * a + c - 64) < 64 * p64 u.length * (a + 1)
    omega
theorem p64_le : ∀ {m n : Nat}, m ≤ n → p64 m ≤ p64 n
  | m, 0, h => by rw [Nat.le_zero.mp h]; exact Int.le_refl _
  | m, n + 1, h => by
    by_cases e : m = n + 1
    · rw [e]; exact Int.le_refl _
    · have := p64_le (m := m) (n := n) (by omega)
      have := p64_pos n
      show p64 m ≤ 64 * p64 n
      omega
theorem pk_len {u v : List Int} (hu : ∀ c ∈ u, lt6 c) (hv : ∀ c ∈ v, lt6 c) (h : u.length < v.length) : pk u 0 < pk v 0 := by
  cases v with
  | nil => exact absurd h (by show ¬ _ < 0; omega)
  | cons d v =>
    have hd : 65 ≤ d ∧ d ≤ 122 := hv d (List.mem_cons_self ..)
    have h1 := pk_hi u 0 (by omega) hu
    have h2 := pk_lo v (64 * 0 + d - 64) (by omega) (fun e he => hv e (List.mem_cons_of_mem _ he))
    have h3 : p64 v.length * 1 ≤ p64 v.length * (64 * 0 + d - 64) := Int.mul_le_mul_of_nonneg_left (by omega) (by have := p64_pos v.length; omega)
    have h4 := p64_le (m := u.length) (n := v.length) (Nat.le_of_lt_succ h)
    show pk u 0 < pk v (64 * 0 + d - 64)
    omega
theorem pkw_eq {u v : List Int} (hu : ∀ c ∈ u, lt6 c) (hv : ∀ c ∈ v, lt6 c) : pk u 0 = pk v 0 ↔ v = u := by
  constructor
  · intro h
    by_cases h1 : u.length < v.length
    · have := pk_len hu hv h1; omega
    · by_cases h2 : v.length < u.length
      · have := pk_len hv hu h2; omega
      · exact (pk_inj u v 0 (by omega) hu hv 0 (by omega) (by omega) h).2.symm
  · intro h; rw [h]
theorem kfl_wfl {ls : List Int} (hl : ∀ c ∈ ls, lt6 c) : ∀ (ws : List (List Int)) (w : Nat), (∀ u ∈ ws, ∀ c ∈ u, lt6 c) → w + ws.length ≤ 24 → (kfl (pk ls 0) ws w = -1 ∧ wfl ls ws w = 39) ∨ (kfl (pk ls 0) ws w = wfl ls ws w ∧ 0 ≤ wfl ls ws w ∧ wfl ls ws w ≤ 23)
  | [], _, _, _ => Or.inl ⟨rfl, rfl⟩
  | u :: us, w, h, hw => by
    rw [List.length_cons] at hw
    have hp := pkw_eq hl (h u (List.mem_cons_self ..))
    show ((if pk ls 0 = pk u 0 then (w : Int) else kfl (pk ls 0) us (w + 1)) = -1 ∧ (if u = ls then (w : Int) else wfl ls us (w + 1)) = 39) ∨ ((if pk ls 0 = pk u 0 then (w : Int) else kfl (pk ls 0) us (w + 1)) = (if u = ls then (w : Int) else wfl ls us (w + 1)) ∧ 0 ≤ (if u = ls then (w : Int) else wfl ls us (w + 1)) ∧ (if u = ls then (w : Int) else wfl ls us (w + 1)) ≤ 23)
    by_cases e : u = ls
    · rw [if_pos e, if_pos (hp.mpr e)]
      exact Or.inr ⟨rfl, by omega, by omega⟩
    · rw [if_neg e, if_neg (fun z => e (hp.mp z))]
      exact kfl_wfl hl us (w + 1) (fun v hv => h v (List.mem_cons_of_mem _ hv)) (by omega)
theorem wfl_long {ls : List Int} : ∀ (ws : List (List Int)) (w : Nat), (∀ u ∈ ws, u.length ≤ 7) → 7 < ls.length → wfl ls ws w = 39
  | [], _, _, _ => rfl
  | u :: us, w, h, hl => by
    show (if u = ls then (w : Int) else wfl ls us (w + 1)) = 39
    rw [if_neg (fun z => by have := h u (List.mem_cons_self ..); rw [z] at this; omega)]
    exact wfl_long us (w + 1) (fun v hv => h v (List.mem_cons_of_mem _ hv)) hl
theorem WL_fd : x_byt 0 = [] ++ wfd WL := by decide +kernel
theorem WL_32 : ∀ u ∈ WL, ∀ c ∈ u, c ≠ 32 := by decide
theorem WL_6 : ∀ u ∈ WL, ∀ c ∈ u, 65 ≤ c ∧ c ≤ 122 := by decide
theorem WL_7 : ∀ u ∈ WL, u.length ≤ 7 := by decide
end
