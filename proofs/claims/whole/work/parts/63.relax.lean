/-! NIGHTS: letting changes happen, in the pure -/
def rlx (j h : Nat) (c : Nat → Int) : Nat → Int := fun s => if c (tT j h s) + 1 < c s then c (tT j h s) + 1 else c s
def rlH (h : Nat) : Nat → Nat → (Nat → Int) → Nat → Int
  | 0, _, c => c
  | k + 1, j, c => rlH h k (j + 1) (rlx j h c)
def sprL : Nat → Nat → (Nat → Int) → Nat → Int
  | 0, _, c => c
  | k + 1, h, c => sprL k (h + 1) (rlH h h 0 c)
def spr (P : Nat) (c : Nat → Int) : Nat → Int := sprL (P - 1) 1 c
def lipB (H : Nat) (F : Nat → Int) : Prop := ∀ s, s < 120 → ∀ b, b < H → ∀ a, a < b → F (tT a b s) ≤ F s + 1
def cn (P : Nat) : Nat → Nat → Nat → Prop
  | 0, s, t => s = t
  | j + 1, s, t => ∃ a b, a < b ∧ b < P ∧ cn P j (tT a b s) t
def stg (h i : Nat) (F G : Nat → Int) : Prop := (∀ s, s < 120 → G s ≤ F s) ∧ (∀ s, s < 120 → ∀ j, j < i → G s ≤ F (tT j h s) + 1) ∧ ∀ s, s < 120 → G s = F s ∨ ∃ j, j < i ∧ F (tT j h s) + 1 ≤ G s
theorem stg_0 (h : Nat) (F : Nat → Int) : stg h 0 F F := ⟨fun _ _ => Int.le_refl _, fun _ _ _ hj => by omega, fun _ _ => Or.inl rfl⟩
theorem stg_s {h i : Nat} {F G : Nat → Int} (hh : h < 5) (hi : i < h) (hF : lipB h F) (H : stg h i F G) : stg h (i + 1) F (rlx i h G) := by
  obtain ⟨h1, h2, h3⟩ := H
  have hle : ∀ s, rlx i h G s ≤ G s ∧ rlx i h G s ≤ G (tT i h s) + 1 := fun s => by unfold rlx; split <;> omega
  refine ⟨fun s hs => Int.le_trans (hle s).1 (h1 s hs), fun s hs j hj => ?_, fun s hs => ?_⟩
  · obtain ⟨a1, _, _⟩ := w_T hs hh hi
    by_cases e : j = i
    · rw [e]
      have := (hle s).2
      have := h1 _ a1
      omega
    · exact Int.le_trans (hle s).1 (h2 s hs j (by omega))
  · obtain ⟨a1, a2, a3⟩ := w_T hs hh hi
    unfold rlx
    split
    · refine Or.inr ?_
      rcases h3 _ a1 with e | ⟨j, hj, e⟩
      · exact ⟨i, by omega, by rw [e]; omega⟩
      · refine ⟨j, by omega, ?_⟩
        have ej := T_3 hs hh hi (show j < h by omega) (show i ≠ j by omega)
        rw [ej] at e
        obtain ⟨b1, _, _⟩ := w_T hs hh (show j < h by omega)
        have hlt : (if i < j then i else j) < (if i < j then j else i) ∧ (if i < j then j else i) < h := by split <;> omega
        obtain ⟨c1, c2, c3⟩ := w_T b1 (show (if i < j then j else i) < 5 by omega) hlt.1
        have := hF _ c1 _ hlt.2 _ hlt.1
        rw [c3] at this
        omega
    · rcases h3 s hs with e | ⟨j, hj, e⟩
      · exact Or.inl e
      · exact Or.inr ⟨j, by omega, e⟩
theorem stg_L {h : Nat} {F : Nat → Int} (hh : h < 5) (hF : lipB h F) : ∀ (k i : Nat) (G : Nat → Int), i + k = h → stg h i F G → stg h h F (rlH h k i G)
  | 0, i, G, e, H => by rw [show h = i by omega] at H ⊢; exact H
  | k + 1, i, G, e, H => stg_L hh hF k (i + 1) (rlx i h G) (by omega) (stg_s hh (by omega) hF H)
theorem lip_n {h : Nat} {F G : Nat → Int} (hh : h < 5) (hF : lipB h F) (H : stg h h F G) : lipB (h + 1) G := by
  obtain ⟨h1, h2, h3⟩ := H
  intro s hs b hb a ha
  obtain ⟨a1, a2, a3⟩ := w_T hs (show b < 5 by omega) ha
  by_cases e : b = h
  · subst e
    rcases h3 s hs with e | ⟨j, hj, e⟩
    · have := h2 _ a1 a ha
      rw [a3] at this
      omega
    · by_cases eja : j = a
      · subst eja
        have := h1 _ a1
        omega
      · have e3 := T_3 hs hh ha hj (Ne.symm eja)
        have u := h2 _ a1 j hj
        rw [e3] at u
        obtain ⟨b1, _, _⟩ := w_T hs hh hj
        have hlt : (if a < j then a else j) < (if a < j then j else a) ∧ (if a < j then j else a) < b := by split <;> omega
        have := hF _ b1 _ hlt.2 _ hlt.1
        omega
  · have hbh : b < h := by omega
    rcases h3 s hs with e | ⟨j, hj, e⟩
    · have := h1 _ a1
      have := hF s hs b hbh a ha
      omega
    · have e4 := T_4 hs hh hbh ha hj
      have u := h2 _ a1 _ (sw1_lt hbh ha hj)
      rw [← e4] at u
      obtain ⟨b1, _, _⟩ := w_T hs hh hj
      have := hF _ b1 b hbh a ha
      omega
theorem sprL_ok {P : Nat} (hP : P ≤ 5) (c : Nat → Int) : ∀ (k h : Nat) (F : Nat → Int), h + k = P → 1 ≤ h → lipB h F → (∀ s, s < 120 → F s ≤ c s) → (∀ s, s < 120 → ∃ t m, m + 1 ≤ h ∧ cn P m s t ∧ c t + m ≤ F s) → lipB P (sprL k h F) ∧ (∀ s, s < 120 → sprL k h F s ≤ c s) ∧ ∀ s, s < 120 → ∃ t m, m + 1 ≤ P ∧ cn P m s t ∧ c t + m ≤ sprL k h F s
  | 0, h, F, e, h1, hF, hc, hr => by rw [show P = h by omega] at hr ⊢; exact ⟨hF, hc, hr⟩
  | k + 1, h, F, e, h1, hF, hc, hr => by
    have H := stg_L (show h < 5 by omega) hF h 0 F (by omega) (stg_0 h F)
    refine sprL_ok hP c k (h + 1) (rlH h h 0 F) (by omega) (by omega) (lip_n (by omega) hF H) (fun s hs => Int.le_trans (H.1 s hs) (hc s hs)) (fun s hs => ?_)
    rcases H.2.2 s hs with e | ⟨j, hj, e⟩
    · obtain ⟨t, m, r1, r2, r3⟩ := hr s hs
      exact ⟨t, m, by omega, r2, by omega⟩
    · obtain ⟨a1, _, _⟩ := w_T hs (show h < 5 by omega) hj
      obtain ⟨t, m, r1, r2, r3⟩ := hr _ a1
      exact ⟨t, m + 1, by omega, ⟨j, h, hj, by omega, r2⟩, by omega⟩
theorem spr_ok {P : Nat} (hP : P ≤ 5) (c : Nat → Int) : lipB P (spr P c) ∧ (∀ s, s < 120 → spr P c s ≤ c s) ∧ ∀ s, s < 120 → ∃ t m, m ≤ 4 ∧ cn P m s t ∧ c t + m ≤ spr P c s := by
  by_cases h0 : P = 0
  · subst h0
    exact ⟨fun s _ b hb => by omega, fun s _ => Int.le_refl _, fun s _ => ⟨s, 0, by omega, rfl, by show c s + ((0 : Nat) : Int) ≤ c s; omega⟩⟩
  · have := sprL_ok hP c (P - 1) 1 c (by omega) (by omega) (fun s _ b hb a ha => by omega) (fun _ _ => Int.le_refl _) (fun s _ => ⟨s, 0, by omega, rfl, by omega⟩)
    refine ⟨this.1, this.2.1, fun s hs => ?_⟩
    obtain ⟨t, m, r1, r2, r3⟩ := this.2.2 s hs
    exact ⟨t, m, by omega, r2, r3⟩
theorem cn_lip {P : Nat} (hP : P ≤ 5) {F : Nat → Int} (hF : lipB P F) : ∀ (m s t : Nat), s < 120 → cn P m s t → t < 120 ∧ F t ≤ F s + m ∧ F s ≤ F t + m
  | 0, s, t, hs, h => by have h : s = t := h; subst h; exact ⟨hs, by omega, by omega⟩
  | m + 1, s, t, hs, ⟨a, b, ha, hb, h⟩ => by
    obtain ⟨a1, _, a3⟩ := w_T hs (show b < 5 by omega) ha
    obtain ⟨r1, r2, r3⟩ := cn_lip hP hF m _ t a1 h
    have u1 := hF s hs b hb a ha
    have u2 := hF _ a1 b hb a ha
    rw [a3] at u2
    exact ⟨r1, by omega, by omega⟩
theorem cn_inS {P : Nat} (hP : P ≤ 5) : ∀ (m s t : Nat), inS P s → cn P m s t → inS P t
  | 0, s, t, hs, h => by have h : s = t := h; subst h; exact hs
  | m + 1, s, t, hs, ⟨a, b, ha, hb, h⟩ => cn_inS hP m _ t (inS_T hP hs hb ha) h
def relB (B a b : Int) : Prop := (0 ≤ a ∧ a ≤ B ∧ b = a) ∨ (a = 1000 ∧ b = 100000)
theorem rel_spr {P : Nat} (hP : P ≤ 5) {B : Int} (hB : 0 ≤ B ∧ B ≤ 900) {c1 c2 : Nat → Int} (h : ∀ s, inS P s → relB B (c1 s) (c2 s)) : ∀ s, inS P s → relB (B + 4) (spr P c1 s) (spr P c2 s) := by
  intro s hs
  obtain ⟨l1, u1, r1⟩ := spr_ok hP c1
  obtain ⟨l2, u2, r2⟩ := spr_ok hP c2
  obtain ⟨t1, m1, a1, a2, a3⟩ := r1 s hs.1
  obtain ⟨t2, m2, b1, b2, b3⟩ := r2 s hs.1
  have i1 := cn_inS hP m1 s t1 hs a2
  have i2 := cn_inS hP m2 s t2 hs b2
  have p11 := cn_lip hP l1 m1 s t1 hs.1 a2
  have p12 := cn_lip hP l1 m2 s t2 hs.1 b2
  have p21 := cn_lip hP l2 m1 s t1 hs.1 a2
  have p22 := cn_lip hP l2 m2 s t2 hs.1 b2
  have v1 := u1 s hs.1
  have v2 := u2 s hs.1
  have v11 := u1 t1 i1.1
  have v12 := u1 t2 i2.1
  have v21 := u2 t1 i1.1
  have v22 := u2 t2 i2.1
  have e0 := h s hs
  have e1 := h t1 i1
  have e2 := h t2 i2
  unfold relB at e0 e1 e2 ⊢
  rcases e1 with ⟨x1, x2, x3⟩ | ⟨x1, x2⟩
  · rcases e2 with ⟨y1, y2, y3⟩ | ⟨y1, y2⟩
    · exact Or.inl ⟨by omega, by omega, by omega⟩
    · omega
  · rcases e2 with ⟨y1, y2, y3⟩ | ⟨y1, y2⟩
    · omega
    · exact Or.inr ⟨by omega, by omega⟩
theorem spr_0 {P : Nat} (hP : P ≤ 5) {c : Nat → Int} (h : ∀ s, s < 120 → 0 ≤ c s) : ∀ s, s < 120 → 0 ≤ spr P c s := by
  intro s hs
  obtain ⟨l1, u1, r1⟩ := spr_ok hP c
  obtain ⟨t1, m1, a1, a2, a3⟩ := r1 s hs
  have := h t1 (cn_lip hP l1 m1 s t1 hs a2).1
  omega
def kpN (so : Nat → Bool) (K : Int) (c : Nat → Int) : Nat → Int := fun s => if so s then c s else K
theorem rel_kp {P : Nat} {B : Int} {so : Nat → Bool} {c1 c2 : Nat → Int} (h : ∀ s, inS P s → relB B (c1 s) (c2 s)) : ∀ s, inS P s → relB B (kpN so 1000 c1 s) (kpN so 100000 c2 s) := by
  intro s hs
  unfold kpN
  split
  · exact h s hs
  · exact Or.inr ⟨rfl, rfl⟩
/-- what is ahead of and what is behind a night, together, doesn't depend on the night -/
theorem adj {P : Nat} (hP : P ≤ 5) {so : Nat → Bool} {a b : Nat → Int} (ha : ∀ s, s < 120 → 0 ≤ a s) (hb : ∀ s, s < 120 → 0 ≤ b s) {m : Int} (hm : m < 1000) : (∃ s, s < 120 ∧ a s + spr P (kpN so 1000 b) s ≤ m) ↔ ∃ t, t < 120 ∧ kpN so 1000 (spr P a) t + b t ≤ m := by
  obtain ⟨l1, u1, r1⟩ := spr_ok hP a
  obtain ⟨l2, u2, r2⟩ := spr_ok hP (kpN so 1000 b)
  have hk : ∀ s, s < 120 → 0 ≤ kpN so 1000 b s := fun s hs => by unfold kpN; have := hb s hs; split <;> omega
  have p1 := spr_0 hP ha
  have p2 := spr_0 hP hk
  constructor
  · rintro ⟨s, hs, h⟩
    obtain ⟨t, j, a1, a2, a3⟩ := r2 s hs
    obtain ⟨q1, q2, q3⟩ := cn_lip hP l1 j s t hs a2
    have w1 := u1 s hs
    have w2 := p1 t q1
    refine ⟨t, q1, ?_⟩
    cases hso : so t
    · have : kpN so 1000 b t = 1000 := by unfold kpN; rw [hso]; rfl
      omega
    · have e1 : kpN so 1000 b t = b t := by unfold kpN; rw [hso]; rfl
      have e2 : kpN so 1000 (spr P a) t = spr P a t := by unfold kpN; rw [hso]; rfl
      omega
  · rintro ⟨t, ht, h⟩
    have hb0 := hb t ht
    cases hso : so t
    · have : kpN so 1000 (spr P a) t = 1000 := by unfold kpN; rw [hso]; rfl
      omega
    · have e1 : kpN so 1000 b t = b t := by unfold kpN; rw [hso]; rfl
      have e2 : kpN so 1000 (spr P a) t = spr P a t := by unfold kpN; rw [hso]; rfl
      obtain ⟨s, j, a1, a2, a3⟩ := r1 t ht
      obtain ⟨q1, q2, q3⟩ := cn_lip hP l2 j t s ht a2
      have w1 := u2 t ht
      exact ⟨s, q1, by omega⟩
/-- any order comes of any other -/
theorem cn_app {P : Nat} (l : List (Nat × Nat)) : ∀ s : Nat, (∀ q ∈ l, q.1 < q.2 ∧ q.2 < P) → cn P l.length s (l.foldl (fun t q => tT q.1 q.2 t) s) := by
  induction l with
  | nil => intro s _; rw [List.foldl_nil]; exact rfl
  | cons q l ih =>
    intro s h
    have h0 := h q (List.mem_cons_self)
    have h1 := ih (tT q.1 q.2 s) (fun z hz => h z (List.mem_cons_of_mem _ hz))
    rw [List.foldl_cons, List.length_cons]
    unfold cn
    exact ⟨q.1, q.2, h0.1, h0.2, h1⟩
theorem pth_len (s : Nat) : (pth s).length ≤ 4 := by
  unfold pth
  exact Nat.le_trans (List.length_filter_le _ _) (by simp)
theorem spr_fin {P : Nat} (hP : P ≤ 5) {c : Nat → Int} {B : Int} {t : Nat} (ht : inS P t) (hc : c t ≤ B) : ∀ s, inS P s → spr P c s ≤ B + 8 := by
  intro s hs
  obtain ⟨l1, u1, r1⟩ := spr_ok hP c
  obtain ⟨e1, f1⟩ := inS_p hP ht
  obtain ⟨e2, f2⟩ := inS_p hP hs
  have c1 := cn_app (P := P) (pth t) 119 f1
  have c2 := cn_app (P := P) (pth s) 119 f2
  rw [e1] at c1
  rw [e2] at c2
  have g1 := cn_lip hP l1 _ _ _ (by omega) c1
  have g2 := cn_lip hP l1 _ _ _ (by omega) c2
  have h1 := pth_len t
  have h2 := pth_len s
  have := u1 t ht.1
  omega
