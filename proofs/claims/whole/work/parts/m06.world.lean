/-! WORLDS: the cells of the pure memory as the machine's heap holds them -/
def g_l (G : pm_G) : Launch := G.1
def g_D (G : pm_G) : va_G := (G.2.1, G.2.2.1)
def g_A (G : pm_G) : Nat → ClassId := G.2.2.2.1
def g_b (G : pm_G) : Nat := G.2.2.2.2.1
def g_K (G : pm_G) : Nat → Nat := G.2.2.2.2.2.2.2.1
def g_V (G : pm_G) : Nat → Nat := G.2.2.2.2.2.2.2.2
def pm_ra (G : pm_G) (ad : Nat → Nat) (r : Nat × Nat) : Nat := if r.1 = 30 then g_b G else if r.1 = 31 then g_K G r.2 else if r.1 = 32 then g_V G r.2 else ad r.2
def pm_tv (G : pm_G) (ad : Nat → Nat) : pm_V → Value
  | .inl x => .int (Int32.ofInt x)
  | .inr (.inl x) => .long (Int64.ofInt x)
  | .inr (.inr r) => .ref (pm_ra G ad r)
def pm_tp (G : pm_G) (ad : Nat → Nat) (q : Nat × pm_V) : Nat × Value := (q.1, pm_tv G ad q.2)
def pm_okv (n : Nat) : pm_V → Prop
  | .inl x => pm_i32 x
  | .inr (.inl x) => pm_i64 x
  | .inr (.inr r) => r.1 = 30 ∨ ((r.1 = 31 ∨ r.1 = 32) ∧ r.2 < 2) ∨ (r.1 < 25 ∧ r.2 < n ∧ (pm_lay r.2).1 = r.1)
/-- the kind of a place: 0 int, 1 a reference that stays, 2 one that changes, 3 long, 4 byte, 5 boolean -/
def pm_sk (c k : Nat) : Nat × Nat :=
  if (pm_lay c).1 < 13 then (pm_fk (pm_lay c).1).getD k (0, 0)
  else if (pm_lay c).1 = 21 then (3, 0) else if (pm_lay c).1 = 22 then (4, 0) else if (pm_lay c).1 = 23 then (5, 0) else if (pm_lay c).1 = 24 then (1, 10) else (0, 0)
def pm_okx (n : Nat) (k : Nat × Nat) (x : Int) : Prop := match k.1 with
  | 0 => pm_i32 x
  | 2 => x = 0 ∨ (1 ≤ x ∧ pm_okv n (.inr (.inr (k.2, (x - 1).toNat))))
  | 3 => pm_i64 x
  | 4 => -128 ≤ x ∧ x < 128
  | 5 => x = 0 ∨ x = 1
  | _ => True
def pm_okM (n : Nat) (M : pm_M) : Prop := (∀ c, c < n → ∀ k, pm_okx n (pm_sk c k) (M c k)) ∧ ∀ c, n ≤ c → ∀ k, M c k = 0
def pm_okN (n : Nat) (N : pm_N) : Prop := (∀ c, c < n → ∀ k, (pm_sk c k).1 = 1 → N c k = 0 ∨ pm_okv n (.inr (.inr ((pm_sk c k).2, N c k - 1)))) ∧ ∀ c, n ≤ c → ∀ k, N c k = 0
def pm_fw (G : pm_G) (ad : Nat → Nat) (fk : Nat × Nat) (x : Int) (a : Nat) : Value := match fk.1 with
  | 0 => .int (Int32.ofInt x)
  | 1 => if a = 0 then .null else .ref (pm_ra G ad (fk.2, a - 1))
  | _ => if x = 0 then .null else .ref (pm_ra G ad (fk.2, (x - 1).toNat))
def pm_en (G : pm_G) (ad : Nat → Nat) (c : Nat) (nr : Nat → Nat) (mr : Nat → Int) : va_E :=
  if (pm_lay c).1 < 13 then .inr ((pm_lay c).1, (List.range (pm_nf (pm_lay c).1)).map (fun k => pm_fw G ad (pm_sk c k) (mr k) (nr k)))
  else if (pm_lay c).1 = 21 then .inl (g_A G 21, (pm_lay c).2, .inr (.inl (fun i => Int64.ofInt (mr i))))
  else if (pm_lay c).1 = 24 then .inl (g_A G 24, (pm_lay c).2, .inr (.inr (.inr (.inr (fun i => if nr i = 0 then none else some (ad (nr i - 1)))))))
  else .inl (g_A G (pm_lay c).1, (pm_lay c).2, .inl (fun i => Int32.ofInt (mr i)))
def pm_ws (G : pm_G) (ad : Nat → Nat) (n : Nat) (N : pm_N) (M : pm_M) : va_W := (List.range n).map (fun c => (ad c, pm_en G ad c (N c) (M c)))
theorem pm_ws_at (G : pm_G) (ad : Nat → Nat) {n c : Nat} (N : pm_N) (M : pm_M) (h : c < n) : (pm_ws G ad n N M)[c]? = some (ad c, pm_en G ad c (N c) (M c)) := by
  simp [pm_ws, List.getElem?_map, List.getElem?_range h]
theorem pm_ws_set (G : pm_G) (ad : Nat → Nat) {n c : Nat} {N N' : pm_N} {M M' : pm_M} {e : va_E} (h : c < n) (hN : ∀ a, a ≠ c → N' a = N a) (hM : ∀ a, a ≠ c → M' a = M a) (he : e = pm_en G ad c (N' c) (M' c)) : (pm_ws G ad n N M).set c (ad c, e) = pm_ws G ad n N' M' := by
  apply List.ext_getElem?
  intro k
  by_cases hk : k = c
  · subst hk
    rw [List.getElem?_set_self (by simp [pm_ws]; exact h), pm_ws_at G ad N' M' h, he]
  · rw [List.getElem?_set_ne (Ne.symm hk)]
    simp only [pm_ws, List.getElem?_map]
    by_cases hl : k < n
    · simp [List.getElem?_range hl, hN k hk, hM k hk]
    · simp [List.getElem?_eq_none (show (List.range n).length ≤ k by simp; omega)]
theorem pm_ns_ne {N : pm_N} {c i a : Nat} {x : Nat} (h : a ≠ c) : pm_ns N c i x a = N a := by simp [pm_ns, h]
theorem pm_ns_self {N : pm_N} {c i : Nat} {x : Nat} : pm_ns N c i x c = fun j => if j = i then x else N c j := by simp [pm_ns]
theorem pm_okx_mono {n n' : Nat} (h : n ≤ n') {k : Nat × Nat} {x : Int} (hx : pm_okx n k x) : pm_okx n' k x := by
  unfold pm_okx at *
  split at hx <;> simp_all [pm_okv]
  omega
theorem pm_okv_mono {n n' : Nat} (h : n ≤ n') {v : pm_V} (hv : pm_okv n v) : pm_okv n' v := by
  rcases v with x | x | r <;> simp_all [pm_okv]
  omega
theorem pm_okM_ms {n : Nat} {M : pm_M} (h : pm_okM n M) {c i : Nat} {x : Int} (hc : c < n) (hx : pm_okx n (pm_sk c i) x) : pm_okM n (pm_ms M c i x) := by
  refine ⟨fun a ha k => ?_, fun a ha k => ?_⟩
  · by_cases h1 : a = c
    · subst h1
      rw [pm_ms_self]
      by_cases h2 : k = i
      · subst h2; simpa using hx
      · simp [h2]; exact h.1 a ha k
    · rw [pm_ms_ne h1]; exact h.1 a ha k
  · rw [pm_ms_ne (by omega)]; exact h.2 a ha k
theorem pm_okN_ns {n : Nat} {N : pm_N} (h : pm_okN n N) {c i x : Nat} (hc : c < n) (hx : (pm_sk c i).1 = 1 → x = 0 ∨ pm_okv n (.inr (.inr ((pm_sk c i).2, x - 1)))) : pm_okN n (pm_ns N c i x) := by
  refine ⟨fun a ha k hk => ?_, fun a ha k => ?_⟩
  · by_cases h1 : a = c
    · subst h1
      rw [pm_ns_self]
      by_cases h2 : k = i
      · subst h2; simpa using hx hk
      · simp [h2]; exact h.1 a ha k hk
    · rw [pm_ns_ne h1]; exact h.1 a ha k hk
  · rw [pm_ns_ne (by omega)]; exact h.2 a ha k
/-- references below n aren't told apart by what comes above -/
theorem pm_ra_eq {G : pm_G} {ad ad' : Nat → Nat} {n : Nat} (h : ∀ c, c < n → ad' c = ad c) {r : Nat × Nat} (hr : pm_okv n (.inr (.inr r))) : pm_ra G ad' r = pm_ra G ad r := by
  unfold pm_ra
  rcases hr with hr | ⟨hr | hr, -⟩ | ⟨h1, h2, -⟩
  · simp [hr]
  · simp [hr]
  · simp [hr]
  · rw [h _ h2]
theorem pm_tv_eq {G : pm_G} {ad ad' : Nat → Nat} {n : Nat} (h : ∀ c, c < n → ad' c = ad c) {v : pm_V} (hv : pm_okv n v) : pm_tv G ad' v = pm_tv G ad v := by
  rcases v with x | x | r
  · rfl
  · rfl
  · simp only [pm_tv]; rw [pm_ra_eq h hv]
theorem pm_ra_lt {G : pm_G} {ad : Nat → Nat} {r : Nat × Nat} (h : r.1 < 25) : pm_ra G ad r = ad r.2 := by
  unfold pm_ra; rw [if_neg (by omega), if_neg (by omega), if_neg (by omega)]
theorem pm_en_eq {G : pm_G} {ad ad' : Nat → Nat} {n c : Nat} {N : pm_N} {M : pm_M} (h : ∀ c, c < n → ad' c = ad c) (hc : c < n) (hN : pm_okN n N) (hM : pm_okM n M) : pm_en G ad' c (N c) (M c) = pm_en G ad c (N c) (M c) := by
  unfold pm_en
  by_cases h1 : (pm_lay c).1 < 13
  · rw [if_pos h1, if_pos h1]
    congr 2
    apply List.map_congr_left
    intro k _
    have hx := hM.1 c hc k
    have hn := hN.1 c hc k
    unfold pm_fw pm_okx at *
    split
    · rfl
    · rename_i e
      by_cases hz : N c k = 0
      · rw [if_pos hz, if_pos hz]
      · rw [if_neg hz, if_neg hz]
        have := (hn e).resolve_left hz
        rw [pm_ra_eq h this]
    · rename_i e0 e1
      by_cases hz : M c k = 0
      · rw [if_pos hz, if_pos hz]
      · rw [if_neg hz, if_neg hz]
        by_cases e2 : (pm_sk c k).1 = 2
        · rw [e2] at hx
          have := hx.resolve_left hz
          rw [pm_ra_eq h this.2]
        · exfalso
          have hb : ∀ ci, ci < 13 → ∀ k, ((pm_fk ci).getD k (0, 0)).1 < 3 := by
            intro ci hci k
            have hall : ∀ ci, ci < 13 → ∀ q ∈ pm_fk ci, q.1 < 3 := by decide +kernel
            rw [List.getD_eq_getElem?_getD]
            cases hq : (pm_fk ci)[k]? with
            | none => simp
            | some q => exact hall ci hci q (List.mem_of_getElem? hq)
          have hb2 := hb _ h1 k
          have he : pm_sk c k = (pm_fk (pm_lay c).1).getD k (0, 0) := by unfold pm_sk; rw [if_pos h1]
          rw [← he] at hb2
          rcases (show (pm_sk c k).1 = 0 ∨ (pm_sk c k).1 = 1 ∨ (pm_sk c k).1 = 2 by omega) with z | z | z
          · exact e0 z
          · exact e1 z
          · exact e2 z
  · rw [if_neg h1, if_neg h1]
    by_cases h2 : (pm_lay c).1 = 21
    · rw [if_pos h2, if_pos h2]
    · rw [if_neg h2, if_neg h2]
      by_cases h3 : (pm_lay c).1 = 24
      · rw [if_pos h3, if_pos h3]
        congr 6
        apply congrArg Sum.inr
        funext i
        have hn := hN.1 c hc i
        have he : pm_sk c i = (1, 10) := by unfold pm_sk; rw [if_neg h1, if_neg h2, if_neg (by omega), if_neg (by omega), if_pos h3]
        rw [he] at hn
        by_cases hz : N c i = 0
        · rw [if_pos hz, if_pos hz]
        · rw [if_neg hz, if_neg hz]
          have := (hn rfl).resolve_left hz
          have h4 := pm_ra_eq (G := G) h this
          rw [pm_ra_lt (show (10 : Nat) < 25 by omega), pm_ra_lt (show (10 : Nat) < 25 by omega)] at h4
          rw [h4]
      · rw [if_neg h3, if_neg h3]
