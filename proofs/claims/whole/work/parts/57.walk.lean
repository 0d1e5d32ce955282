/-! TOURS: tries without a bound, and what a bound may pass over -/
abbrev tS : Type := Int × Int × Nat × (Nat → Nat)
def aN (f : Nat → Nat) (k v : Nat) : Nat → Nat := fun i => if i = k then v else f i
def upT (s : tS) (v m : Int) (len : Nat) (f : Nat → Nat) : tS := if s.1 < v ∨ (v = s.1 ∧ m < s.2.1) then (v, m, len, f) else s
def onw (f : Nat → Nat) : Nat → Nat → Bool
  | 0, _ => false
  | k + 1, q => onw f k q || decide (f k = q)
theorem onw_aN (f : Nat → Nat) (c q : Nat) : ∀ len k, len ≤ k → onw (aN f k c) len q = onw f len q
  | 0, _, _ => rfl
  | len + 1, k, h => by
    rw [onw, onw, onw_aN f c q len k (by omega)]
    unfold aN
    rw [if_neg (by omega)]
theorem onw_s (f : Nat → Nat) (len c q : Nat) : onw (aN f len c) (len + 1) q = (onw f len q || decide (c = q)) := by
  rw [onw, onw_aN f c q len len (Nat.le_refl _)]
  unfold aN
  rw [if_pos rfl]
def dfL (rec : Nat → tS → tS) : Nat → Nat → tS → tS
  | 0, _, s => s
  | t + 1, c, s => dfL rec t (c + 1) (rec c s)
section
variable (ap : Nat → Nat → Int) (vw : Nat → Int) (lim : Int) (P : Nat)
def dfs : Nat → Nat → (Nat → Nat) → Int → Int → tS → tS
  | 0, len, f, mi, vi, s => upT s vi mi len f
  | k + 1, len, f, mi, vi, s => dfL (fun c s => if onw f len c = false ∧ mi + ap (f (len - 1)) c ≤ lim then dfs k (len + 1) (aN f len c) (mi + ap (f (len - 1)) c) (vi + vw c) s else s) P 0 (upT s vi mi len f)
/-- a node's children -/
def chd (k len : Nat) (f : Nat → Nat) (mi vi : Int) (c : Nat) (s : tS) : tS := if onw f len c = false ∧ mi + ap (f (len - 1)) c ≤ lim then dfs ap vw lim P k (len + 1) (aN f len c) (mi + ap (f (len - 1)) c) (vi + vw c) s else s
theorem dfs_s (k len : Nat) (f : Nat → Nat) (mi vi : Int) (s : tS) : dfs ap vw lim P (k + 1) len f mi vi s = dfL (chd ap vw lim P k len f mi vi) P 0 (upT s vi mi len f) := rfl
def hs (f : Nat → Nat) (len : Nat) (mi : Int) : Nat → Int := fun q => if onw f len q = false ∧ mi + ap (f (len - 1)) q ≤ lim then vw q else 0
/-- nothing can be better than s -/
def nb (s : tS) (h m : Int) : Prop := h < s.1 ∨ (h = s.1 ∧ s.2.1 ≤ m)
theorem nb_up {s : tS} {h m v m' : Int} {len : Nat} {f : Nat → Nat} (hn : nb s h m) (hv : v ≤ h) (hm : m ≤ m') : upT s v m' len f = s := by
  unfold upT
  rw [if_neg]
  unfold nb at hn
  omega
theorem dfL_id {rec : Nat → tS → tS} {s : tS} : ∀ t c, (∀ q, c ≤ q → q < c + t → rec q s = s) → dfL rec t c s = s
  | 0, _, _ => rfl
  | t + 1, c, h => by
    rw [dfL, h c (by omega) (by omega)]
    exact dfL_id t (c + 1) (fun q h1 h2 => h q (by omega) (by omega))
theorem smv_mono {f g : Nat → Int} : ∀ k, (∀ p, p < k → f p ≤ g p) → smv k f ≤ smv k g
  | 0, _ => Int.le_refl _
  | k + 1, h => by
    have h1 := smv_mono k (fun p hp => h p (by omega))
    have h2 := h k (by omega)
    rw [smv, smv]; omega
theorem hs_c (hap : ∀ a b, 0 ≤ ap a b) (htr : ∀ a b c, ap a c ≤ ap a b + ap b c) (hvw : ∀ q, 0 ≤ vw q) {f : Nat → Nat} {len c : Nat} {mi : Int} (hl : 1 ≤ len) (hc : c < P) (h1 : onw f len c = false) (h2 : mi + ap (f (len - 1)) c ≤ lim) : vw c + smv P (hs ap vw lim (aN f len c) (len + 1) (mi + ap (f (len - 1)) c)) ≤ smv P (hs ap vw lim f len mi) := by
  have e := smv_set (hs ap vw lim f len mi) c 0 P
  rw [if_pos hc] at e
  have ec : hs ap vw lim f len mi c = vw c := by unfold hs; rw [if_pos ⟨h1, h2⟩]
  have m := smv_mono (f := hs ap vw lim (aN f len c) (len + 1) (mi + ap (f (len - 1)) c)) (g := fun p => if p = c then 0 else hs ap vw lim f len mi p) P (fun q hq => ?_)
  · omega
  · unfold hs
    rw [onw_s, show len + 1 - 1 = len by omega, show aN f len c len = c by unfold aN; rw [if_pos rfl]]
    by_cases hqc : q = c
    · rw [if_pos hqc, if_neg]
      · exact Int.le_refl _
      · rw [hqc]; simp
    · rw [if_neg hqc]
      by_cases hq1 : onw f len q = false ∧ mi + ap (f (len - 1)) q ≤ lim
      · rw [if_pos hq1]
        have := hvw q
        split <;> omega
      · rw [if_neg hq1, if_neg]
        · exact Int.le_refl _
        · intro z
          apply hq1
          have t := htr (f (len - 1)) c q
          refine ⟨?_, by omega⟩
          have := z.1
          cases ho : onw f len q
          · rfl
          · rw [ho] at this; simp at this
theorem dfs_nb (hap : ∀ a b, 0 ≤ ap a b) (htr : ∀ a b c, ap a c ≤ ap a b + ap b c) (hvw : ∀ q, 0 ≤ vw q) : ∀ (k len : Nat) (f : Nat → Nat) (mi vi : Int) (s : tS), 1 ≤ len → nb s (vi + smv P (hs ap vw lim f len mi)) mi → dfs ap vw lim P k len f mi vi s = s := by
  intro k
  induction k with
  | zero =>
    intro len f mi vi s hl hn
    have h0 := smv_mono (f := fun _ => 0) (g := hs ap vw lim f len mi) P (fun q _ => by unfold hs; have := hvw q; split <;> omega)
    have h1 := (smv_b (f := fun _ => 0) (B := 0) P (fun _ _ => by omega)).1
    exact nb_up hn (by omega) (Int.le_refl _)
  | succ k ih =>
    intro len f mi vi s hl hn
    have h0 := smv_mono (f := fun _ => 0) (g := hs ap vw lim f len mi) P (fun q _ => by unfold hs; have := hvw q; split <;> omega)
    have h1 := (smv_b (f := fun _ => 0) (B := 0) P (fun _ _ => by omega)).1
    rw [dfs_s, nb_up hn (by omega) (Int.le_refl _)]
    refine dfL_id P 0 (fun q _ hq => ?_)
    unfold chd
    by_cases hc : onw f len q = false ∧ mi + ap (f (len - 1)) q ≤ lim
    · rw [if_pos hc]
      refine ih (len + 1) _ _ _ s (by omega) ?_
      have := hs_c ap vw lim P hap htr hvw (f := f) hl (by omega : q < P) hc.1 hc.2
      have := hap (f (len - 1)) q
      unfold nb at hn ⊢
      omega
    · rw [if_neg hc]
/-- a node that can't be better may be left -/
theorem chd_nb (hap : ∀ a b, 0 ≤ ap a b) (htr : ∀ a b c, ap a c ≤ ap a b + ap b c) (hvw : ∀ q, 0 ≤ vw q) {k len : Nat} {f : Nat → Nat} {mi vi : Int} {s : tS} (hl : 1 ≤ len) (hn : nb s (vi + smv P (hs ap vw lim f len mi)) mi) : dfL (chd ap vw lim P k len f mi vi) P 0 s = s := by
  have := dfs_nb ap vw lim P hap htr hvw (k + 1) len f mi vi s hl hn
  have h0 := smv_mono (f := fun _ => 0) (g := hs ap vw lim f len mi) P (fun q _ => by unfold hs; have := hvw q; split <;> omega)
  have h1 := (smv_b (f := fun _ => 0) (B := 0) P (fun _ _ => by omega)).1
  rw [dfs_s, nb_up hn (by omega) (Int.le_refl _)] at this
  exact this
end
