/-! the law's own code, in pieces -/
def pm_chkR (t : pm_T) (a k : Nat) : Bool := (List.range k).all (fun j => match pm_tI t (a + j) with
  | some q => decide (decode (pm_tB t) (a + j) = .ok q) && pm_lok q.1 q.2
  | none => true)
theorem pm_ck_of {t : pm_T} {a k : Nat} (h : pm_chkR t a k = true) {pc : Nat} (h1 : a ≤ pc) (h2 : pc < a + k) {i : Instr} {len : Nat} (hi : pm_tI t pc = some (i, len)) : decode (pm_tB t) pc = .ok (i, len) ∧ pm_lok i len = true := by
  unfold pm_chkR at h
  have h3 := List.all_eq_true.mp h (pc - a) (List.mem_range.mpr (by omega))
  rw [show a + (pc - a) = pc by omega, hi] at h3
  simpa using h3
theorem ol_0 : pm_chkR mt_L_law 0 60 = true := by decide +kernel
theorem ol_60 : pm_chkR mt_L_law 60 60 = true := by decide +kernel
theorem ol_120 : pm_chkR mt_L_law 120 60 = true := by decide +kernel
theorem ol_180 : pm_chkR mt_L_law 180 60 = true := by decide +kernel
theorem ol_240 : pm_chkR mt_L_law 240 60 = true := by decide +kernel
theorem ol_300 : pm_chkR mt_L_law 300 60 = true := by decide +kernel
theorem ol_360 : pm_chkR mt_L_law 360 60 = true := by decide +kernel
theorem ol_420 : pm_chkR mt_L_law 420 60 = true := by decide +kernel
theorem ol_480 : pm_chkR mt_L_law 480 60 = true := by decide +kernel
theorem ol_540 : pm_chkR mt_L_law 540 60 = true := by decide +kernel
theorem ol_600 : pm_chkR mt_L_law 600 60 = true := by decide +kernel
theorem ol_660 : pm_chkR mt_L_law 660 60 = true := by decide +kernel
theorem ol_720 : pm_chkR mt_L_law 720 60 = true := by decide +kernel
theorem ol_780 : pm_chkR mt_L_law 780 60 = true := by decide +kernel
theorem ol_840 : pm_chkR mt_L_law 840 60 = true := by decide +kernel
theorem ol_900 : pm_chkR mt_L_law 900 60 = true := by decide +kernel
theorem ol_960 : pm_chkR mt_L_law 960 60 = true := by decide +kernel
theorem ol_1020 : pm_chkR mt_L_law 1020 60 = true := by decide +kernel
theorem od_L_law : pm_okT mt_L_law := by
  refine ⟨fun pc i len hi => ?_, by decide, by decide +kernel⟩
  by_cases h0 : pc < 60
  · exact pm_ck_of ol_0 (by omega) (by omega) hi
  by_cases h60 : pc < 120
  · exact pm_ck_of ol_60 (by omega) (by omega) hi
  by_cases h120 : pc < 180
  · exact pm_ck_of ol_120 (by omega) (by omega) hi
  by_cases h180 : pc < 240
  · exact pm_ck_of ol_180 (by omega) (by omega) hi
  by_cases h240 : pc < 300
  · exact pm_ck_of ol_240 (by omega) (by omega) hi
  by_cases h300 : pc < 360
  · exact pm_ck_of ol_300 (by omega) (by omega) hi
  by_cases h360 : pc < 420
  · exact pm_ck_of ol_360 (by omega) (by omega) hi
  by_cases h420 : pc < 480
  · exact pm_ck_of ol_420 (by omega) (by omega) hi
  by_cases h480 : pc < 540
  · exact pm_ck_of ol_480 (by omega) (by omega) hi
  by_cases h540 : pc < 600
  · exact pm_ck_of ol_540 (by omega) (by omega) hi
  by_cases h600 : pc < 660
  · exact pm_ck_of ol_600 (by omega) (by omega) hi
  by_cases h660 : pc < 720
  · exact pm_ck_of ol_660 (by omega) (by omega) hi
  by_cases h720 : pc < 780
  · exact pm_ck_of ol_720 (by omega) (by omega) hi
  by_cases h780 : pc < 840
  · exact pm_ck_of ol_780 (by omega) (by omega) hi
  by_cases h840 : pc < 900
  · exact pm_ck_of ol_840 (by omega) (by omega) hi
  by_cases h900 : pc < 960
  · exact pm_ck_of ol_900 (by omega) (by omega) hi
  by_cases h960 : pc < 1020
  · exact pm_ck_of ol_960 (by omega) (by omega) hi
  by_cases h1020 : pc < 1080
  · exact pm_ck_of ol_1020 (by omega) (by omega) hi
  have hz : pm_tI mt_L_law pc = none := pm_out (show 1026 ≤ pc by omega)
  rw [hz] at hi; cases hi
