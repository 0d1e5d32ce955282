/-! WHAT IS LEFT: the pure function of the law comes to its end -/
theorem pure_law (G : pm_G) (hL : g_L G ≤ 3072) : ∃ M', ((f_Q_copies 1 pm_M1).bind fun M_ => f_L_law_L18 G pm_F 0 M_) = some M' := by
  sorry
