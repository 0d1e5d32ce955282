/-! words of the methods, links -/
def pm_chkP (t : pm_T) (len : Nat) : Bool := (List.range len).all (fun pc => match pm_tI t pc with
  | some (.putfield k, _) => (match pm_fd (pm_tO t) k with
    | some (ci, f) => decide (((pm_fk ci).getD f (9, 0)).1 ≠ 1)
    | none => true)
  | _ => true)
theorem pm_okP_of {t : pm_T} (len : Nat) (h : pm_chkP t len = true) (hr : ∀ pc, len ≤ pc → pm_tI t pc = none) : pm_okP t := by
  refine Or.inr (fun pc k ln hi ci f hf => ?_)
  by_cases hp : pc < len
  · unfold pm_chkP at h
    have h1 := List.all_eq_true.mp h pc (List.mem_range.mpr hp)
    rw [hi] at h1
    simp only [hf] at h1
    simpa using h1
  · rw [hr pc (by omega)] at hi; cases hi
theorem pm_mw_of {t : pm_T} {na : Nat} (i : Nat) (h : pm_wat i (.code (pm_tY t) (pm_tB t) (pm_tL t) (pm_tR t)) = true) (h2 : decide ((pm_tY t).cls ≠ "java/lang/invoke/MethodHandle" ∧ (pm_tY t).cls ≠ "java/lang/invoke/VarHandle") = true) (h3 : decide ((parseMethodDescriptor (pm_tY t).desc).map (fun z => z.parameters.length) = some na) = true) (h4 : decide (pm_tL t ≤ 40) = true) (h5 : plainName (pm_tY t).cls = true) : pm_mw t na :=
  ⟨pm_wat_of h, of_decide_eq_true h2, of_decide_eq_true h3, of_decide_eq_true h4, h5⟩
theorem oa_X_init : pm_oA mt_X_init := ⟨od_X_init, Or.inl rfl, by decide⟩
theorem oa_X_plinth : pm_oA mt_X_plinth := ⟨od_X_plinth, pm_okP_of 13 (by decide +kernel) (fun _ h => pm_out h), by decide⟩
theorem oa_X_head : pm_oA mt_X_head := ⟨od_X_head, pm_okP_of 10 (by decide +kernel) (fun _ h => pm_out h), by decide⟩
theorem oa_X_put : pm_oA mt_X_put := ⟨od_X_put, pm_okP_of 33 (by decide +kernel) (fun _ h => pm_out h), by decide⟩
theorem oa_X_off : pm_oA mt_X_off := ⟨od_X_off, pm_okP_of 41 (by decide +kernel) (fun _ h => pm_out h), by decide⟩
theorem oa_X_change : pm_oA mt_X_change := ⟨od_X_change, pm_okP_of 33 (by decide +kernel) (fun _ h => pm_out h), by decide⟩
theorem oa_X_carve : pm_oA mt_X_carve := ⟨od_X_carve, pm_okP_of 54 (by decide +kernel) (fun _ h => pm_out h), by decide⟩
theorem oa_X_pay : pm_oA mt_X_pay := ⟨od_X_pay, pm_okP_of 87 (by decide +kernel) (fun _ h => pm_out h), by decide⟩
theorem oa_X_pass : pm_oA mt_X_pass := ⟨od_X_pass, pm_okP_of 64 (by decide +kernel) (fun _ h => pm_out h), by decide⟩
theorem oa_X_feed : pm_oA mt_X_feed := ⟨od_X_feed, pm_okP_of 62 (by decide +kernel) (fun _ h => pm_out h), by decide⟩
theorem oa_X_end : pm_oA mt_X_end := ⟨od_X_end, pm_okP_of 27 (by decide +kernel) (fun _ h => pm_out h), by decide⟩
theorem oa_X_text : pm_oA mt_X_text := ⟨od_X_text, pm_okP_of 56 (by decide +kernel) (fun _ h => pm_out h), by decide⟩
theorem oa_X_fault : pm_oA mt_X_fault := ⟨od_X_fault, pm_okP_of 29 (by decide +kernel) (fun _ h => pm_out h), by decide⟩
theorem oa_X_by : pm_oA mt_X_by := ⟨od_X_by, pm_okP_of 28 (by decide +kernel) (fun _ h => pm_out h), by decide⟩
theorem oa_X_played : pm_oA mt_X_played := ⟨od_X_played, pm_okP_of 156 (by decide +kernel) (fun _ h => pm_out h), by decide⟩
theorem oa_X_undo : pm_oA mt_X_undo := ⟨od_X_undo, pm_okP_of 24 (by decide +kernel) (fun _ h => pm_out h), by decide⟩
theorem oa_X_of : pm_oA mt_X_of := ⟨od_X_of, pm_okP_of 208 (by decide +kernel) (fun _ h => pm_out h), by decide⟩
theorem oa_X_headOf : pm_oA mt_X_headOf := ⟨od_X_headOf, pm_okP_of 91 (by decide +kernel) (fun _ h => pm_out h), by decide⟩
theorem oa_X_best : pm_oA mt_X_best := ⟨od_X_best, pm_okP_of 50 (by decide +kernel) (fun _ h => pm_out h), by decide⟩
theorem oa_X_seen : pm_oA mt_X_seen := ⟨od_X_seen, pm_okP_of 11 (by decide +kernel) (fun _ h => pm_out h), by decide⟩
theorem oa_X_forget : pm_oA mt_X_forget := ⟨od_X_forget, pm_okP_of 8 (by decide +kernel) (fun _ h => pm_out h), by decide⟩
theorem oa_X_fewest : pm_oA mt_X_fewest := ⟨od_X_fewest, pm_okP_of 10 (by decide +kernel) (fun _ h => pm_out h), by decide⟩
theorem oa_X_who : pm_oA mt_X_who := ⟨od_X_who, pm_okP_of 44 (by decide +kernel) (fun _ h => pm_out h), by decide⟩
theorem oa_X_stood : pm_oA mt_X_stood := ⟨od_X_stood, pm_okP_of 30 (by decide +kernel) (fun _ h => pm_out h), by decide⟩
theorem oa_X_longest : pm_oA mt_X_longest := ⟨od_X_longest, pm_okP_of 60 (by decide +kernel) (fun _ h => pm_out h), by decide⟩
theorem oa_X_tour : pm_oA mt_X_tour := ⟨od_X_tour, pm_okP_of 75 (by decide +kernel) (fun _ h => pm_out h), by decide⟩
theorem oa_X_rounds : pm_oA mt_X_rounds := ⟨od_X_rounds, pm_okP_of 136 (by decide +kernel) (fun _ h => pm_out h), by decide⟩
theorem oa_X_revolution : pm_oA mt_X_revolution := ⟨od_X_revolution, pm_okP_of 94 (by decide +kernel) (fun _ h => pm_out h), by decide⟩
theorem oa_X_image : pm_oA mt_X_image := ⟨od_X_image, pm_okP_of 41 (by decide +kernel) (fun _ h => pm_out h), by decide⟩
theorem oa_X_back : pm_oA mt_X_back := ⟨od_X_back, pm_okP_of 41 (by decide +kernel) (fun _ h => pm_out h), by decide⟩
theorem oa_X_about : pm_oA mt_X_about := ⟨od_X_about, pm_okP_of 267 (by decide +kernel) (fun _ h => pm_out h), by decide⟩
theorem oa_X_canPut : pm_oA mt_X_canPut := ⟨od_X_canPut, pm_okP_of 52 (by decide +kernel) (fun _ h => pm_out h), by decide⟩
theorem oa_X_canOff : pm_oA mt_X_canOff := ⟨od_X_canOff, pm_okP_of 29 (by decide +kernel) (fun _ h => pm_out h), by decide⟩
theorem oa_X_canChange : pm_oA mt_X_canChange := ⟨od_X_canChange, pm_okP_of 57 (by decide +kernel) (fun _ h => pm_out h), by decide⟩
theorem oa_X_isName : pm_oA mt_X_isName := ⟨od_X_isName, pm_okP_of 17 (by decide +kernel) (fun _ h => pm_out h), by decide⟩
theorem oa_X_dayPasses : pm_oA mt_X_dayPasses := ⟨od_X_dayPasses, pm_okP_of 159 (by decide +kernel) (fun _ h => pm_out h), by decide⟩
theorem oa_X_turns : pm_oA mt_X_turns := ⟨od_X_turns, pm_okP_of 119 (by decide +kernel) (fun _ h => pm_out h), by decide⟩
theorem oa_X_draw : pm_oA mt_X_draw := ⟨od_X_draw, pm_okP_of 36 (by decide +kernel) (fun _ h => pm_out h), by decide⟩
theorem oa_Q_init : pm_oA mt_Q_init := ⟨od_Q_init, Or.inl rfl, by decide⟩
theorem oa_Q_in : pm_oA mt_Q_in := ⟨od_Q_in, pm_okP_of 16 (by decide +kernel) (fun _ h => pm_out h), by decide⟩
theorem oa_Q_copies : pm_oA mt_Q_copies := ⟨od_Q_copies, pm_okP_of 47 (by decide +kernel) (fun _ h => pm_out h), by decide⟩
theorem oa_Q_isPlinth : pm_oA mt_Q_isPlinth := ⟨od_Q_isPlinth, pm_okP_of 14 (by decide +kernel) (fun _ h => pm_out h), by decide⟩
theorem oa_Q_isHead : pm_oA mt_Q_isHead := ⟨od_Q_isHead, pm_okP_of 14 (by decide +kernel) (fun _ h => pm_out h), by decide⟩
theorem oa_Q_plinth : pm_oA mt_Q_plinth := ⟨od_Q_plinth, pm_okP_of 125 (by decide +kernel) (fun _ h => pm_out h), by decide⟩
theorem oa_Q_head : pm_oA mt_Q_head := ⟨od_Q_head, pm_okP_of 87 (by decide +kernel) (fun _ h => pm_out h), by decide⟩
theorem oa_Q_keepsStep : pm_oA mt_Q_keepsStep := ⟨od_Q_keepsStep, pm_okP_of 108 (by decide +kernel) (fun _ h => pm_out h), by decide⟩
theorem oa_Q_undo : pm_oA mt_Q_undo := ⟨od_Q_undo, pm_okP_of 73 (by decide +kernel) (fun _ h => pm_out h), by decide⟩
theorem oa_Q_plinthOf : pm_oA mt_Q_plinthOf := ⟨od_Q_plinthOf, pm_okP_of 37 (by decide +kernel) (fun _ h => pm_out h), by decide⟩
theorem oa_Q_canPut : pm_oA mt_Q_canPut := ⟨od_Q_canPut, pm_okP_of 44 (by decide +kernel) (fun _ h => pm_out h), by decide⟩
theorem oa_Q_put : pm_oA mt_Q_put := ⟨od_Q_put, pm_okP_of 27 (by decide +kernel) (fun _ h => pm_out h), by decide⟩
theorem oa_Q_off : pm_oA mt_Q_off := ⟨od_Q_off, pm_okP_of 49 (by decide +kernel) (fun _ h => pm_out h), by decide⟩
theorem oa_Q_canChange : pm_oA mt_Q_canChange := ⟨od_Q_canChange, pm_okP_of 53 (by decide +kernel) (fun _ h => pm_out h), by decide⟩
theorem oa_Q_changes : pm_oA mt_Q_changes := ⟨od_Q_changes, pm_okP_of 39 (by decide +kernel) (fun _ h => pm_out h), by decide⟩
theorem oa_Q_change : pm_oA mt_Q_change := ⟨od_Q_change, pm_okP_of 23 (by decide +kernel) (fun _ h => pm_out h), by decide⟩
theorem oa_Q_carve : pm_oA mt_Q_carve := ⟨od_Q_carve, pm_okP_of 49 (by decide +kernel) (fun _ h => pm_out h), by decide⟩
theorem oa_Q_pay : pm_oA mt_Q_pay := ⟨od_Q_pay, pm_okP_of 83 (by decide +kernel) (fun _ h => pm_out h), by decide⟩
theorem oa_Q_feeds : pm_oA mt_Q_feeds := ⟨od_Q_feeds, pm_okP_of 39 (by decide +kernel) (fun _ h => pm_out h), by decide⟩
theorem oa_Q_feed : pm_oA mt_Q_feed := ⟨od_Q_feed, pm_okP_of 47 (by decide +kernel) (fun _ h => pm_out h), by decide⟩
theorem oa_Q_end : pm_oA mt_Q_end := ⟨od_Q_end, pm_okP_of 21 (by decide +kernel) (fun _ h => pm_out h), by decide⟩
theorem oa_Q_isLetter : pm_oA mt_Q_isLetter := ⟨od_Q_isLetter, pm_okP_of 28 (by decide +kernel) (fun _ h => pm_out h), by decide⟩
theorem oa_Q_wordOf : pm_oA mt_Q_wordOf := ⟨od_Q_wordOf, pm_okP_of 260 (by decide +kernel) (fun _ h => pm_out h), by decide⟩
theorem oa_Q_next : pm_oA mt_Q_next := ⟨od_Q_next, pm_okP_of 440 (by decide +kernel) (fun _ h => pm_out h), by decide⟩
theorem oa_Q_isSign : pm_oA mt_Q_isSign := ⟨od_Q_isSign, pm_okP_of 22 (by decide +kernel) (fun _ h => pm_out h), by decide⟩
theorem oa_Q_isWord : pm_oA mt_Q_isWord := ⟨od_Q_isWord, pm_okP_of 22 (by decide +kernel) (fun _ h => pm_out h), by decide⟩
theorem oa_Q_errs : pm_oA mt_Q_errs := ⟨od_Q_errs, pm_okP_of 21 (by decide +kernel) (fun _ h => pm_out h), by decide⟩
theorem oa_Q_emits : pm_oA mt_Q_emits := ⟨od_Q_emits, pm_okP_of 31 (by decide +kernel) (fun _ h => pm_out h), by decide⟩
theorem oa_Q_opensFrame : pm_oA mt_Q_opensFrame := ⟨od_Q_opensFrame, pm_okP_of 21 (by decide +kernel) (fun _ h => pm_out h), by decide⟩
theorem oa_Q_top : pm_oA mt_Q_top := ⟨od_Q_top, pm_okP_of 12 (by decide +kernel) (fun _ h => pm_out h), by decide⟩
theorem oa_Q_opensSign : pm_oA mt_Q_opensSign := ⟨od_Q_opensSign, pm_okP_of 37 (by decide +kernel) (fun _ h => pm_out h), by decide⟩
theorem oa_Q_rank : pm_oA mt_Q_rank := ⟨od_Q_rank, pm_okP_of 40 (by decide +kernel) (fun _ h => pm_out h), by decide⟩
theorem oa_Q_works : pm_oA mt_Q_works := ⟨od_Q_works, pm_okP_of 71 (by decide +kernel) (fun _ h => pm_out h), by decide⟩
theorem oa_Q_waitsFor : pm_oA mt_Q_waitsFor := ⟨od_Q_waitsFor, pm_okP_of 46 (by decide +kernel) (fun _ h => pm_out h), by decide⟩
theorem oa_Q_asks : pm_oA mt_Q_asks := ⟨od_Q_asks, pm_okP_of 29 (by decide +kernel) (fun _ h => pm_out h), by decide⟩
theorem oa_Q_begins : pm_oA mt_Q_begins := ⟨od_Q_begins, pm_okP_of 165 (by decide +kernel) (fun _ h => pm_out h), by decide⟩
theorem oa_Q_oneIsOver : pm_oA mt_Q_oneIsOver := ⟨od_Q_oneIsOver, pm_okP_of 46 (by decide +kernel) (fun _ h => pm_out h), by decide⟩
theorem oa_Q_askIsOver : pm_oA mt_Q_askIsOver := ⟨od_Q_askIsOver, pm_okP_of 45 (by decide +kernel) (fun _ h => pm_out h), by decide⟩
theorem oa_Q_isAsking : pm_oA mt_Q_isAsking := ⟨od_Q_isAsking, pm_okP_of 44 (by decide +kernel) (fun _ h => pm_out h), by decide⟩
theorem oa_Q_goesOn : pm_oA mt_Q_goesOn := ⟨od_Q_goesOn, pm_okP_of 251 (by decide +kernel) (fun _ h => pm_out h), by decide⟩
theorem oa_Q_asksOn : pm_oA mt_Q_asksOn := ⟨od_Q_asksOn, pm_okP_of 78 (by decide +kernel) (fun _ h => pm_out h), by decide⟩
theorem oa_Q_clauseIsOver : pm_oA mt_Q_clauseIsOver := ⟨od_Q_clauseIsOver, pm_okP_of 38 (by decide +kernel) (fun _ h => pm_out h), by decide⟩
theorem oa_Q_number : pm_oA mt_Q_number := ⟨od_Q_number, pm_okP_of 52 (by decide +kernel) (fun _ h => pm_out h), by decide⟩
theorem oa_Q_wasTold : pm_oA mt_Q_wasTold := ⟨od_Q_wasTold, pm_okP_of 40 (by decide +kernel) (fun _ h => pm_out h), by decide⟩
theorem oa_Q_clause : pm_oA mt_Q_clause := ⟨od_Q_clause, pm_okP_of 328 (by decide +kernel) (fun _ h => pm_out h), by decide⟩
theorem oa_Q_text : pm_oA mt_Q_text := ⟨od_Q_text, pm_okP_of 363 (by decide +kernel) (fun _ h => pm_out h), by decide⟩
theorem oa_Q_fault : pm_oA mt_Q_fault := ⟨od_Q_fault, pm_okP_of 25 (by decide +kernel) (fun _ h => pm_out h), by decide⟩
theorem oa_Q_bound : pm_oA mt_Q_bound := ⟨od_Q_bound, pm_okP_of 30 (by decide +kernel) (fun _ h => pm_out h), by decide⟩
theorem oa_Q_worked : pm_oA mt_Q_worked := ⟨od_Q_worked, pm_okP_of 225 (by decide +kernel) (fun _ h => pm_out h), by decide⟩
theorem oa_Q_saysOf : pm_oA mt_Q_saysOf := ⟨od_Q_saysOf, pm_okP_of 182 (by decide +kernel) (fun _ h => pm_out h), by decide⟩
theorem oa_Q_by : pm_oA mt_Q_by := ⟨od_Q_by, pm_okP_of 32 (by decide +kernel) (fun _ h => pm_out h), by decide⟩
theorem oa_Q_ordersOf : pm_oA mt_Q_ordersOf := ⟨od_Q_ordersOf, pm_okP_of 73 (by decide +kernel) (fun _ h => pm_out h), by decide⟩
theorem oa_Q_milesOf : pm_oA mt_Q_milesOf := ⟨od_Q_milesOf, pm_okP_of 78 (by decide +kernel) (fun _ h => pm_out h), by decide⟩
theorem oa_Q_closeTo : pm_oA mt_Q_closeTo := ⟨od_Q_closeTo, pm_okP_of 46 (by decide +kernel) (fun _ h => pm_out h), by decide⟩
theorem oa_Q_names : pm_oA mt_Q_names := ⟨od_Q_names, pm_okP_of 157 (by decide +kernel) (fun _ h => pm_out h), by decide⟩
theorem oa_Q_tellsOf : pm_oA mt_Q_tellsOf := ⟨od_Q_tellsOf, pm_okP_of 67 (by decide +kernel) (fun _ h => pm_out h), by decide⟩
theorem oa_Q_falls : pm_oA mt_Q_falls := ⟨od_Q_falls, pm_okP_of 56 (by decide +kernel) (fun _ h => pm_out h), by decide⟩
theorem oa_Q_dayPasses : pm_oA mt_Q_dayPasses := ⟨od_Q_dayPasses, pm_okP_of 185 (by decide +kernel) (fun _ h => pm_out h), by decide⟩
theorem oa_Q_pass : pm_oA mt_Q_pass := ⟨od_Q_pass, pm_okP_of 56 (by decide +kernel) (fun _ h => pm_out h), by decide⟩
theorem oa_Q_played : pm_oA mt_Q_played := ⟨od_Q_played, pm_okP_of 181 (by decide +kernel) (fun _ h => pm_out h), by decide⟩
theorem oa_Q_of : pm_oA mt_Q_of := ⟨od_Q_of, pm_okP_of 166 (by decide +kernel) (fun _ h => pm_out h), by decide⟩
theorem oa_Q_headOf : pm_oA mt_Q_headOf := ⟨od_Q_headOf, pm_okP_of 89 (by decide +kernel) (fun _ h => pm_out h), by decide⟩
theorem oa_Q_laysBest : pm_oA mt_Q_laysBest := ⟨od_Q_laysBest, pm_okP_of 278 (by decide +kernel) (fun _ h => pm_out h), by decide⟩
theorem oa_Q_best : pm_oA mt_Q_best := ⟨od_Q_best, pm_okP_of 172 (by decide +kernel) (fun _ h => pm_out h), by decide⟩
theorem oa_Q_seen : pm_oA mt_Q_seen := ⟨od_Q_seen, pm_okP_of 99 (by decide +kernel) (fun _ h => pm_out h), by decide⟩
theorem oa_Q_forget : pm_oA mt_Q_forget := ⟨od_Q_forget, pm_okP_of 16 (by decide +kernel) (fun _ h => pm_out h), by decide⟩
theorem oa_Q_sixes : pm_oA mt_Q_sixes := ⟨od_Q_sixes, pm_okP_of 48 (by decide +kernel) (fun _ h => pm_out h), by decide⟩
theorem oa_Q_at6 : pm_oA mt_Q_at6 := ⟨od_Q_at6, pm_okP_of 10 (by decide +kernel) (fun _ h => pm_out h), by decide⟩
theorem oa_Q_isSo : pm_oA mt_Q_isSo := ⟨od_Q_isSo, pm_okP_of 116 (by decide +kernel) (fun _ h => pm_out h), by decide⟩
theorem oa_Q_changed : pm_oA mt_Q_changed := ⟨od_Q_changed, pm_okP_of 35 (by decide +kernel) (fun _ h => pm_out h), by decide⟩
theorem oa_Q_spreads : pm_oA mt_Q_spreads := ⟨od_Q_spreads, pm_okP_of 129 (by decide +kernel) (fun _ h => pm_out h), by decide⟩
theorem oa_Q_wayNow : pm_oA mt_Q_wayNow := ⟨od_Q_wayNow, pm_okP_of 80 (by decide +kernel) (fun _ h => pm_out h), by decide⟩
theorem oa_Q_laysHistories : pm_oA mt_Q_laysHistories := ⟨od_Q_laysHistories, pm_okP_of 241 (by decide +kernel) (fun _ h => pm_out h), by decide⟩
theorem oa_Q_laysRest : pm_oA mt_Q_laysRest := ⟨od_Q_laysRest, pm_okP_of 126 (by decide +kernel) (fun _ h => pm_out h), by decide⟩
theorem oa_Q_fewest : pm_oA mt_Q_fewest := ⟨od_Q_fewest, pm_okP_of 19 (by decide +kernel) (fun _ h => pm_out h), by decide⟩
theorem oa_Q_who : pm_oA mt_Q_who := ⟨od_Q_who, pm_okP_of 154 (by decide +kernel) (fun _ h => pm_out h), by decide⟩
theorem oa_Q_stood : pm_oA mt_Q_stood := ⟨od_Q_stood, pm_okP_of 39 (by decide +kernel) (fun _ h => pm_out h), by decide⟩
theorem oa_Q_longest : pm_oA mt_Q_longest := ⟨od_Q_longest, pm_okP_of 69 (by decide +kernel) (fun _ h => pm_out h), by decide⟩
theorem oa_Q_asksTour : pm_oA mt_Q_asksTour := ⟨od_Q_asksTour, pm_okP_of 86 (by decide +kernel) (fun _ h => pm_out h), by decide⟩
theorem oa_Q_isOnWay : pm_oA mt_Q_isOnWay := ⟨od_Q_isOnWay, pm_okP_of 40 (by decide +kernel) (fun _ h => pm_out h), by decide⟩
theorem oa_Q_keepsTour : pm_oA mt_Q_keepsTour := ⟨od_Q_keepsTour, pm_okP_of 80 (by decide +kernel) (fun _ h => pm_out h), by decide⟩
theorem oa_Q_tours : pm_oA mt_Q_tours := ⟨od_Q_tours, pm_okP_of 122 (by decide +kernel) (fun _ h => pm_out h), by decide⟩
theorem oa_Q_tour : pm_oA mt_Q_tour := ⟨od_Q_tour, pm_okP_of 75 (by decide +kernel) (fun _ h => pm_out h), by decide⟩
theorem oa_Q_dirtBy : pm_oA mt_Q_dirtBy := ⟨od_Q_dirtBy, pm_okP_of 168 (by decide +kernel) (fun _ h => pm_out h), by decide⟩
theorem oa_Q_rounds : pm_oA mt_Q_rounds := ⟨od_Q_rounds, pm_okP_of 212 (by decide +kernel) (fun _ h => pm_out h), by decide⟩
theorem oa_Q_draw : pm_oA mt_Q_draw := ⟨od_Q_draw, pm_okP_of 28 (by decide +kernel) (fun _ h => pm_out h), by decide⟩
theorem oa_Q_revolution : pm_oA mt_Q_revolution := ⟨od_Q_revolution, pm_okP_of 249 (by decide +kernel) (fun _ h => pm_out h), by decide⟩
theorem oa_Q_image : pm_oA mt_Q_image := ⟨od_Q_image, pm_okP_of 13 (by decide +kernel) (fun _ h => pm_out h), by decide⟩
theorem oa_Q_back : pm_oA mt_Q_back := ⟨od_Q_back, pm_okP_of 13 (by decide +kernel) (fun _ h => pm_out h), by decide⟩
theorem oa_Q_debts : pm_oA mt_Q_debts := ⟨od_Q_debts, pm_okP_of 34 (by decide +kernel) (fun _ h => pm_out h), by decide⟩
theorem oa_Q_about : pm_oA mt_Q_about := ⟨od_Q_about, pm_okP_of 221 (by decide +kernel) (fun _ h => pm_out h), by decide⟩
theorem oa_Judge_init : pm_oA mt_Judge_init := ⟨od_Judge_init, Or.inl rfl, by decide⟩
theorem oa_Judge_amount : pm_oA mt_Judge_amount := ⟨od_Judge_amount, pm_okP_of 100 (by decide +kernel) (fun _ h => pm_out h), by decide⟩
theorem oa_Judge_reckon : pm_oA mt_Judge_reckon := ⟨od_Judge_reckon, pm_okP_of 203 (by decide +kernel) (fun _ h => pm_out h), by decide⟩
theorem oa_Judge_takes : pm_oA mt_Judge_takes := ⟨od_Judge_takes, pm_okP_of 48 (by decide +kernel) (fun _ h => pm_out h), by decide⟩
theorem oa_Judge_joined : pm_oA mt_Judge_joined := ⟨od_Judge_joined, pm_okP_of 280 (by decide +kernel) (fun _ h => pm_out h), by decide⟩
theorem oa_Judge_named : pm_oA mt_Judge_named := ⟨od_Judge_named, pm_okP_of 188 (by decide +kernel) (fun _ h => pm_out h), by decide⟩
theorem oa_Keeper_init : pm_oA mt_Keeper_init := ⟨od_Keeper_init, Or.inl rfl, by decide⟩
theorem oa_Keeper_start : pm_oA mt_Keeper_start := ⟨od_Keeper_start, pm_okP_of 6 (by decide +kernel) (fun _ h => pm_out h), by decide⟩
theorem oa_Keeper_expect : pm_oA mt_Keeper_expect := ⟨od_Keeper_expect, pm_okP_of 8 (by decide +kernel) (fun _ h => pm_out h), by decide⟩
theorem oa_Keeper_cleanedOn : pm_oA mt_Keeper_cleanedOn := ⟨od_Keeper_cleanedOn, pm_okP_of 7 (by decide +kernel) (fun _ h => pm_out h), by decide⟩
theorem oa_Keeper_leastDirt : pm_oA mt_Keeper_leastDirt := ⟨od_Keeper_leastDirt, pm_okP_of 48 (by decide +kernel) (fun _ h => pm_out h), by decide⟩
theorem oa_Keeper_plan : pm_oA mt_Keeper_plan := ⟨od_Keeper_plan, pm_okP_of 107 (by decide +kernel) (fun _ h => pm_out h), by decide⟩
theorem oa_Keeper_clean : pm_oA mt_Keeper_clean := ⟨od_Keeper_clean, pm_okP_of 121 (by decide +kernel) (fun _ h => pm_out h), by decide⟩
theorem oa_Moment_init : pm_oA mt_Moment_init := ⟨od_Moment_init, Or.inl rfl, by decide⟩
theorem oa_Moment_headAt : pm_oA mt_Moment_headAt := ⟨od_Moment_headAt, pm_okP_of 7 (by decide +kernel) (fun _ h => pm_out h), by decide⟩
theorem oa_Moment_placeOf : pm_oA mt_Moment_placeOf := ⟨od_Moment_placeOf, pm_okP_of 28 (by decide +kernel) (fun _ h => pm_out h), by decide⟩
theorem oa_Moment_nameAt : pm_oA mt_Moment_nameAt := ⟨od_Moment_nameAt, pm_okP_of 10 (by decide +kernel) (fun _ h => pm_out h), by decide⟩
theorem oa_Moment_debt : pm_oA mt_Moment_debt := ⟨od_Moment_debt, pm_okP_of 10 (by decide +kernel) (fun _ h => pm_out h), by decide⟩
theorem oa_Moment_debts : pm_oA mt_Moment_debts := ⟨od_Moment_debts, pm_okP_of 30 (by decide +kernel) (fun _ h => pm_out h), by decide⟩
theorem oa_Moment_purse : pm_oA mt_Moment_purse := ⟨od_Moment_purse, pm_okP_of 8 (by decide +kernel) (fun _ h => pm_out h), by decide⟩
theorem oa_Moment_day : pm_oA mt_Moment_day := ⟨od_Moment_day, pm_okP_of 8 (by decide +kernel) (fun _ h => pm_out h), by decide⟩
theorem oa_Moment_daysStood : pm_oA mt_Moment_daysStood := ⟨od_Moment_daysStood, pm_okP_of 11 (by decide +kernel) (fun _ h => pm_out h), by decide⟩
theorem oa_Moment_stand : pm_oA mt_Moment_stand := ⟨od_Moment_stand, pm_okP_of 8 (by decide +kernel) (fun _ h => pm_out h), by decide⟩
theorem oa_Moment_swap : pm_oA mt_Moment_swap := ⟨od_Moment_swap, pm_okP_of 27 (by decide +kernel) (fun _ h => pm_out h), by decide⟩
theorem oa_Moment_engrave : pm_oA mt_Moment_engrave := ⟨od_Moment_engrave, pm_okP_of 11 (by decide +kernel) (fun _ h => pm_out h), by decide⟩
theorem oa_Moment_owe : pm_oA mt_Moment_owe := ⟨od_Moment_owe, pm_okP_of 14 (by decide +kernel) (fun _ h => pm_out h), by decide⟩
theorem oa_Moment_earn : pm_oA mt_Moment_earn := ⟨od_Moment_earn, pm_okP_of 12 (by decide +kernel) (fun _ h => pm_out h), by decide⟩
theorem oa_Moment_standsADay : pm_oA mt_Moment_standsADay := ⟨od_Moment_standsADay, pm_okP_of 23 (by decide +kernel) (fun _ h => pm_out h), by decide⟩
theorem oa_Moment_nextDay : pm_oA mt_Moment_nextDay := ⟨od_Moment_nextDay, pm_okP_of 12 (by decide +kernel) (fun _ h => pm_out h), by decide⟩
theorem oa_Moment_become : pm_oA mt_Moment_become := ⟨od_Moment_become, pm_okP_of 17 (by decide +kernel) (fun _ h => pm_out h), by decide⟩
theorem oa_Moment_copyTo : pm_oA mt_Moment_copyTo := ⟨od_Moment_copyTo, pm_okP_of 14 (by decide +kernel) (fun _ h => pm_out h), by decide⟩
theorem oa_Moment_copyFrom : pm_oA mt_Moment_copyFrom := ⟨od_Moment_copyFrom, pm_okP_of 14 (by decide +kernel) (fun _ h => pm_out h), by decide⟩
theorem oa_Moment_stoodPlace : pm_oA mt_Moment_stoodPlace := ⟨od_Moment_stoodPlace, pm_okP_of 12 (by decide +kernel) (fun _ h => pm_out h), by decide⟩
theorem oa_Nights_init : pm_oA mt_Nights_init := ⟨od_Nights_init, Or.inl rfl, by decide⟩
theorem oa_Nights_search : pm_oA mt_Nights_search := ⟨od_Nights_search, pm_okP_of 196 (by decide +kernel) (fun _ h => pm_out h), by decide⟩
theorem oa_Nights_headsAt : pm_oA mt_Nights_headsAt := ⟨od_Nights_headsAt, pm_okP_of 65 (by decide +kernel) (fun _ h => pm_out h), by decide⟩
theorem oa_Nights_headIn : pm_oA mt_Nights_headIn := ⟨od_Nights_headIn, pm_okP_of 18 (by decide +kernel) (fun _ h => pm_out h), by decide⟩
theorem oa_Nights_looksAsNow : pm_oA mt_Nights_looksAsNow := ⟨od_Nights_looksAsNow, pm_okP_of 69 (by decide +kernel) (fun _ h => pm_out h), by decide⟩
theorem oa_Nights_keepSeen : pm_oA mt_Nights_keepSeen := ⟨od_Nights_keepSeen, pm_okP_of 91 (by decide +kernel) (fun _ h => pm_out h), by decide⟩
theorem oa_Nights_spread : pm_oA mt_Nights_spread := ⟨od_Nights_spread, pm_okP_of 90 (by decide +kernel) (fun _ h => pm_out h), by decide⟩
theorem oa_Nights_swapOf : pm_oA mt_Nights_swapOf := ⟨od_Nights_swapOf, pm_okP_of 10 (by decide +kernel) (fun _ h => pm_out h), by decide⟩
theorem oa_Nights_makeStates : pm_oA mt_Nights_makeStates := ⟨od_Nights_makeStates, pm_okP_of 117 (by decide +kernel) (fun _ h => pm_out h), by decide⟩
theorem oa_Nights_write : pm_oA mt_Nights_write := ⟨od_Nights_write, pm_okP_of 52 (by decide +kernel) (fun _ h => pm_out h), by decide⟩
theorem oa_Nights_numberOfScratch : pm_oA mt_Nights_numberOfScratch := ⟨od_Nights_numberOfScratch, pm_okP_of 61 (by decide +kernel) (fun _ h => pm_out h), by decide⟩
theorem oa_Nights_swapScratch : pm_oA mt_Nights_swapScratch := ⟨od_Nights_swapScratch, pm_okP_of 27 (by decide +kernel) (fun _ h => pm_out h), by decide⟩
theorem oa_Placing_init : pm_oA mt_Placing_init := ⟨od_Placing_init, Or.inl rfl, by decide⟩
theorem oa_Placing_shillings : pm_oA mt_Placing_shillings := ⟨od_Placing_shillings, pm_okP_of 5 (by decide +kernel) (fun _ h => pm_out h), by decide⟩
theorem oa_Placing_headFor : pm_oA mt_Placing_headFor := ⟨od_Placing_headFor, pm_okP_of 7 (by decide +kernel) (fun _ h => pm_out h), by decide⟩
theorem oa_Placing_solve : pm_oA mt_Placing_solve := ⟨od_Placing_solve, pm_okP_of 149 (by decide +kernel) (fun _ h => pm_out h), by decide⟩
theorem oa_Placing_place : pm_oA mt_Placing_place := ⟨od_Placing_place, pm_okP_of 7 (by decide +kernel) (fun _ h => pm_out h), by decide⟩
theorem oa_Placing_weigh : pm_oA mt_Placing_weigh := ⟨od_Placing_weigh, pm_okP_of 160 (by decide +kernel) (fun _ h => pm_out h), by decide⟩
theorem oa_Placing_match : pm_oA mt_Placing_match := ⟨od_Placing_match, pm_okP_of 124 (by decide +kernel) (fun _ h => pm_out h), by decide⟩
theorem oa_Placing_nearestFrom : pm_oA mt_Placing_nearestFrom := ⟨od_Placing_nearestFrom, pm_okP_of 132 (by decide +kernel) (fun _ h => pm_out h), by decide⟩
theorem oa_Placing_shift : pm_oA mt_Placing_shift := ⟨od_Placing_shift, pm_okP_of 64 (by decide +kernel) (fun _ h => pm_out h), by decide⟩
theorem oa_Reader_init : pm_oA mt_Reader_init := ⟨od_Reader_init, Or.inl rfl, by decide⟩
theorem oa_Reader_latestFault : pm_oA mt_Reader_latestFault := ⟨od_Reader_latestFault, pm_okP_of 5 (by decide +kernel) (fun _ h => pm_out h), by decide⟩
theorem oa_Reader_latestPlace : pm_oA mt_Reader_latestPlace := ⟨od_Reader_latestPlace, pm_okP_of 5 (by decide +kernel) (fun _ h => pm_out h), by decide⟩
theorem oa_Reader_read : pm_oA mt_Reader_read := ⟨od_Reader_read, pm_okP_of 66 (by decide +kernel) (fun _ h => pm_out h), by decide⟩
theorem oa_Reader_clause : pm_oA mt_Reader_clause := ⟨od_Reader_clause, pm_okP_of 123 (by decide +kernel) (fun _ h => pm_out h), by decide⟩
theorem oa_Reader_deed : pm_oA mt_Reader_deed := ⟨od_Reader_deed, pm_okP_of 109 (by decide +kernel) (fun _ h => pm_out h), by decide⟩
theorem oa_Reader_numberUpTo : pm_oA mt_Reader_numberUpTo := ⟨od_Reader_numberUpTo, pm_okP_of 35 (by decide +kernel) (fun _ h => pm_out h), by decide⟩
theorem oa_Reader_joined : pm_oA mt_Reader_joined := ⟨od_Reader_joined, pm_okP_of 65 (by decide +kernel) (fun _ h => pm_out h), by decide⟩
theorem oa_Reader_part : pm_oA mt_Reader_part := ⟨od_Reader_part, pm_okP_of 31 (by decide +kernel) (fun _ h => pm_out h), by decide⟩
theorem oa_Reader_joins : pm_oA mt_Reader_joins := ⟨od_Reader_joins, pm_okP_of 124 (by decide +kernel) (fun _ h => pm_out h), by decide⟩
theorem oa_Reader_ask : pm_oA mt_Reader_ask := ⟨od_Reader_ask, pm_okP_of 88 (by decide +kernel) (fun _ h => pm_out h), by decide⟩
theorem oa_Reader_compares : pm_oA mt_Reader_compares := ⟨od_Reader_compares, pm_okP_of 30 (by decide +kernel) (fun _ h => pm_out h), by decide⟩
theorem oa_Reader_one : pm_oA mt_Reader_one := ⟨od_Reader_one, pm_okP_of 158 (by decide +kernel) (fun _ h => pm_out h), by decide⟩
theorem oa_Reader_named : pm_oA mt_Reader_named := ⟨od_Reader_named, pm_okP_of 71 (by decide +kernel) (fun _ h => pm_out h), by decide⟩
theorem oa_Reader_emit : pm_oA mt_Reader_emit := ⟨od_Reader_emit, pm_okP_of 13 (by decide +kernel) (fun _ h => pm_out h), by decide⟩
theorem oa_Reader_expect : pm_oA mt_Reader_expect := ⟨od_Reader_expect, pm_okP_of 20 (by decide +kernel) (fun _ h => pm_out h), by decide⟩
theorem oa_Reader_fail : pm_oA mt_Reader_fail := ⟨od_Reader_fail, pm_okP_of 15 (by decide +kernel) (fun _ h => pm_out h), by decide⟩
theorem oa_Reader_advance : pm_oA mt_Reader_advance := ⟨od_Reader_advance, pm_okP_of 128 (by decide +kernel) (fun _ h => pm_out h), by decide⟩
theorem oa_Reader_word : pm_oA mt_Reader_word := ⟨od_Reader_word, pm_okP_of 169 (by decide +kernel) (fun _ h => pm_out h), by decide⟩
theorem oa_Reader_digits : pm_oA mt_Reader_digits := ⟨od_Reader_digits, pm_okP_of 88 (by decide +kernel) (fun _ h => pm_out h), by decide⟩
theorem oa_Reader_sign : pm_oA mt_Reader_sign := ⟨od_Reader_sign, pm_okP_of 99 (by decide +kernel) (fun _ h => pm_out h), by decide⟩
theorem oa_Reader_isLetter : pm_oA mt_Reader_isLetter := ⟨od_Reader_isLetter, pm_okP_of 30 (by decide +kernel) (fun _ h => pm_out h), by decide⟩
theorem oa_Reader_isDigit : pm_oA mt_Reader_isDigit := ⟨od_Reader_isDigit, pm_okP_of 18 (by decide +kernel) (fun _ h => pm_out h), by decide⟩
theorem oa_Steps_init : pm_oA mt_Steps_init := ⟨od_Steps_init, Or.inl rfl, by decide⟩
theorem oa_Steps_count : pm_oA mt_Steps_count := ⟨od_Steps_count, pm_okP_of 5 (by decide +kernel) (fun _ h => pm_out h), by decide⟩
theorem oa_Steps_keep : pm_oA mt_Steps_keep := ⟨od_Steps_keep, pm_okP_of 49 (by decide +kernel) (fun _ h => pm_out h), by decide⟩
theorem oa_Steps_takeBack : pm_oA mt_Steps_takeBack := ⟨od_Steps_takeBack, pm_okP_of 53 (by decide +kernel) (fun _ h => pm_out h), by decide⟩
theorem oa_Steps_become : pm_oA mt_Steps_become := ⟨od_Steps_become, pm_okP_of 35 (by decide +kernel) (fun _ h => pm_out h), by decide⟩
theorem oa_Tape_init : pm_oA mt_Tape_init := ⟨od_Tape_init, Or.inl rfl, by decide⟩
theorem oa_Tape_length : pm_oA mt_Tape_length := ⟨od_Tape_length, pm_okP_of 5 (by decide +kernel) (fun _ h => pm_out h), by decide⟩
theorem oa_Tape_hasRoomForTwenty : pm_oA mt_Tape_hasRoomForTwenty := ⟨od_Tape_hasRoomForTwenty, pm_okP_of 19 (by decide +kernel) (fun _ h => pm_out h), by decide⟩
theorem oa_Tape_add : pm_oA mt_Tape_add := ⟨od_Tape_add, pm_okP_of 50 (by decide +kernel) (fun _ h => pm_out h), by decide⟩
theorem oa_Tape_cut : pm_oA mt_Tape_cut := ⟨od_Tape_cut, pm_okP_of 6 (by decide +kernel) (fun _ h => pm_out h), by decide⟩
theorem oa_Tape_at : pm_oA mt_Tape_at := ⟨od_Tape_at, pm_okP_of 23 (by decide +kernel) (fun _ h => pm_out h), by decide⟩
theorem oa_Text_init : pm_oA mt_Text_init := ⟨od_Text_init, Or.inl rfl, by decide⟩
theorem oa_Text_clear : pm_oA mt_Text_clear := ⟨od_Text_clear, pm_okP_of 19 (by decide +kernel) (fun _ h => pm_out h), by decide⟩
theorem oa_Text_clauses : pm_oA mt_Text_clauses := ⟨od_Text_clauses, pm_okP_of 5 (by decide +kernel) (fun _ h => pm_out h), by decide⟩
theorem oa_Text_kind : pm_oA mt_Text_kind := ⟨od_Text_kind, pm_okP_of 7 (by decide +kernel) (fun _ h => pm_out h), by decide⟩
theorem oa_Text_first : pm_oA mt_Text_first := ⟨od_Text_first, pm_okP_of 7 (by decide +kernel) (fun _ h => pm_out h), by decide⟩
theorem oa_Text_second : pm_oA mt_Text_second := ⟨od_Text_second, pm_okP_of 7 (by decide +kernel) (fun _ h => pm_out h), by decide⟩
theorem oa_Text_isFull : pm_oA mt_Text_isFull := ⟨od_Text_isFull, pm_okP_of 15 (by decide +kernel) (fun _ h => pm_out h), by decide⟩
theorem oa_Text_clauseOf : pm_oA mt_Text_clauseOf := ⟨od_Text_clauseOf, pm_okP_of 24 (by decide +kernel) (fun _ h => pm_out h), by decide⟩
theorem oa_Text_codeAt : pm_oA mt_Text_codeAt := ⟨od_Text_codeAt, pm_okP_of 7 (by decide +kernel) (fun _ h => pm_out h), by decide⟩
theorem oa_Text_codeLength : pm_oA mt_Text_codeLength := ⟨od_Text_codeLength, pm_okP_of 5 (by decide +kernel) (fun _ h => pm_out h), by decide⟩
theorem oa_Text_emit : pm_oA mt_Text_emit := ⟨od_Text_emit, pm_okP_of 33 (by decide +kernel) (fun _ h => pm_out h), by decide⟩
theorem oa_Text_addClause : pm_oA mt_Text_addClause := ⟨od_Text_addClause, pm_okP_of 64 (by decide +kernel) (fun _ h => pm_out h), by decide⟩
theorem oa_Told_init : pm_oA mt_Told_init := ⟨od_Told_init, Or.inl rfl, by decide⟩
theorem oa_Told_addPlinth : pm_oA mt_Told_addPlinth := ⟨od_Told_addPlinth, pm_okP_of 119 (by decide +kernel) (fun _ h => pm_out h), by decide⟩
theorem oa_Told_countClose : pm_oA mt_Told_countClose := ⟨od_Told_countClose, pm_okP_of 52 (by decide +kernel) (fun _ h => pm_out h), by decide⟩
theorem oa_Told_addHead : pm_oA mt_Told_addHead := ⟨od_Told_addHead, pm_okP_of 67 (by decide +kernel) (fun _ h => pm_out h), by decide⟩
theorem oa_Told_addSeen : pm_oA mt_Told_addSeen := ⟨od_Told_addSeen, pm_okP_of 85 (by decide +kernel) (fun _ h => pm_out h), by decide⟩
theorem oa_Told_dropSeen : pm_oA mt_Told_dropSeen := ⟨od_Told_dropSeen, pm_okP_of 12 (by decide +kernel) (fun _ h => pm_out h), by decide⟩
theorem oa_Told_addText : pm_oA mt_Told_addText := ⟨od_Told_addText, pm_okP_of 11 (by decide +kernel) (fun _ h => pm_out h), by decide⟩
theorem oa_Told_ruledBy : pm_oA mt_Told_ruledBy := ⟨od_Told_ruledBy, pm_okP_of 6 (by decide +kernel) (fun _ h => pm_out h), by decide⟩
theorem oa_Told_isPlinth : pm_oA mt_Told_isPlinth := ⟨od_Told_isPlinth, pm_okP_of 18 (by decide +kernel) (fun _ h => pm_out h), by decide⟩
theorem oa_Told_isHead : pm_oA mt_Told_isHead := ⟨od_Told_isHead, pm_okP_of 18 (by decide +kernel) (fun _ h => pm_out h), by decide⟩
theorem oa_Told_isText : pm_oA mt_Told_isText := ⟨od_Told_isText, pm_okP_of 18 (by decide +kernel) (fun _ h => pm_out h), by decide⟩
theorem oa_Told_plinths : pm_oA mt_Told_plinths := ⟨od_Told_plinths, pm_okP_of 5 (by decide +kernel) (fun _ h => pm_out h), by decide⟩
theorem oa_Told_heads : pm_oA mt_Told_heads := ⟨od_Told_heads, pm_okP_of 5 (by decide +kernel) (fun _ h => pm_out h), by decide⟩
theorem oa_Told_texts : pm_oA mt_Told_texts := ⟨od_Told_texts, pm_okP_of 5 (by decide +kernel) (fun _ h => pm_out h), by decide⟩
theorem oa_Told_ruling : pm_oA mt_Told_ruling := ⟨od_Told_ruling, pm_okP_of 5 (by decide +kernel) (fun _ h => pm_out h), by decide⟩
theorem oa_Told_countSeen : pm_oA mt_Told_countSeen := ⟨od_Told_countSeen, pm_okP_of 5 (by decide +kernel) (fun _ h => pm_out h), by decide⟩
theorem oa_Told_nightSeen : pm_oA mt_Told_nightSeen := ⟨od_Told_nightSeen, pm_okP_of 7 (by decide +kernel) (fun _ h => pm_out h), by decide⟩
theorem oa_Told_plinthSeen : pm_oA mt_Told_plinthSeen := ⟨od_Told_plinthSeen, pm_okP_of 7 (by decide +kernel) (fun _ h => pm_out h), by decide⟩
theorem oa_Told_chinSeen : pm_oA mt_Told_chinSeen := ⟨od_Told_chinSeen, pm_okP_of 7 (by decide +kernel) (fun _ h => pm_out h), by decide⟩
theorem oa_Told_xOf : pm_oA mt_Told_xOf := ⟨od_Told_xOf, pm_okP_of 7 (by decide +kernel) (fun _ h => pm_out h), by decide⟩
theorem oa_Told_yOf : pm_oA mt_Told_yOf := ⟨od_Told_yOf, pm_okP_of 7 (by decide +kernel) (fun _ h => pm_out h), by decide⟩
theorem oa_Told_shadeOf : pm_oA mt_Told_shadeOf := ⟨od_Told_shadeOf, pm_okP_of 7 (by decide +kernel) (fun _ h => pm_out h), by decide⟩
theorem oa_Told_viewOf : pm_oA mt_Told_viewOf := ⟨od_Told_viewOf, pm_okP_of 7 (by decide +kernel) (fun _ h => pm_out h), by decide⟩
theorem oa_Told_closeTo : pm_oA mt_Told_closeTo := ⟨od_Told_closeTo, pm_okP_of 7 (by decide +kernel) (fun _ h => pm_out h), by decide⟩
theorem oa_Told_fameOf : pm_oA mt_Told_fameOf := ⟨od_Told_fameOf, pm_okP_of 7 (by decide +kernel) (fun _ h => pm_out h), by decide⟩
theorem oa_Told_chinOf : pm_oA mt_Told_chinOf := ⟨od_Told_chinOf, pm_okP_of 19 (by decide +kernel) (fun _ h => pm_out h), by decide⟩
theorem oa_Told_milesApart : pm_oA mt_Told_milesApart := ⟨od_Told_milesApart, pm_okP_of 34 (by decide +kernel) (fun _ h => pm_out h), by decide⟩
theorem oa_Told_become : pm_oA mt_Told_become := ⟨od_Told_become, pm_okP_of 191 (by decide +kernel) (fun _ h => pm_out h), by decide⟩
theorem oa_Walk_init : pm_oA mt_Walk_init := ⟨od_Walk_init, Or.inl rfl, by decide⟩
theorem oa_Walk_foundView : pm_oA mt_Walk_foundView := ⟨od_Walk_foundView, pm_okP_of 5 (by decide +kernel) (fun _ h => pm_out h), by decide⟩
theorem oa_Walk_foundMiles : pm_oA mt_Walk_foundMiles := ⟨od_Walk_foundMiles, pm_okP_of 5 (by decide +kernel) (fun _ h => pm_out h), by decide⟩
theorem oa_Walk_foundPlinth : pm_oA mt_Walk_foundPlinth := ⟨od_Walk_foundPlinth, pm_okP_of 23 (by decide +kernel) (fun _ h => pm_out h), by decide⟩
theorem oa_Walk_find : pm_oA mt_Walk_find := ⟨od_Walk_find, pm_okP_of 107 (by decide +kernel) (fun _ h => pm_out h), by decide⟩
theorem oa_Walk_goOn : pm_oA mt_Walk_goOn := ⟨od_Walk_goOn, pm_okP_of 184 (by decide +kernel) (fun _ h => pm_out h), by decide⟩
theorem oa_Walk_canBeBetter : pm_oA mt_Walk_canBeBetter := ⟨od_Walk_canBeBetter, pm_okP_of 101 (by decide +kernel) (fun _ h => pm_out h), by decide⟩
theorem oa_Arrays_fill : pm_oA mt_Arrays_fill := ⟨od_Arrays_fill, pm_okP_of 21 (by decide +kernel) (fun _ h => pm_out h), by decide⟩
theorem oa_Arrays_fill2 : pm_oA mt_Arrays_fill2 := ⟨od_Arrays_fill2, pm_okP_of 23 (by decide +kernel) (fun _ h => pm_out h), by decide⟩
