/-! ONE STEP, k STEPS -/
theorem pm_alen_lt (a : Nat) : pm_alen a < 2147483648 := by
  by_cases h : a < 119
  · have : ∀ a, a < 119 → pm_alen a < 2147483648 := by decide +kernel
    exact this a h
  · have h2 : pm_lay a = (99, 0) := by
      unfold pm_lay
      repeat' (first | (rw [show Nat.blt a _ = false by (cases hb : Nat.blt a _ with | false => rfl | true => rw [Nat.blt_eq] at hb; omega)]; simp only [cond_false]) | (rw [show Nat.beq a _ = false by (cases hb : Nat.beq a _ with | false => rfl | true => have := Nat.eq_of_beq_eq_true hb; omega)]; rfl))
    unfold pm_alen
    rw [h2]
    decide
section
variable {G : pm_G} {t : pm_T} {d : Nat} {pc len n : Nat} {ls : pm_L} {st : List pm_V} {N : pm_N} {M : pm_M} {q' : pm_Q}
/-- only constructors write a field that stays -/
def pm_okP (t : pm_T) : Prop := (pm_tY t).name = "<init>" ∨ ∀ pc k len, pm_tI t pc = some (.putfield k, len) → ∀ ci f, pm_fd (pm_tO t) k = some (ci, f) → ((pm_fk ci).getD f (9, 0)).1 ≠ 1
theorem pm_step_ok {i : Instr} (hT : pm_okT t) (hPf : pm_okP t) (hgl : pm_tO t = 13 → g_L G < 2147483648) (hi : pm_tI t pc = some (i, len)) (h : pm_st (g_L G) (g_sx G) (pm_tL t) (pm_tO t) i pc ls st n N M = some q') : pm_re G t d (pc, ls, st, n, N, M) q' := by
  obtain ⟨hdg, hlok⟩ := hT.1 pc i len hi
  have hlen : ∀ k, Nat.beq len k = true → len = k := fun k hk => Nat.eq_of_beq_eq_true hk
  cases i with
  | aload_n k => cases hlen 1 hlok; exact pm_s_aload (len := 1) (Or.inr ⟨k, hdg, rfl, rfl⟩) h
  | aload k => cases hlen 2 hlok; exact pm_s_aload (len := 2) (Or.inl ⟨hdg, rfl⟩) h
  | iload_n k => cases hlen 1 hlok; exact pm_s_iload (len := 1) (Or.inr ⟨k, hdg, rfl, rfl⟩) h
  | iload k => cases hlen 2 hlok; exact pm_s_iload (len := 2) (Or.inl ⟨hdg, rfl⟩) h
  | lload_n k => cases hlen 1 hlok; exact pm_s_lload (len := 1) (Or.inr ⟨k, hdg, rfl, rfl⟩) h
  | lload k => cases hlen 2 hlok; exact pm_s_lload (len := 2) (Or.inl ⟨hdg, rfl⟩) h
  | astore_n k => cases hlen 1 hlok; exact pm_s_astore (len := 1) (Or.inr ⟨k, hdg, rfl, rfl⟩) h
  | astore k => cases hlen 2 hlok; exact pm_s_astore (len := 2) (Or.inl ⟨hdg, rfl⟩) h
  | istore_n k => cases hlen 1 hlok; exact pm_s_istore (len := 1) (Or.inr ⟨k, hdg, rfl, rfl⟩) h
  | istore k => cases hlen 2 hlok; exact pm_s_istore (len := 2) (Or.inl ⟨hdg, rfl⟩) h
  | lstore_n k => cases hlen 1 hlok; exact pm_s_lstore (len := 1) (Or.inr ⟨k, hdg, rfl, rfl⟩) h
  | lstore k => cases hlen 2 hlok; exact pm_s_lstore (len := 2) (Or.inl ⟨hdg, rfl⟩) h
  | iconst x => cases hlen 1 hlok; exact pm_s_iconst hdg h
  | bipush x => cases hlen 2 hlok; exact pm_s_bipush hdg h
  | sipush x => cases hlen 3 hlok; exact pm_s_sipush hdg h
  | lconst x => cases hlen 1 hlok; exact pm_s_lconst hdg h
  | ldc k => cases hlen 2 hlok; exact pm_s_ldc hdg h
  | ldc_w k => cases hlen 3 hlok; exact pm_s_ldcw hdg h
  | ldc2_w k => cases hlen 3 hlok; exact pm_s_ldc2 hdg h
  | dup => cases hlen 1 hlok; exact pm_s_dup hdg h
  | dup2 => cases hlen 1 hlok; exact pm_s_dup2 hdg h
  | iadd => cases hlen 1 hlok; exact pm_s_b2 (i := .iadd) (f := i_ad) (fun a b => r32 _) (fun a b p e R s m args below meth c H locs cells slots Q lsr rest hx hb kk => lv_iadd hx hb hdg (by have e1 : Int32.ofInt (i_ad a b) = Int32.ofInt a + Int32.ofInt b := Int32.ofInt_toInt _; rw [← e1]; exact kk)) h
  | isub => cases hlen 1 hlok; exact pm_s_b2 (i := .isub) (f := i_sb) (fun a b => r32 _) (fun a b p e R s m args below meth c H locs cells slots Q lsr rest hx hb kk => lv_isub hx hb hdg (by have e1 : Int32.ofInt (i_sb a b) = Int32.ofInt a - Int32.ofInt b := Int32.ofInt_toInt _; rw [← e1]; exact kk)) h
  | imul => cases hlen 1 hlok; exact pm_s_b2 (i := .imul) (f := i_ml) (fun a b => r32 _) (fun a b p e R s m args below meth c H locs cells slots Q lsr rest hx hb kk => lv_imul hx hb hdg (by have e1 : Int32.ofInt (i_ml a b) = Int32.ofInt a * Int32.ofInt b := Int32.ofInt_toInt _; rw [← e1]; exact kk)) h
  | iand => cases hlen 1 hlok; exact pm_s_b2 (i := .iand) (f := i_an) (fun a b => r32 _) (fun a b p e R s m args below meth c H locs cells slots Q lsr rest hx hb kk => lv_iand hx hb hdg (by have e1 : Int32.ofInt (i_an a b) = Int32.ofInt a &&& Int32.ofInt b := Int32.ofInt_toInt _; rw [← e1]; exact kk)) h
  | ior => cases hlen 1 hlok; exact pm_s_b2 (i := .ior) (f := i_or) (fun a b => r32 _) (fun a b p e R s m args below meth c H locs cells slots Q lsr rest hx hb kk => lv_ior hx hb hdg (by have e1 : Int32.ofInt (i_or a b) = Int32.ofInt a ||| Int32.ofInt b := Int32.ofInt_toInt _; rw [← e1]; exact kk)) h
  | ishl => cases hlen 1 hlok; exact pm_s_b2 (i := .ishl) (f := i_sl) (fun a b => r32 _) (fun a b p e R s m args below meth c H locs cells slots Q lsr rest hx hb kk => lv_ishl hx hb hdg (by have e1 : Int32.ofInt (i_sl a b) = Int32.ofInt a <<< (Int32.ofInt b &&& 31) := Int32.ofInt_toInt _; rw [← e1]; exact kk)) h
  | ishr => cases hlen 1 hlok; exact pm_s_b2 (i := .ishr) (f := i_sr) (fun a b => r32 _) (fun a b p e R s m args below meth c H locs cells slots Q lsr rest hx hb kk => lv_ishr hx hb hdg (by have e1 : Int32.ofInt (i_sr a b) = Int32.ofInt a >>> (Int32.ofInt b &&& 31) := Int32.ofInt_toInt _; rw [← e1]; exact kk)) h
  | iushr => cases hlen 1 hlok; exact pm_s_b2 (i := .iushr) (f := i_us) (fun a b => r32 _) (fun a b p e R s m args below meth c H locs cells slots Q lsr rest hx hb kk => lv_iushr hx hb hdg (Int32.ofInt_toInt _).symm kk) h
  | idiv => cases hlen 1 hlok; exact pm_s_b2z (i := .idiv) (f := i_dv) (fun a b => r32 _) (fun a b hz p e R s m args below meth c H locs cells slots Q lsr rest hx hb kk => lv_idiv hx hb hdg hz (by have e1 : Int32.ofInt (i_dv a b) = Int32.ofInt a / Int32.ofInt b := Int32.ofInt_toInt _; rw [← e1]; exact kk)) h
  | irem => cases hlen 1 hlok; exact pm_s_b2z (i := .irem) (f := i_rm) (fun a b => r32 _) (fun a b hz p e R s m args below meth c H locs cells slots Q lsr rest hx hb kk => lv_irem hx hb hdg hz (by have e1 : Int32.ofInt (i_rm a b) = Int32.ofInt a - Int32.ofInt a / Int32.ofInt b * Int32.ofInt b := Int32.ofInt_toInt _; rw [← e1]; exact kk)) h
  | ineg => cases hlen 1 hlok; exact pm_s_b1 (f := i_ng) (fun a => r32 _) (fun a p e R s m args below meth c H locs cells slots Q lsr rest hx hb kk => lv_ineg hx hb hdg (by have e1 : Int32.ofInt (i_ng a) = -Int32.ofInt a := Int32.ofInt_toInt _; rw [← e1]; exact kk)) h
  | i2b => cases hlen 1 hlok; exact pm_s_b1 (f := i_2b) (fun a => r32 _) (fun a p e R s m args below meth c H locs cells slots Q lsr rest hx hb kk => lv_i2b hx hb hdg (Int32.ofInt_toInt _).symm kk) h
  | i2c => cases hlen 1 hlok; exact pm_s_b1 (f := i_2c) (fun a => r32 _) (fun a p e R s m args below meth c H locs cells slots Q lsr rest hx hb kk => lv_i2c hx hb hdg (Int32.ofInt_toInt _).symm kk) h
  | ladd => cases hlen 1 hlok; exact pm_s_l2 (f := l_ad) (fun a b => r64 _) (fun a b p e R s m args below meth c H locs cells slots Q lsr rest hx hb kk => lv_ladd hx hb hdg (by have e1 : Int64.ofInt (l_ad a b) = Int64.ofInt a + Int64.ofInt b := Int64.ofInt_toInt _; rw [← e1]; exact kk)) h
  | lsub => cases hlen 1 hlok; exact pm_s_l2 (f := l_sb) (fun a b => r64 _) (fun a b p e R s m args below meth c H locs cells slots Q lsr rest hx hb kk => lv_lsub hx hb hdg (by have e1 : Int64.ofInt (l_sb a b) = Int64.ofInt a - Int64.ofInt b := Int64.ofInt_toInt _; rw [← e1]; exact kk)) h
  | lmul => cases hlen 1 hlok; exact pm_s_l2 (f := l_ml) (fun a b => r64 _) (fun a b p e R s m args below meth c H locs cells slots Q lsr rest hx hb kk => lv_lmul hx hb hdg (by have e1 : Int64.ofInt (l_ml a b) = Int64.ofInt a * Int64.ofInt b := Int64.ofInt_toInt _; rw [← e1]; exact kk)) h
  | ldiv => cases hlen 1 hlok; exact pm_s_ldiv hdg h
  | lneg => cases hlen 1 hlok; exact pm_s_lneg hdg h
  | lcmp => cases hlen 1 hlok; exact pm_s_lcmp hdg h
  | i2l => cases hlen 1 hlok; exact pm_s_i2l hdg h
  | l2i => cases hlen 1 hlok; exact pm_s_l2i hdg h
  | iinc k x => cases hlen 3 hlok; exact pm_s_iinc hdg h
  | ifCond k off => cases hlen 3 hlok; exact pm_s_if hdg h
  | if_icmp k off => cases hlen 3 hlok; exact pm_s_icmp hdg h
  | goto off => cases hlen 3 hlok; exact pm_s_goto hdg h
  | tableswitch dd lo hi offs => exact pm_s_table hdg h
  | lookupswitch dd ps => exact pm_s_lookup hdg h
  | getfield k => cases hlen 3 hlok; exact pm_s_getfield hdg h
  | putfield k => cases hlen 3 hlok; exact pm_s_putfield hdg (hPf.imp id (fun z => z pc k 3 hi)) h
  | arraylength => cases hlen 1 hlok; exact pm_s_alen hdg h pm_alen_lt hgl
  | iaload => cases hlen 1 hlok; exact pm_s_iaload hdg h
  | laload => cases hlen 1 hlok; exact pm_s_laload hdg h
  | baload => cases hlen 1 hlok; exact pm_s_baload hdg h
  | aaload => cases hlen 1 hlok; exact pm_s_aaload hdg h
  | iastore => cases hlen 1 hlok; exact pm_s_iastore hdg h
  | lastore => cases hlen 1 hlok; exact pm_s_lastore hdg h
  | bastore => cases hlen 1 hlok; exact pm_s_bastore hdg h
  | aastore => cases hlen 1 hlok; exact pm_s_aastore hdg h
  | new k => cases hlen 3 hlok; exact pm_s_new hdg h
  | newarray k => cases hlen 2 hlok; exact pm_s_newarray hdg h
  | anewarray k => cases hlen 3 hlok; exact pm_s_anewarray hdg h
  | invokespecial k => cases hlen 3 hlok; exact pm_s_objinit hdg h
  | invokestatic k => cases hlen 3 hlok; exact pm_s_copy hdg h
  | _ => simp only [pm_st] at h; cases h
theorem pm_ex_ok (hT : pm_okT t) (hPf : pm_okP t) (hgl : pm_tO t = 13 → g_L G < 2147483648) : ∀ (k : Nat) (q q' : pm_Q), pm_ex (g_L G) (g_sx G) t k q = some q' → pm_re G t d q q'
  | 0, q, q', h => by
    simp only [pm_ex, Option.some.injEq] at h
    subst h
    exact pm_re_refl G t d q
  | k + 1, (pc, ls, st, n, N, M), q', h => by
    simp only [pm_ex] at h
    split at h
    · rename_i i ln hi
      split at h
      · rename_i q1 hq
        exact pm_re_trans (pm_step_ok hT hPf hgl hi hq) (pm_ex_ok hT hPf hgl k q1 q' h)
      · cases h
    · cases h
end
