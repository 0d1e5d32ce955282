/-! printed by my own program: functions of the pure memory -/
def f_Q_in (x0 : Int) (x1 : Int) (x2 : Int) (M : pm_M) : Option (Int) :=
  if x0 < x1 then (
    some 0)
  else (
    if x2 < x0 then (
      some 0)
    else (
      some 1))
def f_Q_plinth (x1 : Int) (x2 : Int) (x3 : Int) (x4 : Int) (M : pm_M) : Option (Int × pm_M) :=
  (f_Q_in x1 0 99 M).bind fun r736 =>
  if r736 = 0 then (
    some ((-1), M))
  else (
    (f_Q_in x2 0 99 M).bind fun r737 =>
    if r737 = 0 then (
      some ((-1), M))
    else (
      (f_Q_in x3 0 9 M).bind fun r738 =>
      if r738 = 0 then (
        some ((-1), M))
      else (
        (f_Q_in x4 0 9 M).bind fun r739 =>
        if r739 = 0 then (
          some ((-1), M))
        else (
          if (M 88 0) = 8 then (
            some ((-1), M))
          else (
            pm_bd (i_ad 10 (i_ml 4 (M 88 0))) fun v740 =>
            if 0 ≤ v740 ∧ v740 < 4012 then (
            pm_bd (pm_ms M 88 (v740).toNat x1) fun M741 =>
            if 0 ≤ (i_ad v740 1) ∧ (i_ad v740 1) < 4012 then (
            pm_bd (pm_ms M741 88 ((i_ad v740 1)).toNat x2) fun M742 =>
            if 0 ≤ (i_ad v740 2) ∧ (i_ad v740 2) < 4012 then (
            pm_bd (pm_ms M742 88 ((i_ad v740 2)).toNat x3) fun M743 =>
            if 0 ≤ (i_ad v740 3) ∧ (i_ad v740 3) < 4012 then (
            pm_bd (pm_ms M743 88 ((i_ad v740 3)).toNat x4) fun M744 =>
            pm_bd (pm_ms M744 88 0 (i_ad (M744 88 0) 1)) fun M745 =>
            some ((i_sb (M745 88 0) 1), M745)) else none) else none) else none) else none)))))
def f_Q_head (x1 : Int) (x2 : Int) (M : pm_M) : Option (Int × pm_M) :=
  (f_Q_in x1 0 9 M).bind fun r746 =>
  if r746 = 0 then (
    some ((-1), M))
  else (
    (f_Q_in x2 0 3 M).bind fun r747 =>
    if r747 = 0 then (
      some ((-1), M))
    else (
      if (M 88 1) = 12 then (
        some ((-1), M))
      else (
        if 0 ≤ (i_ad 42 (i_ml 2 (M 88 1))) ∧ (i_ad 42 (i_ml 2 (M 88 1))) < 4012 then (
        pm_bd (pm_ms M 88 ((i_ad 42 (i_ml 2 (M 88 1)))).toNat x1) fun M748 =>
        if 0 ≤ (i_ad (i_ad 42 (i_ml 2 (M748 88 1))) 1) ∧ (i_ad (i_ad 42 (i_ml 2 (M748 88 1))) 1) < 4012 then (
        pm_bd (pm_ms M748 88 ((i_ad (i_ad 42 (i_ml 2 (M748 88 1))) 1)).toNat x2) fun M749 =>
        pm_bd (pm_ms M749 88 1 (i_ad (M749 88 1) 1)) fun M750 =>
        some ((i_sb (M750 88 1) 1), M750)) else none) else none)))
def f_Q_undo_L23  : Nat → Int → pm_M → Option (pm_M)
  | 0, _, _ => none
  | n_ + 1, y1, M =>
    if 186 ≤ y1 then (
      some M)
    else (
      if 0 ≤ (i_ad (i_ad 292 (i_ml 186 (M 88 4))) y1) ∧ (i_ad (i_ad 292 (i_ml 186 (M 88 4))) y1) < 4012 then (
      if 0 ≤ (i_ad 70 y1) ∧ (i_ad 70 y1) < 4012 then (
      pm_bd (pm_ms M 88 ((i_ad 70 y1)).toNat (M 88 ((i_ad (i_ad 292 (i_ml 186 (M 88 4))) y1)).toNat)) fun M752 =>
      f_Q_undo_L23 n_ (i_ad y1 1) M752) else none) else none)
def f_Q_undo  (M : pm_M) : Option (Int × pm_M) :=
  if (M 88 4) = 0 then (
    some ((-1), M))
  else (
    pm_bd (pm_ms M 88 4 (i_sb (M 88 4) 1)) fun M751 =>
    (f_Q_undo_L23 pm_F 0 M751).bind fun e753 =>
    some ((e753 88 4), e753))
def f_Q_isHead (x1 : Int) (M : pm_M) : Option (Int) :=
  (f_Q_in x1 0 (i_sb (M 88 1) 1) M).bind fun r754 =>
  if r754 = 0 ∨ r754 = 1 then some r754 else none
def f_Q_isPlinth (x1 : Int) (M : pm_M) : Option (Int) :=
  (f_Q_in x1 0 (i_sb (M 88 0) 1) M).bind fun r756 =>
  if r756 = 0 ∨ r756 = 1 then some r756 else none
def f_Q_plinthOf_L4 (M : pm_M) : Nat → Int → Int → Int → Option (Int)
  | 0, _, _, _ => none
  | n_ + 1, y1, y2, y3 =>
    if 8 ≤ y3 then (
      some y2)
    else (
      if 0 ≤ (i_ad 70 y3) ∧ (i_ad 70 y3) < 4012 then (
      if (M 88 ((i_ad 70 y3)).toNat) = y1 then (
        f_Q_plinthOf_L4 M n_ y1 y3 (i_ad y3 1))
      else (
        f_Q_plinthOf_L4 M n_ y1 y2 (i_ad y3 1))) else none)
def f_Q_plinthOf (x1 : Int) (M : pm_M) : Option (Int) :=
  (f_Q_plinthOf_L4 M pm_F x1 (-1) 0).bind fun e758 =>
  some e758
def f_Q_canPut (x1 : Int) (x2 : Int) (M : pm_M) : Option (Int) :=
  (f_Q_isHead x1 M).bind fun r755 =>
  if r755 = 0 then (
    some 0)
  else (
    (f_Q_isPlinth x2 M).bind fun r757 =>
    if r757 = 0 then (
      some 0)
    else (
      (f_Q_plinthOf x1 M).bind fun r759 =>
      if r759 = (-1) then (
        if 0 ≤ (i_ad 70 x2) ∧ (i_ad 70 x2) < 4012 then (
        if (M 88 ((i_ad 70 x2)).toNat) = (-1) then (
          some 1)
        else (
          some 0)) else none)
      else (
        some 0)))
def f_Q_keepsStep_L15  : Nat → Int → pm_M → Option (pm_M)
  | 0, _, _ => none
  | n_ + 1, y1, M =>
    if 3826 ≤ y1 then (
      some M)
    else (
      if 0 ≤ (i_ad y1 186) ∧ (i_ad y1 186) < 4012 then (
      if 0 ≤ y1 ∧ y1 < 4012 then (
      pm_bd (pm_ms M 88 (y1).toNat (M 88 ((i_ad y1 186)).toNat)) fun M761 =>
      f_Q_keepsStep_L15 n_ (i_ad y1 1) M761) else none) else none)
def f_Q_keepsStep_L54  : Nat → Int → pm_M → Option (pm_M)
  | 0, _, _ => none
  | n_ + 1, y1, M =>
    if 186 ≤ y1 then (
      some M)
    else (
      if 0 ≤ (i_ad 70 y1) ∧ (i_ad 70 y1) < 4012 then (
      if 0 ≤ (i_ad (i_ad 292 (i_ml 186 (M 88 4))) y1) ∧ (i_ad (i_ad 292 (i_ml 186 (M 88 4))) y1) < 4012 then (
      pm_bd (pm_ms M 88 ((i_ad (i_ad 292 (i_ml 186 (M 88 4))) y1)).toNat (M 88 ((i_ad 70 y1)).toNat)) fun M764 =>
      f_Q_keepsStep_L54 n_ (i_ad y1 1) M764) else none) else none)
def f_Q_keepsStep  (M : pm_M) : Option (pm_M) :=
  if (M 88 4) = 20 then (
    (f_Q_keepsStep_L15 pm_F 292 M).bind fun e762 =>
    pm_bd (pm_ms e762 88 4 19) fun M763 =>
    (f_Q_keepsStep_L54 pm_F 0 M763).bind fun e765 =>
    pm_bd (pm_ms e765 88 4 (i_ad (e765 88 4) 1)) fun M766 =>
    some M766)
  else (
    (f_Q_keepsStep_L54 pm_F 0 M).bind fun e767 =>
    pm_bd (pm_ms e767 88 4 (i_ad (e767 88 4) 1)) fun M768 =>
    some M768)
def f_Q_put (x1 : Int) (x2 : Int) (M : pm_M) : Option (Int × pm_M) :=
  (f_Q_canPut x1 x2 M).bind fun r760 =>
  if r760 = 0 then (
    some (0, M))
  else (
    (f_Q_keepsStep  M).bind fun M769 =>
    if 0 ≤ (i_ad 70 x2) ∧ (i_ad 70 x2) < 4012 then (
    pm_bd (pm_ms M769 88 ((i_ad 70 x2)).toNat x1) fun M770 =>
    some (1, M770)) else none)
def f_Q_off (x1 : Int) (M : pm_M) : Option (Int × pm_M) :=
  (f_Q_isPlinth x1 M).bind fun r771 =>
  if r771 = 0 then (
    some ((-1), M))
  else (
    if 0 ≤ (i_ad 70 x1) ∧ (i_ad 70 x1) < 4012 then (
    if (M 88 ((i_ad 70 x1)).toNat) = (-1) then (
      some ((-1), M))
    else (
      (f_Q_keepsStep  M).bind fun M772 =>
      if 0 ≤ (i_ad 70 x1) ∧ (i_ad 70 x1) < 4012 then (
      pm_bd (M772 88 ((i_ad 70 x1)).toNat) fun v773 =>
      if 0 ≤ (i_ad 70 x1) ∧ (i_ad 70 x1) < 4012 then (
      pm_bd (pm_ms M772 88 ((i_ad 70 x1)).toNat (-1)) fun M774 =>
      some (v773, M774)) else none) else none)) else none)
def f_Q_canChange (x1 : Int) (x2 : Int) (M : pm_M) : Option (Int) :=
  (f_Q_isPlinth x1 M).bind fun r775 =>
  if r775 = 0 then (
    some 0)
  else (
    (f_Q_isPlinth x2 M).bind fun r776 =>
    if r776 = 0 then (
      some 0)
    else (
      if x1 = x2 then (
        some 0)
      else (
        if 0 ≤ (i_ad 70 x1) ∧ (i_ad 70 x1) < 4012 then (
        if (M 88 ((i_ad 70 x1)).toNat) = (-1) then (
          if 0 ≤ (i_ad 70 x2) ∧ (i_ad 70 x2) < 4012 then (
          if (M 88 ((i_ad 70 x2)).toNat) = (-1) then (
            some 0)
          else (
            some 1)) else none)
        else (
          some 1)) else none)))
def f_Q_changes (x1 : Int) (x2 : Int) (M : pm_M) : Option (pm_M) :=
  if 0 ≤ (i_ad 70 x1) ∧ (i_ad 70 x1) < 4012 then (
  pm_bd (M 88 ((i_ad 70 x1)).toNat) fun v779 =>
  if 0 ≤ (i_ad 70 x2) ∧ (i_ad 70 x2) < 4012 then (
  if 0 ≤ (i_ad 70 x1) ∧ (i_ad 70 x1) < 4012 then (
  pm_bd (pm_ms M 88 ((i_ad 70 x1)).toNat (M 88 ((i_ad 70 x2)).toNat)) fun M780 =>
  if 0 ≤ (i_ad 70 x2) ∧ (i_ad 70 x2) < 4012 then (
  pm_bd (pm_ms M780 88 ((i_ad 70 x2)).toNat v779) fun M781 =>
  some M781) else none) else none) else none) else none
def f_Q_change (x1 : Int) (x2 : Int) (M : pm_M) : Option (Int × pm_M) :=
  (f_Q_canChange x1 x2 M).bind fun r777 =>
  if r777 = 0 then (
    some (0, M))
  else (
    (f_Q_keepsStep  M).bind fun M778 =>
    (f_Q_changes x1 x2 M778).bind fun M782 =>
    some (1, M782))
def f_Q_carve (x1 : Int) (x2 : Int) (M : pm_M) : Option (Int × pm_M) :=
  (f_Q_isPlinth x1 M).bind fun r783 =>
  if r783 = 0 then (
    some (0, M))
  else (
    (f_Q_in x2 (-1) 11 M).bind fun r784 =>
    if r784 = 0 then (
      some (0, M))
    else (
      if 0 ≤ (i_ad 78 x1) ∧ (i_ad 78 x1) < 4012 then (
      if (M 88 ((i_ad 78 x1)).toNat) = x2 then (
        some (0, M))
      else (
        (f_Q_keepsStep  M).bind fun M785 =>
        if 0 ≤ (i_ad 78 x1) ∧ (i_ad 78 x1) < 4012 then (
        pm_bd (pm_ms M785 88 ((i_ad 78 x1)).toNat x2) fun M786 =>
        some (1, M786)) else none)) else none))
def f_Q_pay (x1 : Int) (x2 : Int) (M : pm_M) : Option (Int × pm_M) :=
  (f_Q_isHead x1 M).bind fun r787 =>
  if r787 = 0 then (
    some ((-1), M))
  else (
    (f_Q_in x2 1 9999 M).bind fun r788 =>
    if r788 = 0 then (
      some ((-1), M))
    else (
      if 0 ≤ (i_ad 86 x1) ∧ (i_ad 86 x1) < 4012 then (
      if (M 88 ((i_ad 86 x1)).toNat) < x2 then (
        some ((-1), M))
      else (
        if x2 ≤ (M 88 98) then (
          (f_Q_keepsStep  M).bind fun M789 =>
          if 0 ≤ (i_ad 86 x1) ∧ (i_ad 86 x1) < 4012 then (
          if 0 ≤ (i_ad 86 x1) ∧ (i_ad 86 x1) < 4012 then (
          pm_bd (pm_ms M789 88 ((i_ad 86 x1)).toNat (i_sb (M789 88 ((i_ad 86 x1)).toNat) x2)) fun M790 =>
          pm_bd (pm_ms M790 88 98 (i_sb (M790 88 98) x2)) fun M791 =>
          if 0 ≤ (i_ad 86 x1) ∧ (i_ad 86 x1) < 4012 then (
          some ((M791 88 ((i_ad 86 x1)).toNat), M791)) else none) else none) else none)
        else (
          some ((-1), M)))) else none))
def f_Q_feeds_L3  : Nat → Int → Int → pm_M → Option (pm_M)
  | 0, _, _, _ => none
  | n_ + 1, y1, y2, M =>
    if y2 < 0 then (
      some M)
    else (
      if 0 ≤ (M 87 3) ∧ (M 87 3) < 300 then (
      pm_bd (pm_ms M 90 ((M 87 3)).toNat (i_2b (i_2b (i_sr y1 y2)))) fun M792 =>
      pm_bd (pm_ms M792 87 3 (i_ad (M792 87 3) 1)) fun M793 =>
      f_Q_feeds_L3 n_ y1 (i_sb y2 8) M793) else none)
def f_Q_feeds (x1 : Int) (M : pm_M) : Option (pm_M) :=
  (f_Q_feeds_L3 pm_F x1 24 M).bind fun e794 =>
  some e794
def f_Q_feed (x1 : Int) (x2 : Int) (x3 : Int) (x4 : Int) (x5 : Int) (M : pm_M) : Option (Int × pm_M) :=
  if (i_ad (M 87 3) 20) ≤ 300 then (
    (f_Q_feeds x1 M).bind fun M795 =>
    (f_Q_feeds x2 M795).bind fun M796 =>
    (f_Q_feeds x3 M796).bind fun M797 =>
    (f_Q_feeds x4 M797).bind fun M798 =>
    (f_Q_feeds x5 M798).bind fun M799 =>
    some ((M799 87 3), M799))
  else (
    some ((-1), M))
def f_Q_end (x1 : Int) (M : pm_M) : Option (Int × pm_M) :=
  (f_Q_in x1 0 (M 87 3) M).bind fun r800 =>
  if r800 = 0 then (
    some ((-1), M))
  else (
    pm_bd (pm_ms M 87 3 x1) fun M801 =>
    some (x1, M801))
def f_Q_isLetter (x0 : Int) (M : pm_M) : Option (Int) :=
  (f_Q_in x0 97 122 M).bind fun r819 =>
  if r819 = 0 then (
    (f_Q_in x0 65 90 M).bind fun r820 =>
    if r820 = 0 then (
      some 0)
    else (
      some 1))
  else (
    some 1)
def f_Q_wordOf (x0 : Int) (M : pm_M) : Option (Int) :=
  if x0 = 150885 then (
    some 0)
  else (
    if x0 = 12721779 then (
      some 1)
    else (
      if x0 = 581380403 then (
        some 2)
      else (
        if x0 = 818583781 then (
          some 3)
        else (
          if x0 = 646368051 then (
            some 4)
          else (
            if x0 = 200052 then (
              some 5)
            else (
              if x0 = 194982 then (
                some 6)
              else (
                if x0 = 38260894181 then (
                  some 7)
                else (
                  if x0 = 12721395 then (
                    some 8)
                  else (
                    if x0 = 3054 then (
                      some 9)
                    else (
                      if x0 = 14589224 then (
                        some 10)
                      else (
                        if x0 = 3058 then (
                          some 11)
                        else (
                          if x0 = 138148 then (
                            some 12)
                          else (
                            if x0 = 191476 then (
                              some 13)
                            else (
                              if x0 = 52288744744 then (
                                some 14)
                              else (
                                if x0 = 866261285 then (
                                  some 15)
                                else (
                                  if x0 = 14326135 then (
                                    some 16)
                                  else (
                                    if x0 = 149625 then (
                                      some 17)
                                    else (
                                      if x0 = 598932709 then (
                                        some 18)
                                      else (
                                        if x0 = 10639460 then (
                                          some 19)
                                        else (
                                          if x0 = 10099557 then (
                                            some 20)
                                          else (
                                            if x0 = 12196709 then (
                                              some 21)
                                            else (
                                              if x0 = 849771060 then (
                                                some 22)
                                              else (
                                                if x0 = 12548467 then (
                                                  some 23)
                                                else (
                                                  some (-1)))))))))))))))))))))))))
def f_Q_next_L0  : Nat → pm_M → Option (pm_M)
  | 0, _ => none
  | n_ + 1, M =>
    if (M 87 13) ≤ (M 87 14) then (
      some M)
    else (
      if 0 ≤ (M 87 14) ∧ (M 87 14) < 300 then (
      if (M 90 ((M 87 14)).toNat) = 32 then (
        pm_bd (pm_ms M 87 14 (i_ad (M 87 14) 1)) fun M813 =>
        f_Q_next_L0 n_ M813)
      else (
        if 0 ≤ (M 87 14) ∧ (M 87 14) < 300 then (
        if (M 90 ((M 87 14)).toNat) = 10 then (
          pm_bd (pm_ms M 87 14 (i_ad (M 87 14) 1)) fun M814 =>
          f_Q_next_L0 n_ M814)
        else (
          some M)) else none)) else none)
def f_Q_next_J385  (y1 : Int) (M : pm_M) : Option (pm_M) :=
  if (M 87 13) ≤ (M 87 14) then (
    some M)
  else (
    if 0 ≤ (M 87 14) ∧ (M 87 14) < 300 then (
    if (M 90 ((M 87 14)).toNat) = 61 then (
      if y1 = 60 then (
        pm_bd (pm_ms M 87 17 300) fun M828 =>
        pm_bd (pm_ms M828 87 14 (i_ad (M828 87 14) 1)) fun M829 =>
        some M829)
      else (
        pm_bd (pm_ms M 87 17 301) fun M830 =>
        pm_bd (pm_ms M830 87 14 (i_ad (M830 87 14) 1)) fun M831 =>
        some M831))
    else (
      some M)) else none)
def f_Q_next_L232  : Nat → pm_M → Option (pm_M)
  | 0, _ => none
  | n_ + 1, M =>
    if (M 87 13) ≤ (M 87 14) then (
      some M)
    else (
      if 0 ≤ (M 87 14) ∧ (M 87 14) < 300 then (
      (f_Q_in (M 90 ((M 87 14)).toNat) 48 57 M).bind fun r838 =>
      if r838 = 0 then (
        some M)
      else (
        if (M 87 17) ≤ 99999 then (
          if 0 ≤ (M 87 14) ∧ (M 87 14) < 300 then (
          pm_bd (pm_ms M 87 17 (i_sb (i_ad (i_ml 10 (M 87 17)) (M 90 ((M 87 14)).toNat)) 48)) fun M839 =>
          pm_bd (pm_ms M839 87 14 (i_ad (M839 87 14) 1)) fun M840 =>
          f_Q_next_L232 n_ M840) else none)
        else (
          pm_bd (pm_ms M 87 17 (M 87 17)) fun M841 =>
          pm_bd (pm_ms M841 87 14 (i_ad (M841 87 14) 1)) fun M842 =>
          f_Q_next_L232 n_ M842))) else none)
def f_Q_next_L99  : Nat → Int → Int → pm_M → Option (Int × Int × pm_M)
  | 0, _, _, _ => none
  | n_ + 1, y2, y4, M =>
    if (M 87 13) ≤ (M 87 14) then (
      some (y2, y4, M))
    else (
      if 0 ≤ (M 87 14) ∧ (M 87 14) < 300 then (
      (f_Q_isLetter (M 90 ((M 87 14)).toNat) M).bind fun r844 =>
      if r844 = 0 then (
        some (y2, y4, M))
      else (
        if 8 ≤ y4 then (
          pm_bd (pm_ms M 87 14 (i_ad (M 87 14) 1)) fun M845 =>
          f_Q_next_L99 n_ y2 (i_ad y4 1) M845)
        else (
          if 0 ≤ (M 87 14) ∧ (M 87 14) < 300 then (
          pm_bd (pm_ms M 87 14 (i_ad (M 87 14) 1)) fun M846 =>
          f_Q_next_L99 n_ (l_sb (l_ad (l_ml 64 y2) (M 90 ((M 87 14)).toNat)) 64) (i_ad y4 1) M846) else none))) else none)
def f_Q_next_J173  (y2 : Int) (y4 : Int) (M : pm_M) : Option (pm_M) :=
  if y4 ≤ 7 then (
    (f_Q_wordOf y2 M).bind fun r848 =>
    pm_bd (pm_ms M 87 17 r848) fun M849 =>
    if 0 ≤ (M849 87 17) then (
      pm_bd (pm_ms M849 87 16 1) fun M850 =>
      some M850)
    else (
      pm_bd (pm_ms M849 87 16 4) fun M851 =>
      some M851))
  else (
    pm_bd (pm_ms M 87 17 (-1)) fun M852 =>
    if 0 ≤ (M852 87 17) then (
      pm_bd (pm_ms M852 87 16 1) fun M853 =>
      some M853)
    else (
      pm_bd (pm_ms M852 87 16 4) fun M854 =>
      some M854))
def f_Q_next_J52  (M : pm_M) : Option (pm_M) :=
  pm_bd (pm_ms M 87 15 (M 87 14)) fun M816 =>
  if (M816 87 14) = (M816 87 13) then (
    pm_bd (pm_ms M816 87 16 0) fun M817 =>
    some M817)
  else (
    if 0 ≤ (M816 87 14) ∧ (M816 87 14) < 300 then (
    pm_bd (M816 90 ((M816 87 14)).toNat) fun v818 =>
    (f_Q_isLetter v818 M816).bind fun r821 =>
    if r821 = 0 then (
      (f_Q_in v818 48 57 M816).bind fun r822 =>
      if r822 = 0 then (
        pm_bd (pm_ms M816 87 14 (i_ad (M816 87 14) 1)) fun M823 =>
        pm_bd (pm_ms M823 87 17 v818) fun M824 =>
        (f_Q_in v818 59 62 M824).bind fun r825 =>
        if r825 = 0 then (
          (f_Q_in v818 40 45 M824).bind fun r826 =>
          if r826 = 0 then (
            if v818 = 47 then (
              pm_bd (pm_ms M824 87 16 3) fun M827 =>
              if v818 = 60 then (
                f_Q_next_J385 v818 M827)
              else (
                if v818 = 62 then (
                  f_Q_next_J385 v818 M827)
                else (
                  some M827)))
            else (
              if v818 = 35 then (
                pm_bd (pm_ms M824 87 16 3) fun M832 =>
                if v818 = 60 then (
                  f_Q_next_J385 v818 M832)
                else (
                  if v818 = 62 then (
                    f_Q_next_J385 v818 M832)
                  else (
                    some M832)))
              else (
                pm_bd (pm_ms M824 87 16 4) fun M833 =>
                if v818 = 60 then (
                  f_Q_next_J385 v818 M833)
                else (
                  if v818 = 62 then (
                    f_Q_next_J385 v818 M833)
                  else (
                    some M833)))))
          else (
            pm_bd (pm_ms M824 87 16 3) fun M834 =>
            if v818 = 60 then (
              f_Q_next_J385 v818 M834)
            else (
              if v818 = 62 then (
                f_Q_next_J385 v818 M834)
              else (
                some M834))))
        else (
          pm_bd (pm_ms M824 87 16 3) fun M835 =>
          if v818 = 60 then (
            f_Q_next_J385 v818 M835)
          else (
            if v818 = 62 then (
              f_Q_next_J385 v818 M835)
            else (
              some M835))))
      else (
        pm_bd (pm_ms M816 87 16 2) fun M836 =>
        pm_bd (pm_ms M836 87 17 0) fun M837 =>
        (f_Q_next_L232 pm_F M837).bind fun e843 =>
        some e843))
    else (
      (f_Q_next_L99 pm_F 0 0 M816).bind fun e847 =>
      f_Q_next_J173 e847.1 e847.2.1 e847.2.2)) else none)
def f_Q_next  (M : pm_M) : Option (pm_M) :=
  (f_Q_next_L0 pm_F M).bind fun e815 =>
  f_Q_next_J52 e815
def f_Q_isWord (x1 : Int) (M : pm_M) : Option (Int) :=
  if (M 87 16) = 1 then (
    if (M 87 17) = x1 then (
      some 1)
    else (
      some 0))
  else (
    some 0)
def f_Q_opensFrame (x1 : Int) (M : pm_M) : Option (pm_M) :=
  if 0 ≤ (M 87 21) ∧ (M 87 21) < 40 then (
  pm_bd (pm_ms M 98 ((M 87 21)).toNat x1) fun M857 =>
  pm_bd (pm_ms M857 87 21 (i_ad (M857 87 21) 1)) fun M858 =>
  some M858) else none
def f_Q_errs (x1 : Int) (M : pm_M) : Option (pm_M) :=
  if (M 87 18) = 0 then (
    pm_bd (pm_ms M 87 18 x1) fun M861 =>
    pm_bd (pm_ms M861 87 19 (M861 87 15)) fun M862 =>
    some M862)
  else (
    some M)
def f_Q_opensSign (x1 : Int) (M : pm_M) : Option (Int × pm_M) :=
  if (M 87 20) = 8 then (
    (f_Q_errs 3 M).bind fun M863 =>
    some (0, M863))
  else (
    pm_bd (pm_ms M 87 20 (i_ad (M 87 20) 1)) fun M864 =>
    (f_Q_opensFrame x1 M864).bind fun M865 =>
    (f_Q_next  M865).bind fun M866 =>
    some (1, M866))
def f_Q_asks  (M : pm_M) : Option (pm_M) :=
  (f_Q_isWord 13 M).bind fun r856 =>
  if r856 = 0 then (
    (f_Q_opensFrame 4 M).bind fun M859 =>
    pm_bd (pm_ms M859 87 27 1) fun M860 =>
    some M860)
  else (
    (f_Q_opensSign 3 M).bind fun r867 =>
    some r867.2)
def f_Q_emits (x1 : Int) (x2 : Int) (M : pm_M) : Option (pm_M) :=
  if 0 ≤ (M 87 34) ∧ (M 87 34) < 400 then (
  pm_bd (pm_ms M 106 ((M 87 34)).toNat x1) fun M869 =>
  if 0 ≤ (M869 87 34) ∧ (M869 87 34) < 400 then (
  pm_bd (pm_ms M869 107 ((M869 87 34)).toNat x2) fun M870 =>
  pm_bd (pm_ms M870 87 34 (i_ad (M870 87 34) 1)) fun M871 =>
  some M871) else none) else none
def f_Q_top  (M : pm_M) : Option (Int) :=
  if 0 ≤ (i_sb (M 87 21) 1) ∧ (i_sb (M 87 21) 1) < 40 then (
  some (M 98 ((i_sb (M 87 21) 1)).toNat)) else none
def f_Q_oneIsOver_L0  : Nat → pm_M → Option (pm_M)
  | 0, _ => none
  | n_ + 1, M =>
    (f_Q_top  M).bind fun r874 =>
    if r874 = 7 then (
      pm_bd (pm_ms M 87 21 (i_sb (M 87 21) 1)) fun M875 =>
      pm_bd (pm_ms M875 87 20 (i_sb (M875 87 20) 1)) fun M876 =>
      (f_Q_emits 402 0 M876).bind fun M877 =>
      f_Q_oneIsOver_L0 n_ M877)
    else (
      some M)
def f_Q_oneIsOver  (M : pm_M) : Option (pm_M) :=
  (f_Q_oneIsOver_L0 pm_F M).bind fun e878 =>
  pm_bd (pm_ms e878 87 27 2) fun M879 =>
  some M879
def f_Q_isSign (x1 : Int) (M : pm_M) : Option (Int) :=
  if (M 87 16) = 3 then (
    if (M 87 17) = x1 then (
      some 1)
    else (
      some 0))
  else (
    some 0)
def f_Q_begins  (M : pm_M) : Option (pm_M) :=
  if (M 87 16) = 2 then (
    if (M 87 17) ≤ 9999 then (
      (f_Q_emits 400 (M 87 17) M).bind fun M872 =>
      (f_Q_next  M872).bind fun M873 =>
      (f_Q_oneIsOver  M873).bind fun M880 =>
      some M880)
    else (
      (f_Q_errs 2 M).bind fun M881 =>
      some M881))
  else (
    if (M 87 16) = 1 then (
      if (M 87 17) ≤ 13 then (
        (f_Q_isSign 40 M).bind fun r882 =>
        if r882 = 0 then (
          (f_Q_isSign 45 M).bind fun r883 =>
          if r883 = 0 then (
            (f_Q_errs 1 M).bind fun M884 =>
            some M884)
          else (
            (f_Q_opensSign 7 M).bind fun r885 =>
            some r885.2))
        else (
          (f_Q_opensSign 6 M).bind fun r886 =>
          some r886.2))
      else (
        pm_bd (i_sb (i_sb (M 87 17) 13) 1) fun v887 =>
        if (M 87 29) = 3 then (
          if (i_an (i_sr 31 v887) 1) = 0 then (
            (f_Q_errs 5 M).bind fun M888 =>
            some M888)
          else (
            (f_Q_emits 401 v887 M).bind fun M889 =>
            (f_Q_next  M889).bind fun M890 =>
            (f_Q_oneIsOver  M890).bind fun M891 =>
            some M891))
        else (
          if (i_an (i_sr 1007 v887) 1) = 0 then (
            (f_Q_errs 5 M).bind fun M892 =>
            some M892)
          else (
            (f_Q_emits 401 v887 M).bind fun M893 =>
            (f_Q_next  M893).bind fun M894 =>
            (f_Q_oneIsOver  M894).bind fun M895 =>
            some M895))))
    else (
      (f_Q_isSign 40 M).bind fun r896 =>
      if r896 = 0 then (
        (f_Q_isSign 45 M).bind fun r897 =>
        if r897 = 0 then (
          (f_Q_errs 1 M).bind fun M898 =>
          some M898)
        else (
          (f_Q_opensSign 7 M).bind fun r899 =>
          some r899.2))
      else (
        (f_Q_opensSign 6 M).bind fun r900 =>
        some r900.2)))
def f_Q_rank (x0 : Int) (M : pm_M) : Option (Int) :=
  if x0 = 407 then (
    some 1)
  else (
    if x0 = 406 then (
      some 2)
    else (
      if x0 = 43 then (
        some 3)
      else (
        if x0 = 45 then (
          some 3)
        else (
          some 4))))
def f_Q_works_L0  : Nat → Int → pm_M → Option (pm_M)
  | 0, _, _ => none
  | n_ + 1, y1, M =>
    if (M 87 24) ≤ 0 then (
      some M)
    else (
      if 0 ≤ (i_sb (M 87 24) 1) ∧ (i_sb (M 87 24) 1) < 80 then (
      if (M 101 ((i_sb (M 87 24) 1)).toNat) = (M 87 21) then (
        if 0 ≤ (i_sb (M 87 24) 1) ∧ (i_sb (M 87 24) 1) < 80 then (
        (f_Q_rank (M 100 ((i_sb (M 87 24) 1)).toNat) M).bind fun r904 =>
        if r904 < y1 then (
          some M)
        else (
          pm_bd (pm_ms M 87 24 (i_sb (M 87 24) 1)) fun M905 =>
          if 0 ≤ (M905 87 24) ∧ (M905 87 24) < 80 then (
          (f_Q_emits (M905 100 ((M905 87 24)).toNat) 0 M905).bind fun M906 =>
          f_Q_works_L0 n_ y1 M906) else none)) else none)
      else (
        some M)) else none)
def f_Q_works (x1 : Int) (M : pm_M) : Option (pm_M) :=
  (f_Q_works_L0 pm_F x1 M).bind fun e907 =>
  some e907
def f_Q_waitsFor (x1 : Int) (M : pm_M) : Option (pm_M) :=
  (f_Q_rank x1 M).bind fun r903 =>
  (f_Q_works r903 M).bind fun M908 =>
  if 0 ≤ (M908 87 24) ∧ (M908 87 24) < 80 then (
  pm_bd (pm_ms M908 100 ((M908 87 24)).toNat x1) fun M909 =>
  if 0 ≤ (M909 87 24) ∧ (M909 87 24) < 80 then (
  pm_bd (pm_ms M909 101 ((M909 87 24)).toNat (M909 87 21)) fun M910 =>
  pm_bd (pm_ms M910 87 24 (i_ad (M910 87 24) 1)) fun M911 =>
  (f_Q_next  M911).bind fun M912 =>
  some M912) else none) else none
def f_Q_isAsking (x0 : Int) (M : pm_M) : Option (Int) :=
  if x0 = 60 then (
    some 1)
  else (
    if x0 = 62 then (
      some 1)
    else (
      if x0 = 61 then (
        some 1)
      else (
        if x0 = 35 then (
          some 1)
        else (
          if x0 = 300 then (
            some 1)
          else (
            if x0 = 301 then (
              some 1)
            else (
              some 0))))))
def f_Q_askIsOver_L0  : Nat → pm_M → Option (pm_M)
  | 0, _ => none
  | n_ + 1, M =>
    (f_Q_top  M).bind fun r927 =>
    if r927 = 3 then (
      pm_bd (pm_ms M 87 21 (i_sb (M 87 21) 1)) fun M928 =>
      pm_bd (pm_ms M928 87 20 (i_sb (M928 87 20) 1)) fun M929 =>
      (f_Q_emits 405 0 M929).bind fun M930 =>
      f_Q_askIsOver_L0 n_ M930)
    else (
      some M)
def f_Q_askIsOver  (M : pm_M) : Option (pm_M) :=
  (f_Q_askIsOver_L0 pm_F M).bind fun e931 =>
  pm_bd (pm_ms e931 87 27 3) fun M932 =>
  some M932
def f_Q_clauseIsOver  (M : pm_M) : Option (pm_M) :=
  (f_Q_works 1 M).bind fun M936 =>
  pm_bd (pm_ms M936 87 21 0) fun M937 =>
  (f_Q_emits 408 0 M937).bind fun M938 =>
  pm_bd (pm_ms M938 87 28 (i_ad (M938 87 28) 1)) fun M939 =>
  (f_Q_next  M939).bind fun M940 =>
  pm_bd (pm_ms M940 87 27 4) fun M941 =>
  some M941
def f_Q_goesOn_J181  (y1 : Int) (M : pm_M) : Option (pm_M) :=
  if y1 = 5 then (
    (f_Q_works 3 M).bind fun M923 =>
    if 0 ≤ (M923 87 21) ∧ (M923 87 21) < 41 then (
    pm_bd (M923 99 ((M923 87 21)).toNat) fun v924 =>
    pm_bd (pm_ms M923 87 21 (i_sb (M923 87 21) 1)) fun M925 =>
    (f_Q_emits v924 0 M925).bind fun M926 =>
    (f_Q_askIsOver  M926).bind fun M933 =>
    some M933) else none)
  else (
    if y1 = 1 then (
      (f_Q_isSign 59 M).bind fun r934 =>
      if r934 = 0 then (
        (f_Q_errs 1 M).bind fun M935 =>
        some M935)
      else (
        (f_Q_clauseIsOver  M).bind fun M942 =>
        some M942))
    else (
      (f_Q_errs 1 M).bind fun M943 =>
      some M943))
def f_Q_goesOn_J116  (y1 : Int) (M : pm_M) : Option (pm_M) :=
  if y1 = 4 then (
    if (M 87 16) = 3 then (
      (f_Q_isAsking (M 87 17) M).bind fun r922 =>
      if r922 = 0 then (
        f_Q_goesOn_J181 y1 M)
      else (
        (f_Q_works 3 M).bind fun M944 =>
        if 0 ≤ (M944 87 21) ∧ (M944 87 21) < 41 then (
        pm_bd (pm_ms M944 99 ((M944 87 21)).toNat (M944 87 17)) fun M945 =>
        if 0 ≤ (i_sb (M945 87 21) 1) ∧ (i_sb (M945 87 21) 1) < 40 then (
        pm_bd (pm_ms M945 98 ((i_sb (M945 87 21) 1)).toNat 5) fun M946 =>
        (f_Q_next  M946).bind fun M947 =>
        pm_bd (pm_ms M947 87 27 1) fun M948 =>
        some M948) else none) else none))
    else (
      f_Q_goesOn_J181 y1 M))
  else (
    f_Q_goesOn_J181 y1 M)
def f_Q_goesOn_J65  (y1 : Int) (M : pm_M) : Option (pm_M) :=
  if y1 = 6 then (
    (f_Q_isSign 41 M).bind fun r921 =>
    if r921 = 0 then (
      f_Q_goesOn_J116 y1 M)
    else (
      (f_Q_works 3 M).bind fun M949 =>
      pm_bd (pm_ms M949 87 21 (i_sb (M949 87 21) 1)) fun M950 =>
      pm_bd (pm_ms M950 87 20 (i_sb (M950 87 20) 1)) fun M951 =>
      (f_Q_next  M951).bind fun M952 =>
      (f_Q_oneIsOver  M952).bind fun M953 =>
      some M953))
  else (
    f_Q_goesOn_J116 y1 M)
def f_Q_goesOn  (M : pm_M) : Option (pm_M) :=
  (f_Q_top  M).bind fun r902 =>
  if (M 87 16) = 3 then (
    if (M 87 17) = 43 then (
      (f_Q_waitsFor (M 87 17) M).bind fun M913 =>
      pm_bd (pm_ms M913 87 27 1) fun M914 =>
      some M914)
    else (
      if (M 87 17) = 45 then (
        (f_Q_waitsFor (M 87 17) M).bind fun M915 =>
        pm_bd (pm_ms M915 87 27 1) fun M916 =>
        some M916)
      else (
        if (M 87 17) = 42 then (
          (f_Q_waitsFor (M 87 17) M).bind fun M917 =>
          pm_bd (pm_ms M917 87 27 1) fun M918 =>
          some M918)
        else (
          if (M 87 17) = 47 then (
            (f_Q_waitsFor (M 87 17) M).bind fun M919 =>
            pm_bd (pm_ms M919 87 27 1) fun M920 =>
            some M920)
          else (
            f_Q_goesOn_J65 r902 M)))))
  else (
    f_Q_goesOn_J65 r902 M)
def f_Q_asksOn  (M : pm_M) : Option (pm_M) :=
  (f_Q_isWord 11 M).bind fun r955 =>
  if r955 = 0 then (
    (f_Q_isWord 12 M).bind fun r956 =>
    if r956 = 0 then (
      (f_Q_top  M).bind fun r957 =>
      if r957 = 2 then (
        (f_Q_isSign 59 M).bind fun r958 =>
        if r958 = 0 then (
          (f_Q_errs 1 M).bind fun M959 =>
          some M959)
        else (
          (f_Q_clauseIsOver  M).bind fun M960 =>
          some M960))
      else (
        (f_Q_errs 1 M).bind fun M961 =>
        some M961))
    else (
      (f_Q_isWord 11 M).bind fun r962 =>
      if r962 = 0 then (
        (f_Q_waitsFor 406 M).bind fun M963 =>
        pm_bd (pm_ms M963 87 27 0) fun M964 =>
        some M964)
      else (
        (f_Q_waitsFor 407 M).bind fun M965 =>
        pm_bd (pm_ms M965 87 27 0) fun M966 =>
        some M966)))
  else (
    (f_Q_isWord 11 M).bind fun r967 =>
    if r967 = 0 then (
      (f_Q_waitsFor 406 M).bind fun M968 =>
      pm_bd (pm_ms M968 87 27 0) fun M969 =>
      some M969)
    else (
      (f_Q_waitsFor 407 M).bind fun M970 =>
      pm_bd (pm_ms M970 87 27 0) fun M971 =>
      some M971))
def f_Q_number (x1 : Int) (x2 : Int) (M : pm_M) : Option (Int × pm_M) :=
  if 0 < (M 87 18) then (
    (f_Q_errs 1 M).bind fun M980 =>
    some (x1, M980))
  else (
    if (M 87 16) = 2 then (
      (f_Q_in (M 87 17) x1 x2 M).bind fun r981 =>
      if r981 = 0 then (
        (f_Q_errs 2 M).bind fun M982 =>
        some (x1, M982))
      else (
        (f_Q_next  M).bind fun M983 =>
        some ((M 87 17), M983)))
    else (
      (f_Q_errs 1 M).bind fun M984 =>
      some (x1, M984)))
def f_Q_wasTold_L4 (M : pm_M) : Nat → Int → Int → Int → Option (Int)
  | 0, _, _, _ => none
  | n_ + 1, y1, y2, y3 =>
    if (M 87 28) ≤ y3 then (
      some y2)
    else (
      if y2 = 0 then (
        if 0 ≤ y3 ∧ y3 < 24 then (
        if (M 102 (y3).toNat) = y1 then (
          f_Q_wasTold_L4 M n_ y1 1 (i_ad y3 1))
        else (
          f_Q_wasTold_L4 M n_ y1 0 (i_ad y3 1))) else none)
      else (
        f_Q_wasTold_L4 M n_ y1 1 (i_ad y3 1)))
def f_Q_wasTold (x1 : Int) (M : pm_M) : Option (Int) :=
  (f_Q_wasTold_L4 M pm_F x1 0 0).bind fun e1009 =>
  if e1009 = 0 ∨ e1009 = 1 then some e1009 else none
def f_Q_clause_J295  (M : pm_M) : Option (pm_M) :=
  if (M 87 18) = 0 then (
    (f_Q_isSign 59 M).bind fun r992 =>
    if r992 = 0 then (
      (f_Q_errs 1 M).bind fun M993 =>
      if (M993 87 18) = 0 then (
        (f_Q_clauseIsOver  M993).bind fun M994 =>
        some M994)
      else (
        some M993))
    else (
      if (M 87 18) = 0 then (
        (f_Q_clauseIsOver  M).bind fun M995 =>
        some M995)
      else (
        some M)))
  else (
    if (M 87 18) = 0 then (
      (f_Q_clauseIsOver  M).bind fun M996 =>
      some M996)
    else (
      some M))
def f_Q_clause_J279  (M : pm_M) : Option (pm_M) :=
  (f_Q_number 0 7 M).bind fun r990 =>
  if 0 ≤ (M 87 28) ∧ (M 87 28) < 24 then (
  pm_bd (pm_ms r990.2 105 ((M 87 28)).toNat r990.1) fun M991 =>
  f_Q_clause_J295 M991) else none
def f_Q_clause_J268  (M : pm_M) : Option (pm_M) :=
  if (M 87 18) = 0 then (
    (f_Q_next  M).bind fun M989 =>
    f_Q_clause_J279 M989)
  else (
    f_Q_clause_J279 M)
def f_Q_clause_J234  (M : pm_M) : Option (pm_M) :=
  if (M 87 18) = 0 then (
    if (M 87 29) = 5 then (
      (f_Q_isWord 9 M).bind fun r987 =>
      if r987 = 0 then (
        (f_Q_errs 1 M).bind fun M988 =>
        f_Q_clause_J268 M988)
      else (
        f_Q_clause_J268 M))
    else (
      (f_Q_isWord 10 M).bind fun r997 =>
      if r997 = 0 then (
        (f_Q_errs 1 M).bind fun M998 =>
        f_Q_clause_J268 M998)
      else (
        f_Q_clause_J268 M)))
  else (
    f_Q_clause_J268 M)
def f_Q_clause_J73  (M : pm_M) : Option (pm_M) :=
  if (M 87 18) ≤ 0 then (
    if 0 ≤ (M 87 28) ∧ (M 87 28) < 24 then (
    pm_bd (pm_ms M 102 ((M 87 28)).toNat (M 87 29)) fun M975 =>
    if 0 ≤ (M975 87 28) ∧ (M975 87 28) < 24 then (
    pm_bd (pm_ms M975 103 ((M975 87 28)).toNat (M975 87 34)) fun M976 =>
    if 0 ≤ (M976 87 28) ∧ (M976 87 28) < 24 then (
    pm_bd (pm_ms M976 104 ((M976 87 28)).toNat (-1)) fun M977 =>
    if 0 ≤ (M977 87 28) ∧ (M977 87 28) < 24 then (
    pm_bd (pm_ms M977 105 ((M977 87 28)).toNat (-1)) fun M978 =>
    (f_Q_next  M978).bind fun M979 =>
    if 4 < (M979 87 29) then (
      if (M979 87 29) = 8 then (
        (f_Q_number 0 99 M979).bind fun r985 =>
        if 0 ≤ (M979 87 28) ∧ (M979 87 28) < 24 then (
        pm_bd (pm_ms r985.2 104 ((M979 87 28)).toNat r985.1) fun M986 =>
        if (M986 87 29) = 5 then (
          f_Q_clause_J234 M986)
        else (
          if (M986 87 29) = 7 then (
            f_Q_clause_J234 M986)
          else (
            f_Q_clause_J295 M986))) else none)
      else (
        if (M979 87 29) = 5 then (
          (f_Q_number 0 11 M979).bind fun r999 =>
          if 0 ≤ (M979 87 28) ∧ (M979 87 28) < 24 then (
          pm_bd (pm_ms r999.2 104 ((M979 87 28)).toNat r999.1) fun M1000 =>
          if (M1000 87 29) = 5 then (
            f_Q_clause_J234 M1000)
          else (
            if (M1000 87 29) = 7 then (
              f_Q_clause_J234 M1000)
            else (
              f_Q_clause_J295 M1000))) else none)
        else (
          (f_Q_number 0 7 M979).bind fun r1001 =>
          if 0 ≤ (M979 87 28) ∧ (M979 87 28) < 24 then (
          pm_bd (pm_ms r1001.2 104 ((M979 87 28)).toNat r1001.1) fun M1002 =>
          if (M1002 87 29) = 5 then (
            f_Q_clause_J234 M1002)
          else (
            if (M1002 87 29) = 7 then (
              f_Q_clause_J234 M1002)
            else (
              f_Q_clause_J295 M1002))) else none)))
    else (
      if (M979 87 29) = 4 then (
        (f_Q_opensFrame 2 M979).bind fun M1003 =>
        if (M1003 87 29) = 4 then (
          pm_bd (pm_ms M1003 87 27 0) fun M1004 =>
          some M1004)
        else (
          pm_bd (pm_ms M1003 87 27 1) fun M1005 =>
          some M1005))
      else (
        (f_Q_opensFrame 1 M979).bind fun M1006 =>
        if (M1006 87 29) = 4 then (
          pm_bd (pm_ms M1006 87 27 0) fun M1007 =>
          some M1007)
        else (
          pm_bd (pm_ms M1006 87 27 1) fun M1008 =>
          some M1008)))) else none) else none) else none) else none)
  else (
    some M)
def f_Q_clause_J58  (M : pm_M) : Option (pm_M) :=
  if (M 87 28) = 24 then (
    (f_Q_errs 6 M).bind fun M974 =>
    f_Q_clause_J73 M974)
  else (
    f_Q_clause_J73 M)
def f_Q_clause  (M : pm_M) : Option (pm_M) :=
  if (M 87 16) = 1 then (
    if (M 87 17) ≤ 8 then (
      pm_bd (pm_ms M 87 29 (M 87 17)) fun M973 =>
      if 4 < (M973 87 29) then (
        f_Q_clause_J58 M973)
      else (
        (f_Q_wasTold (M973 87 29) M973).bind fun r1010 =>
        if r1010 = 0 then (
          f_Q_clause_J58 M973)
        else (
          (f_Q_errs 4 M973).bind fun M1011 =>
          f_Q_clause_J73 M1011)))
    else (
      (f_Q_errs 1 M).bind fun M1012 =>
      some M1012))
  else (
    (f_Q_errs 1 M).bind fun M1013 =>
    some M1013)
def f_Q_text_L74  : Nat → pm_M → Option (pm_M)
  | 0, _ => none
  | n_ + 1, M =>
    if (M 87 18) = 0 then (
      if (M 87 27) = 4 then (
        if (M 87 16) = 0 then (
          some M)
        else (
          if (M 87 27) = 0 then (
            (f_Q_asks  M).bind fun M868 =>
            f_Q_text_L74 n_ M868)
          else
          if (M 87 27) = 1 then (
            (f_Q_begins  M).bind fun M901 =>
            f_Q_text_L74 n_ M901)
          else
          if (M 87 27) = 2 then (
            (f_Q_goesOn  M).bind fun M954 =>
            f_Q_text_L74 n_ M954)
          else
          if (M 87 27) = 3 then (
            (f_Q_asksOn  M).bind fun M972 =>
            f_Q_text_L74 n_ M972)
          else
          (
            (f_Q_clause  M).bind fun M1014 =>
            f_Q_text_L74 n_ M1014)))
      else (
        if (M 87 27) = 0 then (
          (f_Q_asks  M).bind fun M1015 =>
          f_Q_text_L74 n_ M1015)
        else
        if (M 87 27) = 1 then (
          (f_Q_begins  M).bind fun M1016 =>
          f_Q_text_L74 n_ M1016)
        else
        if (M 87 27) = 2 then (
          (f_Q_goesOn  M).bind fun M1017 =>
          f_Q_text_L74 n_ M1017)
        else
        if (M 87 27) = 3 then (
          (f_Q_asksOn  M).bind fun M1018 =>
          f_Q_text_L74 n_ M1018)
        else
        (
          (f_Q_clause  M).bind fun M1019 =>
          f_Q_text_L74 n_ M1019)))
    else (
      some M)
def f_Q_text_L211  : Nat → Int → Int → pm_M → Option (Int × pm_M)
  | 0, _, _, _ => none
  | n_ + 1, y1, y2, M =>
    if (M 87 28) ≤ y2 then (
      some (y1, M))
    else (
      if 0 ≤ y2 ∧ y2 < 24 then (
      if 0 ≤ (i_ad (i_ml 24 y1) y2) ∧ (i_ad (i_ml 24 y1) y2) < 96 then (
      pm_bd (pm_ms M 92 ((i_ad (i_ml 24 y1) y2)).toNat (M 102 (y2).toNat)) fun M1032 =>
      if 0 ≤ y2 ∧ y2 < 24 then (
      if 0 ≤ (i_ad (i_ml 24 y1) y2) ∧ (i_ad (i_ml 24 y1) y2) < 96 then (
      pm_bd (pm_ms M1032 93 ((i_ad (i_ml 24 y1) y2)).toNat (i_ad (i_ml 400 y1) (M1032 103 (y2).toNat))) fun M1033 =>
      if 0 ≤ y2 ∧ y2 < 24 then (
      if 0 ≤ (i_ad (i_ml 24 y1) y2) ∧ (i_ad (i_ml 24 y1) y2) < 96 then (
      pm_bd (pm_ms M1033 94 ((i_ad (i_ml 24 y1) y2)).toNat (M1033 104 (y2).toNat)) fun M1034 =>
      if 0 ≤ y2 ∧ y2 < 24 then (
      if 0 ≤ (i_ad (i_ml 24 y1) y2) ∧ (i_ad (i_ml 24 y1) y2) < 96 then (
      pm_bd (pm_ms M1034 95 ((i_ad (i_ml 24 y1) y2)).toNat (M1034 105 (y2).toNat)) fun M1035 =>
      f_Q_text_L211 n_ y1 (i_ad y2 1) M1035) else none) else none) else none) else none) else none) else none) else none) else none)
def f_Q_text_L301  : Nat → Int → Int → pm_M → Option (Int × pm_M)
  | 0, _, _, _ => none
  | n_ + 1, y1, y2, M =>
    if (M 87 34) ≤ y2 then (
      some (y1, M))
    else (
      if 0 ≤ y2 ∧ y2 < 400 then (
      if 0 ≤ (i_ad (i_ml 400 y1) y2) ∧ (i_ad (i_ml 400 y1) y2) < 1600 then (
      pm_bd (pm_ms M 96 ((i_ad (i_ml 400 y1) y2)).toNat (M 106 (y2).toNat)) fun M1037 =>
      if 0 ≤ y2 ∧ y2 < 400 then (
      if 0 ≤ (i_ad (i_ml 400 y1) y2) ∧ (i_ad (i_ml 400 y1) y2) < 1600 then (
      pm_bd (pm_ms M1037 97 ((i_ad (i_ml 400 y1) y2)).toNat (M1037 107 (y2).toNat)) fun M1038 =>
      f_Q_text_L301 n_ y1 (i_ad y2 1) M1038) else none) else none) else none) else none)
def f_Q_text  (M : pm_M) : Option (Int × pm_M) :=
  if (M 88 2) = 4 then (
    some ((-1), M))
  else (
    pm_bd (pm_ms M 87 13 (M 87 3)) fun M802 =>
    pm_bd (pm_ms M802 87 3 0) fun M803 =>
    pm_bd (pm_ms M803 87 14 0) fun M804 =>
    pm_bd (pm_ms M804 87 18 0) fun M805 =>
    pm_bd (pm_ms M805 87 19 (-1)) fun M806 =>
    pm_bd (pm_ms M806 87 20 0) fun M807 =>
    pm_bd (pm_ms M807 87 21 0) fun M808 =>
    pm_bd (pm_ms M808 87 24 0) fun M809 =>
    pm_bd (pm_ms M809 87 27 4) fun M810 =>
    pm_bd (pm_ms M810 87 28 0) fun M811 =>
    pm_bd (pm_ms M811 87 34 0) fun M812 =>
    (f_Q_next  M812).bind fun M855 =>
    (f_Q_text_L74 pm_F M855).bind fun e1028 =>
    pm_bd (pm_ms e1028 87 4 (e1028 87 18)) fun M1029 =>
    pm_bd (pm_ms M1029 87 5 (M1029 87 19)) fun M1030 =>
    if (M1030 87 18) ≤ 0 then (
      if 0 ≤ (M1030 88 2) ∧ (M1030 88 2) < 4 then (
      pm_bd (pm_ms M1030 91 ((M1030 88 2)).toNat (M1030 87 28)) fun M1031 =>
      (f_Q_text_L211 pm_F (M1030 88 2) 0 M1031).bind fun e1036 =>
      (f_Q_text_L301 pm_F e1036.1 0 e1036.2).bind fun e1039 =>
      pm_bd (pm_ms e1039.2 88 2 (i_ad (e1039.2 88 2) 1)) fun M1040 =>
      some (e1039.1, M1040)) else none)
    else (
      some ((-1), M1030)))
def f_Q_fault (x1 : Int) (M : pm_M) : Option (Int) :=
  if x1 = 0 then (
    some (M 87 4))
  else (
    if x1 = 1 then (
      some (M 87 5))
    else (
      some (-1)))
def f_Q_by (x1 : Int) (M : pm_M) : Option (Int × pm_M) :=
  if x1 = (-1) then (
    pm_bd (pm_ms M 88 3 x1) fun M1041 =>
    some (1, M1041))
  else (
    (f_Q_in x1 0 (i_sb (M 88 2) 1) M).bind fun r1042 =>
    if r1042 = 0 then (
      some (0, M))
    else (
      pm_bd (pm_ms M 88 3 x1) fun M1043 =>
      some (1, M1043)))
def f_Q_ordersOf_L4 (M : pm_M) : Nat → Int → Int → Int → Option (Int)
  | 0, _, _, _ => none
  | n_ + 1, y1, y2, y3 =>
    if (M 88 3) = (-1) then (
      some y2)
    else (
      if 0 ≤ (M 88 3) ∧ (M 88 3) < 4 then (
      if (M 91 ((M 88 3)).toNat) ≤ y3 then (
        some y2)
      else (
        pm_bd (i_ad (i_ml 24 (M 88 3)) y3) fun v1047 =>
        if 0 ≤ v1047 ∧ v1047 < 96 then (
        if (M 92 (v1047).toNat) = y1 then (
          if 0 ≤ v1047 ∧ v1047 < 96 then (
          f_Q_ordersOf_L4 M n_ y1 (M 93 (v1047).toNat) (i_ad y3 1)) else none)
        else (
          f_Q_ordersOf_L4 M n_ y1 y2 (i_ad y3 1))) else none)) else none)
def f_Q_ordersOf (x1 : Int) (M : pm_M) : Option (Int) :=
  (f_Q_ordersOf_L4 M pm_F x1 (-1) 0).bind fun e1048 =>
  some e1048
def f_Q_milesOf (x1 : Int) (x2 : Int) (M : pm_M) : Option (Int) :=
  if 0 ≤ (i_ad 10 (i_ml 4 x1)) ∧ (i_ad 10 (i_ml 4 x1)) < 4012 then (
  if 0 ≤ (i_ad 10 (i_ml 4 x2)) ∧ (i_ad 10 (i_ml 4 x2)) < 4012 then (
  pm_bd (i_sb (M 88 ((i_ad 10 (i_ml 4 x1))).toNat) (M 88 ((i_ad 10 (i_ml 4 x2))).toNat)) fun v1054 =>
  if 0 ≤ (i_ad (i_ad 10 (i_ml 4 x1)) 1) ∧ (i_ad (i_ad 10 (i_ml 4 x1)) 1) < 4012 then (
  if 0 ≤ (i_ad (i_ad 10 (i_ml 4 x2)) 1) ∧ (i_ad (i_ad 10 (i_ml 4 x2)) 1) < 4012 then (
  pm_bd (i_sb (M 88 ((i_ad (i_ad 10 (i_ml 4 x1)) 1)).toNat) (M 88 ((i_ad (i_ad 10 (i_ml 4 x2)) 1)).toNat)) fun v1055 =>
  if 0 ≤ v1054 then (
    if 0 ≤ v1055 then (
      some (i_ad v1054 v1055))
    else (
      some (i_ad v1054 (i_ng v1055))))
  else (
    if 0 ≤ v1055 then (
      some (i_ad (i_ng v1054) v1055))
    else (
      some (i_ad (i_ng v1054) (i_ng v1055))))) else none) else none) else none) else none
def f_Q_closeTo_L4 (M : pm_M) : Nat → Int → Int → Int → Option (Int)
  | 0, _, _, _ => none
  | n_ + 1, y1, y2, y3 =>
    if (M 88 0) ≤ y3 then (
      some y2)
    else (
      if y3 = y1 then (
        f_Q_closeTo_L4 M n_ y1 (i_ad y2 0) (i_ad y3 1))
      else (
        (f_Q_milesOf y1 y3 M).bind fun r1056 =>
        if 10 < r1056 then (
          f_Q_closeTo_L4 M n_ y1 (i_ad y2 0) (i_ad y3 1))
        else (
          f_Q_closeTo_L4 M n_ y1 (i_ad y2 1) (i_ad y3 1))))
def f_Q_closeTo (x1 : Int) (M : pm_M) : Option (Int) :=
  (f_Q_closeTo_L4 M pm_F x1 0 0).bind fun e1057 =>
  some e1057
def f_Q_names (x1 : Int) (x2 : Int) (M : pm_M) : Option (pm_M) :=
  pm_bd (pm_ms M 108 0 x1) fun M1050 =>
  if 0 ≤ (i_ad (i_ad 10 (i_ml 4 x1)) 2) ∧ (i_ad (i_ad 10 (i_ml 4 x1)) 2) < 4012 then (
  pm_bd (pm_ms M1050 108 1 (M1050 88 ((i_ad (i_ad 10 (i_ml 4 x1)) 2)).toNat)) fun M1051 =>
  if 0 ≤ (i_ad (i_ad 10 (i_ml 4 x1)) 3) ∧ (i_ad (i_ad 10 (i_ml 4 x1)) 3) < 4012 then (
  pm_bd (pm_ms M1051 108 2 (M1051 88 ((i_ad (i_ad 10 (i_ml 4 x1)) 3)).toNat)) fun M1052 =>
  pm_bd (pm_ms M1052 108 3 (M1052 88 99)) fun M1053 =>
  (f_Q_closeTo x1 M1053).bind fun r1058 =>
  pm_bd (pm_ms M1053 108 4 r1058) fun M1059 =>
  if x2 = (-1) then (
    some M1059)
  else (
    pm_bd (pm_ms M1059 108 5 x2) fun M1060 =>
    if 0 ≤ (i_ad 42 (i_ml 2 x2)) ∧ (i_ad 42 (i_ml 2 x2)) < 4012 then (
    pm_bd (pm_ms M1060 108 6 (M1060 88 ((i_ad 42 (i_ml 2 x2))).toNat)) fun M1061 =>
    if 0 ≤ (i_ad 78 x1) ∧ (i_ad 78 x1) < 4012 then (
    pm_bd (pm_ms M1061 108 7 (M1061 88 ((i_ad 78 x1)).toNat)) fun M1062 =>
    if 0 ≤ (i_ad 78 x1) ∧ (i_ad 78 x1) < 4012 then (
    if (M1062 88 ((i_ad 78 x1)).toNat) = x2 then (
      pm_bd (pm_ms M1062 108 8 1) fun M1063 =>
      if 0 ≤ (i_ad 86 x2) ∧ (i_ad 86 x2) < 4012 then (
      pm_bd (pm_ms M1063 108 9 (M1063 88 ((i_ad 86 x2)).toNat)) fun M1064 =>
      some M1064) else none)
    else (
      pm_bd (pm_ms M1062 108 8 0) fun M1065 =>
      if 0 ≤ (i_ad 86 x2) ∧ (i_ad 86 x2) < 4012 then (
      pm_bd (pm_ms M1065 108 9 (M1065 88 ((i_ad 86 x2)).toNat)) fun M1066 =>
      some M1066) else none)) else none) else none) else none)) else none) else none
def f_Q_bound (x0 : Int) (M : pm_M) : Option (Int) :=
  if x0 ≤ 1000000 then (
    if (-1000000) ≤ x0 then (
      some x0)
    else (
      some (-1000000)))
  else (
    some 1000000)
def f_Q_worked (x0 : Int) (x1 : Int) (x3 : Int) (M : pm_M) : Option (Int) :=
  if x0 = 35 then (
    if x1 = x3 then (
      some 0)
    else (
      some 1))
  else
  if x0 = 42 then (
    (f_Q_bound (l_ml x1 x3) M).bind fun r1074 =>
    some r1074)
  else
  if x0 = 43 then (
    (f_Q_bound (l_ad x1 x3) M).bind fun r1075 =>
    some r1075)
  else
  if x0 = 45 then (
    (f_Q_bound (l_sb x1 x3) M).bind fun r1076 =>
    some r1076)
  else
  if x0 = 47 then (
    if x3 = 0 then (
      some 0)
    else (
      if x3 = 0 then none else (
      some (l_dv x1 x3))))
  else
  if x0 = 60 then (
    if x3 ≤ x1 then (
      some 0)
    else (
      some 1))
  else
  if x0 = 61 then (
    if x1 = x3 then (
      some 1)
    else (
      some 0))
  else
  if x0 = 62 then (
    if x1 ≤ x3 then (
      some 0)
    else (
      some 1))
  else
  if x0 = 300 then (
    if x3 < x1 then (
      some 0)
    else (
      some 1))
  else
  if x0 = 301 then (
    if x1 < x3 then (
      some 0)
    else (
      some 1))
  else
  if x0 = 406 then (
    some (l_ml x1 x3))
  else
  (
    if (l_ad x1 x3) ≤ 0 then (
      some 0)
    else (
      some 1))
def f_Q_saysOf_L4  : Nat → Int → Int → pm_M → Option (pm_M)
  | 0, _, _, _ => none
  | n_ + 1, y2, y3, M =>
    if 0 ≤ y3 ∧ y3 < 1600 then (
    if (M 96 (y3).toNat) = 408 then (
      some M)
    else (
      if 0 ≤ y3 ∧ y3 < 1600 then (
      if (M 96 (y3).toNat) = 400 then (
        if (M 96 (y3).toNat) = 400 then (
          if 0 ≤ y3 ∧ y3 < 1600 then (
          if 0 ≤ y2 ∧ y2 < 200 then (
          pm_bd (pm_ms M 109 (y2).toNat (M 97 (y3).toNat)) fun M1068 =>
          f_Q_saysOf_L4 n_ (i_ad y2 1) (i_ad y3 1) M1068) else none) else none)
        else (
          if 0 ≤ y3 ∧ y3 < 1600 then (
          if 0 ≤ (M 97 (y3).toNat) ∧ (M 97 (y3).toNat) < 10 then (
          if 0 ≤ y2 ∧ y2 < 200 then (
          pm_bd (pm_ms M 109 (y2).toNat (M 108 ((M 97 (y3).toNat)).toNat)) fun M1069 =>
          f_Q_saysOf_L4 n_ (i_ad y2 1) (i_ad y3 1) M1069) else none) else none) else none))
      else (
        if (M 96 (y3).toNat) = 401 then (
          if (M 96 (y3).toNat) = 400 then (
            if 0 ≤ y3 ∧ y3 < 1600 then (
            if 0 ≤ y2 ∧ y2 < 200 then (
            pm_bd (pm_ms M 109 (y2).toNat (M 97 (y3).toNat)) fun M1070 =>
            f_Q_saysOf_L4 n_ (i_ad y2 1) (i_ad y3 1) M1070) else none) else none)
          else (
            if 0 ≤ y3 ∧ y3 < 1600 then (
            if 0 ≤ (M 97 (y3).toNat) ∧ (M 97 (y3).toNat) < 10 then (
            if 0 ≤ y2 ∧ y2 < 200 then (
            pm_bd (pm_ms M 109 (y2).toNat (M 108 ((M 97 (y3).toNat)).toNat)) fun M1071 =>
            f_Q_saysOf_L4 n_ (i_ad y2 1) (i_ad y3 1) M1071) else none) else none) else none))
        else (
          if (M 96 (y3).toNat) = 402 then (
            if 0 ≤ (i_sb y2 1) ∧ (i_sb y2 1) < 200 then (
            if 0 ≤ (i_sb y2 1) ∧ (i_sb y2 1) < 200 then (
            pm_bd (pm_ms M 109 ((i_sb y2 1)).toNat (l_ng (M 109 ((i_sb y2 1)).toNat))) fun M1072 =>
            f_Q_saysOf_L4 n_ y2 (i_ad y3 1) M1072) else none) else none)
          else (
            if (M 96 (y3).toNat) = 405 then (
              if 0 ≤ (i_sb y2 1) ∧ (i_sb y2 1) < 200 then (
              if 0 ≤ (i_sb y2 1) ∧ (i_sb y2 1) < 200 then (
              pm_bd (pm_ms M 109 ((i_sb y2 1)).toNat (l_sb 1 (M 109 ((i_sb y2 1)).toNat))) fun M1073 =>
              f_Q_saysOf_L4 n_ y2 (i_ad y3 1) M1073) else none) else none)
            else (
              if 0 ≤ (i_sb (i_ad y2 (-1)) 1) ∧ (i_sb (i_ad y2 (-1)) 1) < 200 then (
              if 0 ≤ (i_ad y2 (-1)) ∧ (i_ad y2 (-1)) < 200 then (
              (f_Q_worked (M 96 (y3).toNat) (M 109 ((i_sb (i_ad y2 (-1)) 1)).toNat) (M 109 ((i_ad y2 (-1))).toNat) M).bind fun r1088 =>
              if 0 ≤ (i_sb (i_ad y2 (-1)) 1) ∧ (i_sb (i_ad y2 (-1)) 1) < 200 then (
              pm_bd (pm_ms M 109 ((i_sb (i_ad y2 (-1)) 1)).toNat r1088) fun M1089 =>
              f_Q_saysOf_L4 n_ (i_ad y2 (-1)) (i_ad y3 1) M1089) else none) else none) else none))))) else none)) else none
def f_Q_saysOf (x1 : Int) (M : pm_M) : Option (Int × pm_M) :=
  (f_Q_saysOf_L4 pm_F 0 x1 M).bind fun e1090 =>
  some ((e1090 109 0), e1090)
def f_Q_tellsOf (x1 : Int) (x2 : Int) (x3 : Int) (M : pm_M) : Option (Int × pm_M) :=
  (f_Q_ordersOf x1 M).bind fun r1049 =>
  if r1049 = (-1) then (
    if x1 = 0 then (
      some (1, M))
    else (
      some (0, M)))
  else (
    (f_Q_names x2 x3 M).bind fun M1067 =>
    (f_Q_saysOf r1049 M1067).bind fun r1091 =>
    if 0 ≤ r1091.1 then (
      if r1091.1 ≤ 999 then (
        some ((l_2i r1091.1), r1091.2))
      else (
        some (999, r1091.2)))
    else (
      some (0, r1091.2)))
def f_Q_falls (x1 : Int) (M : pm_M) : Option (Int × pm_M) :=
  (f_Q_ordersOf 4 M).bind fun r1100 =>
  if r1100 = (-1) then (
    some (0, M))
  else (
    if 0 ≤ (i_ad 70 x1) ∧ (i_ad 70 x1) < 4012 then (
    if (M 88 ((i_ad 70 x1)).toNat) = (-1) then (
      some (0, M))
    else (
      if 0 ≤ (i_ad 70 x1) ∧ (i_ad 70 x1) < 4012 then (
      (f_Q_names x1 (M 88 ((i_ad 70 x1)).toNat) M).bind fun M1101 =>
      (f_Q_saysOf r1100 M1101).bind fun r1102 =>
      if r1102.1 ≤ 0 then (
        some (0, r1102.2))
      else (
        some (1, r1102.2))) else none)) else none)
def f_Q_dayPasses_L2  : Nat → Int → pm_M → Option (pm_M)
  | 0, _, _ => none
  | n_ + 1, y1, M =>
    if (M 88 0) ≤ y1 then (
      some M)
    else (
      if 0 ≤ (i_ad 70 y1) ∧ (i_ad 70 y1) < 4012 then (
      pm_bd (M 88 ((i_ad 70 y1)).toNat) fun v1046 =>
      if v1046 = (-1) then (
        (f_Q_tellsOf 3 y1 (-1) M).bind fun r1092 =>
        pm_bd (pm_ms r1092.2 88 98 (i_ad (M 88 98) r1092.1)) fun M1093 =>
        f_Q_dayPasses_L2 n_ (i_ad y1 1) M1093)
      else (
        if 0 ≤ (i_ad 78 y1) ∧ (i_ad 78 y1) < 4012 then (
        if 0 ≤ (i_ad (i_ad (i_ad 100 (i_ml 13 v1046)) (M 88 ((i_ad 78 y1)).toNat)) 1) ∧ (i_ad (i_ad (i_ad 100 (i_ml 13 v1046)) (M 88 ((i_ad 78 y1)).toNat)) 1) < 4012 then (
        if 0 ≤ (i_ad (i_ad (i_ad 100 (i_ml 13 v1046)) (M 88 ((i_ad 78 y1)).toNat)) 1) ∧ (i_ad (i_ad (i_ad 100 (i_ml 13 v1046)) (M 88 ((i_ad 78 y1)).toNat)) 1) < 4012 then (
        pm_bd (pm_ms M 88 ((i_ad (i_ad (i_ad 100 (i_ml 13 v1046)) (M 88 ((i_ad 78 y1)).toNat)) 1)).toNat (i_ad (M 88 ((i_ad (i_ad (i_ad 100 (i_ml 13 v1046)) (M 88 ((i_ad 78 y1)).toNat)) 1)).toNat) 1)) fun M1094 =>
        (f_Q_tellsOf 1 y1 v1046 M1094).bind fun r1095 =>
        (f_Q_tellsOf 0 y1 v1046 r1095.2).bind fun r1096 =>
        pm_bd (pm_ms r1096.2 88 98 (i_ad (r1096.2 88 98) r1095.1)) fun M1097 =>
        if 0 ≤ (i_ad 86 v1046) ∧ (i_ad 86 v1046) < 4012 then (
        if 0 ≤ (i_ad 86 v1046) ∧ (i_ad 86 v1046) < 4012 then (
        pm_bd (pm_ms M1097 88 ((i_ad 86 v1046)).toNat (i_ad (M1097 88 ((i_ad 86 v1046)).toNat) r1096.1)) fun M1098 =>
        f_Q_dayPasses_L2 n_ (i_ad y1 1) M1098) else none) else none) else none) else none) else none)) else none)
def f_Q_dayPasses_L125  : Nat → Int → pm_M → Option (pm_M)
  | 0, _, _ => none
  | n_ + 1, y1, M =>
    if (M 88 0) ≤ y1 then (
      some M)
    else (
      (f_Q_falls y1 M).bind fun r1103 =>
      if r1103.1 = 0 then (
        if 0 ≤ (i_ad 70 y1) ∧ (i_ad 70 y1) < 4012 then (
        if 0 ≤ (i_ad 70 y1) ∧ (i_ad 70 y1) < 4012 then (
        pm_bd (pm_ms r1103.2 88 ((i_ad 70 y1)).toNat (r1103.2 88 ((i_ad 70 y1)).toNat)) fun M1104 =>
        f_Q_dayPasses_L125 n_ (i_ad y1 1) M1104) else none) else none)
      else (
        if 0 ≤ (i_ad 70 y1) ∧ (i_ad 70 y1) < 4012 then (
        pm_bd (pm_ms r1103.2 88 ((i_ad 70 y1)).toNat (-1)) fun M1105 =>
        f_Q_dayPasses_L125 n_ (i_ad y1 1) M1105) else none))
def f_Q_dayPasses  (M : pm_M) : Option (pm_M) :=
  (f_Q_dayPasses_L2 pm_F 0 M).bind fun e1099 =>
  (f_Q_dayPasses_L125 pm_F 0 e1099).bind fun e1106 =>
  pm_bd (pm_ms e1106 88 99 (i_ad (e1106 88 99) 1)) fun M1107 =>
  some M1107
def f_Q_pass_L33  : Nat → Int → Int → pm_M → Option (pm_M)
  | 0, _, _, _ => none
  | n_ + 1, y1, y2, M =>
    if y1 ≤ y2 then (
      some M)
    else (
      (f_Q_dayPasses  M).bind fun M1108 =>
      f_Q_pass_L33 n_ y1 (i_ad y2 1) M1108)
def f_Q_pass (x1 : Int) (M : pm_M) : Option (Int × pm_M) :=
  (f_Q_in x1 1 99 M).bind fun r1044 =>
  if r1044 = 0 then (
    some ((-1), M))
  else (
    if (i_ad (M 88 99) x1) ≤ 999 then (
      (f_Q_keepsStep  M).bind fun M1045 =>
      (f_Q_pass_L33 pm_F x1 0 M1045).bind fun e1109 =>
      some ((e1109 88 99), e1109))
    else (
      some ((-1), M)))
def f_Q_played_L21  : Nat → Int → Int → pm_M → Option ((Int × pm_M) ⊕ (pm_M))
  | 0, _, _, _ => none
  | n_ + 1, y1, y2, M =>
    if 0 ≤ y1 ∧ y1 < 4 then (
    if (M 91 (y1).toNat) ≤ y2 then (
      some (.inr M))
    else (
      if 0 ≤ (i_ad (i_ml 24 y1) y2) ∧ (i_ad (i_ml 24 y1) y2) < 96 then (
      if (M 92 ((i_ad (i_ml 24 y1) y2)).toNat) = 5 then (
        if 0 ≤ (i_ad (i_ml 24 y1) y2) ∧ (i_ad (i_ml 24 y1) y2) < 96 then (
        if 0 ≤ (i_ad (i_ml 24 y1) y2) ∧ (i_ad (i_ml 24 y1) y2) < 96 then (
        (f_Q_put (M 94 ((i_ad (i_ml 24 y1) y2)).toNat) (M 95 ((i_ad (i_ml 24 y1) y2)).toNat) M).bind fun r1111 =>
        if r1111.1 = 0 then (
          some (.inl (y2, r1111.2)))
        else (
          f_Q_played_L21 n_ y1 (i_ad y2 1) r1111.2)) else none) else none)
      else
      if (M 92 ((i_ad (i_ml 24 y1) y2)).toNat) = 6 then (
        if 0 ≤ (i_ad (i_ml 24 y1) y2) ∧ (i_ad (i_ml 24 y1) y2) < 96 then (
        (f_Q_off (M 94 ((i_ad (i_ml 24 y1) y2)).toNat) M).bind fun r1112 =>
        if r1112.1 = (-1) then (
          some (.inl (y2, r1112.2)))
        else (
          f_Q_played_L21 n_ y1 (i_ad y2 1) r1112.2)) else none)
      else
      if (M 92 ((i_ad (i_ml 24 y1) y2)).toNat) = 7 then (
        if 0 ≤ (i_ad (i_ml 24 y1) y2) ∧ (i_ad (i_ml 24 y1) y2) < 96 then (
        if 0 ≤ (i_ad (i_ml 24 y1) y2) ∧ (i_ad (i_ml 24 y1) y2) < 96 then (
        (f_Q_change (M 94 ((i_ad (i_ml 24 y1) y2)).toNat) (M 95 ((i_ad (i_ml 24 y1) y2)).toNat) M).bind fun r1113 =>
        if r1113.1 = 0 then (
          some (.inl (y2, r1113.2)))
        else (
          f_Q_played_L21 n_ y1 (i_ad y2 1) r1113.2)) else none) else none)
      else
      if (M 92 ((i_ad (i_ml 24 y1) y2)).toNat) = 8 then (
        if 0 ≤ (i_ad (i_ml 24 y1) y2) ∧ (i_ad (i_ml 24 y1) y2) < 96 then (
        (f_Q_pass (M 94 ((i_ad (i_ml 24 y1) y2)).toNat) M).bind fun r1114 =>
        if r1114.1 = (-1) then (
          some (.inl (y2, r1114.2)))
        else (
          f_Q_played_L21 n_ y1 (i_ad y2 1) r1114.2)) else none)
      else
      (
        f_Q_played_L21 n_ y1 (i_ad y2 1) M)) else none)) else none
def f_Q_played (x1 : Int) (M : pm_M) : Option (Int × pm_M) :=
  (f_Q_in x1 0 (i_sb (M 88 2) 1) M).bind fun r1110 =>
  if r1110 = 0 then (
    some ((-2), M))
  else (
    (f_Q_played_L21 pm_F x1 0 M).bind fun e1119 =>
      match e1119 with
      | .inl e1119 => (
        some (e1119.1, e1119.2))
      | .inr e1119 => (
      some ((-1), e1119)))
def f_Q_of (x1 : Int) (x2 : Int) (M : pm_M) : Option (Int × pm_M) :=
  (f_Q_isPlinth x1 M).bind fun r1120 =>
  if r1120 = 0 then (
    some ((-2), M))
  else (
    (f_Q_in x2 0 6 M).bind fun r1121 =>
    if r1121 = 0 then (
      some ((-2), M))
    else (
      if 0 ≤ (i_ad 70 x1) ∧ (i_ad 70 x1) < 4012 then (
      pm_bd (M 88 ((i_ad 70 x1)).toNat) fun v1122 =>
      if x2 = 0 then (
        some (v1122, M))
      else
      if x2 = 1 then (
        if 0 ≤ (i_ad 78 x1) ∧ (i_ad 78 x1) < 4012 then (
        some ((M 88 ((i_ad 78 x1)).toNat), M)) else none)
      else
      if x2 = 2 then (
        if v1122 = (-1) then (
          some (0, M))
        else (
          (f_Q_tellsOf 0 x1 v1122 M).bind fun r1123 =>
          some (r1123.1, r1123.2)))
      else
      if x2 = 3 then (
        if v1122 = (-1) then (
          some (0, M))
        else (
          (f_Q_tellsOf 1 x1 v1122 M).bind fun r1124 =>
          some (r1124.1, r1124.2)))
      else
      if x2 = 4 then (
        if v1122 = (-1) then (
          some (0, M))
        else (
          (f_Q_tellsOf 2 x1 v1122 M).bind fun r1125 =>
          some (r1125.1, r1125.2)))
      else
      if x2 = 5 then (
        if v1122 = (-1) then (
          (f_Q_tellsOf 3 x1 (-1) M).bind fun r1126 =>
          some (r1126.1, r1126.2))
        else (
          some (0, M)))
      else
      (
        (f_Q_falls x1 M).bind fun r1127 =>
        if r1127.1 = 0 then (
          some (0, r1127.2))
        else (
          some (1, r1127.2)))) else none))
def f_Q_headOf (x1 : Int) (x2 : Int) (M : pm_M) : Option (Int) :=
  (f_Q_isHead x1 M).bind fun r1134 =>
  if r1134 = 0 then (
    some (-2))
  else (
    if x2 = 0 then (
      (f_Q_plinthOf x1 M).bind fun r1135 =>
      some r1135)
    else
    if x2 = 1 then (
      if 0 ≤ (i_ad 86 x1) ∧ (i_ad 86 x1) < 4012 then (
      some (M 88 ((i_ad 86 x1)).toNat)) else none)
    else
    if x2 = 2 then (
      if 0 ≤ (i_ad 42 (i_ml 2 x1)) ∧ (i_ad 42 (i_ml 2 x1)) < 4012 then (
      some (M 88 ((i_ad 42 (i_ml 2 x1))).toNat)) else none)
    else
    if x2 = 3 then (
      if 0 ≤ (i_ad (i_ad 42 (i_ml 2 x1)) 1) ∧ (i_ad (i_ad 42 (i_ml 2 x1)) 1) < 4012 then (
      some (M 88 ((i_ad (i_ad 42 (i_ml 2 x1)) 1)).toNat)) else none)
    else
    (
      some (-2)))
def f_Q_laysBest_L14  : Nat → Int → Int → pm_M → Option (Int × pm_M)
  | 0, _, _, _ => none
  | n_ + 1, y1, y2, M =>
    if (M 88 1) ≤ y2 then (
      some (y1, M))
    else (
      (f_Q_tellsOf 1 y1 y2 M).bind fun r1140 =>
      (f_Q_tellsOf 0 y1 y2 r1140.2).bind fun r1141 =>
      if 0 ≤ (i_ad (i_ml 13 y1) y2) ∧ (i_ad (i_ml 13 y1) y2) < 104 then (
      pm_bd (pm_ms r1141.2 110 ((i_ad (i_ml 13 y1) y2)).toNat (i_sb r1140.1 r1141.1)) fun M1142 =>
      f_Q_laysBest_L14 n_ y1 (i_ad y2 1) M1142) else none)
def f_Q_laysBest_L2  : Nat → Int → pm_M → Option (pm_M)
  | 0, _, _ => none
  | n_ + 1, y1, M =>
    if (M 88 0) ≤ y1 then (
      some M)
    else (
      (f_Q_laysBest_L14 pm_F y1 0 M).bind fun e1143 =>
      (f_Q_tellsOf 3 e1143.1 (-1) e1143.2).bind fun r1144 =>
      if 0 ≤ (i_ad (i_ml 13 e1143.1) 12) ∧ (i_ad (i_ml 13 e1143.1) 12) < 104 then (
      pm_bd (pm_ms r1144.2 110 ((i_ad (i_ml 13 e1143.1) 12)).toNat r1144.1) fun M1145 =>
      f_Q_laysBest_L2 n_ (i_ad e1143.1 1) M1145) else none)
def f_Q_laysBest_L85  : Nat → Int → pm_M → Option (pm_M)
  | 0, _, _ => none
  | n_ + 1, y1, M =>
    if (i_sl 1 (M 88 1)) ≤ y1 then (
      some M)
    else (
      if 0 ≤ (i_ad (i_ml 4096 (M 88 0)) y1) ∧ (i_ad (i_ml 4096 (M 88 0)) y1) < 36864 then (
      pm_bd (pm_ms M 111 ((i_ad (i_ml 4096 (M 88 0)) y1)).toNat 0) fun M1147 =>
      f_Q_laysBest_L85 n_ (i_ad y1 1) M1147) else none)
def f_Q_laysBest_L179 (M : pm_M) : Nat → Int → Int → Int → Int → Option (Int × Int × Int)
  | 0, _, _, _, _ => none
  | n_ + 1, y1, y2, y3, y4 =>
    if (M 88 1) ≤ y4 then (
      some (y1, y2, y3))
    else (
      if (i_an (i_sr y2 y4) 1) = 0 then (
        if 0 ≤ (i_ad (i_ml 13 y1) y4) ∧ (i_ad (i_ml 13 y1) y4) < 104 then (
        if 0 ≤ (i_ad (i_ml 4096 (i_ad y1 1)) (i_or y2 (i_sl 1 y4))) ∧ (i_ad (i_ml 4096 (i_ad y1 1)) (i_or y2 (i_sl 1 y4))) < 36864 then (
        pm_bd (i_ad (M 110 ((i_ad (i_ml 13 y1) y4)).toNat) (M 111 ((i_ad (i_ml 4096 (i_ad y1 1)) (i_or y2 (i_sl 1 y4)))).toNat)) fun v1150 =>
        if v1150 ≤ y3 then (
          f_Q_laysBest_L179 M n_ y1 y2 y3 (i_ad y4 1))
        else (
          f_Q_laysBest_L179 M n_ y1 y2 v1150 (i_ad y4 1))) else none) else none)
      else (
        f_Q_laysBest_L179 M n_ y1 y2 y3 (i_ad y4 1)))
def f_Q_laysBest_L136  : Nat → Int → Int → pm_M → Option (Int × pm_M)
  | 0, _, _, _ => none
  | n_ + 1, y1, y2, M =>
    if (i_sl 1 (M 88 1)) ≤ y2 then (
      some (y1, M))
    else (
      if 0 ≤ (i_ad (i_ml 13 y1) 12) ∧ (i_ad (i_ml 13 y1) 12) < 104 then (
      if 0 ≤ (i_ad (i_ml 4096 (i_ad y1 1)) y2) ∧ (i_ad (i_ml 4096 (i_ad y1 1)) y2) < 36864 then (
      pm_bd (i_ad (M 110 ((i_ad (i_ml 13 y1) 12)).toNat) (M 111 ((i_ad (i_ml 4096 (i_ad y1 1)) y2)).toNat)) fun v1149 =>
      (f_Q_laysBest_L179 M pm_F y1 y2 v1149 0).bind fun e1151 =>
      if 0 ≤ (i_ad (i_ml 4096 e1151.1) e1151.2.1) ∧ (i_ad (i_ml 4096 e1151.1) e1151.2.1) < 36864 then (
      pm_bd (pm_ms M 111 ((i_ad (i_ml 4096 e1151.1) e1151.2.1)).toNat e1151.2.2) fun M1152 =>
      f_Q_laysBest_L136 n_ e1151.1 (i_ad e1151.2.1 1) M1152) else none) else none) else none)
def f_Q_laysBest_L130  : Nat → Int → pm_M → Option (pm_M)
  | 0, _, _ => none
  | n_ + 1, y1, M =>
    if y1 < 0 then (
      some M)
    else (
      (f_Q_laysBest_L136 pm_F y1 0 M).bind fun e1153 =>
      f_Q_laysBest_L130 n_ (i_ad e1153.1 (-1)) e1153.2)
def f_Q_laysBest  (M : pm_M) : Option (pm_M) :=
  (f_Q_laysBest_L2 pm_F 0 M).bind fun e1146 =>
  (f_Q_laysBest_L85 pm_F 0 e1146).bind fun e1148 =>
  (f_Q_laysBest_L130 pm_F (i_sb (e1148 88 0) 1) e1148).bind fun e1154 =>
  some e1154
def f_Q_best_L95 (M : pm_M) : Nat → Int → Int → Int → Int → Option (Int × Int × Int × Int)
  | 0, _, _, _, _ => none
  | n_ + 1, y1, y2, y3, y4 =>
    if (i_an (i_sr y2 y3) 1) = 1 then (
      f_Q_best_L95 M n_ y1 y2 (i_ad y3 1) y4)
    else (
      if 0 ≤ (i_ad (i_ml 13 y4) y3) ∧ (i_ad (i_ml 13 y4) y3) < 104 then (
      if 0 ≤ (i_ad (i_ml 4096 (i_ad y4 1)) (i_or y2 (i_sl 1 y3))) ∧ (i_ad (i_ml 4096 (i_ad y4 1)) (i_or y2 (i_sl 1 y3))) < 36864 then (
      if 0 ≤ (i_ad (i_ml 4096 y4) y2) ∧ (i_ad (i_ml 4096 y4) y2) < 36864 then (
      if (i_ad (M 110 ((i_ad (i_ml 13 y4) y3)).toNat) (M 111 ((i_ad (i_ml 4096 (i_ad y4 1)) (i_or y2 (i_sl 1 y3)))).toNat)) = (M 111 ((i_ad (i_ml 4096 y4) y2)).toNat) then (
        some (y1, y2, y3, y4))
      else (
        f_Q_best_L95 M n_ y1 y2 (i_ad y3 1) y4)) else none) else none) else none)
def f_Q_best_L40 (M : pm_M) : Nat → Int → Int → Int → Int → Option (Int)
  | 0, _, _, _, _ => none
  | n_ + 1, y1, y2, y3, y4 =>
    if y1 < y4 then (
      some y3)
    else (
      if 0 ≤ (i_ad (i_ml 13 y4) 12) ∧ (i_ad (i_ml 13 y4) 12) < 104 then (
      if 0 ≤ (i_ad (i_ml 4096 (i_ad y4 1)) y2) ∧ (i_ad (i_ml 4096 (i_ad y4 1)) y2) < 36864 then (
      if 0 ≤ (i_ad (i_ml 4096 y4) y2) ∧ (i_ad (i_ml 4096 y4) y2) < 36864 then (
      if (i_ad (M 110 ((i_ad (i_ml 13 y4) 12)).toNat) (M 111 ((i_ad (i_ml 4096 (i_ad y4 1)) y2)).toNat)) = (M 111 ((i_ad (i_ml 4096 y4) y2)).toNat) then (
        f_Q_best_L40 M n_ y1 y2 (-1) (i_ad y4 1))
      else (
        (f_Q_best_L95 M pm_F y1 y2 0 y4).bind fun e1156 =>
        pm_bd (i_or e1156.2.1 (i_sl 1 e1156.2.2.1)) fun v1157 =>
        f_Q_best_L40 M n_ e1156.1 v1157 e1156.2.2.1 (i_ad e1156.2.2.2 1))) else none) else none) else none)
def f_Q_best (x1 : Int) (M : pm_M) : Option (Int × pm_M) :=
  if x1 = (-1) then (
    (f_Q_laysBest  M).bind fun M1155 =>
    if x1 = (-1) then (
      some ((M1155 111 0), M1155))
    else (
      (f_Q_best_L40 M1155 pm_F x1 0 (-1) 0).bind fun e1158 =>
      some (e1158, M1155)))
  else (
    (f_Q_isPlinth x1 M).bind fun r1159 =>
    if r1159 = 0 then (
      some ((-100000), M))
    else (
      (f_Q_laysBest  M).bind fun M1160 =>
      if x1 = (-1) then (
        some ((M1160 111 0), M1160))
      else (
        (f_Q_best_L40 M1160 pm_F x1 0 (-1) 0).bind fun e1161 =>
        some (e1161, M1160))))
def f_Q_seen (x1 : Int) (x2 : Int) (x3 : Int) (M : pm_M) : Option (Int × pm_M) :=
  (f_Q_in x1 1 8 M).bind fun r1162 =>
  if r1162 = 0 then (
    some ((-1), M))
  else (
    (f_Q_isPlinth x2 M).bind fun r1163 =>
    if r1163 = 0 then (
      some ((-1), M))
    else (
      (f_Q_in x3 (-1) 3 M).bind fun r1164 =>
      if r1164 = 0 then (
        some ((-1), M))
      else (
        if (M 88 5) = 12 then (
          some ((-1), M))
        else (
          pm_bd (i_ad 256 (i_ml 3 (M 88 5))) fun v1165 =>
          if 0 ≤ v1165 ∧ v1165 < 4012 then (
          pm_bd (pm_ms M 88 (v1165).toNat x1) fun M1166 =>
          if 0 ≤ (i_ad v1165 1) ∧ (i_ad v1165 1) < 4012 then (
          pm_bd (pm_ms M1166 88 ((i_ad v1165 1)).toNat x2) fun M1167 =>
          if 0 ≤ (i_ad v1165 2) ∧ (i_ad v1165 2) < 4012 then (
          pm_bd (pm_ms M1167 88 ((i_ad v1165 2)).toNat x3) fun M1168 =>
          pm_bd (pm_ms M1168 88 5 (i_ad (M1168 88 5) 1)) fun M1169 =>
          some ((M1169 88 5), M1169)) else none) else none) else none))))
def f_Q_forget  (M : pm_M) : Option (Int × pm_M) :=
  pm_bd (pm_ms M 88 5 0) fun M1170 =>
  some ((M 88 5), M1170)
def f_Q_sixes (x0 : Int) (M : pm_M) : Option (Int) :=
  if x0 = 0 then (
    some 1)
  else
  if x0 = 1 then (
    some 6)
  else
  if x0 = 2 then (
    some 36)
  else
  if x0 = 3 then (
    some 216)
  else
  (
    some 1296)
def f_Q_wayNow_L9  : Nat → Int → Int → pm_M → Option (Int × pm_M)
  | 0, _, _, _ => none
  | n_ + 1, y1, y2, M =>
    if (M 88 0) ≤ y2 then (
      some (y1, M))
    else (
      if 0 ≤ (i_ad 70 y2) ∧ (i_ad 70 y2) < 4012 then (
      if (M 88 ((i_ad 70 y2)).toNat) = (-1) then (
        f_Q_wayNow_L9 n_ y1 (i_ad y2 1) M)
      else (
        if 0 ≤ (i_ad 70 y2) ∧ (i_ad 70 y2) < 4012 then (
        if 0 ≤ (M 87 44) ∧ (M 87 44) < 5 then (
        pm_bd (pm_ms M 114 ((M 87 44)).toNat (M 88 ((i_ad 70 y2)).toNat)) fun M1172 =>
        pm_bd (pm_ms M1172 87 44 (i_ad (M1172 87 44) 1)) fun M1173 =>
        (f_Q_sixes y2 M1173).bind fun r1178 =>
        pm_bd (i_ad y1 (i_ml (M1173 87 44) r1178)) fun v1179 =>
        f_Q_wayNow_L9 n_ v1179 (i_ad y2 1) M1173) else none) else none)) else none)
def f_Q_wayNow  (M : pm_M) : Option (Int × pm_M) :=
  pm_bd (pm_ms M 87 44 0) fun M1171 =>
  (f_Q_wayNow_L9 pm_F 0 0 M1171).bind fun e1180 =>
  some (e1180.1, e1180.2)
def f_Q_at6 (x0 : Int) (x1 : Int) (M : pm_M) : Option (Int) :=
  (f_Q_sixes x1 M).bind fun r1188 =>
  if r1188 = 0 then none else (
  some (i_rm (i_dv x0 r1188) 6))
def f_Q_changed (x0 : Int) (x1 : Int) (x2 : Int) (M : pm_M) : Option (Int) :=
  (f_Q_at6 x0 x1 M).bind fun r1189 =>
  (f_Q_at6 x0 x2 M).bind fun r1190 =>
  (f_Q_sixes x1 M).bind fun r1191 =>
  (f_Q_sixes x2 M).bind fun r1192 =>
  some (i_ad (i_ad x0 (i_ml (i_sb r1190 r1189) r1191)) (i_ml (i_sb r1189 r1190) r1192))
def f_Q_spreads_87_112_L54  : Nat → Int → Int → Int → Int → Int → Int → pm_M → Option (Int × Int × Int × Int × Int × pm_M)
  | 0, _, _, _, _, _, _, _ => none
  | n_ + 1, y2, y3, y4, y5, y6, y7, M =>
    if (M 88 0) ≤ y7 then (
      some (y2, y3, y4, y5, y6, M))
    else (
      (f_Q_changed y4 y6 y7 M).bind fun r1193 =>
      if 0 ≤ (i_ad y2 r1193) ∧ (i_ad y2 r1193) < 69984 then (
      if (M 112 ((i_ad y2 r1193)).toNat) ≤ (i_ad y5 1) then (
        if 0 ≤ (i_ad y2 r1193) ∧ (i_ad y2 r1193) < 69984 then (
        if 0 ≤ (i_ad y2 r1193) ∧ (i_ad y2 r1193) < 69984 then (
        pm_bd (pm_ms M 112 ((i_ad y2 r1193)).toNat (M 112 ((i_ad y2 r1193)).toNat)) fun M1194 =>
        f_Q_spreads_87_112_L54 n_ y2 y3 y4 y5 y6 (i_ad y7 1) M1194) else none) else none)
      else (
        if 0 ≤ (i_ad y2 r1193) ∧ (i_ad y2 r1193) < 69984 then (
        pm_bd (pm_ms M 112 ((i_ad y2 r1193)).toNat (i_ad y5 1)) fun M1195 =>
        f_Q_spreads_87_112_L54 n_ y2 y3 y4 y5 y6 (i_ad y7 1) M1195) else none)) else none)
def f_Q_spreads_87_112_L29  : Nat → Int → Int → Int → Int → Int → pm_M → Option (Int × Int × Int × pm_M)
  | 0, _, _, _, _, _, _ => none
  | n_ + 1, y2, y3, y4, y5, y6, M =>
    if (M 88 0) ≤ y6 then (
      some (y2, y3, y4, M))
    else (
      if 100000 ≤ y5 then (
        some (y2, y3, y4, M))
      else (
        (f_Q_spreads_87_112_L54 pm_F y2 y3 y4 y5 y6 (i_ad y6 1) M).bind fun e1196 =>
        f_Q_spreads_87_112_L29 n_ e1196.1 e1196.2.1 e1196.2.2.1 e1196.2.2.2.1 (i_ad e1196.2.2.2.2.1 1) e1196.2.2.2.2.2))
def f_Q_spreads_87_112_L10  : Nat → Int → Int → Int → pm_M → Option (Int × Int × pm_M)
  | 0, _, _, _, _ => none
  | n_ + 1, y2, y3, y4, M =>
    if 7776 ≤ y4 then (
      some (y2, y3, M))
    else (
      if 0 ≤ (i_ad y2 y4) ∧ (i_ad y2 y4) < 69984 then (
      pm_bd (M 112 ((i_ad y2 y4)).toNat) fun v1187 =>
      (f_Q_spreads_87_112_L29 pm_F y2 y3 y4 v1187 0 M).bind fun e1197 =>
      f_Q_spreads_87_112_L10 n_ e1197.1 e1197.2.1 (i_ad e1197.2.2.1 1) e1197.2.2.2) else none)
def f_Q_spreads_87_112_L2  : Nat → Int → Int → pm_M → Option (pm_M)
  | 0, _, _, _ => none
  | n_ + 1, y2, y3, M =>
    if 4 ≤ y3 then (
      some M)
    else (
      (f_Q_spreads_87_112_L10 pm_F y2 y3 0 M).bind fun e1198 =>
      f_Q_spreads_87_112_L2 n_ e1198.1 (i_ad e1198.2.1 1) e1198.2.2)
def f_Q_spreads_87_112 (x2 : Int) (M : pm_M) : Option (pm_M) :=
  (f_Q_spreads_87_112_L2 pm_F x2 0 M).bind fun e1199 =>
  some e1199
def f_Q_isSo_L5 (M : pm_M) : Nat → Int → Int → Int → Int → Option (Int)
  | 0, _, _, _, _ => none
  | n_ + 1, y1, y2, y3, y4 =>
    if (M 88 5) ≤ y4 then (
      some y3)
    else (
      if y3 = 0 then (
        some y3)
      else (
        if 0 ≤ (i_ad 256 (i_ml 3 y4)) ∧ (i_ad 256 (i_ml 3 y4)) < 4012 then (
        if (M 88 ((i_ad 256 (i_ml 3 y4))).toNat) = y1 then (
          if 0 ≤ (i_ad (i_ad 256 (i_ml 3 y4)) 1) ∧ (i_ad (i_ad 256 (i_ml 3 y4)) 1) < 4012 then (
          (f_Q_at6 y2 (M 88 ((i_ad (i_ad 256 (i_ml 3 y4)) 1)).toNat) M).bind fun r1202 =>
          if r1202 = 0 then (
            if 0 ≤ (i_ad (i_ad 256 (i_ml 3 y4)) 2) ∧ (i_ad (i_ad 256 (i_ml 3 y4)) 2) < 4012 then (
            if (-1) = (M 88 ((i_ad (i_ad 256 (i_ml 3 y4)) 2)).toNat) then (
              f_Q_isSo_L5 M n_ y1 y2 1 (i_ad y4 1))
            else (
              f_Q_isSo_L5 M n_ y1 y2 0 (i_ad y4 1))) else none)
          else (
            if 0 ≤ (i_sb r1202 1) ∧ (i_sb r1202 1) < 5 then (
            if 0 ≤ (i_ad (i_ad 42 (i_ml 2 (M 114 ((i_sb r1202 1)).toNat))) 1) ∧ (i_ad (i_ad 42 (i_ml 2 (M 114 ((i_sb r1202 1)).toNat))) 1) < 4012 then (
            pm_bd (M 88 ((i_ad (i_ad 42 (i_ml 2 (M 114 ((i_sb r1202 1)).toNat))) 1)).toNat) fun v1203 =>
            if 0 ≤ (i_ad (i_ad 256 (i_ml 3 y4)) 2) ∧ (i_ad (i_ad 256 (i_ml 3 y4)) 2) < 4012 then (
            if v1203 = (M 88 ((i_ad (i_ad 256 (i_ml 3 y4)) 2)).toNat) then (
              f_Q_isSo_L5 M n_ y1 y2 1 (i_ad y4 1))
            else (
              f_Q_isSo_L5 M n_ y1 y2 0 (i_ad y4 1))) else none) else none) else none)) else none)
        else (
          f_Q_isSo_L5 M n_ y1 y2 y3 (i_ad y4 1))) else none))
def f_Q_isSo (x1 : Int) (x2 : Int) (M : pm_M) : Option (Int) :=
  (f_Q_isSo_L5 M pm_F x1 x2 1 0).bind fun e1204 =>
  if e1204 = 0 ∨ e1204 = 1 then some e1204 else none
def f_Q_laysHistories_L7  : Nat → Int → Int → pm_M → Option (pm_M)
  | 0, _, _, _ => none
  | n_ + 1, y1, y2, M =>
    if 7776 ≤ y2 then (
      some M)
    else (
      if y2 = y1 then (
        if 0 ≤ y2 ∧ y2 < 69984 then (
        pm_bd (pm_ms M 112 (y2).toNat 0) fun M1182 =>
        f_Q_laysHistories_L7 n_ y1 (i_ad y2 1) M1182) else none)
      else (
        if 0 ≤ y2 ∧ y2 < 69984 then (
        pm_bd (pm_ms M 112 (y2).toNat 100000) fun M1183 =>
        f_Q_laysHistories_L7 n_ y1 (i_ad y2 1) M1183) else none))
def f_Q_laysHistories_L55  : Nat → Int → Int → Int → pm_M → Option (Int × Int × pm_M)
  | 0, _, _, _, _ => none
  | n_ + 1, y2, y3, y4, M =>
    if 7776 ≤ y4 then (
      some (y2, y3, M))
    else (
      if 0 ≤ (i_ad (i_sb y3 7776) y4) ∧ (i_ad (i_sb y3 7776) y4) < 69984 then (
      if 0 ≤ (i_ad y3 y4) ∧ (i_ad y3 y4) < 69984 then (
      pm_bd (pm_ms M 112 ((i_ad y3 y4)).toNat (M 112 ((i_ad (i_sb y3 7776) y4)).toNat)) fun M1185 =>
      f_Q_laysHistories_L55 n_ y2 y3 (i_ad y4 1) M1185) else none) else none)
def f_Q_laysHistories_L103  : Nat → Int → Int → Int → pm_M → Option (Int × pm_M)
  | 0, _, _, _, _ => none
  | n_ + 1, y2, y3, y4, M =>
    if 7776 ≤ y4 then (
      some (y2, M))
    else (
      if 0 ≤ (i_ad y3 y4) ∧ (i_ad y3 y4) < 69984 then (
      if 100000 ≤ (M 112 ((i_ad y3 y4)).toNat) then (
        if 0 ≤ (i_ad y3 y4) ∧ (i_ad y3 y4) < 69984 then (
        pm_bd (pm_ms M 112 ((i_ad y3 y4)).toNat 100000) fun M1201 =>
        f_Q_laysHistories_L103 n_ y2 y3 (i_ad y4 1) M1201) else none)
      else (
        (f_Q_isSo y2 y4 M).bind fun r1205 =>
        if r1205 = 0 then (
          if 0 ≤ (i_ad y3 y4) ∧ (i_ad y3 y4) < 69984 then (
          pm_bd (pm_ms M 112 ((i_ad y3 y4)).toNat 100000) fun M1206 =>
          f_Q_laysHistories_L103 n_ y2 y3 (i_ad y4 1) M1206) else none)
        else (
          if 0 ≤ (i_ad y3 y4) ∧ (i_ad y3 y4) < 69984 then (
          if 0 ≤ (i_ad y3 y4) ∧ (i_ad y3 y4) < 69984 then (
          pm_bd (pm_ms M 112 ((i_ad y3 y4)).toNat (M 112 ((i_ad y3 y4)).toNat)) fun M1207 =>
          f_Q_laysHistories_L103 n_ y2 y3 (i_ad y4 1) M1207) else none) else none))) else none)
def f_Q_laysHistories_L40  : Nat → Int → pm_M → Option (pm_M)
  | 0, _, _ => none
  | n_ + 1, y2, M =>
    if 9 ≤ y2 then (
      some M)
    else (
      (f_Q_laysHistories_L55 pm_F y2 (i_ml 7776 y2) 0 M).bind fun e1186 =>
      (f_Q_spreads_87_112 e1186.2.1 e1186.2.2).bind fun M1200 =>
      (f_Q_laysHistories_L103 pm_F e1186.1 e1186.2.1 0 M1200).bind fun e1208 =>
      f_Q_laysHistories_L40 n_ (i_ad e1208.1 1) e1208.2)
def f_Q_laysHistories_L190 (M : pm_M) : Nat → Int → Int → Option (Int)
  | 0, _, _ => none
  | n_ + 1, y2, y3 =>
    if 7776 ≤ y3 then (
      some y2)
    else (
      if 0 ≤ (i_ad 62208 y3) ∧ (i_ad 62208 y3) < 69984 then (
      pm_bd (M 112 ((i_ad 62208 y3)).toNat) fun v1210 =>
      if y2 ≤ v1210 then (
        f_Q_laysHistories_L190 M n_ y2 (i_ad y3 1))
      else (
        f_Q_laysHistories_L190 M n_ v1210 (i_ad y3 1))) else none)
def f_Q_laysHistories  (M : pm_M) : Option (Int × pm_M) :=
  (f_Q_wayNow  M).bind fun r1181 =>
  (f_Q_laysHistories_L7 pm_F r1181.1 0 r1181.2).bind fun e1184 =>
  (f_Q_laysHistories_L40 pm_F 1 e1184).bind fun e1209 =>
  (f_Q_laysHistories_L190 e1209 pm_F 100000 0).bind fun e1211 =>
  if e1211 = 100000 then (
    some ((-1), e1209))
  else (
    some (e1211, e1209))
def f_Q_fewest  (M : pm_M) : Option (Int × pm_M) :=
  if (M 88 0) ≤ 5 then (
    (f_Q_laysHistories  M).bind fun r1212 =>
    some (r1212.1, r1212.2))
  else (
    some ((-1), M))
def f_Q_spreads_87_113_L54  : Nat → Int → Int → Int → Int → Int → Int → pm_M → Option (Int × Int × Int × Int × Int × pm_M)
  | 0, _, _, _, _, _, _, _ => none
  | n_ + 1, y2, y3, y4, y5, y6, y7, M =>
    if (M 88 0) ≤ y7 then (
      some (y2, y3, y4, y5, y6, M))
    else (
      (f_Q_changed y4 y6 y7 M).bind fun r1222 =>
      if 0 ≤ (i_ad y2 r1222) ∧ (i_ad y2 r1222) < 69984 then (
      if (M 113 ((i_ad y2 r1222)).toNat) ≤ (i_ad y5 1) then (
        if 0 ≤ (i_ad y2 r1222) ∧ (i_ad y2 r1222) < 69984 then (
        if 0 ≤ (i_ad y2 r1222) ∧ (i_ad y2 r1222) < 69984 then (
        pm_bd (pm_ms M 113 ((i_ad y2 r1222)).toNat (M 113 ((i_ad y2 r1222)).toNat)) fun M1223 =>
        f_Q_spreads_87_113_L54 n_ y2 y3 y4 y5 y6 (i_ad y7 1) M1223) else none) else none)
      else (
        if 0 ≤ (i_ad y2 r1222) ∧ (i_ad y2 r1222) < 69984 then (
        pm_bd (pm_ms M 113 ((i_ad y2 r1222)).toNat (i_ad y5 1)) fun M1224 =>
        f_Q_spreads_87_113_L54 n_ y2 y3 y4 y5 y6 (i_ad y7 1) M1224) else none)) else none)
def f_Q_spreads_87_113_L29  : Nat → Int → Int → Int → Int → Int → pm_M → Option (Int × Int × Int × pm_M)
  | 0, _, _, _, _, _, _ => none
  | n_ + 1, y2, y3, y4, y5, y6, M =>
    if (M 88 0) ≤ y6 then (
      some (y2, y3, y4, M))
    else (
      if 100000 ≤ y5 then (
        some (y2, y3, y4, M))
      else (
        (f_Q_spreads_87_113_L54 pm_F y2 y3 y4 y5 y6 (i_ad y6 1) M).bind fun e1225 =>
        f_Q_spreads_87_113_L29 n_ e1225.1 e1225.2.1 e1225.2.2.1 e1225.2.2.2.1 (i_ad e1225.2.2.2.2.1 1) e1225.2.2.2.2.2))
def f_Q_spreads_87_113_L10  : Nat → Int → Int → Int → pm_M → Option (Int × Int × pm_M)
  | 0, _, _, _, _ => none
  | n_ + 1, y2, y3, y4, M =>
    if 7776 ≤ y4 then (
      some (y2, y3, M))
    else (
      if 0 ≤ (i_ad y2 y4) ∧ (i_ad y2 y4) < 69984 then (
      pm_bd (M 113 ((i_ad y2 y4)).toNat) fun v1221 =>
      (f_Q_spreads_87_113_L29 pm_F y2 y3 y4 v1221 0 M).bind fun e1226 =>
      f_Q_spreads_87_113_L10 n_ e1226.1 e1226.2.1 (i_ad e1226.2.2.1 1) e1226.2.2.2) else none)
def f_Q_spreads_87_113_L2  : Nat → Int → Int → pm_M → Option (pm_M)
  | 0, _, _, _ => none
  | n_ + 1, y2, y3, M =>
    if 4 ≤ y3 then (
      some M)
    else (
      (f_Q_spreads_87_113_L10 pm_F y2 y3 0 M).bind fun e1227 =>
      f_Q_spreads_87_113_L2 n_ e1227.1 (i_ad e1227.2.1 1) e1227.2.2)
def f_Q_spreads_87_113 (x2 : Int) (M : pm_M) : Option (pm_M) :=
  (f_Q_spreads_87_113_L2 pm_F x2 0 M).bind fun e1228 =>
  some e1228
def f_Q_laysRest_L2  : Nat → Int → pm_M → Option (pm_M)
  | 0, _, _ => none
  | n_ + 1, y1, M =>
    if 7776 ≤ y1 then (
      some M)
    else (
      if 0 ≤ (i_ad 62208 y1) ∧ (i_ad 62208 y1) < 69984 then (
      pm_bd (pm_ms M 113 ((i_ad 62208 y1)).toNat 0) fun M1216 =>
      f_Q_laysRest_L2 n_ (i_ad y1 1) M1216) else none)
def f_Q_laysRest_L41  : Nat → Int → Int → Int → pm_M → Option (Int × Int × pm_M)
  | 0, _, _, _, _ => none
  | n_ + 1, y1, y2, y3, M =>
    if 7776 ≤ y3 then (
      some (y1, y2, M))
    else (
      if 0 ≤ (i_ad (i_ad y2 7776) y3) ∧ (i_ad (i_ad y2 7776) y3) < 69984 then (
      if 100000 ≤ (M 112 ((i_ad (i_ad y2 7776) y3)).toNat) then (
        if 0 ≤ (i_ad y2 y3) ∧ (i_ad y2 y3) < 69984 then (
        pm_bd (pm_ms M 113 ((i_ad y2 y3)).toNat 100000) fun M1218 =>
        f_Q_laysRest_L41 n_ y1 y2 (i_ad y3 1) M1218) else none)
      else (
        if 0 ≤ (i_ad (i_ad y2 7776) y3) ∧ (i_ad (i_ad y2 7776) y3) < 69984 then (
        if 0 ≤ (i_ad y2 y3) ∧ (i_ad y2 y3) < 69984 then (
        pm_bd (pm_ms M 113 ((i_ad y2 y3)).toNat (M 113 ((i_ad (i_ad y2 7776) y3)).toNat)) fun M1219 =>
        f_Q_laysRest_L41 n_ y1 y2 (i_ad y3 1) M1219) else none) else none)) else none)
def f_Q_laysRest_L29  : Nat → Int → pm_M → Option (pm_M)
  | 0, _, _ => none
  | n_ + 1, y1, M =>
    if y1 < 0 then (
      some M)
    else (
      (f_Q_laysRest_L41 pm_F y1 (i_ml 7776 y1) 0 M).bind fun e1220 =>
      (f_Q_spreads_87_113 e1220.2.1 e1220.2.2).bind fun M1229 =>
      f_Q_laysRest_L29 n_ (i_ad e1220.1 (-1)) M1229)
def f_Q_laysRest  (M : pm_M) : Option (pm_M) :=
  (f_Q_laysRest_L2 pm_F 0 M).bind fun e1217 =>
  (f_Q_laysRest_L29 pm_F 7 e1217).bind fun e1230 =>
  some e1230
def f_Q_who_L52 (M : pm_M) : Nat → Int → Int → Int → Int → Int → Option (Int)
  | 0, _, _, _, _, _ => none
  | n_ + 1, y1, y2, y3, y4, y5 =>
    if 7776 ≤ y5 then (
      some y4)
    else (
      if 0 ≤ (i_ad (i_ml 7776 y1) y5) ∧ (i_ad (i_ml 7776 y1) y5) < 69984 then (
      if 100000 ≤ (M 112 ((i_ad (i_ml 7776 y1) y5)).toNat) then (
        f_Q_who_L52 M n_ y1 y2 y3 y4 (i_ad y5 1))
      else (
        if 0 ≤ (i_ad (i_ml 7776 y1) y5) ∧ (i_ad (i_ml 7776 y1) y5) < 69984 then (
        if 0 ≤ (i_ad (i_ml 7776 y1) y5) ∧ (i_ad (i_ml 7776 y1) y5) < 69984 then (
        if (i_ad (M 112 ((i_ad (i_ml 7776 y1) y5)).toNat) (M 113 ((i_ad (i_ml 7776 y1) y5)).toNat)) = y3 then (
          (f_Q_at6 y5 y2 M).bind fun r1232 =>
          if r1232 = 0 then (
            f_Q_who_L52 M n_ y1 y2 y3 (i_or y4 4096) (i_ad y5 1))
          else (
            if 0 ≤ (i_sb r1232 1) ∧ (i_sb r1232 1) < 5 then (
            pm_bd (i_or y4 (i_sl 1 (M 114 ((i_sb r1232 1)).toNat))) fun v1233 =>
            f_Q_who_L52 M n_ y1 y2 y3 v1233 (i_ad y5 1)) else none))
        else (
          f_Q_who_L52 M n_ y1 y2 y3 y4 (i_ad y5 1))) else none) else none)) else none)
def f_Q_who (x1 : Int) (x2 : Int) (M : pm_M) : Option (Int × pm_M) :=
  (f_Q_in x1 0 8 M).bind fun r1213 =>
  if r1213 = 0 then (
    some ((-1), M))
  else (
    (f_Q_isPlinth x2 M).bind fun r1214 =>
    if r1214 = 0 then (
      some ((-1), M))
    else (
      if (M 88 0) ≤ 5 then (
        (f_Q_laysHistories  M).bind fun r1215 =>
        if r1215.1 = (-1) then (
          some ((-1), r1215.2))
        else (
          (f_Q_laysRest  r1215.2).bind fun M1231 =>
          (f_Q_who_L52 M1231 pm_F x1 x2 r1215.1 0 0).bind fun e1234 =>
          some (e1234, M1231)))
      else (
        some ((-1), M))))
def f_Q_stood (x1 : Int) (x2 : Int) (M : pm_M) : Option (Int) :=
  (f_Q_isHead x1 M).bind fun r1235 =>
  if r1235 = 0 then (
    some (-1))
  else (
    (f_Q_in x2 (-1) 11 M).bind fun r1236 =>
    if r1236 = 0 then (
      some (-1))
    else (
      if 0 ≤ (i_ad (i_ad (i_ad 100 (i_ml 13 x1)) x2) 1) ∧ (i_ad (i_ad (i_ad 100 (i_ml 13 x1)) x2) 1) < 4012 then (
      some (M 88 ((i_ad (i_ad (i_ad 100 (i_ml 13 x1)) x2) 1)).toNat)) else none))
def f_Q_longest_L19 (M : pm_M) : Nat → Int → Int → Int → Int → Option (Int)
  | 0, _, _, _, _ => none
  | n_ + 1, y1, y2, y3, y4 =>
    if (M 88 1) ≤ y4 then (
      some y2)
    else (
      if 0 ≤ (i_ad (i_ad (i_ad 100 (i_ml 13 y4)) y1) 1) ∧ (i_ad (i_ad (i_ad 100 (i_ml 13 y4)) y1) 1) < 4012 then (
      pm_bd (M 88 ((i_ad (i_ad (i_ad 100 (i_ml 13 y4)) y1) 1)).toNat) fun v1238 =>
      if v1238 ≤ y3 then (
        f_Q_longest_L19 M n_ y1 y2 y3 (i_ad y4 1))
      else (
        f_Q_longest_L19 M n_ y1 y4 v1238 (i_ad y4 1))) else none)
def f_Q_longest (x1 : Int) (M : pm_M) : Option (Int) :=
  (f_Q_in x1 (-1) 11 M).bind fun r1237 =>
  if r1237 = 0 then (
    some (-1))
  else (
    (f_Q_longest_L19 M pm_F x1 (-1) 0 0).bind fun e1239 =>
    some e1239)
def f_Q_asksTour_L12  : Nat → Int → Int → pm_M → Option (pm_M)
  | 0, _, _, _ => none
  | n_ + 1, y1, y2, M =>
    if y1 ≤ y2 then (
      some M)
    else (
      if 0 ≤ y2 ∧ y2 < 8 then (
      if 0 ≤ (i_ad (i_ad 10 (i_ml 4 (M 115 (y2).toNat))) 3) ∧ (i_ad (i_ad 10 (i_ml 4 (M 115 (y2).toNat))) 3) < 4012 then (
      pm_bd (pm_ms M 87 47 (i_ad (M 87 47) (M 88 ((i_ad (i_ad 10 (i_ml 4 (M 115 (y2).toNat))) 3)).toNat))) fun M1246 =>
      if y2 = 0 then (
        pm_bd (pm_ms M1246 87 48 (i_ad (M1246 87 48) 0)) fun M1247 =>
        f_Q_asksTour_L12 n_ y1 (i_ad y2 1) M1247)
      else (
        if 0 ≤ (i_sb y2 1) ∧ (i_sb y2 1) < 8 then (
        if 0 ≤ y2 ∧ y2 < 8 then (
        (f_Q_milesOf (M1246 115 ((i_sb y2 1)).toNat) (M1246 115 (y2).toNat) M1246).bind fun r1248 =>
        pm_bd (pm_ms M1246 87 48 (i_ad (M1246 87 48) r1248)) fun M1249 =>
        f_Q_asksTour_L12 n_ y1 (i_ad y2 1) M1249) else none) else none)) else none) else none)
def f_Q_asksTour (x1 : Int) (M : pm_M) : Option (pm_M) :=
  pm_bd (pm_ms M 87 47 0) fun M1244 =>
  pm_bd (pm_ms M1244 87 48 0) fun M1245 =>
  (f_Q_asksTour_L12 pm_F x1 0 M1245).bind fun e1250 =>
  some e1250
def f_Q_keepsTour_L56  : Nat → Int → Int → pm_M → Option (pm_M)
  | 0, _, _, _ => none
  | n_ + 1, y1, y2, M =>
    if y1 ≤ y2 then (
      some M)
    else (
      if 0 ≤ y2 ∧ y2 < 8 then (
      if 0 ≤ y2 ∧ y2 < 8 then (
      pm_bd (pm_ms M 116 (y2).toNat (M 115 (y2).toNat)) fun M1255 =>
      f_Q_keepsTour_L56 n_ y1 (i_ad y2 1) M1255) else none) else none)
def f_Q_keepsTour (x1 : Int) (M : pm_M) : Option (pm_M) :=
  if (M 87 50) < (M 87 47) then (
    pm_bd (pm_ms M 87 50 (M 87 47)) fun M1252 =>
    pm_bd (pm_ms M1252 87 51 (M1252 87 48)) fun M1253 =>
    pm_bd (pm_ms M1253 87 49 x1) fun M1254 =>
    (f_Q_keepsTour_L56 pm_F x1 0 M1254).bind fun e1256 =>
    some e1256)
  else (
    if (M 87 47) = (M 87 50) then (
      if (M 87 51) ≤ (M 87 48) then (
        some M)
      else (
        pm_bd (pm_ms M 87 50 (M 87 47)) fun M1257 =>
        pm_bd (pm_ms M1257 87 51 (M1257 87 48)) fun M1258 =>
        pm_bd (pm_ms M1258 87 49 x1) fun M1259 =>
        (f_Q_keepsTour_L56 pm_F x1 0 M1259).bind fun e1260 =>
        some e1260))
    else (
      some M))
def f_Q_isOnWay_L5 (M : pm_M) : Nat → Int → Int → Int → Int → Option (Int)
  | 0, _, _, _, _ => none
  | n_ + 1, y1, y2, y3, y4 =>
    if y2 ≤ y4 then (
      some y3)
    else (
      if y3 = 0 then (
        if 0 ≤ y4 ∧ y4 < 8 then (
        if (M 115 (y4).toNat) = y1 then (
          f_Q_isOnWay_L5 M n_ y1 y2 1 (i_ad y4 1))
        else (
          f_Q_isOnWay_L5 M n_ y1 y2 0 (i_ad y4 1))) else none)
      else (
        f_Q_isOnWay_L5 M n_ y1 y2 1 (i_ad y4 1)))
def f_Q_isOnWay (x1 : Int) (x2 : Int) (M : pm_M) : Option (Int) :=
  (f_Q_isOnWay_L5 M pm_F x1 x2 0 0).bind fun e1264 =>
  if e1264 = 0 ∨ e1264 = 1 then some e1264 else none
def f_Q_tours_L31  : Nat → Int → Int → pm_M → Option (pm_M)
  | 0, _, _, _ => none
  | n_ + 1, y2, y3, M =>
    if y3 ≤ 0 then (
      some M)
    else (
      if 0 ≤ y3 ∧ y3 < 8 then (
      if 0 ≤ y3 ∧ y3 < 8 then (
      pm_bd (pm_ms M 115 (y3).toNat (i_ad (M 115 (y3).toNat) 1)) fun M1263 =>
      if 0 ≤ y3 ∧ y3 < 8 then (
      if (M1263 115 (y3).toNat) < (M1263 88 0) then (
        if 0 ≤ y3 ∧ y3 < 8 then (
        (f_Q_isOnWay (M1263 115 (y3).toNat) y3 M1263).bind fun r1265 =>
        if r1265 = 0 then (
          (f_Q_asksTour (i_ad y3 1) M1263).bind fun M1266 =>
          if y2 < (M1266 87 48) then (
            f_Q_tours_L31 n_ y2 y3 M1266)
          else (
            (f_Q_keepsTour (i_ad y3 1) M1266).bind fun M1267 =>
            if 7 ≤ y3 then (
              f_Q_tours_L31 n_ y2 y3 M1267)
            else (
              if 0 ≤ (i_ad y3 1) ∧ (i_ad y3 1) < 8 then (
              pm_bd (pm_ms M1267 115 ((i_ad y3 1)).toNat (-1)) fun M1268 =>
              f_Q_tours_L31 n_ y2 (i_ad y3 1) M1268) else none)))
        else (
          f_Q_tours_L31 n_ y2 y3 M1263)) else none)
      else (
        f_Q_tours_L31 n_ y2 (i_ad y3 (-1)) M1263)) else none) else none) else none)
def f_Q_tours (x1 : Int) (x2 : Int) (M : pm_M) : Option (pm_M) :=
  pm_bd (pm_ms M 115 0 x1) fun M1242 =>
  pm_bd (pm_ms M1242 87 50 (-1)) fun M1243 =>
  (f_Q_asksTour 1 M1243).bind fun M1251 =>
  (f_Q_keepsTour 1 M1251).bind fun M1261 =>
  pm_bd (pm_ms M1261 115 1 (-1)) fun M1262 =>
  (f_Q_tours_L31 pm_F x2 1 M1262).bind fun e1269 =>
  some e1269
def f_Q_tour (x1 : Int) (x2 : Int) (x3 : Int) (M : pm_M) : Option (Int × pm_M) :=
  (f_Q_isPlinth x1 M).bind fun r1240 =>
  if r1240 = 0 then (
    some ((-1), M))
  else (
    (f_Q_in x2 0 999 M).bind fun r1241 =>
    if r1241 = 0 then (
      some ((-1), M))
    else (
      if 0 ≤ x3 then (
        (f_Q_tours x1 x2 M).bind fun M1270 =>
        if 2 ≤ x3 then (
          if (M1270 87 49) ≤ (i_sb x3 2) then (
            some ((-1), M1270))
          else (
            if 0 ≤ (i_sb x3 2) ∧ (i_sb x3 2) < 8 then (
            some ((M1270 116 ((i_sb x3 2)).toNat), M1270)) else none))
        else (
          if x3 = 0 then (
            some ((M1270 87 50), M1270))
          else (
            some ((M1270 87 51), M1270))))
      else (
        some ((-1), M))))
def f_Q_dirtBy_L2  : Nat → Int → Int → Int → pm_M → Option (Int × Int × pm_M)
  | 0, _, _, _, _ => none
  | n_ + 1, y1, y2, y3, M =>
    if 8 ≤ y3 then (
      some (y1, y2, M))
    else (
      if 0 ≤ y3 ∧ y3 < 8 then (
      pm_bd (pm_ms M 117 (y3).toNat 0) fun M1278 =>
      f_Q_dirtBy_L2 n_ y1 y2 (i_ad y3 1) M1278) else none)
def f_Q_dirtBy_L32 (M : pm_M) : Nat → Int → Int → Int → Int → Int → Option (Int × Int × Int × Int)
  | 0, _, _, _, _, _ => none
  | n_ + 1, y2, y3, y4, y5, y6 =>
    if y2 ≤ y6 then (
      some (y2, y3, y4, y5))
    else (
      f_Q_dirtBy_L32 M n_ y2 y3 y4 (i_ml y5 (M 88 0)) (i_ad y6 1))
def f_Q_dirtBy_L67  : Nat → Int → Int → Int → Int → Int → Int → pm_M → Option (Int × Int × Int × Int × Int × pm_M)
  | 0, _, _, _, _, _, _, _ => none
  | n_ + 1, y2, y3, y4, y5, y6, y7, M =>
    if (M 88 0) ≤ y7 then (
      some (y2, y3, y4, y5, y6, M))
    else (
      if 0 ≤ y7 ∧ y7 < 8 then (
      if 0 ≤ y7 ∧ y7 < 8 then (
      if 0 ≤ y7 ∧ y7 < 8 then (
      pm_bd (pm_ms M 117 (y7).toNat (i_ad (M 117 (y7).toNat) (M 118 (y7).toNat))) fun M1281 =>
      f_Q_dirtBy_L67 n_ y2 y3 y4 y5 y6 (i_ad y7 1) M1281) else none) else none) else none)
def f_Q_dirtBy_L133 (M : pm_M) : Nat → Int → Int → Int → Int → Int → Int → Option (Int × Int × Int × Int × Int)
  | 0, _, _, _, _, _, _ => none
  | n_ + 1, y2, y3, y4, y5, y6, y7 =>
    if (M 88 0) ≤ y7 then (
      some (y2, y3, y4, y5, y6))
    else (
      if 0 ≤ y7 ∧ y7 < 8 then (
      pm_bd (i_ad y3 (M 117 (y7).toNat)) fun v1286 =>
      f_Q_dirtBy_L133 M n_ y2 v1286 y4 y5 y6 (i_ad y7 1)) else none)
def f_Q_dirtBy_L58  : Nat → Int → Int → Int → Int → Int → pm_M → Option (Int × pm_M)
  | 0, _, _, _, _, _, _ => none
  | n_ + 1, y2, y3, y4, y5, y6, M =>
    if y2 ≤ y6 then (
      some (y3, M))
    else (
      (f_Q_dirtBy_L67 pm_F y2 y3 y4 y5 y6 0 M).bind fun e1282 =>
      if e1282.2.2.2.1 = 0 then none else (
      if 0 ≤ (i_dv e1282.2.2.1 e1282.2.2.2.1) ∧ (i_dv e1282.2.2.1 e1282.2.2.2.1) < 8 then (
      pm_bd (pm_ms e1282.2.2.2.2.2 117 ((i_dv e1282.2.2.1 e1282.2.2.2.1)).toNat 0) fun M1283 =>
      if e1282.2.2.2.1 = 0 then none else (
      pm_bd (i_rm e1282.2.2.1 e1282.2.2.2.1) fun v1284 =>
      if (M1283 88 0) = 0 then none else (
      pm_bd (i_dv e1282.2.2.2.1 (M1283 88 0)) fun v1285 =>
      (f_Q_dirtBy_L133 M1283 pm_F e1282.1 e1282.2.1 v1284 v1285 e1282.2.2.2.2.1 0).bind fun e1287 =>
      f_Q_dirtBy_L58 n_ e1287.1 e1287.2.1 e1287.2.2.1 e1287.2.2.2.1 (i_ad e1287.2.2.2.2 1) M1283))) else none))
def f_Q_dirtBy (x1 : Int) (x2 : Int) (M : pm_M) : Option (Int × pm_M) :=
  (f_Q_dirtBy_L2 pm_F x1 x2 0 M).bind fun e1279 =>
  (f_Q_dirtBy_L32 e1279.2.2 pm_F e1279.2.1 0 e1279.1 1 1).bind fun e1280 =>
  (f_Q_dirtBy_L58 pm_F e1280.1 e1280.2.1 e1280.2.2.1 e1280.2.2.2 0 e1279.2.2).bind fun e1288 =>
  some (e1288.1, e1288.2)
def f_Q_rounds_L36 (M : pm_M) : Nat → Int → Int → Int → Int → Option (Int × Int × Int)
  | 0, _, _, _, _ => none
  | n_ + 1, y1, y2, y3, y4 =>
    if y1 ≤ y4 then (
      some (y1, y2, y3))
    else (
      f_Q_rounds_L36 M n_ y1 y2 (i_ml y3 (M 88 0)) (i_ad y4 1))
def f_Q_rounds_L60  : Nat → Int → Int → Int → Int → pm_M → Option (Int × Int × Int × pm_M)
  | 0, _, _, _, _, _ => none
  | n_ + 1, y1, y2, y3, y4, M =>
    if (M 88 0) ≤ y4 then (
      some (y1, y2, y3, M))
    else (
      if 0 ≤ (i_ad 70 y4) ∧ (i_ad 70 y4) < 4012 then (
      if (M 88 ((i_ad 70 y4)).toNat) = (-1) then (
        if 0 ≤ y4 ∧ y4 < 8 then (
        pm_bd (pm_ms M 118 (y4).toNat 0) fun M1274 =>
        f_Q_rounds_L60 n_ y1 y2 y3 (i_ad y4 1) M1274) else none)
      else (
        if 0 ≤ (i_ad 70 y4) ∧ (i_ad 70 y4) < 4012 then (
        (f_Q_tellsOf 2 y4 (M 88 ((i_ad 70 y4)).toNat) M).bind fun r1275 =>
        if 0 ≤ y4 ∧ y4 < 8 then (
        pm_bd (pm_ms r1275.2 118 (y4).toNat r1275.1) fun M1276 =>
        f_Q_rounds_L60 n_ y1 y2 y3 (i_ad y4 1) M1276) else none) else none)) else none)
def f_Q_rounds_L130  : Nat → Int → Int → Int → Int → Int → Int → pm_M → Option (Int × Int × Int × Int × pm_M)
  | 0, _, _, _, _, _, _, _ => none
  | n_ + 1, y1, y2, y3, y4, y5, y6, M =>
    if y3 ≤ y6 then (
      some (y1, y2, y4, y5, M))
    else (
      (f_Q_dirtBy y6 y1 M).bind fun r1289 =>
      if y5 ≤ r1289.1 then (
        f_Q_rounds_L130 n_ y1 y2 y3 y4 y5 (i_ad y6 1) r1289.2)
      else (
        f_Q_rounds_L130 n_ y1 y2 y3 y6 r1289.1 (i_ad y6 1) r1289.2))
def f_Q_rounds_L179 (M : pm_M) : Nat → Int → Int → Int → Option (Int)
  | 0, _, _, _ => none
  | n_ + 1, y2, y4, y6 =>
    if y6 ≤ y2 then (
      some y4)
    else (
      if (M 88 0) = 0 then none else (
      f_Q_rounds_L179 M n_ y2 (i_dv y4 (M 88 0)) (i_ad y6 (-1))))
def f_Q_rounds (x1 : Int) (x2 : Int) (M : pm_M) : Option (Int × pm_M) :=
  (f_Q_in x1 1 5 M).bind fun r1271 =>
  if r1271 = 0 then (
    some ((-1), M))
  else (
    (f_Q_in x2 (-1) (i_sb x1 1) M).bind fun r1272 =>
    if r1272 = 0 then (
      some ((-1), M))
    else (
      if (M 88 0) = 0 then (
        some ((-1), M))
      else (
        (f_Q_rounds_L36 M pm_F x1 x2 1 0).bind fun e1273 =>
        (f_Q_rounds_L60 pm_F e1273.1 e1273.2.1 e1273.2.2 0 M).bind fun e1277 =>
        (f_Q_rounds_L130 pm_F e1277.1 e1277.2.1 e1277.2.2.1 0 100000 0 e1277.2.2.2).bind fun e1290 =>
        if e1290.2.1 = (-1) then (
          some (e1290.2.2.2.1, e1290.2.2.2.2))
        else (
          (f_Q_rounds_L179 e1290.2.2.2.2 pm_F e1290.2.1 e1290.2.2.1 (i_sb e1290.1 1)).bind fun e1291 =>
          if (e1290.2.2.2.2 88 0) = 0 then none else (
          some ((i_rm e1291 (e1290.2.2.2.2 88 0)), e1290.2.2.2.2))))))
def f_Q_draw (x1 : Int) (M : pm_M) : Option (Int × pm_M) :=
  if x1 = 0 then none else (
  pm_bd (pm_ms M 87 54 (i_rm (i_ad (i_ml (M 87 54) 193) 71) 30059)) fun M1296 =>
  some ((i_rm (M 87 54) x1), M1296))
def f_Q_revolution_J212  (re_ : Int → Int → Int → pm_M → Option (Int × pm_M)) (y2 : Int) (y3 : Int) (y4 : Int) (y6 : Int) (y8 : Int) (M : pm_M) : Option (Int × pm_M) :=
  if y8 = 0 then (
    if y8 = 0 then (
      re_ y2 (i_ad y3 0) (i_ad y4 1) M)
    else (
      re_ y2 (i_ad y3 1) (i_ad y4 1) M))
  else (
    if 0 ≤ (i_ad 70 y6) ∧ (i_ad 70 y6) < 4012 then (
    pm_bd (pm_ms M 88 ((i_ad 70 y6)).toNat (-1)) fun M1301 =>
    if y8 = 0 then (
      re_ y2 (i_ad y3 0) (i_ad y4 1) M1301)
    else (
      re_ y2 (i_ad y3 1) (i_ad y4 1) M1301)) else none)
def f_Q_revolution_J190  (re_ : Int → Int → Int → pm_M → Option (Int × pm_M)) (y2 : Int) (y3 : Int) (y4 : Int) (y5 : Int) (y6 : Int) (y7 : Int) (y8 : Int) (M : pm_M) : Option (Int × pm_M) :=
  if y8 = 0 then (
    f_Q_revolution_J212 re_ y2 y3 y4 y6 y8 M)
  else (
    if y5 = 1 then (
      (f_Q_changes y6 y7 M).bind fun M1302 =>
      if y8 = 0 then (
        re_ y2 (i_ad y3 0) (i_ad y4 1) M1302)
      else (
        re_ y2 (i_ad y3 1) (i_ad y4 1) M1302))
    else (
      f_Q_revolution_J212 re_ y2 y3 y4 y6 y8 M))
def f_Q_revolution_L60  : Nat → Int → Int → Int → pm_M → Option (Int × pm_M)
  | 0, _, _, _, _ => none
  | n_ + 1, y2, y3, y4, M =>
    if y2 ≤ y4 then (
      some (y3, M))
    else (
      (f_Q_draw 3 M).bind fun r1297 =>
      if r1297.1 = 0 then (
        (f_Q_draw (r1297.2 88 1) r1297.2).bind fun r1298 =>
        (f_Q_draw (r1298.2 88 0) r1298.2).bind fun r1299 =>
        if r1297.1 = 0 then (
          (f_Q_canPut r1298.1 r1299.1 r1299.2).bind fun r1300 =>
          if r1300 = 0 then (
            f_Q_revolution_J190 (f_Q_revolution_L60 n_) y2 y3 y4 r1297.1 r1298.1 r1299.1 r1300 r1299.2)
          else (
            if r1297.1 = 0 then (
              if 0 ≤ (i_ad 70 r1299.1) ∧ (i_ad 70 r1299.1) < 4012 then (
              pm_bd (pm_ms r1299.2 88 ((i_ad 70 r1299.1)).toNat r1298.1) fun M1303 =>
              if r1300 = 0 then (
                f_Q_revolution_L60 n_ y2 (i_ad y3 0) (i_ad y4 1) M1303)
              else (
                f_Q_revolution_L60 n_ y2 (i_ad y3 1) (i_ad y4 1) M1303)) else none)
            else (
              f_Q_revolution_J190 (f_Q_revolution_L60 n_) y2 y3 y4 r1297.1 r1298.1 r1299.1 r1300 r1299.2)))
        else (
          if r1297.1 = 1 then (
            (f_Q_canChange r1298.1 r1299.1 r1299.2).bind fun r1304 =>
            if r1304 = 0 then (
              f_Q_revolution_J190 (f_Q_revolution_L60 n_) y2 y3 y4 r1297.1 r1298.1 r1299.1 r1304 r1299.2)
            else (
              if r1297.1 = 0 then (
                if 0 ≤ (i_ad 70 r1299.1) ∧ (i_ad 70 r1299.1) < 4012 then (
                pm_bd (pm_ms r1299.2 88 ((i_ad 70 r1299.1)).toNat r1298.1) fun M1305 =>
                if r1304 = 0 then (
                  f_Q_revolution_L60 n_ y2 (i_ad y3 0) (i_ad y4 1) M1305)
                else (
                  f_Q_revolution_L60 n_ y2 (i_ad y3 1) (i_ad y4 1) M1305)) else none)
              else (
                f_Q_revolution_J190 (f_Q_revolution_L60 n_) y2 y3 y4 r1297.1 r1298.1 r1299.1 r1304 r1299.2)))
          else (
            if 0 ≤ (i_ad 70 r1298.1) ∧ (i_ad 70 r1298.1) < 4012 then (
            if (r1299.2 88 ((i_ad 70 r1298.1)).toNat) = (-1) then (
              f_Q_revolution_J190 (f_Q_revolution_L60 n_) y2 y3 y4 r1297.1 r1298.1 r1299.1 0 r1299.2)
            else (
              if r1297.1 = 0 then (
                if 0 ≤ (i_ad 70 r1299.1) ∧ (i_ad 70 r1299.1) < 4012 then (
                pm_bd (pm_ms r1299.2 88 ((i_ad 70 r1299.1)).toNat r1298.1) fun M1306 =>
                f_Q_revolution_L60 n_ y2 (i_ad y3 1) (i_ad y4 1) M1306) else none)
              else (
                f_Q_revolution_J190 (f_Q_revolution_L60 n_) y2 y3 y4 r1297.1 r1298.1 r1299.1 1 r1299.2))) else none)))
      else (
        (f_Q_draw (r1297.2 88 0) r1297.2).bind fun r1307 =>
        (f_Q_draw (r1307.2 88 0) r1307.2).bind fun r1308 =>
        if r1297.1 = 0 then (
          (f_Q_canPut r1307.1 r1308.1 r1308.2).bind fun r1309 =>
          if r1309 = 0 then (
            f_Q_revolution_J190 (f_Q_revolution_L60 n_) y2 y3 y4 r1297.1 r1307.1 r1308.1 r1309 r1308.2)
          else (
            if r1297.1 = 0 then (
              if 0 ≤ (i_ad 70 r1308.1) ∧ (i_ad 70 r1308.1) < 4012 then (
              pm_bd (pm_ms r1308.2 88 ((i_ad 70 r1308.1)).toNat r1307.1) fun M1310 =>
              if r1309 = 0 then (
                f_Q_revolution_L60 n_ y2 (i_ad y3 0) (i_ad y4 1) M1310)
              else (
                f_Q_revolution_L60 n_ y2 (i_ad y3 1) (i_ad y4 1) M1310)) else none)
            else (
              f_Q_revolution_J190 (f_Q_revolution_L60 n_) y2 y3 y4 r1297.1 r1307.1 r1308.1 r1309 r1308.2)))
        else (
          if r1297.1 = 1 then (
            (f_Q_canChange r1307.1 r1308.1 r1308.2).bind fun r1311 =>
            if r1311 = 0 then (
              f_Q_revolution_J190 (f_Q_revolution_L60 n_) y2 y3 y4 r1297.1 r1307.1 r1308.1 r1311 r1308.2)
            else (
              if r1297.1 = 0 then (
                if 0 ≤ (i_ad 70 r1308.1) ∧ (i_ad 70 r1308.1) < 4012 then (
                pm_bd (pm_ms r1308.2 88 ((i_ad 70 r1308.1)).toNat r1307.1) fun M1312 =>
                if r1311 = 0 then (
                  f_Q_revolution_L60 n_ y2 (i_ad y3 0) (i_ad y4 1) M1312)
                else (
                  f_Q_revolution_L60 n_ y2 (i_ad y3 1) (i_ad y4 1) M1312)) else none)
              else (
                f_Q_revolution_J190 (f_Q_revolution_L60 n_) y2 y3 y4 r1297.1 r1307.1 r1308.1 r1311 r1308.2)))
          else (
            if 0 ≤ (i_ad 70 r1307.1) ∧ (i_ad 70 r1307.1) < 4012 then (
            if (r1308.2 88 ((i_ad 70 r1307.1)).toNat) = (-1) then (
              f_Q_revolution_J190 (f_Q_revolution_L60 n_) y2 y3 y4 r1297.1 r1307.1 r1308.1 0 r1308.2)
            else (
              if r1297.1 = 0 then (
                if 0 ≤ (i_ad 70 r1308.1) ∧ (i_ad 70 r1308.1) < 4012 then (
                pm_bd (pm_ms r1308.2 88 ((i_ad 70 r1308.1)).toNat r1307.1) fun M1313 =>
                f_Q_revolution_L60 n_ y2 (i_ad y3 1) (i_ad y4 1) M1313) else none)
              else (
                f_Q_revolution_J190 (f_Q_revolution_L60 n_) y2 y3 y4 r1297.1 r1307.1 r1308.1 1 r1308.2))) else none))))
def f_Q_revolution (x1 : Int) (x2 : Int) (M : pm_M) : Option (Int × pm_M) :=
  (f_Q_in x1 0 9999 M).bind fun r1292 =>
  if r1292 = 0 then (
    some ((-1), M))
  else (
    (f_Q_in x2 1 99 M).bind fun r1293 =>
    if r1293 = 0 then (
      some ((-1), M))
    else (
      if (M 88 0) = 0 then (
        some ((-1), M))
      else (
        if (M 88 1) = 0 then (
          some ((-1), M))
        else (
          (f_Q_keepsStep  M).bind fun M1294 =>
          pm_bd (pm_ms M1294 87 54 (i_ad (i_ml x1 13) 5)) fun M1295 =>
          (f_Q_revolution_L60 pm_F x2 0 0 M1295).bind fun e1314 =>
          some (e1314.1, e1314.2)))))
def f_Q_copies_L2  : Nat → Int → Int → pm_M → Option (pm_M)
  | 0, _, _, _ => none
  | n_ + 1, y1, y2, M =>
    if 4012 ≤ y2 then (
      some M)
    else (
      if y1 = 0 then (
        if 0 ≤ y2 ∧ y2 < 4012 then (
        if 0 ≤ y2 ∧ y2 < 4012 then (
        pm_bd (pm_ms M 88 (y2).toNat (M 89 (y2).toNat)) fun M1315 =>
        f_Q_copies_L2 n_ y1 (i_ad y2 1) M1315) else none) else none)
      else (
        if 0 ≤ y2 ∧ y2 < 4012 then (
        if 0 ≤ y2 ∧ y2 < 4012 then (
        pm_bd (pm_ms M 89 (y2).toNat (M 88 (y2).toNat)) fun M1316 =>
        f_Q_copies_L2 n_ y1 (i_ad y2 1) M1316) else none) else none))
def f_Q_copies (x1 : Int) (M : pm_M) : Option (pm_M) :=
  (f_Q_copies_L2 pm_F x1 0 M).bind fun e1317 =>
  some e1317
def f_Q_image  (M : pm_M) : Option (Int × pm_M) :=
  (f_Q_copies 1 M).bind fun M1318 =>
  some ((M1318 88 99), M1318)
def f_Q_back  (M : pm_M) : Option (Int × pm_M) :=
  (f_Q_copies 0 M).bind fun M1319 =>
  some ((M1319 88 99), M1319)
def f_Q_debts_L4 (M : pm_M) : Nat → Int → Int → Option (Int)
  | 0, _, _ => none
  | n_ + 1, y1, y2 =>
    if (M 88 1) ≤ y2 then (
      some y1)
    else (
      if 0 ≤ (i_ad 86 y2) ∧ (i_ad 86 y2) < 4012 then (
      pm_bd (i_ad y1 (M 88 ((i_ad 86 y2)).toNat)) fun v1320 =>
      f_Q_debts_L4 M n_ v1320 (i_ad y2 1)) else none)
def f_Q_debts  (M : pm_M) : Option (Int) :=
  (f_Q_debts_L4 M pm_F 0 0).bind fun e1321 =>
  some e1321
def f_Q_about (x1 : Int) (M : pm_M) : Option (Int) :=
  if x1 = 0 then (
    some (M 88 0))
  else
  if x1 = 1 then (
    some (M 88 1))
  else
  if x1 = 2 then (
    some (M 88 99))
  else
  if x1 = 3 then (
    some (M 88 98))
  else
  if x1 = 4 then (
    some (M 88 2))
  else
  if x1 = 5 then (
    some (M 88 3))
  else
  if x1 = 6 then (
    some (M 88 4))
  else
  if x1 = 7 then (
    some (M 88 5))
  else
  if x1 = 8 then (
    some (M 87 3))
  else
  if x1 = 9 then (
    (f_Q_debts  M).bind fun r1322 =>
    some r1322)
  else
  (
    (f_Q_isPlinth (i_sb x1 10) M).bind fun r1323 =>
    if r1323 = 0 then (
      (f_Q_isPlinth (i_sb x1 20) M).bind fun r1324 =>
      if r1324 = 0 then (
        some (-2))
      else (
        if 0 ≤ (i_ad (i_ad 10 (i_ml 4 (i_sb x1 20))) 2) ∧ (i_ad (i_ad 10 (i_ml 4 (i_sb x1 20))) 2) < 4012 then (
        if 0 ≤ (i_ad (i_ad 10 (i_ml 4 (i_sb x1 20))) 3) ∧ (i_ad (i_ad 10 (i_ml 4 (i_sb x1 20))) 3) < 4012 then (
        some (i_ad (i_ml 10 (M 88 ((i_ad (i_ad 10 (i_ml 4 (i_sb x1 20))) 2)).toNat)) (M 88 ((i_ad (i_ad 10 (i_ml 4 (i_sb x1 20))) 3)).toNat))) else none) else none))
    else (
      if 0 ≤ (i_ad 10 (i_ml 4 (i_sb x1 10))) ∧ (i_ad 10 (i_ml 4 (i_sb x1 10))) < 4012 then (
      if 0 ≤ (i_ad (i_ad 10 (i_ml 4 (i_sb x1 10))) 1) ∧ (i_ad (i_ad 10 (i_ml 4 (i_sb x1 10))) 1) < 4012 then (
      some (i_ad (i_ml 100 (M 88 ((i_ad 10 (i_ml 4 (i_sb x1 10)))).toNat)) (M 88 ((i_ad (i_ad 10 (i_ml 4 (i_sb x1 10))) 1)).toNat))) else none) else none))
def f_Told_milesApart (x1 : Int) (x2 : Int) (M : pm_M) : Option (Int) :=
  if 0 ≤ x1 ∧ x1 < 8 then (
  if 0 ≤ x2 ∧ x2 < 8 then (
  if 0 ≤ x1 ∧ x1 < 8 then (
  if 0 ≤ x2 ∧ x2 < 8 then (
  some (i_ad (i_ab (i_sb (M 25 (x1).toNat) (M 25 (x2).toNat))) (i_ab (i_sb (M 26 (x1).toNat) (M 26 (x2).toNat))))) else none) else none) else none) else none
def f_Told_countClose_L9  : Nat → Int → Int → pm_M → Option (pm_M)
  | 0, _, _, _ => none
  | n_ + 1, y1, y2, M =>
    if y1 ≤ y2 then (
      some M)
    else (
      (f_Told_milesApart y1 y2 M).bind fun r6 =>
      if 10 < r6 then (
        f_Told_countClose_L9 n_ y1 (i_ad y2 1) M)
      else (
        if 0 ≤ y1 ∧ y1 < 8 then (
        if 0 ≤ y1 ∧ y1 < 8 then (
        pm_bd (pm_ms M 29 (y1).toNat (i_ad (M 29 (y1).toNat) 1)) fun M7 =>
        if 0 ≤ y2 ∧ y2 < 8 then (
        if 0 ≤ y2 ∧ y2 < 8 then (
        pm_bd (pm_ms M7 29 (y2).toNat (i_ad (M7 29 (y2).toNat) 1)) fun M8 =>
        f_Told_countClose_L9 n_ y1 (i_ad y2 1) M8) else none) else none) else none) else none))
def f_Told_countClose (x1 : Int) (M : pm_M) : Option (pm_M) :=
  if 0 ≤ x1 ∧ x1 < 8 then (
  pm_bd (pm_ms M 29 (x1).toNat 0) fun M5 =>
  (f_Told_countClose_L9 pm_F x1 0 M5).bind fun e9 =>
  some e9) else none
def f_Told_addPlinth (x1 : Int) (x2 : Int) (x3 : Int) (x4 : Int) (M : pm_M) : Option (Int × pm_M) :=
  if 8 ≤ (M 24 10) then (
    some ((-1), M))
  else (
    if x1 < 0 then (
      some ((-1), M))
    else (
      if 99 < x1 then (
        some ((-1), M))
      else (
        if x2 < 0 then (
          some ((-1), M))
        else (
          if 99 < x2 then (
            some ((-1), M))
          else (
            if x3 < 0 then (
              some ((-1), M))
            else (
              if 9 < x3 then (
                some ((-1), M))
              else (
                if x4 < 0 then (
                  some ((-1), M))
                else (
                  if x4 ≤ 9 then (
                    if 0 ≤ (M 24 10) ∧ (M 24 10) < 8 then (
                    pm_bd (pm_ms M 25 ((M 24 10)).toNat x1) fun M1 =>
                    if 0 ≤ (M1 24 10) ∧ (M1 24 10) < 8 then (
                    pm_bd (pm_ms M1 26 ((M1 24 10)).toNat x2) fun M2 =>
                    if 0 ≤ (M2 24 10) ∧ (M2 24 10) < 8 then (
                    pm_bd (pm_ms M2 27 ((M2 24 10)).toNat x3) fun M3 =>
                    if 0 ≤ (M3 24 10) ∧ (M3 24 10) < 8 then (
                    pm_bd (pm_ms M3 28 ((M3 24 10)).toNat x4) fun M4 =>
                    (f_Told_countClose (M4 24 10) M4).bind fun M10 =>
                    pm_bd (pm_ms M10 24 10 (i_ad (M10 24 10) 1)) fun M11 =>
                    some ((i_sb (M11 24 10) 1), M11)) else none) else none) else none) else none)
                  else (
                    some ((-1), M))))))))))
def f_X_plinth (x1 : Int) (x2 : Int) (x3 : Int) (x4 : Int) (M : pm_M) : Option (Int × pm_M) :=
  (f_Told_addPlinth x1 x2 x3 x4 M).bind fun r12 =>
  some (r12.1, r12.2)
def f_Told_addHead (x1 : Int) (x2 : Int) (M : pm_M) : Option (Int × pm_M) :=
  if 12 ≤ (M 24 11) then (
    some ((-1), M))
  else (
    if x1 < 0 then (
      some ((-1), M))
    else (
      if 9 < x1 then (
        some ((-1), M))
      else (
        if x2 < 0 then (
          some ((-1), M))
        else (
          if x2 ≤ 3 then (
            if 0 ≤ (M 24 11) ∧ (M 24 11) < 12 then (
            pm_bd (pm_ms M 30 ((M 24 11)).toNat x1) fun M13 =>
            if 0 ≤ (M13 24 11) ∧ (M13 24 11) < 12 then (
            pm_bd (pm_ms M13 31 ((M13 24 11)).toNat x2) fun M14 =>
            pm_bd (pm_ms M14 24 11 (i_ad (M14 24 11) 1)) fun M15 =>
            some ((i_sb (M15 24 11) 1), M15)) else none) else none)
          else (
            some ((-1), M))))))
def f_X_head (x1 : Int) (x2 : Int) (M : pm_M) : Option (Int × pm_M) :=
  (f_Told_addHead x1 x2 M).bind fun r16 =>
  some (r16.1, r16.2)
def f_Told_isHead (x1 : Int) (M : pm_M) : Option (Int) :=
  if x1 < 0 then (
    some 0)
  else (
    if (M 24 11) ≤ x1 then (
      some 0)
    else (
      some 1))
def f_Told_isPlinth (x1 : Int) (M : pm_M) : Option (Int) :=
  if x1 < 0 then (
    some 0)
  else (
    if (M 24 10) ≤ x1 then (
      some 0)
    else (
      some 1))
def f_Moment_headAt (x1 : Int) (M : pm_M) : Option (Int) :=
  if 0 ≤ x1 ∧ x1 < 186 then (
  some (M 36 (x1).toNat)) else none
def f_Moment_placeOf_L2 (M : pm_M) : Nat → Int → Int → Option ((Int) ⊕ (Unit))
  | 0, _, _ => none
  | n_ + 1, y1, y2 =>
    if 8 ≤ y2 then (
      some (.inr ()))
    else (
      if 0 ≤ y2 ∧ y2 < 186 then (
      if (M 36 (y2).toNat) = y1 then (
        some (.inl y2))
      else (
        f_Moment_placeOf_L2 M n_ y1 (i_ad y2 1))) else none)
def f_Moment_placeOf (x1 : Int) (M : pm_M) : Option (Int) :=
  (f_Moment_placeOf_L2 M pm_F x1 0).bind fun e20 =>
    match e20 with
    | .inl e20 => (
      some e20)
    | .inr e20 => (
    some (-1))
def f_X_canPut (x1 : Int) (x2 : Int) (M : pm_M) : Option (Int) :=
  (f_Told_isHead x1 M).bind fun r17 =>
  if r17 = 0 then (
    some 0)
  else (
    (f_Told_isPlinth x2 M).bind fun r18 =>
    if r18 = 0 then (
      some 0)
    else (
      (f_Moment_headAt x2 M).bind fun r19 =>
      if r19 = (-1) then (
        (f_Moment_placeOf x1 M).bind fun r21 =>
        if r21 = (-1) then (
          some 1)
        else (
          some 0))
      else (
        some 0)))
def f_Moment_copyTo (x2 : Int) (M : pm_M) : Option (pm_M) :=
  if (0 ≤ (0 : Int) ∧ 0 ≤ (x2 : Int) ∧ 0 ≤ (186 : Int)) ∧ (0 : Int) + (186 : Int) ≤ (186 : Int) ∧ (x2 : Int) + (186 : Int) ≤ (3720 : Int) then (
  pm_bd (pm_cp M 36 2 0 (x2).toNat 186) fun M23 =>
  some M23) else none
def f_Steps_keep  (M : pm_M) : Option (pm_M) :=
  (f_Moment_copyTo (i_ml (M 1 1) 186) M).bind fun M24 =>
  pm_bd (pm_ms M24 1 1 (i_rm (i_ad (M24 1 1) 1) 20)) fun M25 =>
  if 20 ≤ (M25 1 2) then (
    some M25)
  else (
    pm_bd (pm_ms M25 1 2 (i_ad (M25 1 2) 1)) fun M26 =>
    some M26)
def f_Moment_stand (x1 : Int) (x2 : Int) (M : pm_M) : Option (pm_M) :=
  if 0 ≤ x1 ∧ x1 < 186 then (
  pm_bd (pm_ms M 36 (x1).toNat x2) fun M28 =>
  some M28) else none
def f_X_put (x1 : Int) (x2 : Int) (M : pm_M) : Option (Int × pm_M) :=
  (f_X_canPut x1 x2 M).bind fun r22 =>
  if r22 = 0 then (
    some (0, M))
  else (
    (f_Steps_keep  M).bind fun M27 =>
    (f_Moment_stand x2 x1 M27).bind fun M29 =>
    some (1, M29))
def f_X_canOff (x1 : Int) (M : pm_M) : Option (Int) :=
  (f_Told_isPlinth x1 M).bind fun r30 =>
  if r30 = 0 then (
    some 0)
  else (
    (f_Moment_headAt x1 M).bind fun r31 =>
    if r31 = (-1) then (
      some 0)
    else (
      some 1))
def f_X_off (x1 : Int) (M : pm_M) : Option (Int × pm_M) :=
  (f_X_canOff x1 M).bind fun r32 =>
  if r32 = 0 then (
    some ((-1), M))
  else (
    (f_Steps_keep  M).bind fun M33 =>
    (f_Moment_headAt x1 M33).bind fun r34 =>
    (f_Moment_stand x1 (-1) M33).bind fun M35 =>
    some (r34, M35))
def f_X_canChange (x1 : Int) (x2 : Int) (M : pm_M) : Option (Int) :=
  (f_Told_isPlinth x1 M).bind fun r36 =>
  if r36 = 0 then (
    some 0)
  else (
    (f_Told_isPlinth x2 M).bind fun r37 =>
    if r37 = 0 then (
      some 0)
    else (
      if x1 = x2 then (
        some 0)
      else (
        (f_Moment_headAt x1 M).bind fun r38 =>
        if r38 = (-1) then (
          (f_Moment_headAt x2 M).bind fun r39 =>
          if r39 = (-1) then (
            some 0)
          else (
            some 1))
        else (
          some 1))))
def f_Moment_swap (x1 : Int) (x2 : Int) (M : pm_M) : Option (pm_M) :=
  if 0 ≤ x1 ∧ x1 < 186 then (
  if 0 ≤ x2 ∧ x2 < 186 then (
  if 0 ≤ x1 ∧ x1 < 186 then (
  pm_bd (pm_ms M 36 (x1).toNat (M 36 (x2).toNat)) fun M42 =>
  if 0 ≤ x2 ∧ x2 < 186 then (
  pm_bd (pm_ms M42 36 (x2).toNat (M 36 (x1).toNat)) fun M43 =>
  some M43) else none) else none) else none) else none
def f_X_change (x1 : Int) (x2 : Int) (M : pm_M) : Option (Int × pm_M) :=
  (f_X_canChange x1 x2 M).bind fun r40 =>
  if r40 = 0 then (
    some (0, M))
  else (
    (f_Steps_keep  M).bind fun M41 =>
    (f_Moment_swap x1 x2 M41).bind fun M44 =>
    some (1, M44))
def f_X_isName (x0 : Int) (M : pm_M) : Option (Int) :=
  if x0 < (-1) then (
    some 0)
  else (
    if 12 ≤ x0 then (
      some 0)
    else (
      some 1))
def f_Moment_nameAt (x1 : Int) (M : pm_M) : Option (Int) :=
  if 0 ≤ (i_ad 8 x1) ∧ (i_ad 8 x1) < 186 then (
  some (M 36 ((i_ad 8 x1)).toNat)) else none
def f_Moment_engrave (x1 : Int) (x2 : Int) (M : pm_M) : Option (pm_M) :=
  if 0 ≤ (i_ad 8 x1) ∧ (i_ad 8 x1) < 186 then (
  pm_bd (pm_ms M 36 ((i_ad 8 x1)).toNat x2) fun M49 =>
  some M49) else none
def f_X_carve (x1 : Int) (x2 : Int) (M : pm_M) : Option (Int × pm_M) :=
  (f_Told_isPlinth x1 M).bind fun r45 =>
  if r45 = 0 then (
    some (0, M))
  else (
    (f_X_isName x2 M).bind fun r46 =>
    if r46 = 0 then (
      some (0, M))
    else (
      (f_Moment_nameAt x1 M).bind fun r47 =>
      if r47 = x2 then (
        some (0, M))
      else (
        (f_Steps_keep  M).bind fun M48 =>
        (f_Moment_engrave x1 x2 M48).bind fun M50 =>
        some (1, M50))))
def f_Moment_debt (x1 : Int) (M : pm_M) : Option (Int) :=
  if 0 ≤ (i_ad 16 x1) ∧ (i_ad 16 x1) < 186 then (
  some (M 36 ((i_ad 16 x1)).toNat)) else none
def f_Moment_purse  (M : pm_M) : Option (Int) :=
  some (M 36 28)
def f_Moment_owe (x1 : Int) (x2 : Int) (M : pm_M) : Option (pm_M) :=
  if 0 ≤ (i_ad 16 x1) ∧ (i_ad 16 x1) < 186 then (
  if 0 ≤ (i_ad 16 x1) ∧ (i_ad 16 x1) < 186 then (
  pm_bd (pm_ms M 36 ((i_ad 16 x1)).toNat (i_ad (M 36 ((i_ad 16 x1)).toNat) x2)) fun M55 =>
  some M55) else none) else none
def f_Moment_earn (x1 : Int) (M : pm_M) : Option (pm_M) :=
  pm_bd (pm_ms M 36 28 (i_ad (M 36 28) x1)) fun M57 =>
  some M57
def f_X_pay (x1 : Int) (x2 : Int) (M : pm_M) : Option (Int × pm_M) :=
  (f_Told_isHead x1 M).bind fun r51 =>
  if r51 = 0 then (
    some ((-1), M))
  else (
    if x2 < 1 then (
      some ((-1), M))
    else (
      if 9999 < x2 then (
        some ((-1), M))
      else (
        (f_Moment_debt x1 M).bind fun r52 =>
        if r52 < x2 then (
          some ((-1), M))
        else (
          (f_Moment_purse  M).bind fun r53 =>
          if x2 ≤ r53 then (
            (f_Steps_keep  M).bind fun M54 =>
            (f_Moment_owe x1 (i_ng x2) M54).bind fun M56 =>
            (f_Moment_earn (i_ng x2) M56).bind fun M58 =>
            (f_Moment_debt x1 M58).bind fun r59 =>
            some (r59, M58))
          else (
            some ((-1), M))))))
def f_Moment_day  (M : pm_M) : Option (Int) :=
  some (M 36 29)
def f_Told_plinths  (M : pm_M) : Option (Int) :=
  some (M 24 10)
def f_Told_ruling  (M : pm_M) : Option (Int) :=
  some (M 24 14)
def f_Told_isText (x1 : Int) (M : pm_M) : Option (Int) :=
  if x1 < 0 then (
    some 0)
  else (
    if (M 24 13) ≤ x1 then (
      some 0)
    else (
      some 1))
def f_Text_clauseOf (t0 : Nat) (x1 : Int) (M : pm_M) : Option (Int) :=
  if x1 < 0 then (
    some (-1))
  else (
    if 5 ≤ x1 then (
      some (-1))
    else (
      if 0 ≤ x1 ∧ x1 < 5 then (
      some (M (t0 + 1 + 3) (x1).toNat)) else none))
def f_Text_first (t0 : Nat) (x1 : Int) (M : pm_M) : Option (Int) :=
  if 0 ≤ x1 ∧ x1 < 24 then (
  some (M (t0 + 1 + 1) (x1).toNat)) else none
def f_Text_second (t0 : Nat) (x1 : Int) (M : pm_M) : Option (Int) :=
  if 0 ≤ x1 ∧ x1 < 24 then (
  some (M (t0 + 1 + 2) (x1).toNat)) else none
def f_Text_codeAt (t0 : Nat) (x1 : Int) (M : pm_M) : Option (Int) :=
  if 0 ≤ x1 ∧ x1 < 300 then (
  some (M (t0 + 1 + 4) (x1).toNat)) else none
def f_Judge_takes (x0 : Int) (M : pm_M) : Option (Int) :=
  if x0 = 13 then (
    some 1)
  else (
    if x0 = 40 then (
      some 1)
    else (
      if x0 = 11 then (
        some 2)
      else (
        if x0 = 12 then (
          some 2)
        else (
          if x0 < 24 then (
            some 0)
          else (
            some 2)))))
def f_Judge_joined_J253  (y3 : Int) (M : pm_M) : Option (Int) :=
  if y3 ≤ 1000000 then (
    if (-1000000) ≤ y3 then (
      some (l_2i y3))
    else (
      some (-1000000)))
  else (
    some 1000000)
def f_Judge_joined (x0 : Int) (x1 : Int) (x2 : Int) (M : pm_M) : Option (Int) :=
  if x0 = 11 then (
    f_Judge_joined_J253 (i_or x1 x2) M)
  else
  if x0 = 12 then (
    f_Judge_joined_J253 (i_an x1 x2) M)
  else
  if x0 = 13 then (
    f_Judge_joined_J253 0 M)
  else
  if x0 = 14 then (
    f_Judge_joined_J253 0 M)
  else
  if x0 = 15 then (
    f_Judge_joined_J253 0 M)
  else
  if x0 = 16 then (
    f_Judge_joined_J253 0 M)
  else
  if x0 = 17 then (
    f_Judge_joined_J253 0 M)
  else
  if x0 = 18 then (
    f_Judge_joined_J253 0 M)
  else
  if x0 = 19 then (
    f_Judge_joined_J253 0 M)
  else
  if x0 = 20 then (
    f_Judge_joined_J253 0 M)
  else
  if x0 = 21 then (
    f_Judge_joined_J253 0 M)
  else
  if x0 = 22 then (
    f_Judge_joined_J253 0 M)
  else
  if x0 = 23 then (
    f_Judge_joined_J253 0 M)
  else
  if x0 = 24 then (
    if x2 ≤ x1 then (
      f_Judge_joined_J253 0 M)
    else (
      f_Judge_joined_J253 1 M))
  else
  if x0 = 25 then (
    if x1 ≤ x2 then (
      f_Judge_joined_J253 0 M)
    else (
      f_Judge_joined_J253 1 M))
  else
  if x0 = 26 then (
    if x1 = x2 then (
      f_Judge_joined_J253 1 M)
    else (
      f_Judge_joined_J253 0 M))
  else
  if x0 = 27 then (
    if x1 = x2 then (
      f_Judge_joined_J253 0 M)
    else (
      f_Judge_joined_J253 1 M))
  else
  if x0 = 28 then (
    f_Judge_joined_J253 (l_ad x1 x2) M)
  else
  if x0 = 29 then (
    f_Judge_joined_J253 (l_sb x1 x2) M)
  else
  if x0 = 30 then (
    f_Judge_joined_J253 (l_ml x1 x2) M)
  else
  if x0 = 31 then (
    if x2 = 0 then (
      f_Judge_joined_J253 0 M)
    else (
      if x2 = 0 then none else (
      f_Judge_joined_J253 (i_dv x1 x2) M)))
  else
  if x0 = 32 then (
    f_Judge_joined_J253 0 M)
  else
  if x0 = 33 then (
    f_Judge_joined_J253 0 M)
  else
  if x0 = 34 then (
    f_Judge_joined_J253 0 M)
  else
  if x0 = 35 then (
    if x2 < x1 then (
      f_Judge_joined_J253 0 M)
    else (
      f_Judge_joined_J253 1 M))
  else
  if x0 = 36 then (
    if x1 < x2 then (
      f_Judge_joined_J253 0 M)
    else (
      f_Judge_joined_J253 1 M))
  else
  (
    f_Judge_joined_J253 0 M)
def f_Told_shadeOf (x1 : Int) (M : pm_M) : Option (Int) :=
  if 0 ≤ x1 ∧ x1 < 8 then (
  some (M 27 (x1).toNat)) else none
def f_Told_viewOf (x1 : Int) (M : pm_M) : Option (Int) :=
  if 0 ≤ x1 ∧ x1 < 8 then (
  some (M 28 (x1).toNat)) else none
def f_Told_closeTo (x1 : Int) (M : pm_M) : Option (Int) :=
  if 0 ≤ x1 ∧ x1 < 8 then (
  some (M 29 (x1).toNat)) else none
def f_Told_fameOf (x1 : Int) (M : pm_M) : Option (Int) :=
  if 0 ≤ x1 ∧ x1 < 12 then (
  some (M 30 (x1).toNat)) else none
def f_Judge_named (x1 : Int) (x2 : Int) (x3 : Int) (M : pm_M) : Option (Int) :=
  (f_Told_isHead x3 M).bind fun r102 =>
  if x1 = 14 then (
    some x2)
  else
  if x1 = 15 then (
    (f_Told_shadeOf x2 M).bind fun r103 =>
    some r103)
  else
  if x1 = 16 then (
    (f_Told_viewOf x2 M).bind fun r104 =>
    some r104)
  else
  if x1 = 17 then (
    (f_Moment_day  M).bind fun r105 =>
    some r105)
  else
  if x1 = 18 then (
    (f_Told_closeTo x2 M).bind fun r106 =>
    some r106)
  else
  if x1 = 19 then (
    some x3)
  else
  if x1 = 20 then (
    if r102 = 0 then (
      some 0)
    else (
      (f_Told_fameOf x3 M).bind fun r107 =>
      some r107))
  else
  if x1 = 21 then (
    (f_Moment_nameAt x2 M).bind fun r108 =>
    some r108)
  else
  if x1 = 22 then (
    (f_Moment_nameAt x2 M).bind fun r109 =>
    if r109 = x3 then (
      some 1)
    else (
      some 0))
  else
  if x1 = 23 then (
    if r102 = 0 then (
      some 0)
    else (
      (f_Moment_debt x3 M).bind fun r110 =>
      some r110))
  else
  (
    some 0)
def f_Judge_reckon_L10 (u1 : Nat) : Nat → Int → Int → Int → Int → Int → pm_M → Option ((pm_M) ⊕ (Int × pm_M))
  | 0, _, _, _, _, _, _ => none
  | n_ + 1, y2, y3, y4, y5, y6, M =>
    (f_Text_second u1 y2 M).bind fun r69 =>
    if r69 ≤ y6 then (
      some (.inr (y5, M)))
    else (
      (f_Text_codeAt u1 y6 M).bind fun r70 =>
      (f_Judge_takes (i_sb r70 10000) M).bind fun r71 =>
      if y5 < r71 then (
        some (.inl M))
      else (
        if (i_sb y5 r71) < 40 then (
          if r71 = 2 then (
            if 0 ≤ (i_sb y5 r71) ∧ (i_sb y5 r71) < 40 then (
            if 0 ≤ (i_ad (i_sb y5 r71) 1) ∧ (i_ad (i_sb y5 r71) 1) < 40 then (
            (f_Judge_joined (i_sb r70 10000) (M 65 ((i_sb y5 r71)).toNat) (M 65 ((i_ad (i_sb y5 r71) 1)).toNat) M).bind fun r98 =>
            if 0 ≤ (i_sb y5 r71) ∧ (i_sb y5 r71) < 40 then (
            pm_bd (pm_ms M 65 ((i_sb y5 r71)).toNat r98) fun M99 =>
            f_Judge_reckon_L10 u1 n_ y2 y3 y4 (i_ad (i_sb y5 r71) 1) (i_ad y6 1) M99) else none) else none) else none)
          else (
            if r71 = 1 then (
              if (i_sb r70 10000) = 13 then (
                if 0 ≤ (i_sb y5 r71) ∧ (i_sb y5 r71) < 40 then (
                if 0 ≤ (i_sb y5 r71) ∧ (i_sb y5 r71) < 40 then (
                pm_bd (pm_ms M 65 ((i_sb y5 r71)).toNat (i_sb 1 (M 65 ((i_sb y5 r71)).toNat))) fun M100 =>
                f_Judge_reckon_L10 u1 n_ y2 y3 y4 (i_ad (i_sb y5 r71) 1) (i_ad y6 1) M100) else none) else none)
              else (
                if 0 ≤ (i_sb y5 r71) ∧ (i_sb y5 r71) < 40 then (
                if 0 ≤ (i_sb y5 r71) ∧ (i_sb y5 r71) < 40 then (
                pm_bd (pm_ms M 65 ((i_sb y5 r71)).toNat (i_ng (M 65 ((i_sb y5 r71)).toNat))) fun M101 =>
                f_Judge_reckon_L10 u1 n_ y2 y3 y4 (i_ad (i_sb y5 r71) 1) (i_ad y6 1) M101) else none) else none))
            else (
              if 0 ≤ (i_sb r70 10000) then (
                (f_Judge_named (i_sb r70 10000) y3 y4 M).bind fun r121 =>
                if 0 ≤ (i_sb y5 r71) ∧ (i_sb y5 r71) < 40 then (
                pm_bd (pm_ms M 65 ((i_sb y5 r71)).toNat r121) fun M122 =>
                f_Judge_reckon_L10 u1 n_ y2 y3 y4 (i_ad (i_sb y5 r71) 1) (i_ad y6 1) M122) else none)
              else (
                if 0 ≤ (i_sb y5 r71) ∧ (i_sb y5 r71) < 40 then (
                pm_bd (pm_ms M 65 ((i_sb y5 r71)).toNat r70) fun M123 =>
                f_Judge_reckon_L10 u1 n_ y2 y3 y4 (i_ad (i_sb y5 r71) 1) (i_ad y6 1) M123) else none))))
        else (
          some (.inl M))))
def f_Judge_reckon (t1 : Nat) (x2 : Int) (x3 : Int) (x4 : Int) (M : pm_M) : Option (Int × pm_M) :=
  (f_Text_first t1 x2 M).bind fun r68 =>
  (f_Judge_reckon_L10 t1 pm_F x2 x3 x4 0 r68 M).bind fun e124 =>
    match e124 with
    | .inl e124 => (
      some (0, e124))
    | .inr e124 => (
    if e124.1 ≤ 0 then (
      some (0, e124.2))
    else (
      if 0 ≤ (i_sb e124.1 1) ∧ (i_sb e124.1 1) < 40 then (
      some ((e124.2 65 ((i_sb e124.1 1)).toNat), e124.2)) else none))
def f_Judge_amount (x1 : Int) (x2 : Int) (x3 : Int) (M : pm_M) : Option (Int × pm_M) :=
  (f_Told_ruling  M).bind fun r64 =>
  (f_Told_isText r64 M).bind fun r65 =>
  if r65 = 0 then (
    if x1 = 0 then (
      some (1, M))
    else (
      some (0, M)))
  else (
    if 0 ≤ r64 ∧ r64 < 4 then (
    (f_Text_clauseOf (pm_tx r64) x1 M).bind fun r67 =>
    if r67 = (-1) then (
      if x1 = 0 then (
        some (1, M))
      else (
        some (0, M)))
    else (
      (f_Judge_reckon (pm_tx r64) r67 x2 x3 M).bind fun r125 =>
      if 0 ≤ r125.1 then (
        if r125.1 ≤ 999 then (
          some (r125.1, r125.2))
        else (
          some (999, r125.2)))
      else (
        some (0, r125.2)))) else none)
def f_Moment_stoodPlace (x0 : Int) (x1 : Int) (M : pm_M) : Option (Int) :=
  some (i_ad (i_ad (i_ad 30 (i_ml x0 13)) x1) 1)
def f_Moment_standsADay (x1 : Int) (M : pm_M) : Option (pm_M) :=
  (f_Moment_headAt x1 M).bind fun r128 =>
  (f_Moment_nameAt x1 M).bind fun r129 =>
  (f_Moment_stoodPlace r128 r129 M).bind fun r130 =>
  if 0 ≤ r130 ∧ r130 < 186 then (
  if 0 ≤ r130 ∧ r130 < 186 then (
  pm_bd (pm_ms M 36 (r130).toNat (i_ad (M 36 (r130).toNat) 1)) fun M131 =>
  some M131) else none) else none
def f_Moment_nextDay  (M : pm_M) : Option (pm_M) :=
  pm_bd (pm_ms M 36 29 (i_ad (M 36 29) 1)) fun M143 =>
  some M143
def f_X_dayPasses_L2  : Nat → Int → pm_M → Option (pm_M)
  | 0, _, _ => none
  | n_ + 1, y1, M =>
    (f_Told_plinths  M).bind fun r62 =>
    if r62 ≤ y1 then (
      some M)
    else (
      (f_Moment_headAt y1 M).bind fun r63 =>
      if r63 = (-1) then (
        (f_Judge_amount 3 y1 (-1) M).bind fun r126 =>
        (f_Moment_earn r126.1 r126.2).bind fun M127 =>
        f_X_dayPasses_L2 n_ (i_ad y1 1) M127)
      else (
        (f_Moment_standsADay y1 M).bind fun M132 =>
        (f_Judge_amount 1 y1 r63 M132).bind fun r133 =>
        (f_Moment_earn r133.1 r133.2).bind fun M134 =>
        (f_Judge_amount 0 y1 r63 M134).bind fun r135 =>
        (f_Moment_owe r63 r135.1 r135.2).bind fun M136 =>
        f_X_dayPasses_L2 n_ (i_ad y1 1) M136))
def f_X_dayPasses_L98  : Nat → Int → pm_M → Option (pm_M)
  | 0, _, _ => none
  | n_ + 1, y1, M =>
    (f_Told_plinths  M).bind fun r138 =>
    if r138 ≤ y1 then (
      some M)
    else (
      (f_Moment_headAt y1 M).bind fun r139 =>
      if r139 = (-1) then (
        f_X_dayPasses_L98 n_ (i_ad y1 1) M)
      else (
        (f_Judge_amount 4 y1 r139 M).bind fun r140 =>
        if r140.1 = 0 then (
          f_X_dayPasses_L98 n_ (i_ad y1 1) r140.2)
        else (
          (f_Moment_stand y1 (-1) r140.2).bind fun M141 =>
          f_X_dayPasses_L98 n_ (i_ad y1 1) M141)))
def f_X_dayPasses  (M : pm_M) : Option (pm_M) :=
  (f_X_dayPasses_L2 pm_F 0 M).bind fun e137 =>
  (f_X_dayPasses_L98 pm_F 0 e137).bind fun e142 =>
  (f_Moment_nextDay  e142).bind fun M144 =>
  some M144
def f_X_pass_L41  : Nat → Int → Int → pm_M → Option (pm_M)
  | 0, _, _, _ => none
  | n_ + 1, y1, y2, M =>
    if y1 ≤ y2 then (
      some M)
    else (
      (f_X_dayPasses  M).bind fun M145 =>
      f_X_pass_L41 n_ y1 (i_ad y2 1) M145)
def f_X_pass (x1 : Int) (M : pm_M) : Option (Int × pm_M) :=
  if x1 < 1 then (
    some ((-1), M))
  else (
    if 99 < x1 then (
      some ((-1), M))
    else (
      (f_Moment_day  M).bind fun r60 =>
      if (i_ad r60 x1) ≤ 999 then (
        (f_Steps_keep  M).bind fun M61 =>
        (f_X_pass_L41 pm_F x1 0 M61).bind fun e146 =>
        (f_Moment_day  e146).bind fun r147 =>
        some (r147, e146))
      else (
        some ((-1), M))))
def f_Tape_hasRoomForTwenty  (M : pm_M) : Option (Int) :=
  if 300 < (i_ad (M 37 1) 20) then (
    some 0)
  else (
    some 1)
def f_Tape_add_L3  : Nat → Int → Int → pm_M → Option (pm_M)
  | 0, _, _, _ => none
  | n_ + 1, y1, y2, M =>
    if y2 < 0 then (
      some M)
    else (
      if 300 ≤ (M 37 1) then (
        some M)
      else (
        if 0 ≤ (M 37 1) ∧ (M 37 1) < 300 then (
        pm_bd (pm_ms M 38 ((M 37 1)).toNat (i_an (i_us y1 y2) 255)) fun M149 =>
        pm_bd (pm_ms M149 37 1 (i_ad (M149 37 1) 1)) fun M150 =>
        f_Tape_add_L3 n_ y1 (i_ad y2 (-8)) M150) else none))
def f_Tape_add (x1 : Int) (M : pm_M) : Option (pm_M) :=
  (f_Tape_add_L3 pm_F x1 24 M).bind fun e151 =>
  some e151
def f_Tape_length  (M : pm_M) : Option (Int) :=
  some (M 37 1)
def f_X_feed (x1 : Int) (x2 : Int) (x3 : Int) (x4 : Int) (x5 : Int) (M : pm_M) : Option (Int × pm_M) :=
  (f_Tape_hasRoomForTwenty  M).bind fun r148 =>
  if r148 = 0 then (
    some ((-1), M))
  else (
    (f_Tape_add x1 M).bind fun M152 =>
    (f_Tape_add x2 M152).bind fun M153 =>
    (f_Tape_add x3 M153).bind fun M154 =>
    (f_Tape_add x4 M154).bind fun M155 =>
    (f_Tape_add x5 M155).bind fun M156 =>
    (f_Tape_length  M156).bind fun r157 =>
    some (r157, M156))
def f_Tape_cut (x1 : Int) (M : pm_M) : Option (pm_M) :=
  pm_bd (pm_ms M 37 1 x1) fun M159 =>
  some M159
def f_X_end (x1 : Int) (M : pm_M) : Option (Int × pm_M) :=
  if x1 < 0 then (
    some ((-1), M))
  else (
    (f_Tape_length  M).bind fun r158 =>
    if x1 ≤ r158 then (
      (f_Tape_cut x1 M).bind fun M160 =>
      some (x1, M160))
    else (
      some ((-1), M)))
def f_Told_texts  (M : pm_M) : Option (Int) :=
  some (M 24 13)
def f_Arrays_fill_t_L5 (u0 : Nat) (w0 : Int) : Nat → Int → Int → Int → pm_M → Option (pm_M)
  | 0, _, _, _, _ => none
  | n_ + 1, y1, y2, y3, M =>
    if y3 ≤ y2 then (
      some M)
    else (
      if 0 ≤ y2 ∧ y2 < w0 then (
      pm_bd (pm_ms M u0 (y2).toNat y1) fun M165 =>
      f_Arrays_fill_t_L5 u0 w0 n_ y1 (i_ad y2 1) y3 M165) else none)
def f_Arrays_fill_t (c0 : Nat) (w0 : Int) (x1 : Int) (M : pm_M) : Option (pm_M) :=
  (f_Arrays_fill_t_L5 c0 w0 pm_F x1 0 w0 M).bind fun e166 =>
  some e166
def f_Text_clear (t0 : Nat) (M : pm_M) : Option (pm_M) :=
  (f_Arrays_fill_t (t0 + 1 + 3) 5 (-1) M).bind fun M167 =>
  pm_bd (pm_ms M167 t0 5 0) fun M168 =>
  pm_bd (pm_ms M168 t0 6 0) fun M169 =>
  some M169
def f_Tape_at (x1 : Int) (M : pm_M) : Option (Int) :=
  if x1 < 0 then (
    some (-1))
  else (
    if (M 37 1) ≤ x1 then (
      some (-1))
    else (
      if 0 ≤ x1 ∧ x1 < 300 then (
      some (M 38 (x1).toNat)) else none))
def f_Reader_isLetter (x0 : Int) (M : pm_M) : Option (Int) :=
  if x0 < 97 then (
    if x0 < 65 then (
      some 0)
    else (
      if 90 < x0 then (
        some 0)
      else (
        some 1)))
  else (
    if x0 ≤ 122 then (
      some 1)
    else (
      if x0 < 65 then (
        some 0)
      else (
        if 90 < x0 then (
          some 0)
        else (
          some 1))))
def f_Reader_isDigit (x0 : Int) (M : pm_M) : Option (Int) :=
  if x0 < 48 then (
    some 0)
  else (
    if 57 < x0 then (
      some 0)
    else (
      some 1))
def f_Reader_sign (x1 : Int) (M : pm_M) : Option (pm_M) :=
  pm_bd (pm_ms M 66 6 (i_ad (M 66 6) 1)) fun M185 =>
  (x_idx 1 x1).bind fun r186 =>
  if 0 ≤ r186 then (
    pm_bd (pm_ms M185 66 3 (i_ad 24 r186)) fun M187 =>
    if (M187 66 3) = 24 then (
      (f_Tape_at (M187 66 6) M187).bind fun r188 =>
      if r188 = 61 then (
        pm_bd (pm_ms M187 66 6 (i_ad (M187 66 6) 1)) fun M189 =>
        if (M189 66 3) = 24 then (
          pm_bd (pm_ms M189 66 3 35) fun M190 =>
          some M190)
        else (
          pm_bd (pm_ms M189 66 3 36) fun M191 =>
          some M191))
      else (
        some M187))
    else (
      if (M187 66 3) = 25 then (
        (f_Tape_at (M187 66 6) M187).bind fun r192 =>
        if r192 = 61 then (
          pm_bd (pm_ms M187 66 6 (i_ad (M187 66 6) 1)) fun M193 =>
          if (M193 66 3) = 24 then (
            pm_bd (pm_ms M193 66 3 35) fun M194 =>
            some M194)
          else (
            pm_bd (pm_ms M193 66 3 36) fun M195 =>
            some M195))
        else (
          some M187))
      else (
        some M187)))
  else (
    pm_bd (pm_ms M185 66 3 39) fun M196 =>
    if (M196 66 3) = 24 then (
      (f_Tape_at (M196 66 6) M196).bind fun r197 =>
      if r197 = 61 then (
        pm_bd (pm_ms M196 66 6 (i_ad (M196 66 6) 1)) fun M198 =>
        if (M198 66 3) = 24 then (
          pm_bd (pm_ms M198 66 3 35) fun M199 =>
          some M199)
        else (
          pm_bd (pm_ms M198 66 3 36) fun M200 =>
          some M200))
      else (
        some M196))
    else (
      if (M196 66 3) = 25 then (
        (f_Tape_at (M196 66 6) M196).bind fun r201 =>
        if r201 = 61 then (
          pm_bd (pm_ms M196 66 6 (i_ad (M196 66 6) 1)) fun M202 =>
          if (M202 66 3) = 24 then (
            pm_bd (pm_ms M202 66 3 35) fun M203 =>
            some M203)
          else (
            pm_bd (pm_ms M202 66 3 36) fun M204 =>
            some M204))
        else (
          some M196))
      else (
        some M196)))
def f_Reader_digits_L11  : Nat → pm_M → Option (pm_M)
  | 0, _ => none
  | n_ + 1, M =>
    (f_Tape_length  M).bind fun r208 =>
    if r208 ≤ (M 66 6) then (
      some M)
    else (
      (f_Tape_at (M 66 6) M).bind fun r209 =>
      (f_Reader_isDigit r209 M).bind fun r210 =>
      if r210 = 0 then (
        some M)
      else (
        (f_Tape_at (M 66 6) M).bind fun r211 =>
        pm_bd (pm_ms M 66 4 (i_mn (i_sb (i_ad (i_ml (M 66 4) 10) r211) 48) 10000)) fun M212 =>
        pm_bd (pm_ms M212 66 6 (i_ad (M212 66 6) 1)) fun M213 =>
        f_Reader_digits_L11 n_ M213))
def f_Reader_digits  (M : pm_M) : Option (pm_M) :=
  pm_bd (pm_ms M 66 3 37) fun M206 =>
  pm_bd (pm_ms M206 66 4 0) fun M207 =>
  (f_Reader_digits_L11 pm_F M207).bind fun e214 =>
  some e214
def f_Reader_word_L0  : Nat → pm_M → Option (pm_M)
  | 0, _ => none
  | n_ + 1, M =>
    (f_Tape_length  M).bind fun r216 =>
    if r216 ≤ (M 66 6) then (
      some M)
    else (
      (f_Tape_at (M 66 6) M).bind fun r217 =>
      (f_Reader_isLetter r217 M).bind fun r218 =>
      if r218 = 0 then (
        some M)
      else (
        pm_bd (pm_ms M 66 6 (i_ad (M 66 6) 1)) fun M219 =>
        f_Reader_word_L0 n_ M219))
def f_Reader_word_L59  : Nat → Int → Int → Int → Int → pm_M → Option (pm_M)
  | 0, _, _, _, _, _ => none
  | n_ + 1, y1, y2, y3, y4, M =>
    (x_len 0 ).bind fun r222 =>
    if r222 ≤ y4 then (
      some M)
    else (
      if (M 66 3) = 39 then (
        (x_chr 0 y4).bind fun r223 =>
        if r223 = 32 then (
          if y2 = (i_sb y4 y3) then (
            if y2 = (i_sb (M 66 6) (M 66 5)) then (
              pm_bd (pm_ms M 66 3 y1) fun M224 =>
              f_Reader_word_L59 n_ (i_ad y1 1) 0 (i_ad y4 1) (i_ad y4 1) M224)
            else (
              f_Reader_word_L59 n_ (i_ad y1 1) 0 (i_ad y4 1) (i_ad y4 1) M))
          else (
            f_Reader_word_L59 n_ (i_ad y1 1) 0 (i_ad y4 1) (i_ad y4 1) M))
        else (
          (f_Tape_at (i_sb (i_ad (M 66 5) y4) y3) M).bind fun r225 =>
          if r223 = r225 then (
            f_Reader_word_L59 n_ y1 (i_ad y2 1) y3 (i_ad y4 1) M)
          else (
            f_Reader_word_L59 n_ y1 (i_ad y2 0) y3 (i_ad y4 1) M)))
      else (
        some M))
def f_Reader_word  (M : pm_M) : Option (pm_M) :=
  (f_Reader_word_L0 pm_F M).bind fun e220 =>
  pm_bd (pm_ms e220 66 3 39) fun M221 =>
  (f_Reader_word_L59 pm_F 0 0 0 0 M221).bind fun e226 =>
  some e226
def f_Reader_advance_L0  : Nat → pm_M → Option (pm_M)
  | 0, _ => none
  | n_ + 1, M =>
    (f_Tape_length  M).bind fun r174 =>
    if r174 ≤ (M 66 6) then (
      some M)
    else (
      (f_Tape_at (M 66 6) M).bind fun r175 =>
      if r175 = 32 then (
        pm_bd (pm_ms M 66 6 (i_ad (M 66 6) 1)) fun M176 =>
        f_Reader_advance_L0 n_ M176)
      else (
        (f_Tape_at (M 66 6) M).bind fun r177 =>
        if r177 = 10 then (
          pm_bd (pm_ms M 66 6 (i_ad (M 66 6) 1)) fun M178 =>
          f_Reader_advance_L0 n_ M178)
        else (
          some M)))
def f_Reader_advance  (M : pm_M) : Option (pm_M) :=
  (f_Reader_advance_L0 pm_F M).bind fun e179 =>
  pm_bd (pm_ms e179 66 5 (e179 66 6)) fun M180 =>
  (f_Tape_at (M180 66 5) M180).bind fun r181 =>
  if r181 = (-1) then (
    pm_bd (pm_ms M180 66 3 38) fun M182 =>
    some M182)
  else (
    (f_Reader_isLetter r181 M180).bind fun r183 =>
    if r183 = 0 then (
      (f_Reader_isDigit r181 M180).bind fun r184 =>
      if r184 = 0 then (
        (f_Reader_sign (i_2c r181) M180).bind fun M205 =>
        some M205)
      else (
        (f_Reader_digits  M180).bind fun M215 =>
        some M215))
    else (
      (f_Reader_word  M180).bind fun M227 =>
      some M227))
def f_Text_isFull (t0 : Nat) (M : pm_M) : Option (Int) :=
  if (M t0 5) < 24 then (
    some 0)
  else (
    some 1)
def f_Text_codeLength (t0 : Nat) (M : pm_M) : Option (Int) :=
  some (M t0 6)
def f_Reader_joins (x1 : Int) (M : pm_M) : Option (Int) :=
  if x1 = 0 then (
    if (M 66 3) = 11 then (
      some 1)
    else (
      some 0))
  else
  if x1 = 1 then (
    if (M 66 3) = 12 then (
      some 1)
    else (
      some 0))
  else
  if x1 = 2 then (
    some 0)
  else
  if x1 = 3 then (
    if (M 66 3) = 28 then (
      some 1)
    else (
      if (M 66 3) = 29 then (
        some 1)
      else (
        some 0)))
  else
  if x1 = 4 then (
    if (M 66 3) = 30 then (
      some 1)
    else (
      if (M 66 3) = 31 then (
        some 1)
      else (
        some 0)))
  else
  (
    some 0)
def f_Text_emit (t0 : Nat) (x1 : Int) (M : pm_M) : Option (pm_M) :=
  if 300 ≤ (M t0 6) then (
    some M)
  else (
    if 0 ≤ (M t0 6) ∧ (M t0 6) < 300 then (
    pm_bd (pm_ms M (t0 + 1 + 4) ((M t0 6)).toNat x1) fun M247 =>
    pm_bd (pm_ms M247 t0 6 (i_ad (M247 t0 6) 1)) fun M248 =>
    some M248) else none)
def f_Reader_emit (x1 : Int) (M : pm_M) : Option (pm_M) :=
  if M 66 1 = 41 ∨ M 66 1 = 47 ∨ M 66 1 = 53 ∨ M 66 1 = 59 then (
  (f_Text_emit (M 66 1 - 1).toNat (i_ad 10000 x1) M).bind fun M249 =>
  some M249) else none
def f_Reader_joined_L12 (rc : Nat → Int → Int → pm_M → Option (Int × pm_M)) : Nat → Int → Int → Int → Int → pm_M → Option (Int × pm_M)
  | 0, _, _, _, _, _ => none
  | n_ + 1, y1, y2, y3, y4, M =>
    if y3 = 0 then (
      some (y3, M))
    else (
      (f_Reader_joins y1 M).bind fun r243 =>
      if r243 = 0 then (
        some (y3, M))
      else (
        if 300 ≤ y4 then (
          some (y3, M))
        else (
          (f_Reader_advance  M).bind fun M244 =>
          (rc 1 (i_ad y1 1) y2 M244).bind fun r245 =>
          (f_Reader_emit (M 66 3) r245.2).bind fun M250 =>
          f_Reader_joined_L12 rc n_ y1 y2 r245.1 (i_ad y4 1) M250)))
def f_Reader_joined (rc : Nat → Int → Int → pm_M → Option (Int × pm_M)) (x1 : Int) (x2 : Int) (M : pm_M) : Option (Int × pm_M) :=
  (rc 1 (i_ad x1 1) x2 M).bind fun r237 =>
  (f_Reader_joined_L12 rc pm_F x1 x2 r237.1 0 r237.2).bind fun e251 =>
  if e251.1 = 0 ∨ e251.1 = 1 then some (e251.1, e251.2) else none
def f_Text_addClause (t0 : Nat) (x1 : Int) (x2 : Int) (x3 : Int) (M : pm_M) : Option (pm_M) :=
  (f_Text_isFull t0 M).bind fun r256 =>
  if r256 = 0 then (
    if 0 ≤ (M t0 5) ∧ (M t0 5) < 24 then (
    pm_bd (pm_ms M (t0 + 1 + 0) ((M t0 5)).toNat x1) fun M257 =>
    if 0 ≤ (M257 t0 5) ∧ (M257 t0 5) < 24 then (
    pm_bd (pm_ms M257 (t0 + 1 + 1) ((M257 t0 5)).toNat x2) fun M258 =>
    if 0 ≤ (M258 t0 5) ∧ (M258 t0 5) < 24 then (
    pm_bd (pm_ms M258 (t0 + 1 + 2) ((M258 t0 5)).toNat x3) fun M259 =>
    if 4 < x1 then (
      pm_bd (pm_ms M259 t0 5 (i_ad (M259 t0 5) 1)) fun M260 =>
      some M260)
    else (
      if 0 ≤ x1 ∧ x1 < 5 then (
      pm_bd (pm_ms M259 (t0 + 1 + 3) (x1).toNat (M259 t0 5)) fun M261 =>
      pm_bd (pm_ms M261 t0 5 (i_ad (M261 t0 5) 1)) fun M262 =>
      some M262) else none)) else none) else none) else none)
  else (
    some M)
def f_Reader_fail (x1 : Int) (M : pm_M) : Option (Int × pm_M) :=
  pm_bd (pm_ms M 66 7 x1) fun M265 =>
  pm_bd (pm_ms M265 66 8 (M265 66 5)) fun M266 =>
  some (0, M266)
def f_Reader_expect (x1 : Int) (M : pm_M) : Option (Int × pm_M) :=
  if (M 66 3) = x1 then (
    (f_Reader_advance  M).bind fun M264 =>
    some (1, M264))
  else (
    (f_Reader_fail 1 M).bind fun r267 =>
    if r267.1 = 0 ∨ r267.1 = 1 then some (r267.1, r267.2) else none)
def f_Reader_numberUpTo (x1 : Int) (M : pm_M) : Option (Int × pm_M) :=
  if (M 66 3) = 37 then (
    if (M 66 4) ≤ x1 then (
      (f_Reader_advance  M).bind fun M275 =>
      some (1, M275))
    else (
      (f_Reader_fail 2 M).bind fun r276 =>
      if r276.1 = 0 ∨ r276.1 = 1 then some (r276.1, r276.2) else none))
  else (
    (f_Reader_fail 1 M).bind fun r277 =>
    if r277.1 = 0 ∨ r277.1 = 1 then some (r277.1, r277.2) else none)
def f_Reader_deed_J53  (y1 : Int) (y3 : Int) (M : pm_M) : Option (Int × pm_M) :=
  if y1 = 5 then (
    (f_Reader_expect 9 M).bind fun r279 =>
    if r279.1 = 0 then (
      some (0, r279.2))
    else (
      (f_Reader_numberUpTo 7 r279.2).bind fun r280 =>
      if r280.1 = 0 then (
        some (0, r280.2))
      else (
        if r280.2 66 1 = 41 ∨ r280.2 66 1 = 47 ∨ r280.2 66 1 = 53 ∨ r280.2 66 1 = 59 then (
        (f_Text_addClause (r280.2 66 1 - 1).toNat y1 y3 (r279.2 66 4) r280.2).bind fun M282 =>
        (f_Reader_expect 34 M282).bind fun r283 =>
        if r283.1 = 0 ∨ r283.1 = 1 then some (r283.1, r283.2) else none) else none)))
  else (
    (f_Reader_expect 10 M).bind fun r284 =>
    if r284.1 = 0 then (
      some (0, r284.2))
    else (
      (f_Reader_numberUpTo 7 r284.2).bind fun r285 =>
      if r285.1 = 0 then (
        some (0, r285.2))
      else (
        if r285.2 66 1 = 41 ∨ r285.2 66 1 = 47 ∨ r285.2 66 1 = 53 ∨ r285.2 66 1 = 59 then (
        (f_Text_addClause (r285.2 66 1 - 1).toNat y1 y3 (r284.2 66 4) r285.2).bind fun M287 =>
        (f_Reader_expect 34 M287).bind fun r288 =>
        if r288.1 = 0 ∨ r288.1 = 1 then some (r288.1, r288.2) else none) else none)))
def f_Reader_deed (x1 : Int) (M : pm_M) : Option (Int × pm_M) :=
  if x1 = 8 then (
    (f_Reader_numberUpTo 99 M).bind fun r278 =>
    if r278.1 = 0 then (
      some (0, r278.2))
    else (
      if x1 = 5 then (
        f_Reader_deed_J53 x1 (M 66 4) r278.2)
      else (
        if x1 = 7 then (
          f_Reader_deed_J53 x1 (M 66 4) r278.2)
        else (
          if r278.2 66 1 = 41 ∨ r278.2 66 1 = 47 ∨ r278.2 66 1 = 53 ∨ r278.2 66 1 = 59 then (
          (f_Text_addClause (r278.2 66 1 - 1).toNat x1 (M 66 4) (-1) r278.2).bind fun M290 =>
          (f_Reader_expect 34 M290).bind fun r291 =>
          if r291.1 = 0 ∨ r291.1 = 1 then some (r291.1, r291.2) else none) else none))))
  else (
    if x1 = 5 then (
      (f_Reader_numberUpTo 11 M).bind fun r292 =>
      if r292.1 = 0 then (
        some (0, r292.2))
      else (
        if x1 = 5 then (
          f_Reader_deed_J53 x1 (M 66 4) r292.2)
        else (
          if x1 = 7 then (
            f_Reader_deed_J53 x1 (M 66 4) r292.2)
          else (
            if r292.2 66 1 = 41 ∨ r292.2 66 1 = 47 ∨ r292.2 66 1 = 53 ∨ r292.2 66 1 = 59 then (
            (f_Text_addClause (r292.2 66 1 - 1).toNat x1 (M 66 4) (-1) r292.2).bind fun M294 =>
            (f_Reader_expect 34 M294).bind fun r295 =>
            if r295.1 = 0 ∨ r295.1 = 1 then some (r295.1, r295.2) else none) else none))))
    else (
      (f_Reader_numberUpTo 7 M).bind fun r296 =>
      if r296.1 = 0 then (
        some (0, r296.2))
      else (
        if x1 = 5 then (
          f_Reader_deed_J53 x1 (M 66 4) r296.2)
        else (
          if x1 = 7 then (
            f_Reader_deed_J53 x1 (M 66 4) r296.2)
          else (
            if r296.2 66 1 = 41 ∨ r296.2 66 1 = 47 ∨ r296.2 66 1 = 53 ∨ r296.2 66 1 = 59 then (
            (f_Text_addClause (r296.2 66 1 - 1).toNat x1 (M 66 4) (-1) r296.2).bind fun M298 =>
            (f_Reader_expect 34 M298).bind fun r299 =>
            if r299.1 = 0 ∨ r299.1 = 1 then some (r299.1, r299.2) else none) else none)))))
def f_Reader_compares (x0 : Int) (M : pm_M) : Option (Int) :=
  if x0 < 24 then (
    if x0 = 35 then (
      some 1)
    else (
      if x0 = 36 then (
        some 1)
      else (
        some 0)))
  else (
    if x0 ≤ 27 then (
      some 1)
    else (
      if x0 = 35 then (
        some 1)
      else (
        if x0 = 36 then (
          some 1)
        else (
          some 0))))
def f_Reader_named  (M : pm_M) : Option (Int × pm_M) :=
  if (M 66 3) = 18 then (
    if 18 ≤ (M 66 3) then (
      if (M 66 2) = 3 then (
        (f_Reader_emit (M 66 3) M).bind fun M1359 =>
        (f_Reader_advance  M1359).bind fun M1360 =>
        some (1, M1360))
      else (
        (f_Reader_fail 5 M).bind fun r1361 =>
        if r1361.1 = 0 ∨ r1361.1 = 1 then some (r1361.1, r1361.2) else none))
    else (
      (f_Reader_emit (M 66 3) M).bind fun M1362 =>
      (f_Reader_advance  M1362).bind fun M1363 =>
      some (1, M1363)))
  else (
    if 18 ≤ (M 66 3) then (
      if (M 66 2) = 3 then (
        (f_Reader_fail 5 M).bind fun r1364 =>
        if r1364.1 = 0 ∨ r1364.1 = 1 then some (r1364.1, r1364.2) else none)
      else (
        (f_Reader_emit (M 66 3) M).bind fun M1365 =>
        (f_Reader_advance  M1365).bind fun M1366 =>
        some (1, M1366)))
    else (
      (f_Reader_emit (M 66 3) M).bind fun M1367 =>
      (f_Reader_advance  M1367).bind fun M1368 =>
      some (1, M1368)))
def f_Reader_part (rc : Nat → Int → Int → pm_M → Option (Int × pm_M)) (x1 : Int) (x2 : Int) (M : pm_M) : Option (Int × pm_M) :=
  if x1 = 2 then (
    (rc 2 x2 0 M).bind fun r1335 =>
    if r1335.1 = 0 ∨ r1335.1 = 1 then some (r1335.1, r1335.2) else none)
  else (
    if x1 = 5 then (
      (rc 3 x2 0 M).bind fun r1336 =>
      if r1336.1 = 0 ∨ r1336.1 = 1 then some (r1336.1, r1336.2) else none)
    else (
      (rc 0 x1 x2 M).bind fun r1337 =>
      if r1337.1 = 0 ∨ r1337.1 = 1 then some (r1337.1, r1337.2) else none))
def f_Reader_ask (rc : Nat → Int → Int → pm_M → Option (Int × pm_M)) (x1 : Int) (M : pm_M) : Option (Int × pm_M) :=
  if (M 66 3) = 13 then (
    if x1 < 8 then (
      (f_Reader_advance  M).bind fun M1338 =>
      (rc 2 (i_ad x1 1) 0 M1338).bind fun r1339 =>
      (f_Reader_emit 13 r1339.2).bind fun M1340 =>
      if r1339.1 = 0 ∨ r1339.1 = 1 then some (r1339.1, M1340) else none)
    else (
      (f_Reader_fail 3 M).bind fun r1341 =>
      if r1341.1 = 0 ∨ r1341.1 = 1 then some (r1341.1, r1341.2) else none))
  else (
    (rc 0 3 x1 M).bind fun r1342 =>
    if r1342.1 = 0 then (
      some (0, r1342.2))
    else (
      (f_Reader_compares (r1342.2 66 3) r1342.2).bind fun r1343 =>
      if r1343 = 0 then (
        (f_Reader_fail 1 r1342.2).bind fun r1344 =>
        if r1344.1 = 0 ∨ r1344.1 = 1 then some (r1344.1, r1344.2) else none)
      else (
        (f_Reader_advance  r1342.2).bind fun M1345 =>
        (rc 0 3 x1 M1345).bind fun r1346 =>
        (f_Reader_emit (r1342.2 66 3) r1346.2).bind fun M1347 =>
        if r1346.1 = 0 ∨ r1346.1 = 1 then some (r1346.1, M1347) else none)))
def f_Reader_one_J81 (rc : Nat → Int → Int → pm_M → Option (Int × pm_M)) (y1 : Int) (M : pm_M) : Option (Int × pm_M) :=
  if y1 < 8 then (
    if (M 66 3) = 32 then (
      (f_Reader_advance  M).bind fun M1351 =>
      (rc 0 3 (i_ad y1 1) M1351).bind fun r1352 =>
      if r1352.1 = 0 then (
        some (0, r1352.2))
      else (
        (f_Reader_expect 33 r1352.2).bind fun r1353 =>
        if r1353.1 = 0 then (
          some (0, r1353.2))
        else (
          some (1, r1353.2))))
    else (
      (f_Reader_advance  M).bind fun M1354 =>
      (rc 3 (i_ad y1 1) 0 M1354).bind fun r1355 =>
      (f_Reader_emit 40 r1355.2).bind fun M1356 =>
      if r1355.1 = 0 ∨ r1355.1 = 1 then some (r1355.1, M1356) else none))
  else (
    (f_Reader_fail 3 M).bind fun r1357 =>
    if r1357.1 = 0 ∨ r1357.1 = 1 then some (r1357.1, r1357.2) else none)
def f_Reader_one_J57 (rc : Nat → Int → Int → pm_M → Option (Int × pm_M)) (y1 : Int) (M : pm_M) : Option (Int × pm_M) :=
  if (M 66 3) = 32 then (
    f_Reader_one_J81 rc y1 M)
  else (
    if (M 66 3) = 29 then (
      f_Reader_one_J81 rc y1 M)
    else (
      (f_Reader_fail 1 M).bind fun r1358 =>
      if r1358.1 = 0 ∨ r1358.1 = 1 then some (r1358.1, r1358.2) else none))
def f_Reader_one (rc : Nat → Int → Int → pm_M → Option (Int × pm_M)) (x1 : Int) (M : pm_M) : Option (Int × pm_M) :=
  if (M 66 3) = 37 then (
    if M 66 1 = 41 ∨ M 66 1 = 47 ∨ M 66 1 = 53 ∨ M 66 1 = 59 then (
    (f_Text_emit (M 66 1 - 1).toNat (i_mn (M 66 4) 9999) M).bind fun M1349 =>
    (f_Reader_numberUpTo 9999 M1349).bind fun r1350 =>
    if r1350.1 = 0 ∨ r1350.1 = 1 then some (r1350.1, r1350.2) else none) else none)
  else (
    if (M 66 3) < 14 then (
      f_Reader_one_J57 rc x1 M)
    else (
      if 23 < (M 66 3) then (
        f_Reader_one_J57 rc x1 M)
      else (
        (f_Reader_named  M).bind fun r1369 =>
        if r1369.1 = 0 ∨ r1369.1 = 1 then some (r1369.1, r1369.2) else none)))
def f_rd : Nat → Nat → Int → Int → pm_M → Option (Int × pm_M)
  | 0, _, _, _, _ => none
  | k_ + 1, s_, a, b, M => match s_ with
    | 0 => f_Reader_joined (f_rd k_) a b M
    | 1 => f_Reader_part (f_rd k_) a b M
    | 2 => f_Reader_ask (f_rd k_) a M
    | 3 => f_Reader_one (f_rd k_) a M
    | _ => none
def f_Reader_clause  (M : pm_M) : Option (Int × pm_M) :=
  if (M 66 3) ≤ 8 then (
    if M 66 1 = 41 ∨ M 66 1 = 47 ∨ M 66 1 = 53 ∨ M 66 1 = 59 then (
    (f_Text_clauseOf (M 66 1 - 1).toNat (M 66 3) M).bind fun r230 =>
    if r230 = (-1) then (
      if M 66 1 = 41 ∨ M 66 1 = 47 ∨ M 66 1 = 53 ∨ M 66 1 = 59 then (
      (f_Text_isFull (M 66 1 - 1).toNat M).bind fun r232 =>
      if r232 = 0 then (
        (f_Reader_advance  M).bind fun M233 =>
        if (M 66 3) ≤ 4 then (
          pm_bd (pm_ms M233 66 2 (M 66 3)) fun M234 =>
          if M234 66 1 = 41 ∨ M234 66 1 = 47 ∨ M234 66 1 = 53 ∨ M234 66 1 = 59 then (
          (f_Text_codeLength (M234 66 1 - 1).toNat M234).bind fun r236 =>
          if (M 66 3) = 4 then (
            (f_rd 100 0 0 0 M234).bind fun r252 =>
            if r252.1 = 0 then (
              some (0, r252.2))
            else (
              if r252.2 66 1 = 41 ∨ r252.2 66 1 = 47 ∨ r252.2 66 1 = 53 ∨ r252.2 66 1 = 59 then (
              if r252.2 66 1 = 41 ∨ r252.2 66 1 = 47 ∨ r252.2 66 1 = 53 ∨ r252.2 66 1 = 59 then (
              (f_Text_codeLength (r252.2 66 1 - 1).toNat r252.2).bind fun r255 =>
              (f_Text_addClause (r252.2 66 1 - 1).toNat (M 66 3) r236 r255 r252.2).bind fun M263 =>
              (f_Reader_expect 34 M263).bind fun r268 =>
              if r268.1 = 0 ∨ r268.1 = 1 then some (r268.1, r268.2) else none) else none) else none))
          else (
            (f_rd 100 0 3 0 M234).bind fun r269 =>
            if r269.1 = 0 then (
              some (0, r269.2))
            else (
              if r269.2 66 1 = 41 ∨ r269.2 66 1 = 47 ∨ r269.2 66 1 = 53 ∨ r269.2 66 1 = 59 then (
              if r269.2 66 1 = 41 ∨ r269.2 66 1 = 47 ∨ r269.2 66 1 = 53 ∨ r269.2 66 1 = 59 then (
              (f_Text_codeLength (r269.2 66 1 - 1).toNat r269.2).bind fun r272 =>
              (f_Text_addClause (r269.2 66 1 - 1).toNat (M 66 3) r236 r272 r269.2).bind fun M273 =>
              (f_Reader_expect 34 M273).bind fun r274 =>
              if r274.1 = 0 ∨ r274.1 = 1 then some (r274.1, r274.2) else none) else none) else none))) else none)
        else (
          (f_Reader_deed (M 66 3) M233).bind fun r300 =>
          if r300.1 = 0 ∨ r300.1 = 1 then some (r300.1, r300.2) else none))
      else (
        (f_Reader_fail 6 M).bind fun r301 =>
        if r301.1 = 0 ∨ r301.1 = 1 then some (r301.1, r301.2) else none)) else none)
    else (
      (f_Reader_fail 4 M).bind fun r302 =>
      if r302.1 = 0 ∨ r302.1 = 1 then some (r302.1, r302.2) else none)) else none)
  else (
    (f_Reader_fail 1 M).bind fun r303 =>
    if r303.1 = 0 ∨ r303.1 = 1 then some (r303.1, r303.2) else none)
def f_Reader_read_L33  : Nat → Int → pm_M → Option ((pm_M) ⊕ (pm_M))
  | 0, _, _ => none
  | n_ + 1, y2, M =>
    if (M 66 3) = 38 then (
      some (.inr M))
    else (
      if 300 ≤ y2 then (
        some (.inr M))
      else (
        (f_Reader_clause  M).bind fun r304 =>
        if r304.1 = 0 then (
          some (.inl r304.2))
        else (
          f_Reader_read_L33 n_ (i_ad y2 1) r304.2)))
def f_Reader_read (t1 : Nat) (M : pm_M) : Option (Int × pm_M) :=
  pm_bd (pm_ms M 66 1 ((t1 : Nat) + 1 : Int)) fun M163 =>
  if M163 66 1 = 41 ∨ M163 66 1 = 47 ∨ M163 66 1 = 53 ∨ M163 66 1 = 59 then (
  (f_Text_clear (M163 66 1 - 1).toNat M163).bind fun M170 =>
  pm_bd (pm_ms M170 66 7 0) fun M171 =>
  pm_bd (pm_ms M171 66 8 (-1)) fun M172 =>
  pm_bd (pm_ms M172 66 6 0) fun M173 =>
  (f_Reader_advance  M173).bind fun M228 =>
  (f_Reader_read_L33 pm_F 0 M228).bind fun e305 =>
    match e305 with
    | .inl e305 => (
      some (0, e305))
    | .inr e305 => (
    some (1, e305))) else none
