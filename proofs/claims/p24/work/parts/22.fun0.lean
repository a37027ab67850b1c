/-! the methods as functions, printed by wip/p24/dec.py -/
def Te_append_b21 (q : zM) (v1 : Int) : Option (Int × zM) :=
  some ((1 : Int), qs q 2 1 ((q.1 2 1) + (1 : Int)))
theorem T_Te_append_b21 {E : zE} (q : zM) (v1 : Int) : SimV E 60 (0, 0, 21, [(0, vR (some 2)), (1, vI v1)], [], hp q) eI (Te_append_b21 q v1) := by
  unfold Te_append_b21
  exact S_run 7 (f' := (0, 0, 32, [(0, vR (some 2)), (1, vI v1)], [vI (1 : Int)], hp (qs q 2 1 ((q.1 2 1) + (1 : Int))))) rfl (S_ret rfl)

def Te_append (q : zM) (v1 : Int) : Option (Int × zM) :=
  if wrap (q.1 2 1) < (40 : Int) then
    ck (wrap (q.1 2 1)) 40 (
      Te_append_b21 (qs q 3 (wrap (q.1 2 1)).toNat v1) v1)
  else
    some ((0 : Int), q)
theorem T_Te_append {E : zE} (q : zM) (v1 : Int) : SimV E 60 (entF [vR (some 2), vI v1] (hp q)) eI (Te_append q v1) := by
  unfold Te_append
  exact S_run 0 (f' := (0, 0, 0, [(0, vR (some 2)), (1, vI v1)], [], hp q)) rfl (S_run 3 (f' := (0, 0, 6, [(0, vR (some 2)), (1, vI v1)], [vI (40 : Int), vI (q.1 2 1)], hp q)) rfl (S_ite (fun h_1 => S_go (J_icmp2 rfl rfl wl_40 (B_lt h_1)) (S_run 5 (f' := (0, 0, 20, [(0, vR (some 2)), (1, vI v1)], [vI v1, vI (q.1 2 1), vR (some 3)], hp q)) rfl (S_ck (n := 40) (fun h_2 => S_go (H_iast rfl rfl rfl h_2) (S_run 0 (f' := (0, 0, 21, [(0, vR (some 2)), (1, vI v1)], [], hp (qs q 3 (wrap (q.1 2 1)).toNat v1))) rfl (T_Te_append_b21 (qs q 3 (wrap (q.1 2 1)).toNat v1) v1)))))) (fun h_1 => S_go (J_icmp2 rfl rfl wl_40 (B_lt' h_1)) (S_run 1 (f' := (0, 0, 10, [(0, vR (some 2)), (1, vI v1)], [vI (0 : Int)], hp q)) rfl (S_ret rfl)))))

def Te_size (q : zM)  : Option Int :=
  some (q.1 2 1)
theorem T_Te_size {E : zE} (q : zM)  : SimV E 58 (entF [vR (some 2)] (hp q)) (eP q) (Te_size q ) := by
  unfold Te_size
  exact S_run 0 (f' := (0, 0, 0, [(0, vR (some 2))], [], hp q)) rfl (S_run 2 (f' := (0, 0, 4, [(0, vR (some 2))], [vI (q.1 2 1)], hp q)) rfl (S_ret rfl))

def Ev_type (q : zM) (v1 : Int) : Option (Int × zM) :=
  (Te_append q v1).bind fun r_1 =>
    if wrap r_1.1 = (0 : Int) then
      some ((-3 : Int), r_1.2)
    else
      (Te_size r_1.2 ).bind fun r_3 =>
        some (r_3, r_1.2)
theorem T_Ev_type {E : zE} (q : zM) (v1 : Int) : SimV E 90 (entF [vR (some 1), vI v1] (hp q)) eI (Ev_type q v1) := by
  unfold Ev_type
  exact S_run 0 (f' := (0, 0, 0, [(0, vR (some 1)), (1, vI v1)], [], hp q)) rfl (S_run 3 (f' := (0, 0, 5, [(0, vR (some 1)), (1, vI v1)], [vI v1, vR (some 2)], hp q)) rfl (S_call (m' := 60) (args := [vR (some 2), vI v1]) (h := hp q) (k := fun r => (0, 0, 8, [(0, vR (some 1)), (1, vI v1)], r.1.toList ++ [], r.2)) rfl (T_Te_append q v1) (fun r_1 => S_run 0 (f' := (0, 0, 8, [(0, vR (some 1)), (1, vI v1)], [vI r_1.1], hp r_1.2)) rfl (S_ite (fun h_2 => S_go (J_if2 rfl rfl (B_eq h_2)) (S_run 1 (f' := (0, 0, 23, [(0, vR (some 1)), (1, vI v1)], [vI (-3 : Int)], hp r_1.2)) rfl (S_ret rfl))) (fun h_2 => S_go (J_if2 rfl rfl (B_eq' h_2)) (S_run 2 (f' := (0, 0, 15, [(0, vR (some 1)), (1, vI v1)], [vR (some 2)], hp r_1.2)) rfl (S_call (m' := 58) (args := [vR (some 2)]) (h := hp r_1.2) (k := fun r => (0, 0, 18, [(0, vR (some 1)), (1, vI v1)], r.1.toList ++ [], r.2)) rfl (T_Te_size r_1.2 ) (fun r_3 => S_run 1 (f' := (0, 0, 23, [(0, vR (some 1)), (1, vI v1)], [vI r_3], hp r_1.2)) rfl (S_ret rfl)))))))))

def Te_empty (q : zM)  : Option zM :=
  some (qs q 2 1 (0 : Int))
theorem T_Te_empty {E : zE} (q : zM)  : SimV E 61 (entF [vR (some 2)] (hp q)) eV (Te_empty q ) := by
  unfold Te_empty
  exact S_run 0 (f' := (0, 0, 0, [(0, vR (some 2))], [], hp q)) rfl (S_run 3 (f' := (0, 0, 5, [(0, vR (some 2))], [], hp (qs q 2 1 (0 : Int)))) rfl (S_ret rfl))

def Ev_clearText (q : zM)  : Option (Int × zM) :=
  (Te_size q ).bind fun r_1 =>
    (Te_empty q ).bind fun r_2 =>
      some (r_1, r_2)
theorem T_Ev_clearText {E : zE} (q : zM)  : SimV E 91 (entF [vR (some 1)] (hp q)) eI (Ev_clearText q ) := by
  unfold Ev_clearText
  exact S_run 0 (f' := (0, 0, 0, [(0, vR (some 1))], [], hp q)) rfl (S_run 2 (f' := (0, 0, 4, [(0, vR (some 1))], [vR (some 2)], hp q)) rfl (S_call (m' := 58) (args := [vR (some 2)]) (h := hp q) (k := fun r => (0, 0, 7, [(0, vR (some 1))], r.1.toList ++ [], r.2)) rfl (T_Te_size q ) (fun r_1 => S_run 3 (f' := (0, 0, 12, [(0, vR (some 1)), (1, vI r_1)], [vR (some 2)], hp q)) rfl (S_call (m' := 61) (args := [vR (some 2)]) (h := hp q) (k := fun r => (0, 0, 15, [(0, vR (some 1)), (1, vI r_1)], r.1.toList ++ [], r.2)) rfl (T_Te_empty q ) (fun r_2 => S_run 1 (f' := (0, 0, 16, [(0, vR (some 1)), (1, vI r_1)], [vI r_1], hp r_2)) rfl (S_ret rfl))))))

def Te_codeAt (q : zM) (v1 : Int) : Option Int :=
  if wrap v1 < (0 : Int) then
    some (-1 : Int)
  else
    if wrap v1 < wrap (q.1 2 1) then
      ck (wrap v1) 40 (
        some (q.1 3 (wrap v1).toNat))
    else
      some (-1 : Int)
theorem T_Te_codeAt {E : zE} (q : zM) (v1 : Int) : SimV E 59 (entF [vR (some 2), vI v1] (hp q)) (eP q) (Te_codeAt q v1) := by
  unfold Te_codeAt
  exact S_run 0 (f' := (0, 0, 0, [(0, vR (some 2)), (1, vI v1)], [], hp q)) rfl (S_run 1 (f' := (0, 0, 1, [(0, vR (some 2)), (1, vI v1)], [vI v1], hp q)) rfl (S_ite (fun h_1 => S_go (J_if2 rfl rfl (B_lt h_1)) (S_run 1 (f' := (0, 0, 22, [(0, vR (some 2)), (1, vI v1)], [vI (-1 : Int)], hp q)) rfl (S_ret rfl))) (fun h_1 => S_go (J_if2 rfl rfl (B_lt' h_1)) (S_run 3 (f' := (0, 0, 9, [(0, vR (some 2)), (1, vI v1)], [vI (q.1 2 1), vI v1], hp q)) rfl (S_ite (fun h_2 => S_go (J_icmp2 rfl rfl rfl (B_ge h_2)) (S_run 3 (f' := (0, 0, 17, [(0, vR (some 2)), (1, vI v1)], [vI v1, vR (some 3)], hp q)) rfl (S_ck (n := 40) (fun h_3 => S_go (H_iald rfl rfl rfl h_3) (S_run 1 (f' := (0, 0, 22, [(0, vR (some 2)), (1, vI v1)], [vI (q.1 3 (wrap v1).toNat)], hp q)) rfl (S_ret rfl)))))) (fun h_2 => S_go (J_icmp2 rfl rfl rfl (B_ge' h_2)) (S_run 1 (f' := (0, 0, 22, [(0, vR (some 2)), (1, vI v1)], [vI (-1 : Int)], hp q)) rfl (S_ret rfl))))))))

def Wr_takesDigit_b22 (q : zM) (v1 : Int) : Option (Int × zM) :=
  some ((1 : Int), qs q 4 0 (4 : Int))
theorem T_Wr_takesDigit_b22 {E : zE} (q : zM) (v1 : Int) : SimV E 72 (0, 0, 22, [(0, vR (some 4)), (1, vI v1)], [], hp q) eI (Wr_takesDigit_b22 q v1) := by
  unfold Wr_takesDigit_b22
  exact S_run 4 (f' := (0, 0, 28, [(0, vR (some 4)), (1, vI v1)], [vI (1 : Int)], hp (qs q 4 0 (4 : Int)))) rfl (S_ret rfl)

def Wr_takesDigit (q : zM) (v1 : Int) : Option (Int × zM) :=
  if wrap v1 < (49 : Int) then
    some ((0 : Int), q)
  else
    if (57 : Int) < wrap v1 then
      some ((0 : Int), q)
    else
      Wr_takesDigit_b22 (qs q 4 5 (v1 - (48 : Int))) v1
theorem T_Wr_takesDigit {E : zE} (q : zM) (v1 : Int) : SimV E 72 (entF [vR (some 4), vI v1] (hp q)) eI (Wr_takesDigit q v1) := by
  unfold Wr_takesDigit
  exact S_run 0 (f' := (0, 0, 0, [(0, vR (some 4)), (1, vI v1)], [], hp q)) rfl (S_run 2 (f' := (0, 0, 3, [(0, vR (some 4)), (1, vI v1)], [vI (49 : Int), vI v1], hp q)) rfl (S_ite (fun h_1 => S_go (J_icmp2 rfl rfl wl_49 (B_lt h_1)) (S_run 1 (f' := (0, 0, 13, [(0, vR (some 4)), (1, vI v1)], [vI (0 : Int)], hp q)) rfl (S_ret rfl))) (fun h_1 => S_go (J_icmp2 rfl rfl wl_49 (B_lt' h_1)) (S_run 2 (f' := (0, 0, 9, [(0, vR (some 4)), (1, vI v1)], [vI (57 : Int), vI v1], hp q)) rfl (S_ite (fun h_2 => S_go (J_icmp2 rfl rfl wl_57 (B_le h_2)) (S_run 1 (f' := (0, 0, 13, [(0, vR (some 4)), (1, vI v1)], [vI (0 : Int)], hp q)) rfl (S_ret rfl))) (fun h_2 => S_go (J_icmp2 rfl rfl wl_57 (B_le' h_2)) (S_run 5 (f' := (0, 0, 22, [(0, vR (some 4)), (1, vI v1)], [], hp (qs q 4 5 (v1 - (48 : Int))))) rfl (T_Wr_takesDigit_b22 (qs q 4 5 (v1 - (48 : Int))) v1))))))))

def Ev_isLetter (q : zM) (v0 : Int) : Option Int :=
  if wrap v0 < (97 : Int) then
    some (0 : Int)
  else
    if (122 : Int) < wrap v0 then
      some (0 : Int)
    else
      some (1 : Int)
theorem T_Ev_isLetter {E : zE} (q : zM) (v0 : Int) : SimV E 110 (entF [vI v0] (hp q)) (eP q) (Ev_isLetter q v0) := by
  unfold Ev_isLetter
  exact S_run 0 (f' := (0, 0, 0, [(0, vI v0)], [], hp q)) rfl (S_run 2 (f' := (0, 0, 3, [(0, vI v0)], [vI (97 : Int), vI v0], hp q)) rfl (S_ite (fun h_1 => S_go (J_icmp2 rfl rfl wl_97 (B_lt h_1)) (S_run 1 (f' := (0, 0, 17, [(0, vI v0)], [vI (0 : Int)], hp q)) rfl (S_ret rfl))) (fun h_1 => S_go (J_icmp2 rfl rfl wl_97 (B_lt' h_1)) (S_run 2 (f' := (0, 0, 9, [(0, vI v0)], [vI (122 : Int), vI v0], hp q)) rfl (S_ite (fun h_2 => S_go (J_icmp2 rfl rfl wl_122 (B_gt h_2)) (S_run 1 (f' := (0, 0, 17, [(0, vI v0)], [vI (0 : Int)], hp q)) rfl (S_ret rfl))) (fun h_2 => S_go (J_icmp2 rfl rfl wl_122 (B_gt' h_2)) (S_run 2 (f' := (0, 0, 17, [(0, vI v0)], [vI (1 : Int)], hp q)) rfl (S_ret rfl))))))))

def Ev_packed (q : zM) (v0 : Int) (v1 : Int) : Option Int64 :=
  some (wlshl (wi2l v0) ((8 : Int) * v1))
theorem T_Ev_packed {E : zE} (q : zM) (v0 : Int) (v1 : Int) : SimV E 111 (entF [vI v0, vI v1] (hp q)) (eL q) (Ev_packed q v0 v1) := by
  unfold Ev_packed
  exact S_run 0 (f' := (0, 0, 0, [(0, vI v0), (1, vI v1)], [], hp q)) rfl (S_run 6 (f' := (0, 0, 7, [(0, vI v0), (1, vI v1)], [vL (wlshl (wi2l v0) ((8 : Int) * v1))], hp q)) rfl (S_ret rfl))

def Wr_takesLetter_b58 (q : zM) (v1 : Int) : Option (Int × zM) :=
  some ((1 : Int), qs q 4 2 ((q.1 4 2) + (1 : Int)))
theorem T_Wr_takesLetter_b58 {E : zE} (q : zM) (v1 : Int) : SimV E 69 (0, 0, 58, [(0, vR (some 4)), (1, vI v1)], [], hp q) eI (Wr_takesLetter_b58 q v1) := by
  unfold Wr_takesLetter_b58
  exact S_run 7 (f' := (0, 0, 69, [(0, vR (some 4)), (1, vI v1)], [vI (1 : Int)], hp (qs q 4 2 ((q.1 4 2) + (1 : Int))))) rfl (S_ret rfl)

def Wr_takesLetter_b41 (q : zM) (v1 : Int) : Option (Int × zM) :=
  (Ev_packed q v1 (q.1 4 2)).bind fun r_6 =>
    Wr_takesLetter_b58 (ql q 4 1 ((q.2 4 1) ||| r_6)) v1
theorem T_Wr_takesLetter_b41 {E : zE} (q : zM) (v1 : Int) : SimV E 69 (0, 0, 41, [(0, vR (some 4)), (1, vI v1)], [], hp q) eI (Wr_takesLetter_b41 q v1) := by
  unfold Wr_takesLetter_b41
  exact S_run 6 (f' := (0, 0, 51, [(0, vR (some 4)), (1, vI v1)], [vI (q.1 4 2), vI v1, vL (q.2 4 1), vR (some 4)], hp q)) rfl (S_call (m' := 111) (args := [vI v1, vI (q.1 4 2)]) (h := hp q) (k := fun r => (0, 0, 54, [(0, vR (some 4)), (1, vI v1)], r.1.toList ++ [vL (q.2 4 1), vR (some 4)], r.2)) rfl (T_Ev_packed q v1 (q.1 4 2)) (fun r_6 => S_run 2 (f' := (0, 0, 58, [(0, vR (some 4)), (1, vI v1)], [], hp (ql q 4 1 ((q.2 4 1) ||| r_6)))) rfl (T_Wr_takesLetter_b58 (ql q 4 1 ((q.2 4 1) ||| r_6)) v1)))

def Wr_takesLetter_b36 (q : zM) (v1 : Int) : Option (Int × zM) :=
  Wr_takesLetter_b41 (qs q 4 0 (2 : Int)) v1
theorem T_Wr_takesLetter_b36 {E : zE} (q : zM) (v1 : Int) : SimV E 69 (0, 0, 36, [(0, vR (some 4)), (1, vI v1)], [], hp q) eI (Wr_takesLetter_b36 q v1) := by
  unfold Wr_takesLetter_b36
  exact S_run 3 (f' := (0, 0, 41, [(0, vR (some 4)), (1, vI v1)], [], hp (qs q 4 0 (2 : Int)))) rfl (T_Wr_takesLetter_b41 (qs q 4 0 (2 : Int)) v1)

def Wr_takesLetter (q : zM) (v1 : Int) : Option (Int × zM) :=
  (Ev_isLetter q v1).bind fun r_1 =>
    if wrap r_1 = (0 : Int) then
      some ((0 : Int), q)
    else
      if wrap (q.1 4 2) < (8 : Int) then
        if wrap (q.1 4 0) = (2 : Int) then
          (Ev_packed q v1 (q.1 4 2)).bind fun r_5 =>
            Wr_takesLetter_b58 (ql q 4 1 ((q.2 4 1) ||| r_5)) v1
        else
          Wr_takesLetter_b36 (qs q 4 3 ((q.1 4 3) + (1 : Int))) v1
      else
        some ((0 : Int), q)
theorem T_Wr_takesLetter {E : zE} (q : zM) (v1 : Int) : SimV E 69 (entF [vR (some 4), vI v1] (hp q)) eI (Wr_takesLetter q v1) := by
  unfold Wr_takesLetter
  exact S_run 0 (f' := (0, 0, 0, [(0, vR (some 4)), (1, vI v1)], [], hp q)) rfl (S_run 1 (f' := (0, 0, 1, [(0, vR (some 4)), (1, vI v1)], [vI v1], hp q)) rfl (S_call (m' := 110) (args := [vI v1]) (h := hp q) (k := fun r => (0, 0, 4, [(0, vR (some 4)), (1, vI v1)], r.1.toList ++ [], r.2)) rfl (T_Ev_isLetter q v1) (fun r_1 => S_run 0 (f' := (0, 0, 4, [(0, vR (some 4)), (1, vI v1)], [vI r_1], hp q)) rfl (S_ite (fun h_2 => S_go (J_if2 rfl rfl (B_eq h_2)) (S_run 1 (f' := (0, 0, 17, [(0, vR (some 4)), (1, vI v1)], [vI (0 : Int)], hp q)) rfl (S_ret rfl))) (fun h_2 => S_go (J_if2 rfl rfl (B_eq' h_2)) (S_run 3 (f' := (0, 0, 13, [(0, vR (some 4)), (1, vI v1)], [vI (8 : Int), vI (q.1 4 2)], hp q)) rfl (S_ite (fun h_3 => S_go (J_icmp2 rfl rfl wl_8 (B_lt h_3)) (S_run 3 (f' := (0, 0, 23, [(0, vR (some 4)), (1, vI v1)], [vI (2 : Int), vI (q.1 4 0)], hp q)) rfl (S_ite (fun h_4 => S_go (J_icmp2 rfl rfl wl_2 (B_eq h_4)) (S_run 6 (f' := (0, 0, 51, [(0, vR (some 4)), (1, vI v1)], [vI (q.1 4 2), vI v1, vL (q.2 4 1), vR (some 4)], hp q)) rfl (S_call (m' := 111) (args := [vI v1, vI (q.1 4 2)]) (h := hp q) (k := fun r => (0, 0, 54, [(0, vR (some 4)), (1, vI v1)], r.1.toList ++ [vL (q.2 4 1), vR (some 4)], r.2)) rfl (T_Ev_packed q v1 (q.1 4 2)) (fun r_5 => S_run 2 (f' := (0, 0, 58, [(0, vR (some 4)), (1, vI v1)], [], hp (ql q 4 1 ((q.2 4 1) ||| r_5)))) rfl (T_Wr_takesLetter_b58 (ql q 4 1 ((q.2 4 1) ||| r_5)) v1))))) (fun h_4 => S_go (J_icmp2 rfl rfl wl_2 (B_eq' h_4)) (S_run 6 (f' := (0, 0, 36, [(0, vR (some 4)), (1, vI v1)], [], hp (qs q 4 3 ((q.1 4 3) + (1 : Int))))) rfl (T_Wr_takesLetter_b36 (qs q 4 3 ((q.1 4 3) + (1 : Int))) v1)))))) (fun h_3 => S_go (J_icmp2 rfl rfl wl_8 (B_lt' h_3)) (S_run 1 (f' := (0, 0, 17, [(0, vR (some 4)), (1, vI v1)], [vI (0 : Int)], hp q)) rfl (S_ret rfl))))))))))

def Wr_takesHyphen (q : zM) (v1 : Int) : Option (Int × zM) :=
  if wrap v1 = (45 : Int) then
    if wrap (q.1 4 3) < (4 : Int) then
      some ((1 : Int), qs q 4 0 (0 : Int))
    else
      some ((0 : Int), q)
  else
    some ((0 : Int), q)
theorem T_Wr_takesHyphen {E : zE} (q : zM) (v1 : Int) : SimV E 70 (entF [vR (some 4), vI v1] (hp q)) eI (Wr_takesHyphen q v1) := by
  unfold Wr_takesHyphen
  exact S_run 0 (f' := (0, 0, 0, [(0, vR (some 4)), (1, vI v1)], [], hp q)) rfl (S_run 2 (f' := (0, 0, 3, [(0, vR (some 4)), (1, vI v1)], [vI (45 : Int), vI v1], hp q)) rfl (S_ite (fun h_1 => S_go (J_icmp2 rfl rfl wl_45 (B_ne h_1)) (S_run 3 (f' := (0, 0, 11, [(0, vR (some 4)), (1, vI v1)], [vI (4 : Int), vI (q.1 4 3)], hp q)) rfl (S_ite (fun h_2 => S_go (J_icmp2 rfl rfl wl_4 (B_lt h_2)) (S_run 4 (f' := (0, 0, 22, [(0, vR (some 4)), (1, vI v1)], [vI (1 : Int)], hp (qs q 4 0 (0 : Int)))) rfl (S_ret rfl))) (fun h_2 => S_go (J_icmp2 rfl rfl wl_4 (B_lt' h_2)) (S_run 1 (f' := (0, 0, 15, [(0, vR (some 4)), (1, vI v1)], [vI (0 : Int)], hp q)) rfl (S_ret rfl)))))) (fun h_1 => S_go (J_icmp2 rfl rfl wl_45 (B_ne' h_1)) (S_run 1 (f' := (0, 0, 15, [(0, vR (some 4)), (1, vI v1)], [vI (0 : Int)], hp q)) rfl (S_ret rfl)))))

def Wr_takesStar (q : zM) (v1 : Int) : Option (Int × zM) :=
  if wrap v1 = (42 : Int) then
    some ((1 : Int), qs q 4 0 (3 : Int))
  else
    some ((0 : Int), q)
theorem T_Wr_takesStar {E : zE} (q : zM) (v1 : Int) : SimV E 71 (entF [vR (some 4), vI v1] (hp q)) eI (Wr_takesStar q v1) := by
  unfold Wr_takesStar
  exact S_run 0 (f' := (0, 0, 0, [(0, vR (some 4)), (1, vI v1)], [], hp q)) rfl (S_run 2 (f' := (0, 0, 3, [(0, vR (some 4)), (1, vI v1)], [vI (42 : Int), vI v1], hp q)) rfl (S_ite (fun h_1 => S_go (J_icmp2 rfl rfl wl_42 (B_eq h_1)) (S_run 4 (f' := (0, 0, 14, [(0, vR (some 4)), (1, vI v1)], [vI (1 : Int)], hp (qs q 4 0 (3 : Int)))) rfl (S_ret rfl))) (fun h_1 => S_go (J_icmp2 rfl rfl wl_42 (B_eq' h_1)) (S_run 1 (f' := (0, 0, 7, [(0, vR (some 4)), (1, vI v1)], [vI (0 : Int)], hp q)) rfl (S_ret rfl)))))

def Wr_takesStress_b23 (q : zM) (v1 : Int) : Option (Int × zM) :=
  some ((1 : Int), qs q 4 0 (1 : Int))
theorem T_Wr_takesStress_b23 {E : zE} (q : zM) (v1 : Int) : SimV E 68 (0, 0, 23, [(0, vR (some 4)), (1, vI v1)], [], hp q) eI (Wr_takesStress_b23 q v1) := by
  unfold Wr_takesStress_b23
  exact S_run 4 (f' := (0, 0, 29, [(0, vR (some 4)), (1, vI v1)], [vI (1 : Int)], hp (qs q 4 0 (1 : Int)))) rfl (S_ret rfl)

def Wr_takesStress (q : zM) (v1 : Int) : Option (Int × zM) :=
  if wrap v1 = (39 : Int) then
    Wr_takesStress_b23 (qs q 4 4 (wor (q.1 4 4) (wshl (1 : Int) (q.1 4 3)))) v1
  else
    some ((0 : Int), q)
theorem T_Wr_takesStress {E : zE} (q : zM) (v1 : Int) : SimV E 68 (entF [vR (some 4), vI v1] (hp q)) eI (Wr_takesStress q v1) := by
  unfold Wr_takesStress
  exact S_run 0 (f' := (0, 0, 0, [(0, vR (some 4)), (1, vI v1)], [], hp q)) rfl (S_run 2 (f' := (0, 0, 3, [(0, vR (some 4)), (1, vI v1)], [vI (39 : Int), vI v1], hp q)) rfl (S_ite (fun h_1 => S_go (J_icmp2 rfl rfl wl_39 (B_eq h_1)) (S_run 9 (f' := (0, 0, 23, [(0, vR (some 4)), (1, vI v1)], [], hp (qs q 4 4 (wor (q.1 4 4) (wshl (1 : Int) (q.1 4 3)))))) rfl (T_Wr_takesStress_b23 (qs q 4 4 (wor (q.1 4 4) (wshl (1 : Int) (q.1 4 3)))) v1))) (fun h_1 => S_go (J_icmp2 rfl rfl wl_39 (B_eq' h_1)) (S_run 1 (f' := (0, 0, 7, [(0, vR (some 4)), (1, vI v1)], [vI (0 : Int)], hp q)) rfl (S_ret rfl)))))

def Wr_takes (q : zM) (v1 : Int) : Option (Int × zM) :=
  if wrap (q.1 4 0) = 0 then
    (Wr_takesStress q v1).bind fun r_12 =>
      if wrap r_12.1 = (0 : Int) then
        (Wr_takesLetter r_12.2 v1).bind fun r_14 =>
          if wrap r_14.1 = (0 : Int) then
            some ((0 : Int), r_14.2)
          else
            some ((1 : Int), r_14.2)
      else
        some ((1 : Int), r_12.2)
  else
    if wrap (q.1 4 0) = 1 then
      (Wr_takesLetter q v1).bind fun r_10 =>
        if wrap r_10.1 = 0 ∨ wrap r_10.1 = 1 then some (r_10.1, r_10.2) else none
    else
      if wrap (q.1 4 0) = 2 then
        (Wr_takesLetter q v1).bind fun r_4 =>
          if wrap r_4.1 = (0 : Int) then
            (Wr_takesHyphen r_4.2 v1).bind fun r_6 =>
              if wrap r_6.1 = (0 : Int) then
                (Wr_takesStar r_6.2 v1).bind fun r_8 =>
                  if wrap r_8.1 = (0 : Int) then
                    some ((0 : Int), r_8.2)
                  else
                    some ((1 : Int), r_8.2)
              else
                some ((1 : Int), r_6.2)
          else
            some ((1 : Int), r_4.2)
      else
        if wrap (q.1 4 0) = 3 then
          (Wr_takesDigit q v1).bind fun r_2 =>
            if wrap r_2.1 = 0 ∨ wrap r_2.1 = 1 then some (r_2.1, r_2.2) else none
        else
          some ((0 : Int), q)
theorem T_Wr_takes {E : zE} (q : zM) (v1 : Int) : SimV E 67 (entF [vR (some 4), vI v1] (hp q)) eI (Wr_takes q v1) := by
  unfold Wr_takes
  exact S_run 0 (f' := (0, 0, 0, [(0, vR (some 4)), (1, vI v1)], [], hp q)) rfl (S_run 2 (f' := (0, 0, 4, [(0, vR (some 4)), (1, vI v1)], [vI (q.1 4 0)], hp q)) rfl (S_ite (fun h_1_0 => S_go (J_tin rfl h_1_0 (by decide) rfl) (S_run 2 (f' := (0, 0, 38, [(0, vR (some 4)), (1, vI v1)], [vI v1, vR (some 4)], hp q)) rfl (S_call (m' := 68) (args := [vR (some 4), vI v1]) (h := hp q) (k := fun r => (0, 0, 41, [(0, vR (some 4)), (1, vI v1)], r.1.toList ++ [], r.2)) rfl (T_Wr_takesStress q v1) (fun r_12 => S_run 0 (f' := (0, 0, 41, [(0, vR (some 4)), (1, vI v1)], [vI r_12.1], hp r_12.2)) rfl (S_ite (fun h_13 => S_go (J_if2 rfl rfl (B_ne h_13)) (S_run 2 (f' := (0, 0, 46, [(0, vR (some 4)), (1, vI v1)], [vI v1, vR (some 4)], hp r_12.2)) rfl (S_call (m' := 69) (args := [vR (some 4), vI v1]) (h := hp r_12.2) (k := fun r => (0, 0, 49, [(0, vR (some 4)), (1, vI v1)], r.1.toList ++ [], r.2)) rfl (T_Wr_takesLetter r_12.2 v1) (fun r_14 => S_run 0 (f' := (0, 0, 49, [(0, vR (some 4)), (1, vI v1)], [vI r_14.1], hp r_14.2)) rfl (S_ite (fun h_15 => S_go (J_if2 rfl rfl (B_eq h_15)) (S_run 1 (f' := (0, 0, 57, [(0, vR (some 4)), (1, vI v1)], [vI (0 : Int)], hp r_14.2)) rfl (S_ret rfl))) (fun h_15 => S_go (J_if2 rfl rfl (B_eq' h_15)) (S_run 2 (f' := (0, 0, 57, [(0, vR (some 4)), (1, vI v1)], [vI (1 : Int)], hp r_14.2)) rfl (S_ret rfl)))))))) (fun h_13 => S_go (J_if2 rfl rfl (B_ne' h_13)) (S_run 2 (f' := (0, 0, 57, [(0, vR (some 4)), (1, vI v1)], [vI (1 : Int)], hp r_12.2)) rfl (S_ret rfl)))))))) (fun h_1_0 => S_ite (fun h_1_1 => S_go (J_tin rfl h_1_1 (by decide) rfl) (S_run 2 (f' := (0, 0, 60, [(0, vR (some 4)), (1, vI v1)], [vI v1, vR (some 4)], hp q)) rfl (S_call (m' := 69) (args := [vR (some 4), vI v1]) (h := hp q) (k := fun r => (0, 0, 63, [(0, vR (some 4)), (1, vI v1)], r.1.toList ++ [], r.2)) rfl (T_Wr_takesLetter q v1) (fun r_10 => S_run 0 (f' := (0, 0, 63, [(0, vR (some 4)), (1, vI v1)], [vI r_10.1], hp r_10.2)) rfl (S_ite (fun h_11 => S_ret (H_retb rfl rfl rfl h_11)) (fun _ => S_none)))))) (fun h_1_1 => S_ite (fun h_1_2 => S_go (J_tin rfl h_1_2 (by decide) rfl) (S_run 2 (f' := (0, 0, 66, [(0, vR (some 4)), (1, vI v1)], [vI v1, vR (some 4)], hp q)) rfl (S_call (m' := 69) (args := [vR (some 4), vI v1]) (h := hp q) (k := fun r => (0, 0, 69, [(0, vR (some 4)), (1, vI v1)], r.1.toList ++ [], r.2)) rfl (T_Wr_takesLetter q v1) (fun r_4 => S_run 0 (f' := (0, 0, 69, [(0, vR (some 4)), (1, vI v1)], [vI r_4.1], hp r_4.2)) rfl (S_ite (fun h_5 => S_go (J_if2 rfl rfl (B_ne h_5)) (S_run 2 (f' := (0, 0, 74, [(0, vR (some 4)), (1, vI v1)], [vI v1, vR (some 4)], hp r_4.2)) rfl (S_call (m' := 70) (args := [vR (some 4), vI v1]) (h := hp r_4.2) (k := fun r => (0, 0, 77, [(0, vR (some 4)), (1, vI v1)], r.1.toList ++ [], r.2)) rfl (T_Wr_takesHyphen r_4.2 v1) (fun r_6 => S_run 0 (f' := (0, 0, 77, [(0, vR (some 4)), (1, vI v1)], [vI r_6.1], hp r_6.2)) rfl (S_ite (fun h_7 => S_go (J_if2 rfl rfl (B_ne h_7)) (S_run 2 (f' := (0, 0, 82, [(0, vR (some 4)), (1, vI v1)], [vI v1, vR (some 4)], hp r_6.2)) rfl (S_call (m' := 71) (args := [vR (some 4), vI v1]) (h := hp r_6.2) (k := fun r => (0, 0, 85, [(0, vR (some 4)), (1, vI v1)], r.1.toList ++ [], r.2)) rfl (T_Wr_takesStar r_6.2 v1) (fun r_8 => S_run 0 (f' := (0, 0, 85, [(0, vR (some 4)), (1, vI v1)], [vI r_8.1], hp r_8.2)) rfl (S_ite (fun h_9 => S_go (J_if2 rfl rfl (B_eq h_9)) (S_run 1 (f' := (0, 0, 93, [(0, vR (some 4)), (1, vI v1)], [vI (0 : Int)], hp r_8.2)) rfl (S_ret rfl))) (fun h_9 => S_go (J_if2 rfl rfl (B_eq' h_9)) (S_run 2 (f' := (0, 0, 93, [(0, vR (some 4)), (1, vI v1)], [vI (1 : Int)], hp r_8.2)) rfl (S_ret rfl)))))))) (fun h_7 => S_go (J_if2 rfl rfl (B_ne' h_7)) (S_run 2 (f' := (0, 0, 93, [(0, vR (some 4)), (1, vI v1)], [vI (1 : Int)], hp r_6.2)) rfl (S_ret rfl)))))))) (fun h_5 => S_go (J_if2 rfl rfl (B_ne' h_5)) (S_run 2 (f' := (0, 0, 93, [(0, vR (some 4)), (1, vI v1)], [vI (1 : Int)], hp r_4.2)) rfl (S_ret rfl)))))))) (fun h_1_2 => S_ite (fun h_1_3 => S_go (J_tin rfl h_1_3 (by decide) rfl) (S_run 2 (f' := (0, 0, 96, [(0, vR (some 4)), (1, vI v1)], [vI v1, vR (some 4)], hp q)) rfl (S_call (m' := 72) (args := [vR (some 4), vI v1]) (h := hp q) (k := fun r => (0, 0, 99, [(0, vR (some 4)), (1, vI v1)], r.1.toList ++ [], r.2)) rfl (T_Wr_takesDigit q v1) (fun r_2 => S_run 0 (f' := (0, 0, 99, [(0, vR (some 4)), (1, vI v1)], [vI r_2.1], hp r_2.2)) rfl (S_ite (fun h_3 => S_ret (H_retb rfl rfl rfl h_3)) (fun _ => S_none)))))) (fun h_1_3 => S_go (J_tout rfl (by omega)) (S_run 1 (f' := (0, 0, 101, [(0, vR (some 4)), (1, vI v1)], [vI (0 : Int)], hp q)) rfl (S_ret rfl))))))))

def Wr_readWord_L32  (K : Int → zM → Option (Int × zM)) : Nat → Int → zM → Option (Int × zM)
  | 0, _, _ => none
  | n + 1, v2, q =>
    (Te_size q ).bind fun r_1 =>
      if wrap v2 < wrap r_1 then
        (Te_codeAt q v2).bind fun r_3 =>
          (Wr_takes q r_3).bind fun r_4 =>
            if wrap r_4.1 = (0 : Int) then
              some (v2, r_4.2)
            else
              Wr_readWord_L32 K n (v2 + 1) r_4.2
      else
        K v2 q
theorem T_Wr_readWord_L32 {E : zE}  {K : Int → zM → Option (Int × zM)} (hK : ∀ (v2 : Int) (q : zM), SimV E 66 (0, 0, 60, [(0, vR (some 4)), (1, vR (some 2)), (2, vI v2)], [], hp q) eI (K v2 q)) : ∀ (n : Nat) (v2 : Int) (q : zM), SimV E 66 (0, 0, 32, [(0, vR (some 4)), (1, vR (some 2)), (2, vI v2)], [], hp q) eI (Wr_readWord_L32 K n v2 q) := by
  intro n
  induction n with
  | zero => intro _ _; exact S_none
  | succ n ih =>
    intro v2 q
    rw [Wr_readWord_L32]
    exact S_run 2 (f' := (0, 0, 34, [(0, vR (some 4)), (1, vR (some 2)), (2, vI v2)], [vR (some 2), vI v2], hp q)) rfl (S_call (m' := 58) (args := [vR (some 2)]) (h := hp q) (k := fun r => (0, 0, 37, [(0, vR (some 4)), (1, vR (some 2)), (2, vI v2)], r.1.toList ++ [vI v2], r.2)) rfl (T_Te_size q ) (fun r_1 => S_run 0 (f' := (0, 0, 37, [(0, vR (some 4)), (1, vR (some 2)), (2, vI v2)], [vI r_1, vI v2], hp q)) rfl (S_ite (fun h_2 => S_go (J_icmp2 rfl rfl rfl (B_ge h_2)) (S_run 3 (f' := (0, 0, 43, [(0, vR (some 4)), (1, vR (some 2)), (2, vI v2)], [vI v2, vR (some 2), vR (some 4)], hp q)) rfl (S_call (m' := 59) (args := [vR (some 2), vI v2]) (h := hp q) (k := fun r => (0, 0, 46, [(0, vR (some 4)), (1, vR (some 2)), (2, vI v2)], r.1.toList ++ [vR (some 4)], r.2)) rfl (T_Te_codeAt q v2) (fun r_3 => S_run 0 (f' := (0, 0, 46, [(0, vR (some 4)), (1, vR (some 2)), (2, vI v2)], [vI r_3, vR (some 4)], hp q)) rfl (S_call (m' := 67) (args := [vR (some 4), vI r_3]) (h := hp q) (k := fun r => (0, 0, 49, [(0, vR (some 4)), (1, vR (some 2)), (2, vI v2)], r.1.toList ++ [], r.2)) rfl (T_Wr_takes q r_3) (fun r_4 => S_run 0 (f' := (0, 0, 49, [(0, vR (some 4)), (1, vR (some 2)), (2, vI v2)], [vI r_4.1], hp r_4.2)) rfl (S_ite (fun h_5 => S_go (J_if2 rfl rfl (B_ne h_5)) (S_run 1 (f' := (0, 0, 53, [(0, vR (some 4)), (1, vR (some 2)), (2, vI v2)], [vI v2], hp r_4.2)) rfl (S_ret rfl))) (fun h_5 => S_go (J_if2 rfl rfl (B_ne' h_5)) (S_run 2 (f' := (0, 0, 32, [(0, vR (some 4)), (1, vR (some 2)), (2, vI (v2 + 1))], [], hp r_4.2)) rfl (ih (v2 + 1) r_4.2)))))))))) (fun h_2 => S_go (J_icmp2 rfl rfl rfl (B_ge' h_2)) (S_run 0 (f' := (0, 0, 60, [(0, vR (some 4)), (1, vR (some 2)), (2, vI v2)], [], hp q)) rfl (hK v2 q))))))

def Wr_readWord_b30 (q : zM)  : Option (Int × zM) :=
  Wr_readWord_L32  (fun v2_6 q_7 => 
    if wrap (q_7.1 4 0) = (2 : Int) then
      some ((-1 : Int), q_7)
    else
      if wrap (q_7.1 4 0) = (4 : Int) then
        some ((-1 : Int), q_7)
      else
        (Te_size q_7 ).bind fun r_10 =>
          some (r_10, q_7)) 5000 (0 : Int) q
theorem T_Wr_readWord_b30 {E : zE} (q : zM)  : SimV E 66 (0, 0, 30, [(0, vR (some 4)), (1, vR (some 2))], [], hp q) eI (Wr_readWord_b30 q ) := by
  unfold Wr_readWord_b30
  exact S_run 2 (f' := (0, 0, 32, [(0, vR (some 4)), (1, vR (some 2)), (2, vI (0 : Int))], [], hp q)) rfl (T_Wr_readWord_L32  (fun v2_6 q_7 => S_run 3 (f' := (0, 0, 65, [(0, vR (some 4)), (1, vR (some 2)), (2, vI v2_6)], [vI (2 : Int), vI (q_7.1 4 0)], hp q_7)) rfl (S_ite (fun h_8 => S_go (J_icmp2 rfl rfl wl_2 (B_eq h_8)) (S_run 2 (f' := (0, 0, 84, [(0, vR (some 4)), (1, vR (some 2)), (2, vI v2_6)], [vI (-1 : Int)], hp q_7)) rfl (S_ret rfl))) (fun h_8 => S_go (J_icmp2 rfl rfl wl_2 (B_eq' h_8)) (S_run 3 (f' := (0, 0, 73, [(0, vR (some 4)), (1, vR (some 2)), (2, vI v2_6)], [vI (4 : Int), vI (q_7.1 4 0)], hp q_7)) rfl (S_ite (fun h_9 => S_go (J_icmp2 rfl rfl wl_4 (B_ne h_9)) (S_run 2 (f' := (0, 0, 84, [(0, vR (some 4)), (1, vR (some 2)), (2, vI v2_6)], [vI (-1 : Int)], hp q_7)) rfl (S_ret rfl))) (fun h_9 => S_go (J_icmp2 rfl rfl wl_4 (B_ne' h_9)) (S_run 1 (f' := (0, 0, 81, [(0, vR (some 4)), (1, vR (some 2)), (2, vI v2_6)], [vR (some 2)], hp q_7)) rfl (S_call (m' := 58) (args := [vR (some 2)]) (h := hp q_7) (k := fun r => (0, 0, 84, [(0, vR (some 4)), (1, vR (some 2)), (2, vI v2_6)], r.1.toList ++ [], r.2)) rfl (T_Te_size q_7 ) (fun r_10 => S_run 0 (f' := (0, 0, 84, [(0, vR (some 4)), (1, vR (some 2)), (2, vI v2_6)], [vI r_10], hp q_7)) rfl (S_ret rfl)))))))))) 5000 (0 : Int) q)

def Wr_readWord_b25 (q : zM)  : Option (Int × zM) :=
  Wr_readWord_b30 (qs q 4 5 (1 : Int))
theorem T_Wr_readWord_b25 {E : zE} (q : zM)  : SimV E 66 (0, 0, 25, [(0, vR (some 4)), (1, vR (some 2))], [], hp q) eI (Wr_readWord_b25 q ) := by
  unfold Wr_readWord_b25
  exact S_run 3 (f' := (0, 0, 30, [(0, vR (some 4)), (1, vR (some 2))], [], hp (qs q 4 5 (1 : Int)))) rfl (T_Wr_readWord_b30 (qs q 4 5 (1 : Int)))

def Wr_readWord_b20 (q : zM)  : Option (Int × zM) :=
  Wr_readWord_b25 (qs q 4 4 (0 : Int))
theorem T_Wr_readWord_b20 {E : zE} (q : zM)  : SimV E 66 (0, 0, 20, [(0, vR (some 4)), (1, vR (some 2))], [], hp q) eI (Wr_readWord_b20 q ) := by
  unfold Wr_readWord_b20
  exact S_run 3 (f' := (0, 0, 25, [(0, vR (some 4)), (1, vR (some 2))], [], hp (qs q 4 4 (0 : Int)))) rfl (T_Wr_readWord_b25 (qs q 4 4 (0 : Int)))

def Wr_readWord_b15 (q : zM)  : Option (Int × zM) :=
  Wr_readWord_b20 (qs q 4 3 (0 : Int))
theorem T_Wr_readWord_b15 {E : zE} (q : zM)  : SimV E 66 (0, 0, 15, [(0, vR (some 4)), (1, vR (some 2))], [], hp q) eI (Wr_readWord_b15 q ) := by
  unfold Wr_readWord_b15
  exact S_run 3 (f' := (0, 0, 20, [(0, vR (some 4)), (1, vR (some 2))], [], hp (qs q 4 3 (0 : Int)))) rfl (T_Wr_readWord_b20 (qs q 4 3 (0 : Int)))

def Wr_readWord_b10 (q : zM)  : Option (Int × zM) :=
  Wr_readWord_b15 (qs q 4 2 (0 : Int))
theorem T_Wr_readWord_b10 {E : zE} (q : zM)  : SimV E 66 (0, 0, 10, [(0, vR (some 4)), (1, vR (some 2))], [], hp q) eI (Wr_readWord_b10 q ) := by
  unfold Wr_readWord_b10
  exact S_run 3 (f' := (0, 0, 15, [(0, vR (some 4)), (1, vR (some 2))], [], hp (qs q 4 2 (0 : Int)))) rfl (T_Wr_readWord_b15 (qs q 4 2 (0 : Int)))

def Wr_readWord_b5 (q : zM)  : Option (Int × zM) :=
  Wr_readWord_b10 (ql q 4 1 (Int64.ofNat 0))
theorem T_Wr_readWord_b5 {E : zE} (q : zM)  : SimV E 66 (0, 0, 5, [(0, vR (some 4)), (1, vR (some 2))], [], hp q) eI (Wr_readWord_b5 q ) := by
  unfold Wr_readWord_b5
  exact S_run 3 (f' := (0, 0, 10, [(0, vR (some 4)), (1, vR (some 2))], [], hp (ql q 4 1 (Int64.ofNat 0)))) rfl (T_Wr_readWord_b10 (ql q 4 1 (Int64.ofNat 0)))

def Wr_readWord (q : zM)  : Option (Int × zM) :=
  Wr_readWord_b5 (qs q 4 0 (0 : Int))
theorem T_Wr_readWord {E : zE} (q : zM)  : SimV E 66 (entF [vR (some 4), vR (some 2)] (hp q)) eI (Wr_readWord q ) := by
  unfold Wr_readWord
  exact S_run 0 (f' := (0, 0, 0, [(0, vR (some 4)), (1, vR (some 2))], [], hp q)) rfl (S_run 3 (f' := (0, 0, 5, [(0, vR (some 4)), (1, vR (some 2))], [], hp (qs q 4 0 (0 : Int)))) rfl (T_Wr_readWord_b5 (qs q 4 0 (0 : Int))))

def Ws_indexOf_L2 (q : zM) (v1 : Int64) (K : Int → Option Int) : Nat → Int → Option Int
  | 0, _ => none
  | n + 1, v3 =>
    if wrap v3 < wrap (q.1 6 0) then
      ck (wrap v3) 40 (
        if wrap (wlcmp (q.2 7 (wrap v3).toNat) v1) = (0 : Int) then
          some v3
        else
          Ws_indexOf_L2 q v1 K n (v3 + 1))
    else
      K v3
theorem T_Ws_indexOf_L2 {E : zE} (q : zM) (v1 : Int64) {K : Int → Option Int} (hK : ∀ (v3 : Int), SimV E 84 (0, 0, 29, [(0, vR (some 6)), (1, vL v1), (3, vI v3)], [], hp q) (eP q) (K v3)) : ∀ (n : Nat) (v3 : Int), SimV E 84 (0, 0, 2, [(0, vR (some 6)), (1, vL v1), (3, vI v3)], [], hp q) (eP q) (Ws_indexOf_L2 q v1 K n v3) := by
  intro n
  induction n with
  | zero => intro _; exact S_none
  | succ n ih =>
    intro v3
    rw [Ws_indexOf_L2]
    exact S_run 3 (f' := (0, 0, 7, [(0, vR (some 6)), (1, vL v1), (3, vI v3)], [vI (q.1 6 0), vI v3], hp q)) rfl (S_ite (fun h_1 => S_go (J_icmp2 rfl rfl rfl (B_ge h_1)) (S_run 3 (f' := (0, 0, 15, [(0, vR (some 6)), (1, vL v1), (3, vI v3)], [vI v3, vR (some 7)], hp q)) rfl (S_ck (n := 40) (fun h_2 => S_go (H_lald rfl rfl rfl h_2) (S_run 2 (f' := (0, 0, 18, [(0, vR (some 6)), (1, vL v1), (3, vI v3)], [vI (wlcmp (q.2 7 (wrap v3).toNat) v1)], hp q)) rfl (S_ite (fun h_3 => S_go (J_if2 rfl rfl (B_ne h_3)) (S_run 1 (f' := (0, 0, 22, [(0, vR (some 6)), (1, vL v1), (3, vI v3)], [vI v3], hp q)) rfl (S_ret rfl))) (fun h_3 => S_go (J_if2 rfl rfl (B_ne' h_3)) (S_run 2 (f' := (0, 0, 2, [(0, vR (some 6)), (1, vL v1), (3, vI (v3 + 1))], [], hp q)) rfl (ih (v3 + 1)))))))))) (fun h_1 => S_go (J_icmp2 rfl rfl rfl (B_ge' h_1)) (S_run 0 (f' := (0, 0, 29, [(0, vR (some 6)), (1, vL v1), (3, vI v3)], [], hp q)) rfl (hK v3))))

def Ws_indexOf (q : zM) (v1 : Int64) : Option Int :=
  Ws_indexOf_L2 q v1 (fun v3_4 => 
    some (-1 : Int)) 5000 (0 : Int)
theorem T_Ws_indexOf {E : zE} (q : zM) (v1 : Int64) : SimV E 84 (entF [vR (some 6), vL v1] (hp q)) (eP q) (Ws_indexOf q v1) := by
  unfold Ws_indexOf
  exact S_run 0 (f' := (0, 0, 0, [(0, vR (some 6)), (1, vL v1)], [], hp q)) rfl (S_run 2 (f' := (0, 0, 2, [(0, vR (some 6)), (1, vL v1), (3, vI (0 : Int))], [], hp q)) rfl (T_Ws_indexOf_L2 q v1 (fun v3_4 => S_run 1 (f' := (0, 0, 30, [(0, vR (some 6)), (1, vL v1), (3, vI v3_4)], [vI (-1 : Int)], hp q)) rfl (S_ret rfl)) 5000 (0 : Int)))

def Ws_isFull (q : zM)  : Option Int :=
  if wrap (q.1 6 0) < (40 : Int) then
    some (0 : Int)
  else
    some (1 : Int)
theorem T_Ws_isFull {E : zE} (q : zM)  : SimV E 75 (entF [vR (some 6)] (hp q)) (eP q) (Ws_isFull q ) := by
  unfold Ws_isFull
  exact S_run 0 (f' := (0, 0, 0, [(0, vR (some 6))], [], hp q)) rfl (S_run 3 (f' := (0, 0, 6, [(0, vR (some 6))], [vI (40 : Int), vI (q.1 6 0)], hp q)) rfl (S_ite (fun h_1 => S_go (J_icmp2 rfl rfl wl_40 (B_lt h_1)) (S_run 1 (f' := (0, 0, 14, [(0, vR (some 6))], [vI (0 : Int)], hp q)) rfl (S_ret rfl))) (fun h_1 => S_go (J_icmp2 rfl rfl wl_40 (B_lt' h_1)) (S_run 2 (f' := (0, 0, 14, [(0, vR (some 6))], [vI (1 : Int)], hp q)) rfl (S_ret rfl)))))

def Hi_slotOf (q : zM) (v1 : Int) : Option Int :=
  some (wrem ((q.1 18 1) + v1) (5 : Int))
theorem T_Hi_slotOf {E : zE} (q : zM) (v1 : Int) : SimV E 2 (entF [vR (some 18), vI v1] (hp q)) (eP q) (Hi_slotOf q v1) := by
  unfold Hi_slotOf
  exact S_run 0 (f' := (0, 0, 0, [(0, vR (some 18)), (1, vI v1)], [], hp q)) rfl (S_run 6 (f' := (0, 0, 8, [(0, vR (some 18)), (1, vI v1)], [vI (wrem ((q.1 18 1) + v1) (5 : Int))], hp q)) rfl (S_ret rfl))

def Ws_copyFrom_73_6_b68 (q : zM)  : Option zM :=
  some (qc q 11 0 78 0 40)
theorem T_Ws_copyFrom_73_6_b68 {E : zE} (q : zM)  : SimV E 88 (0, 0, 68, [(0, vR (some 73)), (1, vR (some 6))], [], hp q) eV (Ws_copyFrom_73_6_b68 q ) := by
  unfold Ws_copyFrom_73_6_b68
  exact S_run 8 (f' := (0, 0, 83, [(0, vR (some 73)), (1, vR (some 6))], [], hp (qc q 11 0 78 0 40))) rfl (S_ret rfl)

def Ws_copyFrom_73_6_b53 (q : zM)  : Option zM :=
  Ws_copyFrom_73_6_b68 (qc q 10 0 77 0 40)
theorem T_Ws_copyFrom_73_6_b53 {E : zE} (q : zM)  : SimV E 88 (0, 0, 53, [(0, vR (some 73)), (1, vR (some 6))], [], hp q) eV (Ws_copyFrom_73_6_b53 q ) := by
  unfold Ws_copyFrom_73_6_b53
  exact S_run 8 (f' := (0, 0, 68, [(0, vR (some 73)), (1, vR (some 6))], [], hp (qc q 10 0 77 0 40))) rfl (T_Ws_copyFrom_73_6_b68 (qc q 10 0 77 0 40))

def Ws_copyFrom_73_6_b38 (q : zM)  : Option zM :=
  Ws_copyFrom_73_6_b53 (qc q 9 0 76 0 40)
theorem T_Ws_copyFrom_73_6_b38 {E : zE} (q : zM)  : SimV E 88 (0, 0, 38, [(0, vR (some 73)), (1, vR (some 6))], [], hp q) eV (Ws_copyFrom_73_6_b38 q ) := by
  unfold Ws_copyFrom_73_6_b38
  exact S_run 8 (f' := (0, 0, 53, [(0, vR (some 73)), (1, vR (some 6))], [], hp (qc q 9 0 76 0 40))) rfl (T_Ws_copyFrom_73_6_b53 (qc q 9 0 76 0 40))

def Ws_copyFrom_73_6_b23 (q : zM)  : Option zM :=
  Ws_copyFrom_73_6_b38 (qc q 8 0 75 0 40)
theorem T_Ws_copyFrom_73_6_b23 {E : zE} (q : zM)  : SimV E 88 (0, 0, 23, [(0, vR (some 73)), (1, vR (some 6))], [], hp q) eV (Ws_copyFrom_73_6_b23 q ) := by
  unfold Ws_copyFrom_73_6_b23
  exact S_run 8 (f' := (0, 0, 38, [(0, vR (some 73)), (1, vR (some 6))], [], hp (qc q 8 0 75 0 40))) rfl (T_Ws_copyFrom_73_6_b38 (qc q 8 0 75 0 40))

def Ws_copyFrom_73_6_b8 (q : zM)  : Option zM :=
  Ws_copyFrom_73_6_b23 (qcl q 7 0 74 0 40)
theorem T_Ws_copyFrom_73_6_b8 {E : zE} (q : zM)  : SimV E 88 (0, 0, 8, [(0, vR (some 73)), (1, vR (some 6))], [], hp q) eV (Ws_copyFrom_73_6_b8 q ) := by
  unfold Ws_copyFrom_73_6_b8
  exact S_run 8 (f' := (0, 0, 23, [(0, vR (some 73)), (1, vR (some 6))], [], hp (qcl q 7 0 74 0 40))) rfl (T_Ws_copyFrom_73_6_b23 (qcl q 7 0 74 0 40))

def Ws_copyFrom_73_6 (q : zM)  : Option zM :=
  Ws_copyFrom_73_6_b8 (qs q 73 0 (q.1 6 0))
theorem T_Ws_copyFrom_73_6 {E : zE} (q : zM)  : SimV E 88 (entF [vR (some 73), vR (some 6)] (hp q)) eV (Ws_copyFrom_73_6 q ) := by
  unfold Ws_copyFrom_73_6
  exact S_run 0 (f' := (0, 0, 0, [(0, vR (some 73)), (1, vR (some 6))], [], hp q)) rfl (S_run 4 (f' := (0, 0, 8, [(0, vR (some 73)), (1, vR (some 6))], [], hp (qs q 73 0 (q.1 6 0)))) rfl (T_Ws_copyFrom_73_6_b8 (qs q 73 0 (q.1 6 0))))

def Me_change_79_b5 (q : zM) (v1 : Int) (v2 : Int) : Option zM :=
  some (qs q 79 1 v2)
theorem T_Me_change_79_b5 {E : zE} (q : zM) (v1 : Int) (v2 : Int) : SimV E 17 (0, 0, 5, [(0, vR (some 79)), (1, vI v1), (2, vI v2)], [], hp q) eV (Me_change_79_b5 q v1 v2) := by
  unfold Me_change_79_b5
  exact S_run 3 (f' := (0, 0, 10, [(0, vR (some 79)), (1, vI v1), (2, vI v2)], [], hp (qs q 79 1 v2))) rfl (S_ret rfl)

def Me_change_79 (q : zM) (v1 : Int) (v2 : Int) : Option zM :=
  Me_change_79_b5 (qs q 79 0 v1) v1 v2
theorem T_Me_change_79 {E : zE} (q : zM) (v1 : Int) (v2 : Int) : SimV E 17 (entF [vR (some 79), vI v1, vI v2] (hp q)) eV (Me_change_79 q v1 v2) := by
  unfold Me_change_79
  exact S_run 0 (f' := (0, 0, 0, [(0, vR (some 79)), (1, vI v1), (2, vI v2)], [], hp q)) rfl (S_run 3 (f' := (0, 0, 5, [(0, vR (some 79)), (1, vI v1), (2, vI v2)], [], hp (qs q 79 0 v1))) rfl (T_Me_change_79_b5 (qs q 79 0 v1) v1 v2))

def Me_copyFrom_79_12 (q : zM)  : Option zM :=
  (Me_change_79 q (q.1 12 0) (q.1 12 1)).bind fun r_1 =>
    some r_1
theorem T_Me_copyFrom_79_12 {E : zE} (q : zM)  : SimV E 21 (entF [vR (some 79), vR (some 12)] (hp q)) eV (Me_copyFrom_79_12 q ) := by
  unfold Me_copyFrom_79_12
  exact S_run 0 (f' := (0, 0, 0, [(0, vR (some 79)), (1, vR (some 12))], [], hp q)) rfl (S_run 5 (f' := (0, 0, 9, [(0, vR (some 79)), (1, vR (some 12))], [vI (q.1 12 1), vI (q.1 12 0), vR (some 79)], hp q)) rfl (S_call (m' := 17) (args := [vR (some 79), vI (q.1 12 0), vI (q.1 12 1)]) (h := hp q) (k := fun r => (0, 0, 12, [(0, vR (some 79)), (1, vR (some 12))], r.1.toList ++ [], r.2)) rfl (T_Me_change_79 q (q.1 12 0) (q.1 12 1)) (fun r_1 => S_run 0 (f' := (0, 0, 12, [(0, vR (some 79)), (1, vR (some 12))], [], hp r_1)) rfl (S_ret rfl))))

def Po_copyFrom_80_13_b53 (q : zM)  : Option zM :=
  some (qc q 17 0 84 0 96)
theorem T_Po_copyFrom_80_13_b53 {E : zE} (q : zM)  : SimV E 38 (0, 0, 53, [(0, vR (some 80)), (1, vR (some 13))], [], hp q) eV (Po_copyFrom_80_13_b53 q ) := by
  unfold Po_copyFrom_80_13_b53
  exact S_run 8 (f' := (0, 0, 68, [(0, vR (some 80)), (1, vR (some 13))], [], hp (qc q 17 0 84 0 96))) rfl (S_ret rfl)

def Po_copyFrom_80_13_b38 (q : zM)  : Option zM :=
  Po_copyFrom_80_13_b53 (qc q 16 0 83 0 8)
theorem T_Po_copyFrom_80_13_b38 {E : zE} (q : zM)  : SimV E 38 (0, 0, 38, [(0, vR (some 80)), (1, vR (some 13))], [], hp q) eV (Po_copyFrom_80_13_b38 q ) := by
  unfold Po_copyFrom_80_13_b38
  exact S_run 8 (f' := (0, 0, 53, [(0, vR (some 80)), (1, vR (some 13))], [], hp (qc q 16 0 83 0 8))) rfl (T_Po_copyFrom_80_13_b53 (qc q 16 0 83 0 8))

def Po_copyFrom_80_13_b23 (q : zM)  : Option zM :=
  Po_copyFrom_80_13_b38 (qc q 15 0 82 0 8)
theorem T_Po_copyFrom_80_13_b23 {E : zE} (q : zM)  : SimV E 38 (0, 0, 23, [(0, vR (some 80)), (1, vR (some 13))], [], hp q) eV (Po_copyFrom_80_13_b23 q ) := by
  unfold Po_copyFrom_80_13_b23
  exact S_run 8 (f' := (0, 0, 38, [(0, vR (some 80)), (1, vR (some 13))], [], hp (qc q 15 0 82 0 8))) rfl (T_Po_copyFrom_80_13_b38 (qc q 15 0 82 0 8))

def Po_copyFrom_80_13_b8 (q : zM)  : Option zM :=
  Po_copyFrom_80_13_b23 (qc q 14 0 81 0 8)
theorem T_Po_copyFrom_80_13_b8 {E : zE} (q : zM)  : SimV E 38 (0, 0, 8, [(0, vR (some 80)), (1, vR (some 13))], [], hp q) eV (Po_copyFrom_80_13_b8 q ) := by
  unfold Po_copyFrom_80_13_b8
  exact S_run 8 (f' := (0, 0, 23, [(0, vR (some 80)), (1, vR (some 13))], [], hp (qc q 14 0 81 0 8))) rfl (T_Po_copyFrom_80_13_b23 (qc q 14 0 81 0 8))

def Po_copyFrom_80_13 (q : zM)  : Option zM :=
  Po_copyFrom_80_13_b8 (qs q 80 0 (q.1 13 0))
theorem T_Po_copyFrom_80_13 {E : zE} (q : zM)  : SimV E 38 (entF [vR (some 80), vR (some 13)] (hp q)) eV (Po_copyFrom_80_13 q ) := by
  unfold Po_copyFrom_80_13
  exact S_run 0 (f' := (0, 0, 0, [(0, vR (some 80)), (1, vR (some 13))], [], hp q)) rfl (S_run 4 (f' := (0, 0, 8, [(0, vR (some 80)), (1, vR (some 13))], [], hp (qs q 80 0 (q.1 13 0)))) rfl (T_Po_copyFrom_80_13_b8 (qs q 80 0 (q.1 13 0))))

def St_copyFrom_72_5 (q : zM)  : Option zM :=
  (Ws_copyFrom_73_6 q ).bind fun r_1 =>
    (Me_copyFrom_79_12 r_1 ).bind fun r_2 =>
      (Po_copyFrom_80_13 r_2 ).bind fun r_3 =>
        some r_3
theorem T_St_copyFrom_72_5 {E : zE} (q : zM)  : SimV E 45 (entF [vR (some 72), vR (some 5)] (hp q)) eV (St_copyFrom_72_5 q ) := by
  unfold St_copyFrom_72_5
  exact S_run 0 (f' := (0, 0, 0, [(0, vR (some 72)), (1, vR (some 5))], [], hp q)) rfl (S_run 4 (f' := (0, 0, 8, [(0, vR (some 72)), (1, vR (some 5))], [vR (some 6), vR (some 73)], hp q)) rfl (S_call (m' := 88) (args := [vR (some 73), vR (some 6)]) (h := hp q) (k := fun r => (0, 0, 11, [(0, vR (some 72)), (1, vR (some 5))], r.1.toList ++ [], r.2)) rfl (T_Ws_copyFrom_73_6 q ) (fun r_1 => S_run 4 (f' := (0, 0, 19, [(0, vR (some 72)), (1, vR (some 5))], [vR (some 12), vR (some 79)], hp r_1)) rfl (S_call (m' := 21) (args := [vR (some 79), vR (some 12)]) (h := hp r_1) (k := fun r => (0, 0, 22, [(0, vR (some 72)), (1, vR (some 5))], r.1.toList ++ [], r.2)) rfl (T_Me_copyFrom_79_12 r_1 ) (fun r_2 => S_run 4 (f' := (0, 0, 30, [(0, vR (some 72)), (1, vR (some 5))], [vR (some 13), vR (some 80)], hp r_2)) rfl (S_call (m' := 38) (args := [vR (some 80), vR (some 13)]) (h := hp r_2) (k := fun r => (0, 0, 33, [(0, vR (some 72)), (1, vR (some 5))], r.1.toList ++ [], r.2)) rfl (T_Po_copyFrom_80_13 r_2 ) (fun r_3 => S_run 0 (f' := (0, 0, 33, [(0, vR (some 72)), (1, vR (some 5))], [], hp r_3)) rfl (S_ret rfl))))))))

def Ws_copyFrom_60_6_b68 (q : zM)  : Option zM :=
  some (qc q 11 0 65 0 40)
theorem T_Ws_copyFrom_60_6_b68 {E : zE} (q : zM)  : SimV E 88 (0, 0, 68, [(0, vR (some 60)), (1, vR (some 6))], [], hp q) eV (Ws_copyFrom_60_6_b68 q ) := by
  unfold Ws_copyFrom_60_6_b68
  exact S_run 8 (f' := (0, 0, 83, [(0, vR (some 60)), (1, vR (some 6))], [], hp (qc q 11 0 65 0 40))) rfl (S_ret rfl)

def Ws_copyFrom_60_6_b53 (q : zM)  : Option zM :=
  Ws_copyFrom_60_6_b68 (qc q 10 0 64 0 40)
theorem T_Ws_copyFrom_60_6_b53 {E : zE} (q : zM)  : SimV E 88 (0, 0, 53, [(0, vR (some 60)), (1, vR (some 6))], [], hp q) eV (Ws_copyFrom_60_6_b53 q ) := by
  unfold Ws_copyFrom_60_6_b53
  exact S_run 8 (f' := (0, 0, 68, [(0, vR (some 60)), (1, vR (some 6))], [], hp (qc q 10 0 64 0 40))) rfl (T_Ws_copyFrom_60_6_b68 (qc q 10 0 64 0 40))

def Ws_copyFrom_60_6_b38 (q : zM)  : Option zM :=
  Ws_copyFrom_60_6_b53 (qc q 9 0 63 0 40)
theorem T_Ws_copyFrom_60_6_b38 {E : zE} (q : zM)  : SimV E 88 (0, 0, 38, [(0, vR (some 60)), (1, vR (some 6))], [], hp q) eV (Ws_copyFrom_60_6_b38 q ) := by
  unfold Ws_copyFrom_60_6_b38
  exact S_run 8 (f' := (0, 0, 53, [(0, vR (some 60)), (1, vR (some 6))], [], hp (qc q 9 0 63 0 40))) rfl (T_Ws_copyFrom_60_6_b53 (qc q 9 0 63 0 40))

def Ws_copyFrom_60_6_b23 (q : zM)  : Option zM :=
  Ws_copyFrom_60_6_b38 (qc q 8 0 62 0 40)
theorem T_Ws_copyFrom_60_6_b23 {E : zE} (q : zM)  : SimV E 88 (0, 0, 23, [(0, vR (some 60)), (1, vR (some 6))], [], hp q) eV (Ws_copyFrom_60_6_b23 q ) := by
  unfold Ws_copyFrom_60_6_b23
  exact S_run 8 (f' := (0, 0, 38, [(0, vR (some 60)), (1, vR (some 6))], [], hp (qc q 8 0 62 0 40))) rfl (T_Ws_copyFrom_60_6_b38 (qc q 8 0 62 0 40))

def Ws_copyFrom_60_6_b8 (q : zM)  : Option zM :=
  Ws_copyFrom_60_6_b23 (qcl q 7 0 61 0 40)
theorem T_Ws_copyFrom_60_6_b8 {E : zE} (q : zM)  : SimV E 88 (0, 0, 8, [(0, vR (some 60)), (1, vR (some 6))], [], hp q) eV (Ws_copyFrom_60_6_b8 q ) := by
  unfold Ws_copyFrom_60_6_b8
  exact S_run 8 (f' := (0, 0, 23, [(0, vR (some 60)), (1, vR (some 6))], [], hp (qcl q 7 0 61 0 40))) rfl (T_Ws_copyFrom_60_6_b23 (qcl q 7 0 61 0 40))

def Ws_copyFrom_60_6 (q : zM)  : Option zM :=
  Ws_copyFrom_60_6_b8 (qs q 60 0 (q.1 6 0))
theorem T_Ws_copyFrom_60_6 {E : zE} (q : zM)  : SimV E 88 (entF [vR (some 60), vR (some 6)] (hp q)) eV (Ws_copyFrom_60_6 q ) := by
  unfold Ws_copyFrom_60_6
  exact S_run 0 (f' := (0, 0, 0, [(0, vR (some 60)), (1, vR (some 6))], [], hp q)) rfl (S_run 4 (f' := (0, 0, 8, [(0, vR (some 60)), (1, vR (some 6))], [], hp (qs q 60 0 (q.1 6 0)))) rfl (T_Ws_copyFrom_60_6_b8 (qs q 60 0 (q.1 6 0))))

def Me_change_66_b5 (q : zM) (v1 : Int) (v2 : Int) : Option zM :=
  some (qs q 66 1 v2)
theorem T_Me_change_66_b5 {E : zE} (q : zM) (v1 : Int) (v2 : Int) : SimV E 17 (0, 0, 5, [(0, vR (some 66)), (1, vI v1), (2, vI v2)], [], hp q) eV (Me_change_66_b5 q v1 v2) := by
  unfold Me_change_66_b5
  exact S_run 3 (f' := (0, 0, 10, [(0, vR (some 66)), (1, vI v1), (2, vI v2)], [], hp (qs q 66 1 v2))) rfl (S_ret rfl)

def Me_change_66 (q : zM) (v1 : Int) (v2 : Int) : Option zM :=
  Me_change_66_b5 (qs q 66 0 v1) v1 v2
theorem T_Me_change_66 {E : zE} (q : zM) (v1 : Int) (v2 : Int) : SimV E 17 (entF [vR (some 66), vI v1, vI v2] (hp q)) eV (Me_change_66 q v1 v2) := by
  unfold Me_change_66
  exact S_run 0 (f' := (0, 0, 0, [(0, vR (some 66)), (1, vI v1), (2, vI v2)], [], hp q)) rfl (S_run 3 (f' := (0, 0, 5, [(0, vR (some 66)), (1, vI v1), (2, vI v2)], [], hp (qs q 66 0 v1))) rfl (T_Me_change_66_b5 (qs q 66 0 v1) v1 v2))

def Me_copyFrom_66_12 (q : zM)  : Option zM :=
  (Me_change_66 q (q.1 12 0) (q.1 12 1)).bind fun r_1 =>
    some r_1
theorem T_Me_copyFrom_66_12 {E : zE} (q : zM)  : SimV E 21 (entF [vR (some 66), vR (some 12)] (hp q)) eV (Me_copyFrom_66_12 q ) := by
  unfold Me_copyFrom_66_12
  exact S_run 0 (f' := (0, 0, 0, [(0, vR (some 66)), (1, vR (some 12))], [], hp q)) rfl (S_run 5 (f' := (0, 0, 9, [(0, vR (some 66)), (1, vR (some 12))], [vI (q.1 12 1), vI (q.1 12 0), vR (some 66)], hp q)) rfl (S_call (m' := 17) (args := [vR (some 66), vI (q.1 12 0), vI (q.1 12 1)]) (h := hp q) (k := fun r => (0, 0, 12, [(0, vR (some 66)), (1, vR (some 12))], r.1.toList ++ [], r.2)) rfl (T_Me_change_66 q (q.1 12 0) (q.1 12 1)) (fun r_1 => S_run 0 (f' := (0, 0, 12, [(0, vR (some 66)), (1, vR (some 12))], [], hp r_1)) rfl (S_ret rfl))))

def Po_copyFrom_67_13_b53 (q : zM)  : Option zM :=
  some (qc q 17 0 71 0 96)
theorem T_Po_copyFrom_67_13_b53 {E : zE} (q : zM)  : SimV E 38 (0, 0, 53, [(0, vR (some 67)), (1, vR (some 13))], [], hp q) eV (Po_copyFrom_67_13_b53 q ) := by
  unfold Po_copyFrom_67_13_b53
  exact S_run 8 (f' := (0, 0, 68, [(0, vR (some 67)), (1, vR (some 13))], [], hp (qc q 17 0 71 0 96))) rfl (S_ret rfl)

def Po_copyFrom_67_13_b38 (q : zM)  : Option zM :=
  Po_copyFrom_67_13_b53 (qc q 16 0 70 0 8)
theorem T_Po_copyFrom_67_13_b38 {E : zE} (q : zM)  : SimV E 38 (0, 0, 38, [(0, vR (some 67)), (1, vR (some 13))], [], hp q) eV (Po_copyFrom_67_13_b38 q ) := by
  unfold Po_copyFrom_67_13_b38
  exact S_run 8 (f' := (0, 0, 53, [(0, vR (some 67)), (1, vR (some 13))], [], hp (qc q 16 0 70 0 8))) rfl (T_Po_copyFrom_67_13_b53 (qc q 16 0 70 0 8))

def Po_copyFrom_67_13_b23 (q : zM)  : Option zM :=
  Po_copyFrom_67_13_b38 (qc q 15 0 69 0 8)
theorem T_Po_copyFrom_67_13_b23 {E : zE} (q : zM)  : SimV E 38 (0, 0, 23, [(0, vR (some 67)), (1, vR (some 13))], [], hp q) eV (Po_copyFrom_67_13_b23 q ) := by
  unfold Po_copyFrom_67_13_b23
  exact S_run 8 (f' := (0, 0, 38, [(0, vR (some 67)), (1, vR (some 13))], [], hp (qc q 15 0 69 0 8))) rfl (T_Po_copyFrom_67_13_b38 (qc q 15 0 69 0 8))

def Po_copyFrom_67_13_b8 (q : zM)  : Option zM :=
  Po_copyFrom_67_13_b23 (qc q 14 0 68 0 8)
theorem T_Po_copyFrom_67_13_b8 {E : zE} (q : zM)  : SimV E 38 (0, 0, 8, [(0, vR (some 67)), (1, vR (some 13))], [], hp q) eV (Po_copyFrom_67_13_b8 q ) := by
  unfold Po_copyFrom_67_13_b8
  exact S_run 8 (f' := (0, 0, 23, [(0, vR (some 67)), (1, vR (some 13))], [], hp (qc q 14 0 68 0 8))) rfl (T_Po_copyFrom_67_13_b23 (qc q 14 0 68 0 8))

def Po_copyFrom_67_13 (q : zM)  : Option zM :=
  Po_copyFrom_67_13_b8 (qs q 67 0 (q.1 13 0))
theorem T_Po_copyFrom_67_13 {E : zE} (q : zM)  : SimV E 38 (entF [vR (some 67), vR (some 13)] (hp q)) eV (Po_copyFrom_67_13 q ) := by
  unfold Po_copyFrom_67_13
  exact S_run 0 (f' := (0, 0, 0, [(0, vR (some 67)), (1, vR (some 13))], [], hp q)) rfl (S_run 4 (f' := (0, 0, 8, [(0, vR (some 67)), (1, vR (some 13))], [], hp (qs q 67 0 (q.1 13 0)))) rfl (T_Po_copyFrom_67_13_b8 (qs q 67 0 (q.1 13 0))))

def St_copyFrom_59_5 (q : zM)  : Option zM :=
  (Ws_copyFrom_60_6 q ).bind fun r_1 =>
    (Me_copyFrom_66_12 r_1 ).bind fun r_2 =>
      (Po_copyFrom_67_13 r_2 ).bind fun r_3 =>
        some r_3
theorem T_St_copyFrom_59_5 {E : zE} (q : zM)  : SimV E 45 (entF [vR (some 59), vR (some 5)] (hp q)) eV (St_copyFrom_59_5 q ) := by
  unfold St_copyFrom_59_5
  exact S_run 0 (f' := (0, 0, 0, [(0, vR (some 59)), (1, vR (some 5))], [], hp q)) rfl (S_run 4 (f' := (0, 0, 8, [(0, vR (some 59)), (1, vR (some 5))], [vR (some 6), vR (some 60)], hp q)) rfl (S_call (m' := 88) (args := [vR (some 60), vR (some 6)]) (h := hp q) (k := fun r => (0, 0, 11, [(0, vR (some 59)), (1, vR (some 5))], r.1.toList ++ [], r.2)) rfl (T_Ws_copyFrom_60_6 q ) (fun r_1 => S_run 4 (f' := (0, 0, 19, [(0, vR (some 59)), (1, vR (some 5))], [vR (some 12), vR (some 66)], hp r_1)) rfl (S_call (m' := 21) (args := [vR (some 66), vR (some 12)]) (h := hp r_1) (k := fun r => (0, 0, 22, [(0, vR (some 59)), (1, vR (some 5))], r.1.toList ++ [], r.2)) rfl (T_Me_copyFrom_66_12 r_1 ) (fun r_2 => S_run 4 (f' := (0, 0, 30, [(0, vR (some 59)), (1, vR (some 5))], [vR (some 13), vR (some 67)], hp r_2)) rfl (S_call (m' := 38) (args := [vR (some 67), vR (some 13)]) (h := hp r_2) (k := fun r => (0, 0, 33, [(0, vR (some 59)), (1, vR (some 5))], r.1.toList ++ [], r.2)) rfl (T_Po_copyFrom_67_13 r_2 ) (fun r_3 => S_run 0 (f' := (0, 0, 33, [(0, vR (some 59)), (1, vR (some 5))], [], hp r_3)) rfl (S_ret rfl))))))))

def Ws_copyFrom_47_6_b68 (q : zM)  : Option zM :=
  some (qc q 11 0 52 0 40)
theorem T_Ws_copyFrom_47_6_b68 {E : zE} (q : zM)  : SimV E 88 (0, 0, 68, [(0, vR (some 47)), (1, vR (some 6))], [], hp q) eV (Ws_copyFrom_47_6_b68 q ) := by
  unfold Ws_copyFrom_47_6_b68
  exact S_run 8 (f' := (0, 0, 83, [(0, vR (some 47)), (1, vR (some 6))], [], hp (qc q 11 0 52 0 40))) rfl (S_ret rfl)

def Ws_copyFrom_47_6_b53 (q : zM)  : Option zM :=
  Ws_copyFrom_47_6_b68 (qc q 10 0 51 0 40)
theorem T_Ws_copyFrom_47_6_b53 {E : zE} (q : zM)  : SimV E 88 (0, 0, 53, [(0, vR (some 47)), (1, vR (some 6))], [], hp q) eV (Ws_copyFrom_47_6_b53 q ) := by
  unfold Ws_copyFrom_47_6_b53
  exact S_run 8 (f' := (0, 0, 68, [(0, vR (some 47)), (1, vR (some 6))], [], hp (qc q 10 0 51 0 40))) rfl (T_Ws_copyFrom_47_6_b68 (qc q 10 0 51 0 40))

def Ws_copyFrom_47_6_b38 (q : zM)  : Option zM :=
  Ws_copyFrom_47_6_b53 (qc q 9 0 50 0 40)
theorem T_Ws_copyFrom_47_6_b38 {E : zE} (q : zM)  : SimV E 88 (0, 0, 38, [(0, vR (some 47)), (1, vR (some 6))], [], hp q) eV (Ws_copyFrom_47_6_b38 q ) := by
  unfold Ws_copyFrom_47_6_b38
  exact S_run 8 (f' := (0, 0, 53, [(0, vR (some 47)), (1, vR (some 6))], [], hp (qc q 9 0 50 0 40))) rfl (T_Ws_copyFrom_47_6_b53 (qc q 9 0 50 0 40))

def Ws_copyFrom_47_6_b23 (q : zM)  : Option zM :=
  Ws_copyFrom_47_6_b38 (qc q 8 0 49 0 40)
theorem T_Ws_copyFrom_47_6_b23 {E : zE} (q : zM)  : SimV E 88 (0, 0, 23, [(0, vR (some 47)), (1, vR (some 6))], [], hp q) eV (Ws_copyFrom_47_6_b23 q ) := by
  unfold Ws_copyFrom_47_6_b23
  exact S_run 8 (f' := (0, 0, 38, [(0, vR (some 47)), (1, vR (some 6))], [], hp (qc q 8 0 49 0 40))) rfl (T_Ws_copyFrom_47_6_b38 (qc q 8 0 49 0 40))

def Ws_copyFrom_47_6_b8 (q : zM)  : Option zM :=
  Ws_copyFrom_47_6_b23 (qcl q 7 0 48 0 40)
theorem T_Ws_copyFrom_47_6_b8 {E : zE} (q : zM)  : SimV E 88 (0, 0, 8, [(0, vR (some 47)), (1, vR (some 6))], [], hp q) eV (Ws_copyFrom_47_6_b8 q ) := by
  unfold Ws_copyFrom_47_6_b8
  exact S_run 8 (f' := (0, 0, 23, [(0, vR (some 47)), (1, vR (some 6))], [], hp (qcl q 7 0 48 0 40))) rfl (T_Ws_copyFrom_47_6_b23 (qcl q 7 0 48 0 40))

def Ws_copyFrom_47_6 (q : zM)  : Option zM :=
  Ws_copyFrom_47_6_b8 (qs q 47 0 (q.1 6 0))
theorem T_Ws_copyFrom_47_6 {E : zE} (q : zM)  : SimV E 88 (entF [vR (some 47), vR (some 6)] (hp q)) eV (Ws_copyFrom_47_6 q ) := by
  unfold Ws_copyFrom_47_6
  exact S_run 0 (f' := (0, 0, 0, [(0, vR (some 47)), (1, vR (some 6))], [], hp q)) rfl (S_run 4 (f' := (0, 0, 8, [(0, vR (some 47)), (1, vR (some 6))], [], hp (qs q 47 0 (q.1 6 0)))) rfl (T_Ws_copyFrom_47_6_b8 (qs q 47 0 (q.1 6 0))))

def Me_change_53_b5 (q : zM) (v1 : Int) (v2 : Int) : Option zM :=
  some (qs q 53 1 v2)
theorem T_Me_change_53_b5 {E : zE} (q : zM) (v1 : Int) (v2 : Int) : SimV E 17 (0, 0, 5, [(0, vR (some 53)), (1, vI v1), (2, vI v2)], [], hp q) eV (Me_change_53_b5 q v1 v2) := by
  unfold Me_change_53_b5
  exact S_run 3 (f' := (0, 0, 10, [(0, vR (some 53)), (1, vI v1), (2, vI v2)], [], hp (qs q 53 1 v2))) rfl (S_ret rfl)

def Me_change_53 (q : zM) (v1 : Int) (v2 : Int) : Option zM :=
  Me_change_53_b5 (qs q 53 0 v1) v1 v2
theorem T_Me_change_53 {E : zE} (q : zM) (v1 : Int) (v2 : Int) : SimV E 17 (entF [vR (some 53), vI v1, vI v2] (hp q)) eV (Me_change_53 q v1 v2) := by
  unfold Me_change_53
  exact S_run 0 (f' := (0, 0, 0, [(0, vR (some 53)), (1, vI v1), (2, vI v2)], [], hp q)) rfl (S_run 3 (f' := (0, 0, 5, [(0, vR (some 53)), (1, vI v1), (2, vI v2)], [], hp (qs q 53 0 v1))) rfl (T_Me_change_53_b5 (qs q 53 0 v1) v1 v2))

def Me_copyFrom_53_12 (q : zM)  : Option zM :=
  (Me_change_53 q (q.1 12 0) (q.1 12 1)).bind fun r_1 =>
    some r_1
theorem T_Me_copyFrom_53_12 {E : zE} (q : zM)  : SimV E 21 (entF [vR (some 53), vR (some 12)] (hp q)) eV (Me_copyFrom_53_12 q ) := by
  unfold Me_copyFrom_53_12
  exact S_run 0 (f' := (0, 0, 0, [(0, vR (some 53)), (1, vR (some 12))], [], hp q)) rfl (S_run 5 (f' := (0, 0, 9, [(0, vR (some 53)), (1, vR (some 12))], [vI (q.1 12 1), vI (q.1 12 0), vR (some 53)], hp q)) rfl (S_call (m' := 17) (args := [vR (some 53), vI (q.1 12 0), vI (q.1 12 1)]) (h := hp q) (k := fun r => (0, 0, 12, [(0, vR (some 53)), (1, vR (some 12))], r.1.toList ++ [], r.2)) rfl (T_Me_change_53 q (q.1 12 0) (q.1 12 1)) (fun r_1 => S_run 0 (f' := (0, 0, 12, [(0, vR (some 53)), (1, vR (some 12))], [], hp r_1)) rfl (S_ret rfl))))

def Po_copyFrom_54_13_b53 (q : zM)  : Option zM :=
  some (qc q 17 0 58 0 96)
theorem T_Po_copyFrom_54_13_b53 {E : zE} (q : zM)  : SimV E 38 (0, 0, 53, [(0, vR (some 54)), (1, vR (some 13))], [], hp q) eV (Po_copyFrom_54_13_b53 q ) := by
  unfold Po_copyFrom_54_13_b53
  exact S_run 8 (f' := (0, 0, 68, [(0, vR (some 54)), (1, vR (some 13))], [], hp (qc q 17 0 58 0 96))) rfl (S_ret rfl)

def Po_copyFrom_54_13_b38 (q : zM)  : Option zM :=
  Po_copyFrom_54_13_b53 (qc q 16 0 57 0 8)
theorem T_Po_copyFrom_54_13_b38 {E : zE} (q : zM)  : SimV E 38 (0, 0, 38, [(0, vR (some 54)), (1, vR (some 13))], [], hp q) eV (Po_copyFrom_54_13_b38 q ) := by
  unfold Po_copyFrom_54_13_b38
  exact S_run 8 (f' := (0, 0, 53, [(0, vR (some 54)), (1, vR (some 13))], [], hp (qc q 16 0 57 0 8))) rfl (T_Po_copyFrom_54_13_b53 (qc q 16 0 57 0 8))

def Po_copyFrom_54_13_b23 (q : zM)  : Option zM :=
  Po_copyFrom_54_13_b38 (qc q 15 0 56 0 8)
theorem T_Po_copyFrom_54_13_b23 {E : zE} (q : zM)  : SimV E 38 (0, 0, 23, [(0, vR (some 54)), (1, vR (some 13))], [], hp q) eV (Po_copyFrom_54_13_b23 q ) := by
  unfold Po_copyFrom_54_13_b23
  exact S_run 8 (f' := (0, 0, 38, [(0, vR (some 54)), (1, vR (some 13))], [], hp (qc q 15 0 56 0 8))) rfl (T_Po_copyFrom_54_13_b38 (qc q 15 0 56 0 8))

def Po_copyFrom_54_13_b8 (q : zM)  : Option zM :=
  Po_copyFrom_54_13_b23 (qc q 14 0 55 0 8)
theorem T_Po_copyFrom_54_13_b8 {E : zE} (q : zM)  : SimV E 38 (0, 0, 8, [(0, vR (some 54)), (1, vR (some 13))], [], hp q) eV (Po_copyFrom_54_13_b8 q ) := by
  unfold Po_copyFrom_54_13_b8
  exact S_run 8 (f' := (0, 0, 23, [(0, vR (some 54)), (1, vR (some 13))], [], hp (qc q 14 0 55 0 8))) rfl (T_Po_copyFrom_54_13_b23 (qc q 14 0 55 0 8))

def Po_copyFrom_54_13 (q : zM)  : Option zM :=
  Po_copyFrom_54_13_b8 (qs q 54 0 (q.1 13 0))
theorem T_Po_copyFrom_54_13 {E : zE} (q : zM)  : SimV E 38 (entF [vR (some 54), vR (some 13)] (hp q)) eV (Po_copyFrom_54_13 q ) := by
  unfold Po_copyFrom_54_13
  exact S_run 0 (f' := (0, 0, 0, [(0, vR (some 54)), (1, vR (some 13))], [], hp q)) rfl (S_run 4 (f' := (0, 0, 8, [(0, vR (some 54)), (1, vR (some 13))], [], hp (qs q 54 0 (q.1 13 0)))) rfl (T_Po_copyFrom_54_13_b8 (qs q 54 0 (q.1 13 0))))

def St_copyFrom_46_5 (q : zM)  : Option zM :=
  (Ws_copyFrom_47_6 q ).bind fun r_1 =>
    (Me_copyFrom_53_12 r_1 ).bind fun r_2 =>
      (Po_copyFrom_54_13 r_2 ).bind fun r_3 =>
        some r_3
theorem T_St_copyFrom_46_5 {E : zE} (q : zM)  : SimV E 45 (entF [vR (some 46), vR (some 5)] (hp q)) eV (St_copyFrom_46_5 q ) := by
  unfold St_copyFrom_46_5
  exact S_run 0 (f' := (0, 0, 0, [(0, vR (some 46)), (1, vR (some 5))], [], hp q)) rfl (S_run 4 (f' := (0, 0, 8, [(0, vR (some 46)), (1, vR (some 5))], [vR (some 6), vR (some 47)], hp q)) rfl (S_call (m' := 88) (args := [vR (some 47), vR (some 6)]) (h := hp q) (k := fun r => (0, 0, 11, [(0, vR (some 46)), (1, vR (some 5))], r.1.toList ++ [], r.2)) rfl (T_Ws_copyFrom_47_6 q ) (fun r_1 => S_run 4 (f' := (0, 0, 19, [(0, vR (some 46)), (1, vR (some 5))], [vR (some 12), vR (some 53)], hp r_1)) rfl (S_call (m' := 21) (args := [vR (some 53), vR (some 12)]) (h := hp r_1) (k := fun r => (0, 0, 22, [(0, vR (some 46)), (1, vR (some 5))], r.1.toList ++ [], r.2)) rfl (T_Me_copyFrom_53_12 r_1 ) (fun r_2 => S_run 4 (f' := (0, 0, 30, [(0, vR (some 46)), (1, vR (some 5))], [vR (some 13), vR (some 54)], hp r_2)) rfl (S_call (m' := 38) (args := [vR (some 54), vR (some 13)]) (h := hp r_2) (k := fun r => (0, 0, 33, [(0, vR (some 46)), (1, vR (some 5))], r.1.toList ++ [], r.2)) rfl (T_Po_copyFrom_54_13 r_2 ) (fun r_3 => S_run 0 (f' := (0, 0, 33, [(0, vR (some 46)), (1, vR (some 5))], [], hp r_3)) rfl (S_ret rfl))))))))

def Ws_copyFrom_34_6_b68 (q : zM)  : Option zM :=
  some (qc q 11 0 39 0 40)
theorem T_Ws_copyFrom_34_6_b68 {E : zE} (q : zM)  : SimV E 88 (0, 0, 68, [(0, vR (some 34)), (1, vR (some 6))], [], hp q) eV (Ws_copyFrom_34_6_b68 q ) := by
  unfold Ws_copyFrom_34_6_b68
  exact S_run 8 (f' := (0, 0, 83, [(0, vR (some 34)), (1, vR (some 6))], [], hp (qc q 11 0 39 0 40))) rfl (S_ret rfl)

def Ws_copyFrom_34_6_b53 (q : zM)  : Option zM :=
  Ws_copyFrom_34_6_b68 (qc q 10 0 38 0 40)
theorem T_Ws_copyFrom_34_6_b53 {E : zE} (q : zM)  : SimV E 88 (0, 0, 53, [(0, vR (some 34)), (1, vR (some 6))], [], hp q) eV (Ws_copyFrom_34_6_b53 q ) := by
  unfold Ws_copyFrom_34_6_b53
  exact S_run 8 (f' := (0, 0, 68, [(0, vR (some 34)), (1, vR (some 6))], [], hp (qc q 10 0 38 0 40))) rfl (T_Ws_copyFrom_34_6_b68 (qc q 10 0 38 0 40))

def Ws_copyFrom_34_6_b38 (q : zM)  : Option zM :=
  Ws_copyFrom_34_6_b53 (qc q 9 0 37 0 40)
theorem T_Ws_copyFrom_34_6_b38 {E : zE} (q : zM)  : SimV E 88 (0, 0, 38, [(0, vR (some 34)), (1, vR (some 6))], [], hp q) eV (Ws_copyFrom_34_6_b38 q ) := by
  unfold Ws_copyFrom_34_6_b38
  exact S_run 8 (f' := (0, 0, 53, [(0, vR (some 34)), (1, vR (some 6))], [], hp (qc q 9 0 37 0 40))) rfl (T_Ws_copyFrom_34_6_b53 (qc q 9 0 37 0 40))

def Ws_copyFrom_34_6_b23 (q : zM)  : Option zM :=
  Ws_copyFrom_34_6_b38 (qc q 8 0 36 0 40)
theorem T_Ws_copyFrom_34_6_b23 {E : zE} (q : zM)  : SimV E 88 (0, 0, 23, [(0, vR (some 34)), (1, vR (some 6))], [], hp q) eV (Ws_copyFrom_34_6_b23 q ) := by
  unfold Ws_copyFrom_34_6_b23
  exact S_run 8 (f' := (0, 0, 38, [(0, vR (some 34)), (1, vR (some 6))], [], hp (qc q 8 0 36 0 40))) rfl (T_Ws_copyFrom_34_6_b38 (qc q 8 0 36 0 40))

def Ws_copyFrom_34_6_b8 (q : zM)  : Option zM :=
  Ws_copyFrom_34_6_b23 (qcl q 7 0 35 0 40)
theorem T_Ws_copyFrom_34_6_b8 {E : zE} (q : zM)  : SimV E 88 (0, 0, 8, [(0, vR (some 34)), (1, vR (some 6))], [], hp q) eV (Ws_copyFrom_34_6_b8 q ) := by
  unfold Ws_copyFrom_34_6_b8
  exact S_run 8 (f' := (0, 0, 23, [(0, vR (some 34)), (1, vR (some 6))], [], hp (qcl q 7 0 35 0 40))) rfl (T_Ws_copyFrom_34_6_b23 (qcl q 7 0 35 0 40))

def Ws_copyFrom_34_6 (q : zM)  : Option zM :=
  Ws_copyFrom_34_6_b8 (qs q 34 0 (q.1 6 0))
theorem T_Ws_copyFrom_34_6 {E : zE} (q : zM)  : SimV E 88 (entF [vR (some 34), vR (some 6)] (hp q)) eV (Ws_copyFrom_34_6 q ) := by
  unfold Ws_copyFrom_34_6
  exact S_run 0 (f' := (0, 0, 0, [(0, vR (some 34)), (1, vR (some 6))], [], hp q)) rfl (S_run 4 (f' := (0, 0, 8, [(0, vR (some 34)), (1, vR (some 6))], [], hp (qs q 34 0 (q.1 6 0)))) rfl (T_Ws_copyFrom_34_6_b8 (qs q 34 0 (q.1 6 0))))

def Me_change_40_b5 (q : zM) (v1 : Int) (v2 : Int) : Option zM :=
  some (qs q 40 1 v2)
theorem T_Me_change_40_b5 {E : zE} (q : zM) (v1 : Int) (v2 : Int) : SimV E 17 (0, 0, 5, [(0, vR (some 40)), (1, vI v1), (2, vI v2)], [], hp q) eV (Me_change_40_b5 q v1 v2) := by
  unfold Me_change_40_b5
  exact S_run 3 (f' := (0, 0, 10, [(0, vR (some 40)), (1, vI v1), (2, vI v2)], [], hp (qs q 40 1 v2))) rfl (S_ret rfl)

def Me_change_40 (q : zM) (v1 : Int) (v2 : Int) : Option zM :=
  Me_change_40_b5 (qs q 40 0 v1) v1 v2
theorem T_Me_change_40 {E : zE} (q : zM) (v1 : Int) (v2 : Int) : SimV E 17 (entF [vR (some 40), vI v1, vI v2] (hp q)) eV (Me_change_40 q v1 v2) := by
  unfold Me_change_40
  exact S_run 0 (f' := (0, 0, 0, [(0, vR (some 40)), (1, vI v1), (2, vI v2)], [], hp q)) rfl (S_run 3 (f' := (0, 0, 5, [(0, vR (some 40)), (1, vI v1), (2, vI v2)], [], hp (qs q 40 0 v1))) rfl (T_Me_change_40_b5 (qs q 40 0 v1) v1 v2))

def Me_copyFrom_40_12 (q : zM)  : Option zM :=
  (Me_change_40 q (q.1 12 0) (q.1 12 1)).bind fun r_1 =>
    some r_1
theorem T_Me_copyFrom_40_12 {E : zE} (q : zM)  : SimV E 21 (entF [vR (some 40), vR (some 12)] (hp q)) eV (Me_copyFrom_40_12 q ) := by
  unfold Me_copyFrom_40_12
  exact S_run 0 (f' := (0, 0, 0, [(0, vR (some 40)), (1, vR (some 12))], [], hp q)) rfl (S_run 5 (f' := (0, 0, 9, [(0, vR (some 40)), (1, vR (some 12))], [vI (q.1 12 1), vI (q.1 12 0), vR (some 40)], hp q)) rfl (S_call (m' := 17) (args := [vR (some 40), vI (q.1 12 0), vI (q.1 12 1)]) (h := hp q) (k := fun r => (0, 0, 12, [(0, vR (some 40)), (1, vR (some 12))], r.1.toList ++ [], r.2)) rfl (T_Me_change_40 q (q.1 12 0) (q.1 12 1)) (fun r_1 => S_run 0 (f' := (0, 0, 12, [(0, vR (some 40)), (1, vR (some 12))], [], hp r_1)) rfl (S_ret rfl))))

def Po_copyFrom_41_13_b53 (q : zM)  : Option zM :=
  some (qc q 17 0 45 0 96)
theorem T_Po_copyFrom_41_13_b53 {E : zE} (q : zM)  : SimV E 38 (0, 0, 53, [(0, vR (some 41)), (1, vR (some 13))], [], hp q) eV (Po_copyFrom_41_13_b53 q ) := by
  unfold Po_copyFrom_41_13_b53
  exact S_run 8 (f' := (0, 0, 68, [(0, vR (some 41)), (1, vR (some 13))], [], hp (qc q 17 0 45 0 96))) rfl (S_ret rfl)

def Po_copyFrom_41_13_b38 (q : zM)  : Option zM :=
  Po_copyFrom_41_13_b53 (qc q 16 0 44 0 8)
theorem T_Po_copyFrom_41_13_b38 {E : zE} (q : zM)  : SimV E 38 (0, 0, 38, [(0, vR (some 41)), (1, vR (some 13))], [], hp q) eV (Po_copyFrom_41_13_b38 q ) := by
  unfold Po_copyFrom_41_13_b38
  exact S_run 8 (f' := (0, 0, 53, [(0, vR (some 41)), (1, vR (some 13))], [], hp (qc q 16 0 44 0 8))) rfl (T_Po_copyFrom_41_13_b53 (qc q 16 0 44 0 8))

def Po_copyFrom_41_13_b23 (q : zM)  : Option zM :=
  Po_copyFrom_41_13_b38 (qc q 15 0 43 0 8)
theorem T_Po_copyFrom_41_13_b23 {E : zE} (q : zM)  : SimV E 38 (0, 0, 23, [(0, vR (some 41)), (1, vR (some 13))], [], hp q) eV (Po_copyFrom_41_13_b23 q ) := by
  unfold Po_copyFrom_41_13_b23
  exact S_run 8 (f' := (0, 0, 38, [(0, vR (some 41)), (1, vR (some 13))], [], hp (qc q 15 0 43 0 8))) rfl (T_Po_copyFrom_41_13_b38 (qc q 15 0 43 0 8))

def Po_copyFrom_41_13_b8 (q : zM)  : Option zM :=
  Po_copyFrom_41_13_b23 (qc q 14 0 42 0 8)
theorem T_Po_copyFrom_41_13_b8 {E : zE} (q : zM)  : SimV E 38 (0, 0, 8, [(0, vR (some 41)), (1, vR (some 13))], [], hp q) eV (Po_copyFrom_41_13_b8 q ) := by
  unfold Po_copyFrom_41_13_b8
  exact S_run 8 (f' := (0, 0, 23, [(0, vR (some 41)), (1, vR (some 13))], [], hp (qc q 14 0 42 0 8))) rfl (T_Po_copyFrom_41_13_b23 (qc q 14 0 42 0 8))

def Po_copyFrom_41_13 (q : zM)  : Option zM :=
  Po_copyFrom_41_13_b8 (qs q 41 0 (q.1 13 0))
theorem T_Po_copyFrom_41_13 {E : zE} (q : zM)  : SimV E 38 (entF [vR (some 41), vR (some 13)] (hp q)) eV (Po_copyFrom_41_13 q ) := by
  unfold Po_copyFrom_41_13
  exact S_run 0 (f' := (0, 0, 0, [(0, vR (some 41)), (1, vR (some 13))], [], hp q)) rfl (S_run 4 (f' := (0, 0, 8, [(0, vR (some 41)), (1, vR (some 13))], [], hp (qs q 41 0 (q.1 13 0)))) rfl (T_Po_copyFrom_41_13_b8 (qs q 41 0 (q.1 13 0))))

def St_copyFrom_33_5 (q : zM)  : Option zM :=
  (Ws_copyFrom_34_6 q ).bind fun r_1 =>
    (Me_copyFrom_40_12 r_1 ).bind fun r_2 =>
      (Po_copyFrom_41_13 r_2 ).bind fun r_3 =>
        some r_3
theorem T_St_copyFrom_33_5 {E : zE} (q : zM)  : SimV E 45 (entF [vR (some 33), vR (some 5)] (hp q)) eV (St_copyFrom_33_5 q ) := by
  unfold St_copyFrom_33_5
  exact S_run 0 (f' := (0, 0, 0, [(0, vR (some 33)), (1, vR (some 5))], [], hp q)) rfl (S_run 4 (f' := (0, 0, 8, [(0, vR (some 33)), (1, vR (some 5))], [vR (some 6), vR (some 34)], hp q)) rfl (S_call (m' := 88) (args := [vR (some 34), vR (some 6)]) (h := hp q) (k := fun r => (0, 0, 11, [(0, vR (some 33)), (1, vR (some 5))], r.1.toList ++ [], r.2)) rfl (T_Ws_copyFrom_34_6 q ) (fun r_1 => S_run 4 (f' := (0, 0, 19, [(0, vR (some 33)), (1, vR (some 5))], [vR (some 12), vR (some 40)], hp r_1)) rfl (S_call (m' := 21) (args := [vR (some 40), vR (some 12)]) (h := hp r_1) (k := fun r => (0, 0, 22, [(0, vR (some 33)), (1, vR (some 5))], r.1.toList ++ [], r.2)) rfl (T_Me_copyFrom_40_12 r_1 ) (fun r_2 => S_run 4 (f' := (0, 0, 30, [(0, vR (some 33)), (1, vR (some 5))], [vR (some 13), vR (some 41)], hp r_2)) rfl (S_call (m' := 38) (args := [vR (some 41), vR (some 13)]) (h := hp r_2) (k := fun r => (0, 0, 33, [(0, vR (some 33)), (1, vR (some 5))], r.1.toList ++ [], r.2)) rfl (T_Po_copyFrom_41_13 r_2 ) (fun r_3 => S_run 0 (f' := (0, 0, 33, [(0, vR (some 33)), (1, vR (some 5))], [], hp r_3)) rfl (S_ret rfl))))))))

def Ws_copyFrom_21_6_b68 (q : zM)  : Option zM :=
  some (qc q 11 0 26 0 40)
theorem T_Ws_copyFrom_21_6_b68 {E : zE} (q : zM)  : SimV E 88 (0, 0, 68, [(0, vR (some 21)), (1, vR (some 6))], [], hp q) eV (Ws_copyFrom_21_6_b68 q ) := by
  unfold Ws_copyFrom_21_6_b68
  exact S_run 8 (f' := (0, 0, 83, [(0, vR (some 21)), (1, vR (some 6))], [], hp (qc q 11 0 26 0 40))) rfl (S_ret rfl)

def Ws_copyFrom_21_6_b53 (q : zM)  : Option zM :=
  Ws_copyFrom_21_6_b68 (qc q 10 0 25 0 40)
theorem T_Ws_copyFrom_21_6_b53 {E : zE} (q : zM)  : SimV E 88 (0, 0, 53, [(0, vR (some 21)), (1, vR (some 6))], [], hp q) eV (Ws_copyFrom_21_6_b53 q ) := by
  unfold Ws_copyFrom_21_6_b53
  exact S_run 8 (f' := (0, 0, 68, [(0, vR (some 21)), (1, vR (some 6))], [], hp (qc q 10 0 25 0 40))) rfl (T_Ws_copyFrom_21_6_b68 (qc q 10 0 25 0 40))

def Ws_copyFrom_21_6_b38 (q : zM)  : Option zM :=
  Ws_copyFrom_21_6_b53 (qc q 9 0 24 0 40)
theorem T_Ws_copyFrom_21_6_b38 {E : zE} (q : zM)  : SimV E 88 (0, 0, 38, [(0, vR (some 21)), (1, vR (some 6))], [], hp q) eV (Ws_copyFrom_21_6_b38 q ) := by
  unfold Ws_copyFrom_21_6_b38
  exact S_run 8 (f' := (0, 0, 53, [(0, vR (some 21)), (1, vR (some 6))], [], hp (qc q 9 0 24 0 40))) rfl (T_Ws_copyFrom_21_6_b53 (qc q 9 0 24 0 40))

def Ws_copyFrom_21_6_b23 (q : zM)  : Option zM :=
  Ws_copyFrom_21_6_b38 (qc q 8 0 23 0 40)
theorem T_Ws_copyFrom_21_6_b23 {E : zE} (q : zM)  : SimV E 88 (0, 0, 23, [(0, vR (some 21)), (1, vR (some 6))], [], hp q) eV (Ws_copyFrom_21_6_b23 q ) := by
  unfold Ws_copyFrom_21_6_b23
  exact S_run 8 (f' := (0, 0, 38, [(0, vR (some 21)), (1, vR (some 6))], [], hp (qc q 8 0 23 0 40))) rfl (T_Ws_copyFrom_21_6_b38 (qc q 8 0 23 0 40))

def Ws_copyFrom_21_6_b8 (q : zM)  : Option zM :=
  Ws_copyFrom_21_6_b23 (qcl q 7 0 22 0 40)
theorem T_Ws_copyFrom_21_6_b8 {E : zE} (q : zM)  : SimV E 88 (0, 0, 8, [(0, vR (some 21)), (1, vR (some 6))], [], hp q) eV (Ws_copyFrom_21_6_b8 q ) := by
  unfold Ws_copyFrom_21_6_b8
  exact S_run 8 (f' := (0, 0, 23, [(0, vR (some 21)), (1, vR (some 6))], [], hp (qcl q 7 0 22 0 40))) rfl (T_Ws_copyFrom_21_6_b23 (qcl q 7 0 22 0 40))

def Ws_copyFrom_21_6 (q : zM)  : Option zM :=
  Ws_copyFrom_21_6_b8 (qs q 21 0 (q.1 6 0))
theorem T_Ws_copyFrom_21_6 {E : zE} (q : zM)  : SimV E 88 (entF [vR (some 21), vR (some 6)] (hp q)) eV (Ws_copyFrom_21_6 q ) := by
  unfold Ws_copyFrom_21_6
  exact S_run 0 (f' := (0, 0, 0, [(0, vR (some 21)), (1, vR (some 6))], [], hp q)) rfl (S_run 4 (f' := (0, 0, 8, [(0, vR (some 21)), (1, vR (some 6))], [], hp (qs q 21 0 (q.1 6 0)))) rfl (T_Ws_copyFrom_21_6_b8 (qs q 21 0 (q.1 6 0))))

def Me_change_27_b5 (q : zM) (v1 : Int) (v2 : Int) : Option zM :=
  some (qs q 27 1 v2)
theorem T_Me_change_27_b5 {E : zE} (q : zM) (v1 : Int) (v2 : Int) : SimV E 17 (0, 0, 5, [(0, vR (some 27)), (1, vI v1), (2, vI v2)], [], hp q) eV (Me_change_27_b5 q v1 v2) := by
  unfold Me_change_27_b5
  exact S_run 3 (f' := (0, 0, 10, [(0, vR (some 27)), (1, vI v1), (2, vI v2)], [], hp (qs q 27 1 v2))) rfl (S_ret rfl)

def Me_change_27 (q : zM) (v1 : Int) (v2 : Int) : Option zM :=
  Me_change_27_b5 (qs q 27 0 v1) v1 v2
theorem T_Me_change_27 {E : zE} (q : zM) (v1 : Int) (v2 : Int) : SimV E 17 (entF [vR (some 27), vI v1, vI v2] (hp q)) eV (Me_change_27 q v1 v2) := by
  unfold Me_change_27
  exact S_run 0 (f' := (0, 0, 0, [(0, vR (some 27)), (1, vI v1), (2, vI v2)], [], hp q)) rfl (S_run 3 (f' := (0, 0, 5, [(0, vR (some 27)), (1, vI v1), (2, vI v2)], [], hp (qs q 27 0 v1))) rfl (T_Me_change_27_b5 (qs q 27 0 v1) v1 v2))

def Me_copyFrom_27_12 (q : zM)  : Option zM :=
  (Me_change_27 q (q.1 12 0) (q.1 12 1)).bind fun r_1 =>
    some r_1
theorem T_Me_copyFrom_27_12 {E : zE} (q : zM)  : SimV E 21 (entF [vR (some 27), vR (some 12)] (hp q)) eV (Me_copyFrom_27_12 q ) := by
  unfold Me_copyFrom_27_12
  exact S_run 0 (f' := (0, 0, 0, [(0, vR (some 27)), (1, vR (some 12))], [], hp q)) rfl (S_run 5 (f' := (0, 0, 9, [(0, vR (some 27)), (1, vR (some 12))], [vI (q.1 12 1), vI (q.1 12 0), vR (some 27)], hp q)) rfl (S_call (m' := 17) (args := [vR (some 27), vI (q.1 12 0), vI (q.1 12 1)]) (h := hp q) (k := fun r => (0, 0, 12, [(0, vR (some 27)), (1, vR (some 12))], r.1.toList ++ [], r.2)) rfl (T_Me_change_27 q (q.1 12 0) (q.1 12 1)) (fun r_1 => S_run 0 (f' := (0, 0, 12, [(0, vR (some 27)), (1, vR (some 12))], [], hp r_1)) rfl (S_ret rfl))))

def Po_copyFrom_28_13_b53 (q : zM)  : Option zM :=
  some (qc q 17 0 32 0 96)
theorem T_Po_copyFrom_28_13_b53 {E : zE} (q : zM)  : SimV E 38 (0, 0, 53, [(0, vR (some 28)), (1, vR (some 13))], [], hp q) eV (Po_copyFrom_28_13_b53 q ) := by
  unfold Po_copyFrom_28_13_b53
  exact S_run 8 (f' := (0, 0, 68, [(0, vR (some 28)), (1, vR (some 13))], [], hp (qc q 17 0 32 0 96))) rfl (S_ret rfl)

def Po_copyFrom_28_13_b38 (q : zM)  : Option zM :=
  Po_copyFrom_28_13_b53 (qc q 16 0 31 0 8)
theorem T_Po_copyFrom_28_13_b38 {E : zE} (q : zM)  : SimV E 38 (0, 0, 38, [(0, vR (some 28)), (1, vR (some 13))], [], hp q) eV (Po_copyFrom_28_13_b38 q ) := by
  unfold Po_copyFrom_28_13_b38
  exact S_run 8 (f' := (0, 0, 53, [(0, vR (some 28)), (1, vR (some 13))], [], hp (qc q 16 0 31 0 8))) rfl (T_Po_copyFrom_28_13_b53 (qc q 16 0 31 0 8))

def Po_copyFrom_28_13_b23 (q : zM)  : Option zM :=
  Po_copyFrom_28_13_b38 (qc q 15 0 30 0 8)
theorem T_Po_copyFrom_28_13_b23 {E : zE} (q : zM)  : SimV E 38 (0, 0, 23, [(0, vR (some 28)), (1, vR (some 13))], [], hp q) eV (Po_copyFrom_28_13_b23 q ) := by
  unfold Po_copyFrom_28_13_b23
  exact S_run 8 (f' := (0, 0, 38, [(0, vR (some 28)), (1, vR (some 13))], [], hp (qc q 15 0 30 0 8))) rfl (T_Po_copyFrom_28_13_b38 (qc q 15 0 30 0 8))

def Po_copyFrom_28_13_b8 (q : zM)  : Option zM :=
  Po_copyFrom_28_13_b23 (qc q 14 0 29 0 8)
theorem T_Po_copyFrom_28_13_b8 {E : zE} (q : zM)  : SimV E 38 (0, 0, 8, [(0, vR (some 28)), (1, vR (some 13))], [], hp q) eV (Po_copyFrom_28_13_b8 q ) := by
  unfold Po_copyFrom_28_13_b8
  exact S_run 8 (f' := (0, 0, 23, [(0, vR (some 28)), (1, vR (some 13))], [], hp (qc q 14 0 29 0 8))) rfl (T_Po_copyFrom_28_13_b23 (qc q 14 0 29 0 8))

def Po_copyFrom_28_13 (q : zM)  : Option zM :=
  Po_copyFrom_28_13_b8 (qs q 28 0 (q.1 13 0))
theorem T_Po_copyFrom_28_13 {E : zE} (q : zM)  : SimV E 38 (entF [vR (some 28), vR (some 13)] (hp q)) eV (Po_copyFrom_28_13 q ) := by
  unfold Po_copyFrom_28_13
  exact S_run 0 (f' := (0, 0, 0, [(0, vR (some 28)), (1, vR (some 13))], [], hp q)) rfl (S_run 4 (f' := (0, 0, 8, [(0, vR (some 28)), (1, vR (some 13))], [], hp (qs q 28 0 (q.1 13 0)))) rfl (T_Po_copyFrom_28_13_b8 (qs q 28 0 (q.1 13 0))))

def St_copyFrom_20_5 (q : zM)  : Option zM :=
  (Ws_copyFrom_21_6 q ).bind fun r_1 =>
    (Me_copyFrom_27_12 r_1 ).bind fun r_2 =>
      (Po_copyFrom_28_13 r_2 ).bind fun r_3 =>
        some r_3
theorem T_St_copyFrom_20_5 {E : zE} (q : zM)  : SimV E 45 (entF [vR (some 20), vR (some 5)] (hp q)) eV (St_copyFrom_20_5 q ) := by
  unfold St_copyFrom_20_5
  exact S_run 0 (f' := (0, 0, 0, [(0, vR (some 20)), (1, vR (some 5))], [], hp q)) rfl (S_run 4 (f' := (0, 0, 8, [(0, vR (some 20)), (1, vR (some 5))], [vR (some 6), vR (some 21)], hp q)) rfl (S_call (m' := 88) (args := [vR (some 21), vR (some 6)]) (h := hp q) (k := fun r => (0, 0, 11, [(0, vR (some 20)), (1, vR (some 5))], r.1.toList ++ [], r.2)) rfl (T_Ws_copyFrom_21_6 q ) (fun r_1 => S_run 4 (f' := (0, 0, 19, [(0, vR (some 20)), (1, vR (some 5))], [vR (some 12), vR (some 27)], hp r_1)) rfl (S_call (m' := 21) (args := [vR (some 27), vR (some 12)]) (h := hp r_1) (k := fun r => (0, 0, 22, [(0, vR (some 20)), (1, vR (some 5))], r.1.toList ++ [], r.2)) rfl (T_Me_copyFrom_27_12 r_1 ) (fun r_2 => S_run 4 (f' := (0, 0, 30, [(0, vR (some 20)), (1, vR (some 5))], [vR (some 13), vR (some 28)], hp r_2)) rfl (S_call (m' := 38) (args := [vR (some 28), vR (some 13)]) (h := hp r_2) (k := fun r => (0, 0, 33, [(0, vR (some 20)), (1, vR (some 5))], r.1.toList ++ [], r.2)) rfl (T_Po_copyFrom_28_13 r_2 ) (fun r_3 => S_run 0 (f' := (0, 0, 33, [(0, vR (some 20)), (1, vR (some 5))], [], hp r_3)) rfl (S_ret rfl))))))))

def Hi_record (q : zM)  : Option zM :=
  (Hi_slotOf q (q.1 18 2)).bind fun r_1 =>
    if wrap r_1 = 0 then
      (St_copyFrom_20_5 q ).bind fun r_15 =>
        if wrap (r_15.1 18 2) < (5 : Int) then
          some (qs r_15 18 2 ((r_15.1 18 2) + (1 : Int)))
        else
          (Hi_slotOf r_15 (1 : Int)).bind fun r_17 =>
            some (qs r_15 18 1 r_17)
    else
      if wrap r_1 = 1 then
        (St_copyFrom_33_5 q ).bind fun r_12 =>
          if wrap (r_12.1 18 2) < (5 : Int) then
            some (qs r_12 18 2 ((r_12.1 18 2) + (1 : Int)))
          else
            (Hi_slotOf r_12 (1 : Int)).bind fun r_14 =>
              some (qs r_12 18 1 r_14)
      else
        if wrap r_1 = 2 then
          (St_copyFrom_46_5 q ).bind fun r_9 =>
            if wrap (r_9.1 18 2) < (5 : Int) then
              some (qs r_9 18 2 ((r_9.1 18 2) + (1 : Int)))
            else
              (Hi_slotOf r_9 (1 : Int)).bind fun r_11 =>
                some (qs r_9 18 1 r_11)
        else
          if wrap r_1 = 3 then
            (St_copyFrom_59_5 q ).bind fun r_6 =>
              if wrap (r_6.1 18 2) < (5 : Int) then
                some (qs r_6 18 2 ((r_6.1 18 2) + (1 : Int)))
              else
                (Hi_slotOf r_6 (1 : Int)).bind fun r_8 =>
                  some (qs r_6 18 1 r_8)
          else
            if wrap r_1 = 4 then
              (St_copyFrom_72_5 q ).bind fun r_3 =>
                if wrap (r_3.1 18 2) < (5 : Int) then
                  some (qs r_3 18 2 ((r_3.1 18 2) + (1 : Int)))
                else
                  (Hi_slotOf r_3 (1 : Int)).bind fun r_5 =>
                    some (qs r_3 18 1 r_5)
            else
              none
theorem T_Hi_record {E : zE} (q : zM)  : SimV E 3 (entF [vR (some 18), vR (some 5)] (hp q)) eV (Hi_record q ) := by
  unfold Hi_record
  exact S_run 0 (f' := (0, 0, 0, [(0, vR (some 18)), (1, vR (some 5))], [], hp q)) rfl (S_run 5 (f' := (0, 0, 9, [(0, vR (some 18)), (1, vR (some 5))], [vI (q.1 18 2), vR (some 18), vR (some 19)], hp q)) rfl (S_call (m' := 2) (args := [vR (some 18), vI (q.1 18 2)]) (h := hp q) (k := fun r => (0, 0, 12, [(0, vR (some 18)), (1, vR (some 5))], r.1.toList ++ [vR (some 19)], r.2)) rfl (T_Hi_slotOf q (q.1 18 2)) (fun r_1 => S_run 0 (f' := (0, 0, 12, [(0, vR (some 18)), (1, vR (some 5))], [vI r_1, vR (some 19)], hp q)) rfl (S_ite (fun h_2_0 => S_go (H_aald (j := 0) rfl rfl rfl h_2_0 (by decide) rfl) (S_run 1 (f' := (0, 0, 14, [(0, vR (some 18)), (1, vR (some 5))], [vR (some 5), vR (some 20)], hp q)) rfl (S_call (m' := 45) (args := [vR (some 20), vR (some 5)]) (h := hp q) (k := fun r => (0, 0, 17, [(0, vR (some 18)), (1, vR (some 5))], r.1.toList ++ [], r.2)) rfl (T_St_copyFrom_20_5 q ) (fun r_15 => S_run 3 (f' := (0, 0, 22, [(0, vR (some 18)), (1, vR (some 5))], [vI (5 : Int), vI (r_15.1 18 2)], hp r_15)) rfl (S_ite (fun h_16 => S_go (J_icmp2 rfl rfl wl_5 (B_ge h_16)) (S_run 7 (f' := (0, 0, 47, [(0, vR (some 18)), (1, vR (some 5))], [], hp (qs r_15 18 2 ((r_15.1 18 2) + (1 : Int))))) rfl (S_ret rfl))) (fun h_16 => S_go (J_icmp2 rfl rfl wl_5 (B_ge' h_16)) (S_run 3 (f' := (0, 0, 41, [(0, vR (some 18)), (1, vR (some 5))], [vI (1 : Int), vR (some 18), vR (some 18)], hp r_15)) rfl (S_call (m' := 2) (args := [vR (some 18), vI (1 : Int)]) (h := hp r_15) (k := fun r => (0, 0, 44, [(0, vR (some 18)), (1, vR (some 5))], r.1.toList ++ [vR (some 18)], r.2)) rfl (T_Hi_slotOf r_15 (1 : Int)) (fun r_17 => S_run 1 (f' := (0, 0, 47, [(0, vR (some 18)), (1, vR (some 5))], [], hp (qs r_15 18 1 r_17))) rfl (S_ret rfl)))))))))) (fun _ => S_ite (fun h_2_1 => S_go (H_aald (j := 1) rfl rfl rfl h_2_1 (by decide) rfl) (S_run 1 (f' := (0, 0, 14, [(0, vR (some 18)), (1, vR (some 5))], [vR (some 5), vR (some 33)], hp q)) rfl (S_call (m' := 45) (args := [vR (some 33), vR (some 5)]) (h := hp q) (k := fun r => (0, 0, 17, [(0, vR (some 18)), (1, vR (some 5))], r.1.toList ++ [], r.2)) rfl (T_St_copyFrom_33_5 q ) (fun r_12 => S_run 3 (f' := (0, 0, 22, [(0, vR (some 18)), (1, vR (some 5))], [vI (5 : Int), vI (r_12.1 18 2)], hp r_12)) rfl (S_ite (fun h_13 => S_go (J_icmp2 rfl rfl wl_5 (B_ge h_13)) (S_run 7 (f' := (0, 0, 47, [(0, vR (some 18)), (1, vR (some 5))], [], hp (qs r_12 18 2 ((r_12.1 18 2) + (1 : Int))))) rfl (S_ret rfl))) (fun h_13 => S_go (J_icmp2 rfl rfl wl_5 (B_ge' h_13)) (S_run 3 (f' := (0, 0, 41, [(0, vR (some 18)), (1, vR (some 5))], [vI (1 : Int), vR (some 18), vR (some 18)], hp r_12)) rfl (S_call (m' := 2) (args := [vR (some 18), vI (1 : Int)]) (h := hp r_12) (k := fun r => (0, 0, 44, [(0, vR (some 18)), (1, vR (some 5))], r.1.toList ++ [vR (some 18)], r.2)) rfl (T_Hi_slotOf r_12 (1 : Int)) (fun r_14 => S_run 1 (f' := (0, 0, 47, [(0, vR (some 18)), (1, vR (some 5))], [], hp (qs r_12 18 1 r_14))) rfl (S_ret rfl)))))))))) (fun _ => S_ite (fun h_2_2 => S_go (H_aald (j := 2) rfl rfl rfl h_2_2 (by decide) rfl) (S_run 1 (f' := (0, 0, 14, [(0, vR (some 18)), (1, vR (some 5))], [vR (some 5), vR (some 46)], hp q)) rfl (S_call (m' := 45) (args := [vR (some 46), vR (some 5)]) (h := hp q) (k := fun r => (0, 0, 17, [(0, vR (some 18)), (1, vR (some 5))], r.1.toList ++ [], r.2)) rfl (T_St_copyFrom_46_5 q ) (fun r_9 => S_run 3 (f' := (0, 0, 22, [(0, vR (some 18)), (1, vR (some 5))], [vI (5 : Int), vI (r_9.1 18 2)], hp r_9)) rfl (S_ite (fun h_10 => S_go (J_icmp2 rfl rfl wl_5 (B_ge h_10)) (S_run 7 (f' := (0, 0, 47, [(0, vR (some 18)), (1, vR (some 5))], [], hp (qs r_9 18 2 ((r_9.1 18 2) + (1 : Int))))) rfl (S_ret rfl))) (fun h_10 => S_go (J_icmp2 rfl rfl wl_5 (B_ge' h_10)) (S_run 3 (f' := (0, 0, 41, [(0, vR (some 18)), (1, vR (some 5))], [vI (1 : Int), vR (some 18), vR (some 18)], hp r_9)) rfl (S_call (m' := 2) (args := [vR (some 18), vI (1 : Int)]) (h := hp r_9) (k := fun r => (0, 0, 44, [(0, vR (some 18)), (1, vR (some 5))], r.1.toList ++ [vR (some 18)], r.2)) rfl (T_Hi_slotOf r_9 (1 : Int)) (fun r_11 => S_run 1 (f' := (0, 0, 47, [(0, vR (some 18)), (1, vR (some 5))], [], hp (qs r_9 18 1 r_11))) rfl (S_ret rfl)))))))))) (fun _ => S_ite (fun h_2_3 => S_go (H_aald (j := 3) rfl rfl rfl h_2_3 (by decide) rfl) (S_run 1 (f' := (0, 0, 14, [(0, vR (some 18)), (1, vR (some 5))], [vR (some 5), vR (some 59)], hp q)) rfl (S_call (m' := 45) (args := [vR (some 59), vR (some 5)]) (h := hp q) (k := fun r => (0, 0, 17, [(0, vR (some 18)), (1, vR (some 5))], r.1.toList ++ [], r.2)) rfl (T_St_copyFrom_59_5 q ) (fun r_6 => S_run 3 (f' := (0, 0, 22, [(0, vR (some 18)), (1, vR (some 5))], [vI (5 : Int), vI (r_6.1 18 2)], hp r_6)) rfl (S_ite (fun h_7 => S_go (J_icmp2 rfl rfl wl_5 (B_ge h_7)) (S_run 7 (f' := (0, 0, 47, [(0, vR (some 18)), (1, vR (some 5))], [], hp (qs r_6 18 2 ((r_6.1 18 2) + (1 : Int))))) rfl (S_ret rfl))) (fun h_7 => S_go (J_icmp2 rfl rfl wl_5 (B_ge' h_7)) (S_run 3 (f' := (0, 0, 41, [(0, vR (some 18)), (1, vR (some 5))], [vI (1 : Int), vR (some 18), vR (some 18)], hp r_6)) rfl (S_call (m' := 2) (args := [vR (some 18), vI (1 : Int)]) (h := hp r_6) (k := fun r => (0, 0, 44, [(0, vR (some 18)), (1, vR (some 5))], r.1.toList ++ [vR (some 18)], r.2)) rfl (T_Hi_slotOf r_6 (1 : Int)) (fun r_8 => S_run 1 (f' := (0, 0, 47, [(0, vR (some 18)), (1, vR (some 5))], [], hp (qs r_6 18 1 r_8))) rfl (S_ret rfl)))))))))) (fun _ => S_ite (fun h_2_4 => S_go (H_aald (j := 4) rfl rfl rfl h_2_4 (by decide) rfl) (S_run 1 (f' := (0, 0, 14, [(0, vR (some 18)), (1, vR (some 5))], [vR (some 5), vR (some 72)], hp q)) rfl (S_call (m' := 45) (args := [vR (some 72), vR (some 5)]) (h := hp q) (k := fun r => (0, 0, 17, [(0, vR (some 18)), (1, vR (some 5))], r.1.toList ++ [], r.2)) rfl (T_St_copyFrom_72_5 q ) (fun r_3 => S_run 3 (f' := (0, 0, 22, [(0, vR (some 18)), (1, vR (some 5))], [vI (5 : Int), vI (r_3.1 18 2)], hp r_3)) rfl (S_ite (fun h_4 => S_go (J_icmp2 rfl rfl wl_5 (B_ge h_4)) (S_run 7 (f' := (0, 0, 47, [(0, vR (some 18)), (1, vR (some 5))], [], hp (qs r_3 18 2 ((r_3.1 18 2) + (1 : Int))))) rfl (S_ret rfl))) (fun h_4 => S_go (J_icmp2 rfl rfl wl_5 (B_ge' h_4)) (S_run 3 (f' := (0, 0, 41, [(0, vR (some 18)), (1, vR (some 5))], [vI (1 : Int), vR (some 18), vR (some 18)], hp r_3)) rfl (S_call (m' := 2) (args := [vR (some 18), vI (1 : Int)]) (h := hp r_3) (k := fun r => (0, 0, 44, [(0, vR (some 18)), (1, vR (some 5))], r.1.toList ++ [vR (some 18)], r.2)) rfl (T_Hi_slotOf r_3 (1 : Int)) (fun r_5 => S_run 1 (f' := (0, 0, 47, [(0, vR (some 18)), (1, vR (some 5))], [], hp (qs r_3 18 1 r_5))) rfl (S_ret rfl)))))))))) (fun _ => S_none)))))))))

def Ws_append_b73 (q : zM)  : Option zM :=
  some (qs q 6 0 ((q.1 6 0) + (1 : Int)))
theorem T_Ws_append_b73 {E : zE} (q : zM)  : SimV E 85 (0, 0, 73, [(0, vR (some 6)), (1, vR (some 4))], [], hp q) eV (Ws_append_b73 q ) := by
  unfold Ws_append_b73
  exact S_run 6 (f' := (0, 0, 83, [(0, vR (some 6)), (1, vR (some 4))], [], hp (qs q 6 0 ((q.1 6 0) + (1 : Int))))) rfl (S_ret rfl)

def Ws_append_b60 (q : zM)  : Option zM :=
  ck (wrap (q.1 6 0)) 40 (
    Ws_append_b73 (qs q 11 (wrap (q.1 6 0)).toNat (q.1 4 5)))
theorem T_Ws_append_b60 {E : zE} (q : zM)  : SimV E 85 (0, 0, 60, [(0, vR (some 6)), (1, vR (some 4))], [], hp q) eV (Ws_append_b60 q ) := by
  unfold Ws_append_b60
  exact S_run 6 (f' := (0, 0, 72, [(0, vR (some 6)), (1, vR (some 4))], [vI (q.1 4 5), vI (q.1 6 0), vR (some 11)], hp q)) rfl (S_ck (n := 40) (fun h_7 => S_go (H_iast rfl rfl rfl h_7) (S_run 0 (f' := (0, 0, 73, [(0, vR (some 6)), (1, vR (some 4))], [], hp (qs q 11 (wrap (q.1 6 0)).toNat (q.1 4 5)))) rfl (T_Ws_append_b73 (qs q 11 (wrap (q.1 6 0)).toNat (q.1 4 5))))))

def Ws_append_b47 (q : zM)  : Option zM :=
  ck (wrap (q.1 6 0)) 40 (
    Ws_append_b60 (qs q 10 (wrap (q.1 6 0)).toNat (q.1 4 4)))
theorem T_Ws_append_b47 {E : zE} (q : zM)  : SimV E 85 (0, 0, 47, [(0, vR (some 6)), (1, vR (some 4))], [], hp q) eV (Ws_append_b47 q ) := by
  unfold Ws_append_b47
  exact S_run 6 (f' := (0, 0, 59, [(0, vR (some 6)), (1, vR (some 4))], [vI (q.1 4 4), vI (q.1 6 0), vR (some 10)], hp q)) rfl (S_ck (n := 40) (fun h_6 => S_go (H_iast rfl rfl rfl h_6) (S_run 0 (f' := (0, 0, 60, [(0, vR (some 6)), (1, vR (some 4))], [], hp (qs q 10 (wrap (q.1 6 0)).toNat (q.1 4 4)))) rfl (T_Ws_append_b60 (qs q 10 (wrap (q.1 6 0)).toNat (q.1 4 4))))))

def Ws_append_b34 (q : zM)  : Option zM :=
  ck (wrap (q.1 6 0)) 40 (
    Ws_append_b47 (qs q 9 (wrap (q.1 6 0)).toNat (q.1 4 3)))
theorem T_Ws_append_b34 {E : zE} (q : zM)  : SimV E 85 (0, 0, 34, [(0, vR (some 6)), (1, vR (some 4))], [], hp q) eV (Ws_append_b34 q ) := by
  unfold Ws_append_b34
  exact S_run 6 (f' := (0, 0, 46, [(0, vR (some 6)), (1, vR (some 4))], [vI (q.1 4 3), vI (q.1 6 0), vR (some 9)], hp q)) rfl (S_ck (n := 40) (fun h_5 => S_go (H_iast rfl rfl rfl h_5) (S_run 0 (f' := (0, 0, 47, [(0, vR (some 6)), (1, vR (some 4))], [], hp (qs q 9 (wrap (q.1 6 0)).toNat (q.1 4 3)))) rfl (T_Ws_append_b47 (qs q 9 (wrap (q.1 6 0)).toNat (q.1 4 3))))))

def Ws_append_b21 (q : zM)  : Option zM :=
  ck (wrap (q.1 6 0)) 40 (
    Ws_append_b34 (qs q 8 (wrap (q.1 6 0)).toNat (q.1 4 2)))
theorem T_Ws_append_b21 {E : zE} (q : zM)  : SimV E 85 (0, 0, 21, [(0, vR (some 6)), (1, vR (some 4))], [], hp q) eV (Ws_append_b21 q ) := by
  unfold Ws_append_b21
  exact S_run 6 (f' := (0, 0, 33, [(0, vR (some 6)), (1, vR (some 4))], [vI (q.1 4 2), vI (q.1 6 0), vR (some 8)], hp q)) rfl (S_ck (n := 40) (fun h_4 => S_go (H_iast rfl rfl rfl h_4) (S_run 0 (f' := (0, 0, 34, [(0, vR (some 6)), (1, vR (some 4))], [], hp (qs q 8 (wrap (q.1 6 0)).toNat (q.1 4 2)))) rfl (T_Ws_append_b34 (qs q 8 (wrap (q.1 6 0)).toNat (q.1 4 2))))))

def Ws_append (q : zM)  : Option zM :=
  (Ws_isFull q ).bind fun r_1 =>
    if wrap r_1 = (0 : Int) then
      ck (wrap (q.1 6 0)) 40 (
        Ws_append_b21 (ql q 7 (wrap (q.1 6 0)).toNat (q.2 4 1)))
    else
      some q
theorem T_Ws_append {E : zE} (q : zM)  : SimV E 85 (entF [vR (some 6), vR (some 4)] (hp q)) eV (Ws_append q ) := by
  unfold Ws_append
  exact S_run 0 (f' := (0, 0, 0, [(0, vR (some 6)), (1, vR (some 4))], [], hp q)) rfl (S_run 1 (f' := (0, 0, 1, [(0, vR (some 6)), (1, vR (some 4))], [vR (some 6)], hp q)) rfl (S_call (m' := 75) (args := [vR (some 6)]) (h := hp q) (k := fun r => (0, 0, 4, [(0, vR (some 6)), (1, vR (some 4))], r.1.toList ++ [], r.2)) rfl (T_Ws_isFull q ) (fun r_1 => S_run 0 (f' := (0, 0, 4, [(0, vR (some 6)), (1, vR (some 4))], [vI r_1], hp q)) rfl (S_ite (fun h_2 => S_go (J_if2 rfl rfl (B_eq h_2)) (S_run 6 (f' := (0, 0, 20, [(0, vR (some 6)), (1, vR (some 4))], [vL (q.2 4 1), vI (q.1 6 0), vR (some 7)], hp q)) rfl (S_ck (n := 40) (fun h_3 => S_go (H_last rfl rfl rfl h_3) (S_run 0 (f' := (0, 0, 21, [(0, vR (some 6)), (1, vR (some 4))], [], hp (ql q 7 (wrap (q.1 6 0)).toNat (q.2 4 1)))) rfl (T_Ws_append_b21 (ql q 7 (wrap (q.1 6 0)).toNat (q.2 4 1)))))))) (fun h_2 => S_go (J_if2 rfl rfl (B_eq' h_2)) (S_run 0 (f' := (0, 0, 7, [(0, vR (some 6)), (1, vR (some 4))], [], hp q)) rfl (S_ret rfl)))))))

def Ws_size (q : zM)  : Option Int :=
  some (q.1 6 0)
theorem T_Ws_size {E : zE} (q : zM)  : SimV E 74 (entF [vR (some 6)] (hp q)) (eP q) (Ws_size q ) := by
  unfold Ws_size
  exact S_run 0 (f' := (0, 0, 0, [(0, vR (some 6))], [], hp q)) rfl (S_run 2 (f' := (0, 0, 4, [(0, vR (some 6))], [vI (q.1 6 0)], hp q)) rfl (S_ret rfl))

def Ev_addWord (q : zM)  : Option (Int × zM) :=
  (Wr_readWord q ).bind fun r_1 =>
    if wrap r_1.1 = (-1 : Int) then
      (Ws_indexOf r_1.2 (r_1.2.2 4 1)).bind fun r_3 =>
        if wrap r_3 = (-1 : Int) then
          (Ws_isFull r_1.2 ).bind fun r_5 =>
            if wrap r_5 = (0 : Int) then
              (Hi_record r_1.2 ).bind fun r_7 =>
                (Ws_append r_7 ).bind fun r_8 =>
                  (Ws_size r_8 ).bind fun r_9 =>
                    some (r_9 - (1 : Int), r_8)
            else
              some ((-3 : Int), r_1.2)
        else
          some ((-4 : Int), r_1.2)
    else
      some ((-100 : Int) - r_1.1, r_1.2)
theorem T_Ev_addWord {E : zE} (q : zM)  : SimV E 92 (entF [vR (some 1)] (hp q)) eI (Ev_addWord q ) := by
  unfold Ev_addWord
  exact S_run 0 (f' := (0, 0, 0, [(0, vR (some 1))], [], hp q)) rfl (S_run 4 (f' := (0, 0, 8, [(0, vR (some 1))], [vR (some 2), vR (some 4)], hp q)) rfl (S_call (m' := 66) (args := [vR (some 4), vR (some 2)]) (h := hp q) (k := fun r => (0, 0, 11, [(0, vR (some 1))], r.1.toList ++ [], r.2)) rfl (T_Wr_readWord q ) (fun r_1 => S_run 3 (f' := (0, 0, 14, [(0, vR (some 1)), (1, vI r_1.1)], [vI (-1 : Int), vI r_1.1], hp r_1.2)) rfl (S_ite (fun h_2 => S_go (J_icmp2 rfl rfl wl_m1 (B_eq h_2)) (S_run 6 (f' := (0, 0, 36, [(0, vR (some 1)), (1, vI r_1.1)], [vL (r_1.2.2 4 1), vR (some 6)], hp r_1.2)) rfl (S_call (m' := 84) (args := [vR (some 6), vL (r_1.2.2 4 1)]) (h := hp r_1.2) (k := fun r => (0, 0, 39, [(0, vR (some 1)), (1, vI r_1.1)], r.1.toList ++ [], r.2)) rfl (T_Ws_indexOf r_1.2 (r_1.2.2 4 1)) (fun r_3 => S_run 1 (f' := (0, 0, 40, [(0, vR (some 1)), (1, vI r_1.1)], [vI (-1 : Int), vI r_3], hp r_1.2)) rfl (S_ite (fun h_4 => S_go (J_icmp2 rfl rfl wl_m1 (B_eq h_4)) (S_run 3 (f' := (0, 0, 53, [(0, vR (some 1)), (1, vI r_1.1)], [vR (some 6)], hp r_1.2)) rfl (S_call (m' := 75) (args := [vR (some 6)]) (h := hp r_1.2) (k := fun r => (0, 0, 56, [(0, vR (some 1)), (1, vI r_1.1)], r.1.toList ++ [], r.2)) rfl (T_Ws_isFull r_1.2 ) (fun r_5 => S_run 0 (f' := (0, 0, 56, [(0, vR (some 1)), (1, vI r_1.1)], [vI r_5], hp r_1.2)) rfl (S_ite (fun h_6 => S_go (J_if2 rfl rfl (B_eq h_6)) (S_run 4 (f' := (0, 0, 70, [(0, vR (some 1)), (1, vI r_1.1)], [vR (some 5), vR (some 18)], hp r_1.2)) rfl (S_call (m' := 3) (args := [vR (some 18), vR (some 5)]) (h := hp r_1.2) (k := fun r => (0, 0, 73, [(0, vR (some 1)), (1, vI r_1.1)], r.1.toList ++ [], r.2)) rfl (T_Hi_record r_1.2 ) (fun r_7 => S_run 5 (f' := (0, 0, 84, [(0, vR (some 1)), (1, vI r_1.1)], [vR (some 4), vR (some 6)], hp r_7)) rfl (S_call (m' := 85) (args := [vR (some 6), vR (some 4)]) (h := hp r_7) (k := fun r => (0, 0, 87, [(0, vR (some 1)), (1, vI r_1.1)], r.1.toList ++ [], r.2)) rfl (T_Ws_append r_7 ) (fun r_8 => S_run 3 (f' := (0, 0, 94, [(0, vR (some 1)), (1, vI r_1.1)], [vR (some 6)], hp r_8)) rfl (S_call (m' := 74) (args := [vR (some 6)]) (h := hp r_8) (k := fun r => (0, 0, 97, [(0, vR (some 1)), (1, vI r_1.1)], r.1.toList ++ [], r.2)) rfl (T_Ws_size r_8 ) (fun r_9 => S_run 2 (f' := (0, 0, 99, [(0, vR (some 1)), (1, vI r_1.1)], [vI (r_9 - (1 : Int))], hp r_8)) rfl (S_ret rfl))))))))) (fun h_6 => S_go (J_if2 rfl rfl (B_eq' h_6)) (S_run 1 (f' := (0, 0, 61, [(0, vR (some 1)), (1, vI r_1.1)], [vI (-3 : Int)], hp r_1.2)) rfl (S_ret rfl)))))))) (fun h_4 => S_go (J_icmp2 rfl rfl wl_m1 (B_eq' h_4)) (S_run 1 (f' := (0, 0, 45, [(0, vR (some 1)), (1, vI r_1.1)], [vI (-4 : Int)], hp r_1.2)) rfl (S_ret rfl)))))))) (fun h_2 => S_go (J_icmp2 rfl rfl wl_m1 (B_eq' h_2)) (S_run 3 (f' := (0, 0, 21, [(0, vR (some 1)), (1, vI r_1.1)], [vI ((-100 : Int) - r_1.1)], hp r_1.2)) rfl (S_ret rfl)))))))

def Ws_has (q : zM) (v1 : Int) : Option Int :=
  if wrap v1 < (0 : Int) then
    some (0 : Int)
  else
    if wrap v1 < wrap (q.1 6 0) then
      some (1 : Int)
    else
      some (0 : Int)
theorem T_Ws_has {E : zE} (q : zM) (v1 : Int) : SimV E 76 (entF [vR (some 6), vI v1] (hp q)) (eP q) (Ws_has q v1) := by
  unfold Ws_has
  exact S_run 0 (f' := (0, 0, 0, [(0, vR (some 6)), (1, vI v1)], [], hp q)) rfl (S_run 1 (f' := (0, 0, 1, [(0, vR (some 6)), (1, vI v1)], [vI v1], hp q)) rfl (S_ite (fun h_1 => S_go (J_if2 rfl rfl (B_lt h_1)) (S_run 1 (f' := (0, 0, 17, [(0, vR (some 6)), (1, vI v1)], [vI (0 : Int)], hp q)) rfl (S_ret rfl))) (fun h_1 => S_go (J_if2 rfl rfl (B_lt' h_1)) (S_run 3 (f' := (0, 0, 9, [(0, vR (some 6)), (1, vI v1)], [vI (q.1 6 0), vI v1], hp q)) rfl (S_ite (fun h_2 => S_go (J_icmp2 rfl rfl rfl (B_ge h_2)) (S_run 2 (f' := (0, 0, 17, [(0, vR (some 6)), (1, vI v1)], [vI (1 : Int)], hp q)) rfl (S_ret rfl))) (fun h_2 => S_go (J_icmp2 rfl rfl rfl (B_ge' h_2)) (S_run 1 (f' := (0, 0, 17, [(0, vR (some 6)), (1, vI v1)], [vI (0 : Int)], hp q)) rfl (S_ret rfl))))))))

def Ws_drop_L21 (v1 : Int) (K : Int → zM → Option zM) : Nat → Int → zM → Option zM
  | 0, _, _ => none
  | n + 1, v2, q =>
    if wrap v2 < wrap (q.1 6 0) then
      ck (wrap (v2 + (1 : Int))) 40 (
        ck (wrap v2) 40 (
          ck (wrap (v2 + (1 : Int))) 40 (
            ck (wrap v2) 40 (
              ck (wrap (v2 + (1 : Int))) 40 (
                ck (wrap v2) 40 (
                  ck (wrap (v2 + (1 : Int))) 40 (
                    ck (wrap v2) 40 (
                      ck (wrap (v2 + (1 : Int))) 40 (
                        ck (wrap v2) 40 (
                          Ws_drop_L21 v1 K n (v2 + 1) (qs (qs (qs (qs (ql q 7 (wrap v2).toNat (q.2 7 (wrap (v2 + (1 : Int))).toNat)) 8 (wrap v2).toNat ((ql q 7 (wrap v2).toNat (q.2 7 (wrap (v2 + (1 : Int))).toNat)).1 8 (wrap (v2 + (1 : Int))).toNat)) 9 (wrap v2).toNat ((qs (ql q 7 (wrap v2).toNat (q.2 7 (wrap (v2 + (1 : Int))).toNat)) 8 (wrap v2).toNat ((ql q 7 (wrap v2).toNat (q.2 7 (wrap (v2 + (1 : Int))).toNat)).1 8 (wrap (v2 + (1 : Int))).toNat)).1 9 (wrap (v2 + (1 : Int))).toNat)) 10 (wrap v2).toNat ((qs (qs (ql q 7 (wrap v2).toNat (q.2 7 (wrap (v2 + (1 : Int))).toNat)) 8 (wrap v2).toNat ((ql q 7 (wrap v2).toNat (q.2 7 (wrap (v2 + (1 : Int))).toNat)).1 8 (wrap (v2 + (1 : Int))).toNat)) 9 (wrap v2).toNat ((qs (ql q 7 (wrap v2).toNat (q.2 7 (wrap (v2 + (1 : Int))).toNat)) 8 (wrap v2).toNat ((ql q 7 (wrap v2).toNat (q.2 7 (wrap (v2 + (1 : Int))).toNat)).1 8 (wrap (v2 + (1 : Int))).toNat)).1 9 (wrap (v2 + (1 : Int))).toNat)).1 10 (wrap (v2 + (1 : Int))).toNat)) 11 (wrap v2).toNat ((qs (qs (qs (ql q 7 (wrap v2).toNat (q.2 7 (wrap (v2 + (1 : Int))).toNat)) 8 (wrap v2).toNat ((ql q 7 (wrap v2).toNat (q.2 7 (wrap (v2 + (1 : Int))).toNat)).1 8 (wrap (v2 + (1 : Int))).toNat)) 9 (wrap v2).toNat ((qs (ql q 7 (wrap v2).toNat (q.2 7 (wrap (v2 + (1 : Int))).toNat)) 8 (wrap v2).toNat ((ql q 7 (wrap v2).toNat (q.2 7 (wrap (v2 + (1 : Int))).toNat)).1 8 (wrap (v2 + (1 : Int))).toNat)).1 9 (wrap (v2 + (1 : Int))).toNat)) 10 (wrap v2).toNat ((qs (qs (ql q 7 (wrap v2).toNat (q.2 7 (wrap (v2 + (1 : Int))).toNat)) 8 (wrap v2).toNat ((ql q 7 (wrap v2).toNat (q.2 7 (wrap (v2 + (1 : Int))).toNat)).1 8 (wrap (v2 + (1 : Int))).toNat)) 9 (wrap v2).toNat ((qs (ql q 7 (wrap v2).toNat (q.2 7 (wrap (v2 + (1 : Int))).toNat)) 8 (wrap v2).toNat ((ql q 7 (wrap v2).toNat (q.2 7 (wrap (v2 + (1 : Int))).toNat)).1 8 (wrap (v2 + (1 : Int))).toNat)).1 9 (wrap (v2 + (1 : Int))).toNat)).1 10 (wrap (v2 + (1 : Int))).toNat)).1 11 (wrap (v2 + (1 : Int))).toNat))))))))))))
    else
      K v2 q
theorem T_Ws_drop_L21 {E : zE} (v1 : Int) {K : Int → zM → Option zM} (hK : ∀ (v2 : Int) (q : zM), SimV E 86 (0, 0, 105, [(0, vR (some 6)), (1, vI v1), (2, vI v2)], [], hp q) eV (K v2 q)) : ∀ (n : Nat) (v2 : Int) (q : zM), SimV E 86 (0, 0, 21, [(0, vR (some 6)), (1, vI v1), (2, vI v2)], [], hp q) eV (Ws_drop_L21 v1 K n v2 q) := by
  intro n
  induction n with
  | zero => intro _ _; exact S_none
  | succ n ih =>
    intro v2 q
    rw [Ws_drop_L21]
    exact S_run 3 (f' := (0, 0, 26, [(0, vR (some 6)), (1, vI v1), (2, vI v2)], [vI (q.1 6 0), vI v2], hp q)) rfl (S_ite (fun h_3 => S_go (J_icmp2 rfl rfl rfl (B_ge h_3)) (S_run 8 (f' := (0, 0, 41, [(0, vR (some 6)), (1, vI v1), (2, vI v2)], [vI (v2 + (1 : Int)), vR (some 7), vI v2, vR (some 7)], hp q)) rfl (S_ck (n := 40) (fun h_4 => S_go (H_lald rfl rfl rfl h_4) (S_run 0 (f' := (0, 0, 42, [(0, vR (some 6)), (1, vI v1), (2, vI v2)], [vL (q.2 7 (wrap (v2 + (1 : Int))).toNat), vI v2, vR (some 7)], hp q)) rfl (S_ck (n := 40) (fun h_5 => S_go (H_last rfl rfl rfl h_5) (S_run 8 (f' := (0, 0, 55, [(0, vR (some 6)), (1, vI v1), (2, vI v2)], [vI (v2 + (1 : Int)), vR (some 8), vI v2, vR (some 8)], hp (ql q 7 (wrap v2).toNat (q.2 7 (wrap (v2 + (1 : Int))).toNat)))) rfl (S_ck (n := 40) (fun h_6 => S_go (H_iald rfl rfl rfl h_6) (S_run 0 (f' := (0, 0, 56, [(0, vR (some 6)), (1, vI v1), (2, vI v2)], [vI ((ql q 7 (wrap v2).toNat (q.2 7 (wrap (v2 + (1 : Int))).toNat)).1 8 (wrap (v2 + (1 : Int))).toNat), vI v2, vR (some 8)], hp (ql q 7 (wrap v2).toNat (q.2 7 (wrap (v2 + (1 : Int))).toNat)))) rfl (S_ck (n := 40) (fun h_7 => S_go (H_iast rfl rfl rfl h_7) (S_run 8 (f' := (0, 0, 69, [(0, vR (some 6)), (1, vI v1), (2, vI v2)], [vI (v2 + (1 : Int)), vR (some 9), vI v2, vR (some 9)], hp (qs (ql q 7 (wrap v2).toNat (q.2 7 (wrap (v2 + (1 : Int))).toNat)) 8 (wrap v2).toNat ((ql q 7 (wrap v2).toNat (q.2 7 (wrap (v2 + (1 : Int))).toNat)).1 8 (wrap (v2 + (1 : Int))).toNat)))) rfl (S_ck (n := 40) (fun h_8 => S_go (H_iald rfl rfl rfl h_8) (S_run 0 (f' := (0, 0, 70, [(0, vR (some 6)), (1, vI v1), (2, vI v2)], [vI ((qs (ql q 7 (wrap v2).toNat (q.2 7 (wrap (v2 + (1 : Int))).toNat)) 8 (wrap v2).toNat ((ql q 7 (wrap v2).toNat (q.2 7 (wrap (v2 + (1 : Int))).toNat)).1 8 (wrap (v2 + (1 : Int))).toNat)).1 9 (wrap (v2 + (1 : Int))).toNat), vI v2, vR (some 9)], hp (qs (ql q 7 (wrap v2).toNat (q.2 7 (wrap (v2 + (1 : Int))).toNat)) 8 (wrap v2).toNat ((ql q 7 (wrap v2).toNat (q.2 7 (wrap (v2 + (1 : Int))).toNat)).1 8 (wrap (v2 + (1 : Int))).toNat)))) rfl (S_ck (n := 40) (fun h_9 => S_go (H_iast rfl rfl rfl h_9) (S_run 8 (f' := (0, 0, 83, [(0, vR (some 6)), (1, vI v1), (2, vI v2)], [vI (v2 + (1 : Int)), vR (some 10), vI v2, vR (some 10)], hp (qs (qs (ql q 7 (wrap v2).toNat (q.2 7 (wrap (v2 + (1 : Int))).toNat)) 8 (wrap v2).toNat ((ql q 7 (wrap v2).toNat (q.2 7 (wrap (v2 + (1 : Int))).toNat)).1 8 (wrap (v2 + (1 : Int))).toNat)) 9 (wrap v2).toNat ((qs (ql q 7 (wrap v2).toNat (q.2 7 (wrap (v2 + (1 : Int))).toNat)) 8 (wrap v2).toNat ((ql q 7 (wrap v2).toNat (q.2 7 (wrap (v2 + (1 : Int))).toNat)).1 8 (wrap (v2 + (1 : Int))).toNat)).1 9 (wrap (v2 + (1 : Int))).toNat)))) rfl (S_ck (n := 40) (fun h_10 => S_go (H_iald rfl rfl rfl h_10) (S_run 0 (f' := (0, 0, 84, [(0, vR (some 6)), (1, vI v1), (2, vI v2)], [vI ((qs (qs (ql q 7 (wrap v2).toNat (q.2 7 (wrap (v2 + (1 : Int))).toNat)) 8 (wrap v2).toNat ((ql q 7 (wrap v2).toNat (q.2 7 (wrap (v2 + (1 : Int))).toNat)).1 8 (wrap (v2 + (1 : Int))).toNat)) 9 (wrap v2).toNat ((qs (ql q 7 (wrap v2).toNat (q.2 7 (wrap (v2 + (1 : Int))).toNat)) 8 (wrap v2).toNat ((ql q 7 (wrap v2).toNat (q.2 7 (wrap (v2 + (1 : Int))).toNat)).1 8 (wrap (v2 + (1 : Int))).toNat)).1 9 (wrap (v2 + (1 : Int))).toNat)).1 10 (wrap (v2 + (1 : Int))).toNat), vI v2, vR (some 10)], hp (qs (qs (ql q 7 (wrap v2).toNat (q.2 7 (wrap (v2 + (1 : Int))).toNat)) 8 (wrap v2).toNat ((ql q 7 (wrap v2).toNat (q.2 7 (wrap (v2 + (1 : Int))).toNat)).1 8 (wrap (v2 + (1 : Int))).toNat)) 9 (wrap v2).toNat ((qs (ql q 7 (wrap v2).toNat (q.2 7 (wrap (v2 + (1 : Int))).toNat)) 8 (wrap v2).toNat ((ql q 7 (wrap v2).toNat (q.2 7 (wrap (v2 + (1 : Int))).toNat)).1 8 (wrap (v2 + (1 : Int))).toNat)).1 9 (wrap (v2 + (1 : Int))).toNat)))) rfl (S_ck (n := 40) (fun h_11 => S_go (H_iast rfl rfl rfl h_11) (S_run 8 (f' := (0, 0, 97, [(0, vR (some 6)), (1, vI v1), (2, vI v2)], [vI (v2 + (1 : Int)), vR (some 11), vI v2, vR (some 11)], hp (qs (qs (qs (ql q 7 (wrap v2).toNat (q.2 7 (wrap (v2 + (1 : Int))).toNat)) 8 (wrap v2).toNat ((ql q 7 (wrap v2).toNat (q.2 7 (wrap (v2 + (1 : Int))).toNat)).1 8 (wrap (v2 + (1 : Int))).toNat)) 9 (wrap v2).toNat ((qs (ql q 7 (wrap v2).toNat (q.2 7 (wrap (v2 + (1 : Int))).toNat)) 8 (wrap v2).toNat ((ql q 7 (wrap v2).toNat (q.2 7 (wrap (v2 + (1 : Int))).toNat)).1 8 (wrap (v2 + (1 : Int))).toNat)).1 9 (wrap (v2 + (1 : Int))).toNat)) 10 (wrap v2).toNat ((qs (qs (ql q 7 (wrap v2).toNat (q.2 7 (wrap (v2 + (1 : Int))).toNat)) 8 (wrap v2).toNat ((ql q 7 (wrap v2).toNat (q.2 7 (wrap (v2 + (1 : Int))).toNat)).1 8 (wrap (v2 + (1 : Int))).toNat)) 9 (wrap v2).toNat ((qs (ql q 7 (wrap v2).toNat (q.2 7 (wrap (v2 + (1 : Int))).toNat)) 8 (wrap v2).toNat ((ql q 7 (wrap v2).toNat (q.2 7 (wrap (v2 + (1 : Int))).toNat)).1 8 (wrap (v2 + (1 : Int))).toNat)).1 9 (wrap (v2 + (1 : Int))).toNat)).1 10 (wrap (v2 + (1 : Int))).toNat)))) rfl (S_ck (n := 40) (fun h_12 => S_go (H_iald rfl rfl rfl h_12) (S_run 0 (f' := (0, 0, 98, [(0, vR (some 6)), (1, vI v1), (2, vI v2)], [vI ((qs (qs (qs (ql q 7 (wrap v2).toNat (q.2 7 (wrap (v2 + (1 : Int))).toNat)) 8 (wrap v2).toNat ((ql q 7 (wrap v2).toNat (q.2 7 (wrap (v2 + (1 : Int))).toNat)).1 8 (wrap (v2 + (1 : Int))).toNat)) 9 (wrap v2).toNat ((qs (ql q 7 (wrap v2).toNat (q.2 7 (wrap (v2 + (1 : Int))).toNat)) 8 (wrap v2).toNat ((ql q 7 (wrap v2).toNat (q.2 7 (wrap (v2 + (1 : Int))).toNat)).1 8 (wrap (v2 + (1 : Int))).toNat)).1 9 (wrap (v2 + (1 : Int))).toNat)) 10 (wrap v2).toNat ((qs (qs (ql q 7 (wrap v2).toNat (q.2 7 (wrap (v2 + (1 : Int))).toNat)) 8 (wrap v2).toNat ((ql q 7 (wrap v2).toNat (q.2 7 (wrap (v2 + (1 : Int))).toNat)).1 8 (wrap (v2 + (1 : Int))).toNat)) 9 (wrap v2).toNat ((qs (ql q 7 (wrap v2).toNat (q.2 7 (wrap (v2 + (1 : Int))).toNat)) 8 (wrap v2).toNat ((ql q 7 (wrap v2).toNat (q.2 7 (wrap (v2 + (1 : Int))).toNat)).1 8 (wrap (v2 + (1 : Int))).toNat)).1 9 (wrap (v2 + (1 : Int))).toNat)).1 10 (wrap (v2 + (1 : Int))).toNat)).1 11 (wrap (v2 + (1 : Int))).toNat), vI v2, vR (some 11)], hp (qs (qs (qs (ql q 7 (wrap v2).toNat (q.2 7 (wrap (v2 + (1 : Int))).toNat)) 8 (wrap v2).toNat ((ql q 7 (wrap v2).toNat (q.2 7 (wrap (v2 + (1 : Int))).toNat)).1 8 (wrap (v2 + (1 : Int))).toNat)) 9 (wrap v2).toNat ((qs (ql q 7 (wrap v2).toNat (q.2 7 (wrap (v2 + (1 : Int))).toNat)) 8 (wrap v2).toNat ((ql q 7 (wrap v2).toNat (q.2 7 (wrap (v2 + (1 : Int))).toNat)).1 8 (wrap (v2 + (1 : Int))).toNat)).1 9 (wrap (v2 + (1 : Int))).toNat)) 10 (wrap v2).toNat ((qs (qs (ql q 7 (wrap v2).toNat (q.2 7 (wrap (v2 + (1 : Int))).toNat)) 8 (wrap v2).toNat ((ql q 7 (wrap v2).toNat (q.2 7 (wrap (v2 + (1 : Int))).toNat)).1 8 (wrap (v2 + (1 : Int))).toNat)) 9 (wrap v2).toNat ((qs (ql q 7 (wrap v2).toNat (q.2 7 (wrap (v2 + (1 : Int))).toNat)) 8 (wrap v2).toNat ((ql q 7 (wrap v2).toNat (q.2 7 (wrap (v2 + (1 : Int))).toNat)).1 8 (wrap (v2 + (1 : Int))).toNat)).1 9 (wrap (v2 + (1 : Int))).toNat)).1 10 (wrap (v2 + (1 : Int))).toNat)))) rfl (S_ck (n := 40) (fun h_13 => S_go (H_iast rfl rfl rfl h_13) (S_run 2 (f' := (0, 0, 21, [(0, vR (some 6)), (1, vI v1), (2, vI (v2 + 1))], [], hp (qs (qs (qs (qs (ql q 7 (wrap v2).toNat (q.2 7 (wrap (v2 + (1 : Int))).toNat)) 8 (wrap v2).toNat ((ql q 7 (wrap v2).toNat (q.2 7 (wrap (v2 + (1 : Int))).toNat)).1 8 (wrap (v2 + (1 : Int))).toNat)) 9 (wrap v2).toNat ((qs (ql q 7 (wrap v2).toNat (q.2 7 (wrap (v2 + (1 : Int))).toNat)) 8 (wrap v2).toNat ((ql q 7 (wrap v2).toNat (q.2 7 (wrap (v2 + (1 : Int))).toNat)).1 8 (wrap (v2 + (1 : Int))).toNat)).1 9 (wrap (v2 + (1 : Int))).toNat)) 10 (wrap v2).toNat ((qs (qs (ql q 7 (wrap v2).toNat (q.2 7 (wrap (v2 + (1 : Int))).toNat)) 8 (wrap v2).toNat ((ql q 7 (wrap v2).toNat (q.2 7 (wrap (v2 + (1 : Int))).toNat)).1 8 (wrap (v2 + (1 : Int))).toNat)) 9 (wrap v2).toNat ((qs (ql q 7 (wrap v2).toNat (q.2 7 (wrap (v2 + (1 : Int))).toNat)) 8 (wrap v2).toNat ((ql q 7 (wrap v2).toNat (q.2 7 (wrap (v2 + (1 : Int))).toNat)).1 8 (wrap (v2 + (1 : Int))).toNat)).1 9 (wrap (v2 + (1 : Int))).toNat)).1 10 (wrap (v2 + (1 : Int))).toNat)) 11 (wrap v2).toNat ((qs (qs (qs (ql q 7 (wrap v2).toNat (q.2 7 (wrap (v2 + (1 : Int))).toNat)) 8 (wrap v2).toNat ((ql q 7 (wrap v2).toNat (q.2 7 (wrap (v2 + (1 : Int))).toNat)).1 8 (wrap (v2 + (1 : Int))).toNat)) 9 (wrap v2).toNat ((qs (ql q 7 (wrap v2).toNat (q.2 7 (wrap (v2 + (1 : Int))).toNat)) 8 (wrap v2).toNat ((ql q 7 (wrap v2).toNat (q.2 7 (wrap (v2 + (1 : Int))).toNat)).1 8 (wrap (v2 + (1 : Int))).toNat)).1 9 (wrap (v2 + (1 : Int))).toNat)) 10 (wrap v2).toNat ((qs (qs (ql q 7 (wrap v2).toNat (q.2 7 (wrap (v2 + (1 : Int))).toNat)) 8 (wrap v2).toNat ((ql q 7 (wrap v2).toNat (q.2 7 (wrap (v2 + (1 : Int))).toNat)).1 8 (wrap (v2 + (1 : Int))).toNat)) 9 (wrap v2).toNat ((qs (ql q 7 (wrap v2).toNat (q.2 7 (wrap (v2 + (1 : Int))).toNat)) 8 (wrap v2).toNat ((ql q 7 (wrap v2).toNat (q.2 7 (wrap (v2 + (1 : Int))).toNat)).1 8 (wrap (v2 + (1 : Int))).toNat)).1 9 (wrap (v2 + (1 : Int))).toNat)).1 10 (wrap (v2 + (1 : Int))).toNat)).1 11 (wrap (v2 + (1 : Int))).toNat)))) rfl (ih (v2 + 1) (qs (qs (qs (qs (ql q 7 (wrap v2).toNat (q.2 7 (wrap (v2 + (1 : Int))).toNat)) 8 (wrap v2).toNat ((ql q 7 (wrap v2).toNat (q.2 7 (wrap (v2 + (1 : Int))).toNat)).1 8 (wrap (v2 + (1 : Int))).toNat)) 9 (wrap v2).toNat ((qs (ql q 7 (wrap v2).toNat (q.2 7 (wrap (v2 + (1 : Int))).toNat)) 8 (wrap v2).toNat ((ql q 7 (wrap v2).toNat (q.2 7 (wrap (v2 + (1 : Int))).toNat)).1 8 (wrap (v2 + (1 : Int))).toNat)).1 9 (wrap (v2 + (1 : Int))).toNat)) 10 (wrap v2).toNat ((qs (qs (ql q 7 (wrap v2).toNat (q.2 7 (wrap (v2 + (1 : Int))).toNat)) 8 (wrap v2).toNat ((ql q 7 (wrap v2).toNat (q.2 7 (wrap (v2 + (1 : Int))).toNat)).1 8 (wrap (v2 + (1 : Int))).toNat)) 9 (wrap v2).toNat ((qs (ql q 7 (wrap v2).toNat (q.2 7 (wrap (v2 + (1 : Int))).toNat)) 8 (wrap v2).toNat ((ql q 7 (wrap v2).toNat (q.2 7 (wrap (v2 + (1 : Int))).toNat)).1 8 (wrap (v2 + (1 : Int))).toNat)).1 9 (wrap (v2 + (1 : Int))).toNat)).1 10 (wrap (v2 + (1 : Int))).toNat)) 11 (wrap v2).toNat ((qs (qs (qs (ql q 7 (wrap v2).toNat (q.2 7 (wrap (v2 + (1 : Int))).toNat)) 8 (wrap v2).toNat ((ql q 7 (wrap v2).toNat (q.2 7 (wrap (v2 + (1 : Int))).toNat)).1 8 (wrap (v2 + (1 : Int))).toNat)) 9 (wrap v2).toNat ((qs (ql q 7 (wrap v2).toNat (q.2 7 (wrap (v2 + (1 : Int))).toNat)) 8 (wrap v2).toNat ((ql q 7 (wrap v2).toNat (q.2 7 (wrap (v2 + (1 : Int))).toNat)).1 8 (wrap (v2 + (1 : Int))).toNat)).1 9 (wrap (v2 + (1 : Int))).toNat)) 10 (wrap v2).toNat ((qs (qs (ql q 7 (wrap v2).toNat (q.2 7 (wrap (v2 + (1 : Int))).toNat)) 8 (wrap v2).toNat ((ql q 7 (wrap v2).toNat (q.2 7 (wrap (v2 + (1 : Int))).toNat)).1 8 (wrap (v2 + (1 : Int))).toNat)) 9 (wrap v2).toNat ((qs (ql q 7 (wrap v2).toNat (q.2 7 (wrap (v2 + (1 : Int))).toNat)) 8 (wrap v2).toNat ((ql q 7 (wrap v2).toNat (q.2 7 (wrap (v2 + (1 : Int))).toNat)).1 8 (wrap (v2 + (1 : Int))).toNat)).1 9 (wrap (v2 + (1 : Int))).toNat)).1 10 (wrap (v2 + (1 : Int))).toNat)).1 11 (wrap (v2 + (1 : Int))).toNat))))))))))))))))))))))))))))))))))) (fun h_3 => S_go (J_icmp2 rfl rfl rfl (B_ge' h_3)) (S_run 0 (f' := (0, 0, 105, [(0, vR (some 6)), (1, vI v1), (2, vI v2)], [], hp q)) rfl (hK v2 q))))

def Ws_drop_b19 (q : zM) (v1 : Int) : Option zM :=
  Ws_drop_L21 v1 (fun v2_14 q_15 => 
    some q_15) 5000 v1 q
theorem T_Ws_drop_b19 {E : zE} (q : zM) (v1 : Int) : SimV E 86 (0, 0, 19, [(0, vR (some 6)), (1, vI v1)], [], hp q) eV (Ws_drop_b19 q v1) := by
  unfold Ws_drop_b19
  exact S_run 2 (f' := (0, 0, 21, [(0, vR (some 6)), (1, vI v1), (2, vI v1)], [], hp q)) rfl (T_Ws_drop_L21 v1 (fun v2_14 q_15 => S_run 0 (f' := (0, 0, 105, [(0, vR (some 6)), (1, vI v1), (2, vI v2_14)], [], hp q_15)) rfl (S_ret rfl)) 5000 v1 q)

def Ws_drop (q : zM) (v1 : Int) : Option zM :=
  (Ws_has q v1).bind fun r_1 =>
    if wrap r_1 = (0 : Int) then
      some q
    else
      Ws_drop_b19 (qs q 6 0 ((q.1 6 0) - (1 : Int))) v1
theorem T_Ws_drop {E : zE} (q : zM) (v1 : Int) : SimV E 86 (entF [vR (some 6), vI v1] (hp q)) eV (Ws_drop q v1) := by
  unfold Ws_drop
  exact S_run 0 (f' := (0, 0, 0, [(0, vR (some 6)), (1, vI v1)], [], hp q)) rfl (S_run 2 (f' := (0, 0, 2, [(0, vR (some 6)), (1, vI v1)], [vI v1, vR (some 6)], hp q)) rfl (S_call (m' := 76) (args := [vR (some 6), vI v1]) (h := hp q) (k := fun r => (0, 0, 5, [(0, vR (some 6)), (1, vI v1)], r.1.toList ++ [], r.2)) rfl (T_Ws_has q v1) (fun r_1 => S_run 0 (f' := (0, 0, 5, [(0, vR (some 6)), (1, vI v1)], [vI r_1], hp q)) rfl (S_ite (fun h_2 => S_go (J_if2 rfl rfl (B_ne h_2)) (S_run 0 (f' := (0, 0, 8, [(0, vR (some 6)), (1, vI v1)], [], hp q)) rfl (S_ret rfl))) (fun h_2 => S_go (J_if2 rfl rfl (B_ne' h_2)) (S_run 6 (f' := (0, 0, 19, [(0, vR (some 6)), (1, vI v1)], [], hp (qs q 6 0 ((q.1 6 0) - (1 : Int))))) rfl (T_Ws_drop_b19 (qs q 6 0 ((q.1 6 0) - (1 : Int))) v1)))))))

def Po_has (q : zM) (v1 : Int) : Option Int :=
  if wrap v1 < (0 : Int) then
    some (0 : Int)
  else
    if wrap v1 < wrap (q.1 13 0) then
      some (1 : Int)
    else
      some (0 : Int)
theorem T_Po_has {E : zE} (q : zM) (v1 : Int) : SimV E 24 (entF [vR (some 13), vI v1] (hp q)) (eP q) (Po_has q v1) := by
  unfold Po_has
  exact S_run 0 (f' := (0, 0, 0, [(0, vR (some 13)), (1, vI v1)], [], hp q)) rfl (S_run 1 (f' := (0, 0, 1, [(0, vR (some 13)), (1, vI v1)], [vI v1], hp q)) rfl (S_ite (fun h_1 => S_go (J_if2 rfl rfl (B_lt h_1)) (S_run 1 (f' := (0, 0, 17, [(0, vR (some 13)), (1, vI v1)], [vI (0 : Int)], hp q)) rfl (S_ret rfl))) (fun h_1 => S_go (J_if2 rfl rfl (B_lt' h_1)) (S_run 3 (f' := (0, 0, 9, [(0, vR (some 13)), (1, vI v1)], [vI (q.1 13 0), vI v1], hp q)) rfl (S_ite (fun h_2 => S_go (J_icmp2 rfl rfl rfl (B_ge h_2)) (S_run 2 (f' := (0, 0, 17, [(0, vR (some 13)), (1, vI v1)], [vI (1 : Int)], hp q)) rfl (S_ret rfl))) (fun h_2 => S_go (J_icmp2 rfl rfl rfl (B_ge' h_2)) (S_run 1 (f' := (0, 0, 17, [(0, vR (some 13)), (1, vI v1)], [vI (0 : Int)], hp q)) rfl (S_ret rfl))))))))

def Po_wordsIn (q : zM) (v1 : Int) : Option Int :=
  (Po_has q v1).bind fun r_1 =>
    if wrap r_1 = (0 : Int) then
      some (0 : Int)
    else
      ck (wrap v1) 8 (
        some (q.1 16 (wrap v1).toNat))
theorem T_Po_wordsIn {E : zE} (q : zM) (v1 : Int) : SimV E 27 (entF [vR (some 13), vI v1] (hp q)) (eP q) (Po_wordsIn q v1) := by
  unfold Po_wordsIn
  exact S_run 0 (f' := (0, 0, 0, [(0, vR (some 13)), (1, vI v1)], [], hp q)) rfl (S_run 2 (f' := (0, 0, 2, [(0, vR (some 13)), (1, vI v1)], [vI v1, vR (some 13)], hp q)) rfl (S_call (m' := 24) (args := [vR (some 13), vI v1]) (h := hp q) (k := fun r => (0, 0, 5, [(0, vR (some 13)), (1, vI v1)], r.1.toList ++ [], r.2)) rfl (T_Po_has q v1) (fun r_1 => S_run 0 (f' := (0, 0, 5, [(0, vR (some 13)), (1, vI v1)], [vI r_1], hp q)) rfl (S_ite (fun h_2 => S_go (J_if2 rfl rfl (B_eq h_2)) (S_run 1 (f' := (0, 0, 18, [(0, vR (some 13)), (1, vI v1)], [vI (0 : Int)], hp q)) rfl (S_ret rfl))) (fun h_2 => S_go (J_if2 rfl rfl (B_eq' h_2)) (S_run 3 (f' := (0, 0, 13, [(0, vR (some 13)), (1, vI v1)], [vI v1, vR (some 16)], hp q)) rfl (S_ck (n := 8) (fun h_3 => S_go (H_iald rfl rfl rfl h_3) (S_run 1 (f' := (0, 0, 18, [(0, vR (some 13)), (1, vI v1)], [vI (q.1 16 (wrap v1).toNat)], hp q)) rfl (S_ret rfl))))))))))

def Po_uses_L9 (q : zM) (v1 : Int) (v2 : Int) (v3 : Int) (K : Int → Option Int) : Nat → Int → Option Int
  | 0, _ => none
  | n + 1, v4 =>
    if wrap v4 < wrap v3 then
      ck (wrap ((v1 * (12 : Int)) + v4)) 96 (
        if wrap (q.1 17 (wrap ((v1 * (12 : Int)) + v4)).toNat) = wrap v2 then
          some (1 : Int)
        else
          Po_uses_L9 q v1 v2 v3 K n (v4 + 1))
    else
      K v4
theorem T_Po_uses_L9 {E : zE} (q : zM) (v1 : Int) (v2 : Int) (v3 : Int) {K : Int → Option Int} (hK : ∀ (v4 : Int), SimV E 29 (0, 0, 39, [(0, vR (some 13)), (1, vI v1), (2, vI v2), (3, vI v3), (4, vI v4)], [], hp q) (eP q) (K v4)) : ∀ (n : Nat) (v4 : Int), SimV E 29 (0, 0, 9, [(0, vR (some 13)), (1, vI v1), (2, vI v2), (3, vI v3), (4, vI v4)], [], hp q) (eP q) (Po_uses_L9 q v1 v2 v3 K n v4) := by
  intro n
  induction n with
  | zero => intro _; exact S_none
  | succ n ih =>
    intro v4
    rw [Po_uses_L9]
    exact S_run 2 (f' := (0, 0, 12, [(0, vR (some 13)), (1, vI v1), (2, vI v2), (3, vI v3), (4, vI v4)], [vI v3, vI v4], hp q)) rfl (S_ite (fun h_2 => S_go (J_icmp2 rfl rfl rfl (B_ge h_2)) (S_run 7 (f' := (0, 0, 26, [(0, vR (some 13)), (1, vI v1), (2, vI v2), (3, vI v3), (4, vI v4)], [vI ((v1 * (12 : Int)) + v4), vR (some 17)], hp q)) rfl (S_ck (n := 96) (fun h_3 => S_go (H_iald rfl rfl rfl h_3) (S_run 1 (f' := (0, 0, 28, [(0, vR (some 13)), (1, vI v1), (2, vI v2), (3, vI v3), (4, vI v4)], [vI v2, vI (q.1 17 (wrap ((v1 * (12 : Int)) + v4)).toNat)], hp q)) rfl (S_ite (fun h_4 => S_go (J_icmp2 rfl rfl rfl (B_ne h_4)) (S_run 1 (f' := (0, 0, 32, [(0, vR (some 13)), (1, vI v1), (2, vI v2), (3, vI v3), (4, vI v4)], [vI (1 : Int)], hp q)) rfl (S_ret rfl))) (fun h_4 => S_go (J_icmp2 rfl rfl rfl (B_ne' h_4)) (S_run 2 (f' := (0, 0, 9, [(0, vR (some 13)), (1, vI v1), (2, vI v2), (3, vI v3), (4, vI (v4 + 1))], [], hp q)) rfl (ih (v4 + 1)))))))))) (fun h_2 => S_go (J_icmp2 rfl rfl rfl (B_ge' h_2)) (S_run 0 (f' := (0, 0, 39, [(0, vR (some 13)), (1, vI v1), (2, vI v2), (3, vI v3), (4, vI v4)], [], hp q)) rfl (hK v4))))

def Po_uses (q : zM) (v1 : Int) (v2 : Int) : Option Int :=
  (Po_wordsIn q v1).bind fun r_1 =>
    Po_uses_L9 q v1 v2 r_1 (fun v4_5 => 
      some (0 : Int)) 5000 (0 : Int)
theorem T_Po_uses {E : zE} (q : zM) (v1 : Int) (v2 : Int) : SimV E 29 (entF [vR (some 13), vI v1, vI v2] (hp q)) (eP q) (Po_uses q v1 v2) := by
  unfold Po_uses
  exact S_run 0 (f' := (0, 0, 0, [(0, vR (some 13)), (1, vI v1), (2, vI v2)], [], hp q)) rfl (S_run 2 (f' := (0, 0, 2, [(0, vR (some 13)), (1, vI v1), (2, vI v2)], [vI v1, vR (some 13)], hp q)) rfl (S_call (m' := 27) (args := [vR (some 13), vI v1]) (h := hp q) (k := fun r => (0, 0, 5, [(0, vR (some 13)), (1, vI v1), (2, vI v2)], r.1.toList ++ [], r.2)) rfl (T_Po_wordsIn q v1) (fun r_1 => S_run 3 (f' := (0, 0, 9, [(0, vR (some 13)), (1, vI v1), (2, vI v2), (3, vI r_1), (4, vI (0 : Int))], [], hp q)) rfl (T_Po_uses_L9 q v1 v2 r_1 (fun v4_5 => S_run 1 (f' := (0, 0, 40, [(0, vR (some 13)), (1, vI v1), (2, vI v2), (3, vI r_1), (4, vI v4_5)], [vI (0 : Int)], hp q)) rfl (S_ret rfl)) 5000 (0 : Int)))))

def Po_emptyLine (q : zM) (v1 : Int) : Option zM :=
  (Po_has q v1).bind fun r_1 =>
    if wrap r_1 = (0 : Int) then
      some q
    else
      ck (wrap v1) 8 (
        some (qs q 16 (wrap v1).toNat (0 : Int)))
theorem T_Po_emptyLine {E : zE} (q : zM) (v1 : Int) : SimV E 34 (entF [vR (some 13), vI v1] (hp q)) eV (Po_emptyLine q v1) := by
  unfold Po_emptyLine
  exact S_run 0 (f' := (0, 0, 0, [(0, vR (some 13)), (1, vI v1)], [], hp q)) rfl (S_run 2 (f' := (0, 0, 2, [(0, vR (some 13)), (1, vI v1)], [vI v1, vR (some 13)], hp q)) rfl (S_call (m' := 24) (args := [vR (some 13), vI v1]) (h := hp q) (k := fun r => (0, 0, 5, [(0, vR (some 13)), (1, vI v1)], r.1.toList ++ [], r.2)) rfl (T_Po_has q v1) (fun r_1 => S_run 0 (f' := (0, 0, 5, [(0, vR (some 13)), (1, vI v1)], [vI r_1], hp q)) rfl (S_ite (fun h_2 => S_go (J_if2 rfl rfl (B_eq h_2)) (S_run 0 (f' := (0, 0, 15, [(0, vR (some 13)), (1, vI v1)], [], hp q)) rfl (S_ret rfl))) (fun h_2 => S_go (J_if2 rfl rfl (B_eq' h_2)) (S_run 4 (f' := (0, 0, 14, [(0, vR (some 13)), (1, vI v1)], [vI (0 : Int), vI v1, vR (some 16)], hp q)) rfl (S_ck (n := 8) (fun h_3 => S_go (H_iast rfl rfl rfl h_3) (S_run 0 (f' := (0, 0, 15, [(0, vR (some 13)), (1, vI v1)], [], hp (qs q 16 (wrap v1).toNat (0 : Int)))) rfl (S_ret rfl))))))))))

def Po_forgetWord_L4 (v1 : Int) (K : Int → Int → zM → Option (Int × zM)) : Nat → Int → Int → zM → Option (Int × zM)
  | 0, _, _, _ => none
  | n + 1, v2, v3, q =>
    if wrap v3 < wrap (q.1 13 0) then
      (Po_uses q v3 v1).bind fun r_2 =>
        if wrap r_2 = (0 : Int) then
          Po_forgetWord_L4 v1 K n v2 (v3 + 1) q
        else
          (Po_emptyLine q v3).bind fun r_4 =>
            Po_forgetWord_L4 v1 K n (v2 + 1) (v3 + 1) r_4
    else
      K v2 v3 q
theorem T_Po_forgetWord_L4 {E : zE} (v1 : Int) {K : Int → Int → zM → Option (Int × zM)} (hK : ∀ (v2 : Int) (v3 : Int) (q : zM), SimV E 37 (0, 0, 35, [(0, vR (some 13)), (1, vI v1), (2, vI v2), (3, vI v3)], [], hp q) eI (K v2 v3 q)) : ∀ (n : Nat) (v2 : Int) (v3 : Int) (q : zM), SimV E 37 (0, 0, 4, [(0, vR (some 13)), (1, vI v1), (2, vI v2), (3, vI v3)], [], hp q) eI (Po_forgetWord_L4 v1 K n v2 v3 q) := by
  intro n
  induction n with
  | zero => intro _ _ _; exact S_none
  | succ n ih =>
    intro v2 v3 q
    rw [Po_forgetWord_L4]
    exact S_run 3 (f' := (0, 0, 9, [(0, vR (some 13)), (1, vI v1), (2, vI v2), (3, vI v3)], [vI (q.1 13 0), vI v3], hp q)) rfl (S_ite (fun h_1 => S_go (J_icmp2 rfl rfl rfl (B_ge h_1)) (S_run 3 (f' := (0, 0, 15, [(0, vR (some 13)), (1, vI v1), (2, vI v2), (3, vI v3)], [vI v1, vI v3, vR (some 13)], hp q)) rfl (S_call (m' := 29) (args := [vR (some 13), vI v3, vI v1]) (h := hp q) (k := fun r => (0, 0, 18, [(0, vR (some 13)), (1, vI v1), (2, vI v2), (3, vI v3)], r.1.toList ++ [], r.2)) rfl (T_Po_uses q v3 v1) (fun r_2 => S_run 0 (f' := (0, 0, 18, [(0, vR (some 13)), (1, vI v1), (2, vI v2), (3, vI v3)], [vI r_2], hp q)) rfl (S_ite (fun h_3 => S_go (J_if2 rfl rfl (B_eq h_3)) (S_run 2 (f' := (0, 0, 4, [(0, vR (some 13)), (1, vI v1), (2, vI v2), (3, vI (v3 + 1))], [], hp q)) rfl (ih v2 (v3 + 1) q))) (fun h_3 => S_go (J_if2 rfl rfl (B_eq' h_3)) (S_run 2 (f' := (0, 0, 23, [(0, vR (some 13)), (1, vI v1), (2, vI v2), (3, vI v3)], [vI v3, vR (some 13)], hp q)) rfl (S_call (m' := 34) (args := [vR (some 13), vI v3]) (h := hp q) (k := fun r => (0, 0, 26, [(0, vR (some 13)), (1, vI v1), (2, vI v2), (3, vI v3)], r.1.toList ++ [], r.2)) rfl (T_Po_emptyLine q v3) (fun r_4 => S_run 3 (f' := (0, 0, 4, [(0, vR (some 13)), (1, vI v1), (2, vI (v2 + 1)), (3, vI (v3 + 1))], [], hp r_4)) rfl (ih (v2 + 1) (v3 + 1) r_4)))))))))) (fun h_1 => S_go (J_icmp2 rfl rfl rfl (B_ge' h_1)) (S_run 0 (f' := (0, 0, 35, [(0, vR (some 13)), (1, vI v1), (2, vI v2), (3, vI v3)], [], hp q)) rfl (hK v2 v3 q))))

def Po_forgetWord_L37 (v1 : Int) (v2 : Int) (K : Int → zM → Option (Int × zM)) : Nat → Int → zM → Option (Int × zM)
  | 0, _, _ => none
  | n + 1, v3, q =>
    if wrap v3 < (96 : Int) then
      ck (wrap v3) 96 (
        if wrap v1 < wrap (q.1 17 (wrap v3).toNat) then
          ck (wrap v3) 96 (
            ck (wrap v3) 96 (
              Po_forgetWord_L37 v1 v2 K n (v3 + 1) (qs q 17 (wrap v3).toNat ((q.1 17 (wrap v3).toNat) - (1 : Int)))))
        else
          Po_forgetWord_L37 v1 v2 K n (v3 + 1) q)
    else
      K v3 q
theorem T_Po_forgetWord_L37 {E : zE} (v1 : Int) (v2 : Int) {K : Int → zM → Option (Int × zM)} (hK : ∀ (v3 : Int) (q : zM), SimV E 37 (0, 0, 72, [(0, vR (some 13)), (1, vI v1), (2, vI v2), (3, vI v3)], [], hp q) eI (K v3 q)) : ∀ (n : Nat) (v3 : Int) (q : zM), SimV E 37 (0, 0, 37, [(0, vR (some 13)), (1, vI v1), (2, vI v2), (3, vI v3)], [], hp q) eI (Po_forgetWord_L37 v1 v2 K n v3 q) := by
  intro n
  induction n with
  | zero => intro _ _; exact S_none
  | succ n ih =>
    intro v3 q
    rw [Po_forgetWord_L37]
    exact S_run 4 (f' := (0, 0, 43, [(0, vR (some 13)), (1, vI v1), (2, vI v2), (3, vI v3)], [vI (96 : Int), vI v3], hp q)) rfl (S_ite (fun h_8 => S_go (J_icmp2 rfl rfl wl_96 (B_ge h_8)) (S_run 3 (f' := (0, 0, 51, [(0, vR (some 13)), (1, vI v1), (2, vI v2), (3, vI v3)], [vI v3, vR (some 17)], hp q)) rfl (S_ck (n := 96) (fun h_9 => S_go (H_iald rfl rfl rfl h_9) (S_run 1 (f' := (0, 0, 53, [(0, vR (some 13)), (1, vI v1), (2, vI v2), (3, vI v3)], [vI v1, vI (q.1 17 (wrap v3).toNat)], hp q)) rfl (S_ite (fun h_10 => S_go (J_icmp2 rfl rfl rfl (B_le h_10)) (S_run 4 (f' := (0, 0, 62, [(0, vR (some 13)), (1, vI v1), (2, vI v2), (3, vI v3)], [vI v3, vR (some 17), vI v3, vR (some 17)], hp q)) rfl (S_ck (n := 96) (fun h_11 => S_go (H_iald rfl rfl rfl h_11) (S_run 2 (f' := (0, 0, 65, [(0, vR (some 13)), (1, vI v1), (2, vI v2), (3, vI v3)], [vI ((q.1 17 (wrap v3).toNat) - (1 : Int)), vI v3, vR (some 17)], hp q)) rfl (S_ck (n := 96) (fun h_12 => S_go (H_iast rfl rfl rfl h_12) (S_run 2 (f' := (0, 0, 37, [(0, vR (some 13)), (1, vI v1), (2, vI v2), (3, vI (v3 + 1))], [], hp (qs q 17 (wrap v3).toNat ((q.1 17 (wrap v3).toNat) - (1 : Int))))) rfl (ih (v3 + 1) (qs q 17 (wrap v3).toNat ((q.1 17 (wrap v3).toNat) - (1 : Int)))))))))))) (fun h_10 => S_go (J_icmp2 rfl rfl rfl (B_le' h_10)) (S_run 2 (f' := (0, 0, 37, [(0, vR (some 13)), (1, vI v1), (2, vI v2), (3, vI (v3 + 1))], [], hp q)) rfl (ih (v3 + 1) q))))))))) (fun h_8 => S_go (J_icmp2 rfl rfl wl_96 (B_ge' h_8)) (S_run 0 (f' := (0, 0, 72, [(0, vR (some 13)), (1, vI v1), (2, vI v2), (3, vI v3)], [], hp q)) rfl (hK v3 q))))

def Po_forgetWord (q : zM) (v1 : Int) : Option (Int × zM) :=
  Po_forgetWord_L4 v1 (fun v2_5 v3_6 q_7 => 
    Po_forgetWord_L37 v1 v2_5 (fun v3_13 q_14 => 
      some (v2_5, q_14)) 5000 (0 : Int) q_7) 5000 (0 : Int) (0 : Int) q
theorem T_Po_forgetWord {E : zE} (q : zM) (v1 : Int) : SimV E 37 (entF [vR (some 13), vI v1] (hp q)) eI (Po_forgetWord q v1) := by
  unfold Po_forgetWord
  exact S_run 0 (f' := (0, 0, 0, [(0, vR (some 13)), (1, vI v1)], [], hp q)) rfl (S_run 4 (f' := (0, 0, 4, [(0, vR (some 13)), (1, vI v1), (2, vI (0 : Int)), (3, vI (0 : Int))], [], hp q)) rfl (T_Po_forgetWord_L4 v1 (fun v2_5 v3_6 q_7 => S_run 2 (f' := (0, 0, 37, [(0, vR (some 13)), (1, vI v1), (2, vI v2_5), (3, vI (0 : Int))], [], hp q_7)) rfl (T_Po_forgetWord_L37 v1 v2_5 (fun v3_13 q_14 => S_run 1 (f' := (0, 0, 73, [(0, vR (some 13)), (1, vI v1), (2, vI v2_5), (3, vI v3_13)], [vI v2_5], hp q_14)) rfl (S_ret rfl)) 5000 (0 : Int) q_7)) 5000 (0 : Int) (0 : Int) q))
