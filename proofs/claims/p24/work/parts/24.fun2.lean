/-! the methods as functions, printed by wip/p24/dec.py -/
def Ev_make_L4  (K : Int → Int → zM → Option (Int × zM)) : Nat → Int → Int → zM → Option (Int × zM)
  | 0, _, _, _ => none
  | n + 1, v1, v2, q =>
    (Po_size q ).bind fun r_1 =>
      if wrap v2 < wrap r_1 then
        (Po_wordsIn q v2).bind fun r_3 =>
          if wrap r_3 = (0 : Int) then
            (Ls_seek_114_5 q v2 (1 : Int) (1 : Int)).bind fun r_5 =>
              if wrap r_5.1 = (0 : Int) then
                Ev_make_L4 K n v1 (v2 + 1) r_5.2
              else
                if wrap v1 = (0 : Int) then
                  (Hi_record r_5.2 ).bind fun r_9 =>
                    (Ls_putInto r_9 v2).bind fun r_10 =>
                      Ev_make_L4 K n (v1 + 1) (v2 + 1) r_10
                else
                  (Ls_putInto r_5.2 v2).bind fun r_8 =>
                    Ev_make_L4 K n (v1 + 1) (v2 + 1) r_8
          else
            Ev_make_L4 K n v1 (v2 + 1) q
      else
        K v1 v2 q
theorem T_Ev_make_L4 {E : zE}  {K : Int → Int → zM → Option (Int × zM)} (hK : ∀ (v1 : Int) (v2 : Int) (q : zM), SimV E 98 (0, 0, 88, [(0, vR (some 1)), (1, vI v1), (2, vI v2)], [], hp q) eI (K v1 v2 q)) : ∀ (n : Nat) (v1 : Int) (v2 : Int) (q : zM), SimV E 98 (0, 0, 4, [(0, vR (some 1)), (1, vI v1), (2, vI v2)], [], hp q) eI (Ev_make_L4 K n v1 v2 q) := by
  intro n
  induction n with
  | zero => intro _ _ _; exact S_none
  | succ n ih =>
    intro v1 v2 q
    rw [Ev_make_L4]
    exact S_run 4 (f' := (0, 0, 12, [(0, vR (some 1)), (1, vI v1), (2, vI v2)], [vR (some 13), vI v2], hp q)) rfl (S_call (m' := 23) (args := [vR (some 13)]) (h := hp q) (k := fun r => (0, 0, 15, [(0, vR (some 1)), (1, vI v1), (2, vI v2)], r.1.toList ++ [vI v2], r.2)) rfl (T_Po_size q ) (fun r_1 => S_run 0 (f' := (0, 0, 15, [(0, vR (some 1)), (1, vI v1), (2, vI v2)], [vI r_1, vI v2], hp q)) rfl (S_ite (fun h_2 => S_go (J_icmp2 rfl rfl rfl (B_ge h_2)) (S_run 4 (f' := (0, 0, 26, [(0, vR (some 1)), (1, vI v1), (2, vI v2)], [vI v2, vR (some 13)], hp q)) rfl (S_call (m' := 27) (args := [vR (some 13), vI v2]) (h := hp q) (k := fun r => (0, 0, 29, [(0, vR (some 1)), (1, vI v1), (2, vI v2)], r.1.toList ++ [], r.2)) rfl (T_Po_wordsIn q v2) (fun r_3 => S_run 0 (f' := (0, 0, 29, [(0, vR (some 1)), (1, vI v1), (2, vI v2)], [vI r_3], hp q)) rfl (S_ite (fun h_4 => S_go (J_if2 rfl rfl (B_ne h_4)) (S_run 7 (f' := (0, 0, 43, [(0, vR (some 1)), (1, vI v1), (2, vI v2)], [vI (1 : Int), vI (1 : Int), vI v2, vR (some 5), vR (some 114)], hp q)) rfl (S_call (m' := 7) (args := [vR (some 114), vR (some 5), vI v2, vI (1 : Int), vI (1 : Int)]) (h := hp q) (k := fun r => (0, 0, 46, [(0, vR (some 1)), (1, vI v1), (2, vI v2)], r.1.toList ++ [], r.2)) rfl (T_Ls_seek_114_5 q v2 (1 : Int) (1 : Int)) (fun r_5 => S_run 0 (f' := (0, 0, 46, [(0, vR (some 1)), (1, vI v1), (2, vI v2)], [vI r_5.1], hp r_5.2)) rfl (S_ite (fun h_6 => S_go (J_if2 rfl rfl (B_eq h_6)) (S_run 2 (f' := (0, 0, 4, [(0, vR (some 1)), (1, vI v1), (2, vI (v2 + 1))], [], hp r_5.2)) rfl (ih v1 (v2 + 1) r_5.2))) (fun h_6 => S_go (J_if2 rfl rfl (B_eq' h_6)) (S_run 1 (f' := (0, 0, 50, [(0, vR (some 1)), (1, vI v1), (2, vI v2)], [vI v1], hp r_5.2)) rfl (S_ite (fun h_7 => S_go (J_if2 rfl rfl (B_ne h_7)) (S_run 4 (f' := (0, 0, 61, [(0, vR (some 1)), (1, vI v1), (2, vI v2)], [vR (some 5), vR (some 18)], hp r_5.2)) rfl (S_call (m' := 3) (args := [vR (some 18), vR (some 5)]) (h := hp r_5.2) (k := fun r => (0, 0, 64, [(0, vR (some 1)), (1, vI v1), (2, vI v2)], r.1.toList ++ [], r.2)) rfl (T_Hi_record r_5.2 ) (fun r_9 => S_run 6 (f' := (0, 0, 76, [(0, vR (some 1)), (1, vI v1), (2, vI v2)], [vI v2, vR (some 13), vR (some 114)], hp r_9)) rfl (S_call (m' := 9) (args := [vR (some 114), vR (some 13), vI v2]) (h := hp r_9) (k := fun r => (0, 0, 79, [(0, vR (some 1)), (1, vI v1), (2, vI v2)], r.1.toList ++ [], r.2)) rfl (T_Ls_putInto r_9 v2) (fun r_10 => S_run 3 (f' := (0, 0, 4, [(0, vR (some 1)), (1, vI (v1 + 1)), (2, vI (v2 + 1))], [], hp r_10)) rfl (ih (v1 + 1) (v2 + 1) r_10))))))) (fun h_7 => S_go (J_if2 rfl rfl (B_ne' h_7)) (S_run 6 (f' := (0, 0, 76, [(0, vR (some 1)), (1, vI v1), (2, vI v2)], [vI v2, vR (some 13), vR (some 114)], hp r_5.2)) rfl (S_call (m' := 9) (args := [vR (some 114), vR (some 13), vI v2]) (h := hp r_5.2) (k := fun r => (0, 0, 79, [(0, vR (some 1)), (1, vI v1), (2, vI v2)], r.1.toList ++ [], r.2)) rfl (T_Ls_putInto r_5.2 v2) (fun r_8 => S_run 3 (f' := (0, 0, 4, [(0, vR (some 1)), (1, vI (v1 + 1)), (2, vI (v2 + 1))], [], hp r_8)) rfl (ih (v1 + 1) (v2 + 1) r_8))))))))))))) (fun h_4 => S_go (J_if2 rfl rfl (B_ne' h_4)) (S_run 2 (f' := (0, 0, 4, [(0, vR (some 1)), (1, vI v1), (2, vI (v2 + 1))], [], hp q)) rfl (ih v1 (v2 + 1) q)))))))) (fun h_2 => S_go (J_icmp2 rfl rfl rfl (B_ge' h_2)) (S_run 0 (f' := (0, 0, 88, [(0, vR (some 1)), (1, vI v1), (2, vI v2)], [], hp q)) rfl (hK v1 v2 q))))))

def Ev_make (q : zM)  : Option (Int × zM) :=
  Ev_make_L4  (fun v1_11 v2_12 q_13 => 
    if wrap v1_11 = (0 : Int) then
      some ((-5 : Int), q_13)
    else
      some (v1_11, q_13)) 5000 (0 : Int) (0 : Int) q
theorem T_Ev_make {E : zE} (q : zM)  : SimV E 98 (entF [vR (some 1)] (hp q)) eI (Ev_make q ) := by
  unfold Ev_make
  exact S_run 0 (f' := (0, 0, 0, [(0, vR (some 1))], [], hp q)) rfl (S_run 4 (f' := (0, 0, 4, [(0, vR (some 1)), (1, vI (0 : Int)), (2, vI (0 : Int))], [], hp q)) rfl (T_Ev_make_L4  (fun v1_11 v2_12 q_13 => S_run 1 (f' := (0, 0, 89, [(0, vR (some 1)), (1, vI v1_11), (2, vI v2_12)], [vI v1_11], hp q_13)) rfl (S_ite (fun h_14 => S_go (J_if2 rfl rfl (B_ne h_14)) (S_run 2 (f' := (0, 0, 98, [(0, vR (some 1)), (1, vI v1_11), (2, vI v2_12)], [vI (-5 : Int)], hp q_13)) rfl (S_ret rfl))) (fun h_14 => S_go (J_if2 rfl rfl (B_ne' h_14)) (S_run 1 (f' := (0, 0, 98, [(0, vR (some 1)), (1, vI v1_11), (2, vI v2_12)], [vI v1_11], hp q_13)) rfl (S_ret rfl))))) 5000 (0 : Int) (0 : Int) q))

def Ev_clearLine (q : zM) (v1 : Int) : Option (Int × zM) :=
  (Po_has q v1).bind fun r_1 =>
    if wrap r_1 = (0 : Int) then
      some ((-1 : Int), q)
    else
      (Po_wordsIn q v1).bind fun r_3 =>
        if wrap r_3 = (0 : Int) then
          some ((-5 : Int), q)
        else
          (Hi_record q ).bind fun r_5 =>
            (Po_emptyLine r_5 v1).bind fun r_6 =>
              some (r_3, r_6)
theorem T_Ev_clearLine {E : zE} (q : zM) (v1 : Int) : SimV E 99 (entF [vR (some 1), vI v1] (hp q)) eI (Ev_clearLine q v1) := by
  unfold Ev_clearLine
  exact S_run 0 (f' := (0, 0, 0, [(0, vR (some 1)), (1, vI v1)], [], hp q)) rfl (S_run 4 (f' := (0, 0, 8, [(0, vR (some 1)), (1, vI v1)], [vI v1, vR (some 13)], hp q)) rfl (S_call (m' := 24) (args := [vR (some 13), vI v1]) (h := hp q) (k := fun r => (0, 0, 11, [(0, vR (some 1)), (1, vI v1)], r.1.toList ++ [], r.2)) rfl (T_Po_has q v1) (fun r_1 => S_run 0 (f' := (0, 0, 11, [(0, vR (some 1)), (1, vI v1)], [vI r_1], hp q)) rfl (S_ite (fun h_2 => S_go (J_if2 rfl rfl (B_ne h_2)) (S_run 1 (f' := (0, 0, 15, [(0, vR (some 1)), (1, vI v1)], [vI (-1 : Int)], hp q)) rfl (S_ret rfl))) (fun h_2 => S_go (J_if2 rfl rfl (B_ne' h_2)) (S_run 4 (f' := (0, 0, 24, [(0, vR (some 1)), (1, vI v1)], [vI v1, vR (some 13)], hp q)) rfl (S_call (m' := 27) (args := [vR (some 13), vI v1]) (h := hp q) (k := fun r => (0, 0, 27, [(0, vR (some 1)), (1, vI v1)], r.1.toList ++ [], r.2)) rfl (T_Po_wordsIn q v1) (fun r_3 => S_run 2 (f' := (0, 0, 29, [(0, vR (some 1)), (1, vI v1), (2, vI r_3)], [vI r_3], hp q)) rfl (S_ite (fun h_4 => S_go (J_if2 rfl rfl (B_ne h_4)) (S_run 1 (f' := (0, 0, 34, [(0, vR (some 1)), (1, vI v1), (2, vI r_3)], [vI (-5 : Int)], hp q)) rfl (S_ret rfl))) (fun h_4 => S_go (J_if2 rfl rfl (B_ne' h_4)) (S_run 4 (f' := (0, 0, 43, [(0, vR (some 1)), (1, vI v1), (2, vI r_3)], [vR (some 5), vR (some 18)], hp q)) rfl (S_call (m' := 3) (args := [vR (some 18), vR (some 5)]) (h := hp q) (k := fun r => (0, 0, 46, [(0, vR (some 1)), (1, vI v1), (2, vI r_3)], r.1.toList ++ [], r.2)) rfl (T_Hi_record q ) (fun r_5 => S_run 4 (f' := (0, 0, 54, [(0, vR (some 1)), (1, vI v1), (2, vI r_3)], [vI v1, vR (some 13)], hp r_5)) rfl (S_call (m' := 34) (args := [vR (some 13), vI v1]) (h := hp r_5) (k := fun r => (0, 0, 57, [(0, vR (some 1)), (1, vI v1), (2, vI r_3)], r.1.toList ++ [], r.2)) rfl (T_Po_emptyLine r_5 v1) (fun r_6 => S_run 1 (f' := (0, 0, 58, [(0, vR (some 1)), (1, vI v1), (2, vI r_3)], [vI r_3], hp r_6)) rfl (S_ret rfl))))))))))))))))

def Sn_has (q : zM) (v1 : Int) : Option Int :=
  if wrap v1 < (0 : Int) then
    some (0 : Int)
  else
    if wrap v1 < (2 : Int) then
      some (1 : Int)
    else
      some (0 : Int)
theorem T_Sn_has {E : zE} (q : zM) (v1 : Int) : SimV E 40 (entF [vR (some 85), vI v1] (hp q)) (eP q) (Sn_has q v1) := by
  unfold Sn_has
  exact S_run 0 (f' := (0, 0, 0, [(0, vR (some 85)), (1, vI v1)], [], hp q)) rfl (S_run 1 (f' := (0, 0, 1, [(0, vR (some 85)), (1, vI v1)], [vI v1], hp q)) rfl (S_ite (fun h_1 => S_go (J_if2 rfl rfl (B_lt h_1)) (S_run 1 (f' := (0, 0, 14, [(0, vR (some 85)), (1, vI v1)], [vI (0 : Int)], hp q)) rfl (S_ret rfl))) (fun h_1 => S_go (J_if2 rfl rfl (B_lt' h_1)) (S_run 2 (f' := (0, 0, 6, [(0, vR (some 85)), (1, vI v1)], [vI (2 : Int), vI v1], hp q)) rfl (S_ite (fun h_2 => S_go (J_icmp2 rfl rfl wl_2 (B_ge h_2)) (S_run 2 (f' := (0, 0, 14, [(0, vR (some 85)), (1, vI v1)], [vI (1 : Int)], hp q)) rfl (S_ret rfl))) (fun h_2 => S_go (J_icmp2 rfl rfl wl_2 (B_ge' h_2)) (S_run 1 (f' := (0, 0, 14, [(0, vR (some 85)), (1, vI v1)], [vI (0 : Int)], hp q)) rfl (S_ret rfl))))))))

def Ws_copyFrom_102_6_b68 (q : zM)  : Option zM :=
  some (qc q 11 0 107 0 40)
theorem T_Ws_copyFrom_102_6_b68 {E : zE} (q : zM)  : SimV E 88 (0, 0, 68, [(0, vR (some 102)), (1, vR (some 6))], [], hp q) eV (Ws_copyFrom_102_6_b68 q ) := by
  unfold Ws_copyFrom_102_6_b68
  exact S_run 8 (f' := (0, 0, 83, [(0, vR (some 102)), (1, vR (some 6))], [], hp (qc q 11 0 107 0 40))) rfl (S_ret rfl)

def Ws_copyFrom_102_6_b53 (q : zM)  : Option zM :=
  Ws_copyFrom_102_6_b68 (qc q 10 0 106 0 40)
theorem T_Ws_copyFrom_102_6_b53 {E : zE} (q : zM)  : SimV E 88 (0, 0, 53, [(0, vR (some 102)), (1, vR (some 6))], [], hp q) eV (Ws_copyFrom_102_6_b53 q ) := by
  unfold Ws_copyFrom_102_6_b53
  exact S_run 8 (f' := (0, 0, 68, [(0, vR (some 102)), (1, vR (some 6))], [], hp (qc q 10 0 106 0 40))) rfl (T_Ws_copyFrom_102_6_b68 (qc q 10 0 106 0 40))

def Ws_copyFrom_102_6_b38 (q : zM)  : Option zM :=
  Ws_copyFrom_102_6_b53 (qc q 9 0 105 0 40)
theorem T_Ws_copyFrom_102_6_b38 {E : zE} (q : zM)  : SimV E 88 (0, 0, 38, [(0, vR (some 102)), (1, vR (some 6))], [], hp q) eV (Ws_copyFrom_102_6_b38 q ) := by
  unfold Ws_copyFrom_102_6_b38
  exact S_run 8 (f' := (0, 0, 53, [(0, vR (some 102)), (1, vR (some 6))], [], hp (qc q 9 0 105 0 40))) rfl (T_Ws_copyFrom_102_6_b53 (qc q 9 0 105 0 40))

def Ws_copyFrom_102_6_b23 (q : zM)  : Option zM :=
  Ws_copyFrom_102_6_b38 (qc q 8 0 104 0 40)
theorem T_Ws_copyFrom_102_6_b23 {E : zE} (q : zM)  : SimV E 88 (0, 0, 23, [(0, vR (some 102)), (1, vR (some 6))], [], hp q) eV (Ws_copyFrom_102_6_b23 q ) := by
  unfold Ws_copyFrom_102_6_b23
  exact S_run 8 (f' := (0, 0, 38, [(0, vR (some 102)), (1, vR (some 6))], [], hp (qc q 8 0 104 0 40))) rfl (T_Ws_copyFrom_102_6_b38 (qc q 8 0 104 0 40))

def Ws_copyFrom_102_6_b8 (q : zM)  : Option zM :=
  Ws_copyFrom_102_6_b23 (qcl q 7 0 103 0 40)
theorem T_Ws_copyFrom_102_6_b8 {E : zE} (q : zM)  : SimV E 88 (0, 0, 8, [(0, vR (some 102)), (1, vR (some 6))], [], hp q) eV (Ws_copyFrom_102_6_b8 q ) := by
  unfold Ws_copyFrom_102_6_b8
  exact S_run 8 (f' := (0, 0, 23, [(0, vR (some 102)), (1, vR (some 6))], [], hp (qcl q 7 0 103 0 40))) rfl (T_Ws_copyFrom_102_6_b23 (qcl q 7 0 103 0 40))

def Ws_copyFrom_102_6 (q : zM)  : Option zM :=
  Ws_copyFrom_102_6_b8 (qs q 102 0 (q.1 6 0))
theorem T_Ws_copyFrom_102_6 {E : zE} (q : zM)  : SimV E 88 (entF [vR (some 102), vR (some 6)] (hp q)) eV (Ws_copyFrom_102_6 q ) := by
  unfold Ws_copyFrom_102_6
  exact S_run 0 (f' := (0, 0, 0, [(0, vR (some 102)), (1, vR (some 6))], [], hp q)) rfl (S_run 4 (f' := (0, 0, 8, [(0, vR (some 102)), (1, vR (some 6))], [], hp (qs q 102 0 (q.1 6 0)))) rfl (T_Ws_copyFrom_102_6_b8 (qs q 102 0 (q.1 6 0))))

def Me_change_108_b5 (q : zM) (v1 : Int) (v2 : Int) : Option zM :=
  some (qs q 108 1 v2)
theorem T_Me_change_108_b5 {E : zE} (q : zM) (v1 : Int) (v2 : Int) : SimV E 17 (0, 0, 5, [(0, vR (some 108)), (1, vI v1), (2, vI v2)], [], hp q) eV (Me_change_108_b5 q v1 v2) := by
  unfold Me_change_108_b5
  exact S_run 3 (f' := (0, 0, 10, [(0, vR (some 108)), (1, vI v1), (2, vI v2)], [], hp (qs q 108 1 v2))) rfl (S_ret rfl)

def Me_change_108 (q : zM) (v1 : Int) (v2 : Int) : Option zM :=
  Me_change_108_b5 (qs q 108 0 v1) v1 v2
theorem T_Me_change_108 {E : zE} (q : zM) (v1 : Int) (v2 : Int) : SimV E 17 (entF [vR (some 108), vI v1, vI v2] (hp q)) eV (Me_change_108 q v1 v2) := by
  unfold Me_change_108
  exact S_run 0 (f' := (0, 0, 0, [(0, vR (some 108)), (1, vI v1), (2, vI v2)], [], hp q)) rfl (S_run 3 (f' := (0, 0, 5, [(0, vR (some 108)), (1, vI v1), (2, vI v2)], [], hp (qs q 108 0 v1))) rfl (T_Me_change_108_b5 (qs q 108 0 v1) v1 v2))

def Me_copyFrom_108_12 (q : zM)  : Option zM :=
  (Me_change_108 q (q.1 12 0) (q.1 12 1)).bind fun r_1 =>
    some r_1
theorem T_Me_copyFrom_108_12 {E : zE} (q : zM)  : SimV E 21 (entF [vR (some 108), vR (some 12)] (hp q)) eV (Me_copyFrom_108_12 q ) := by
  unfold Me_copyFrom_108_12
  exact S_run 0 (f' := (0, 0, 0, [(0, vR (some 108)), (1, vR (some 12))], [], hp q)) rfl (S_run 5 (f' := (0, 0, 9, [(0, vR (some 108)), (1, vR (some 12))], [vI (q.1 12 1), vI (q.1 12 0), vR (some 108)], hp q)) rfl (S_call (m' := 17) (args := [vR (some 108), vI (q.1 12 0), vI (q.1 12 1)]) (h := hp q) (k := fun r => (0, 0, 12, [(0, vR (some 108)), (1, vR (some 12))], r.1.toList ++ [], r.2)) rfl (T_Me_change_108 q (q.1 12 0) (q.1 12 1)) (fun r_1 => S_run 0 (f' := (0, 0, 12, [(0, vR (some 108)), (1, vR (some 12))], [], hp r_1)) rfl (S_ret rfl))))

def Po_copyFrom_109_13_b53 (q : zM)  : Option zM :=
  some (qc q 17 0 113 0 96)
theorem T_Po_copyFrom_109_13_b53 {E : zE} (q : zM)  : SimV E 38 (0, 0, 53, [(0, vR (some 109)), (1, vR (some 13))], [], hp q) eV (Po_copyFrom_109_13_b53 q ) := by
  unfold Po_copyFrom_109_13_b53
  exact S_run 8 (f' := (0, 0, 68, [(0, vR (some 109)), (1, vR (some 13))], [], hp (qc q 17 0 113 0 96))) rfl (S_ret rfl)

def Po_copyFrom_109_13_b38 (q : zM)  : Option zM :=
  Po_copyFrom_109_13_b53 (qc q 16 0 112 0 8)
theorem T_Po_copyFrom_109_13_b38 {E : zE} (q : zM)  : SimV E 38 (0, 0, 38, [(0, vR (some 109)), (1, vR (some 13))], [], hp q) eV (Po_copyFrom_109_13_b38 q ) := by
  unfold Po_copyFrom_109_13_b38
  exact S_run 8 (f' := (0, 0, 53, [(0, vR (some 109)), (1, vR (some 13))], [], hp (qc q 16 0 112 0 8))) rfl (T_Po_copyFrom_109_13_b53 (qc q 16 0 112 0 8))

def Po_copyFrom_109_13_b23 (q : zM)  : Option zM :=
  Po_copyFrom_109_13_b38 (qc q 15 0 111 0 8)
theorem T_Po_copyFrom_109_13_b23 {E : zE} (q : zM)  : SimV E 38 (0, 0, 23, [(0, vR (some 109)), (1, vR (some 13))], [], hp q) eV (Po_copyFrom_109_13_b23 q ) := by
  unfold Po_copyFrom_109_13_b23
  exact S_run 8 (f' := (0, 0, 38, [(0, vR (some 109)), (1, vR (some 13))], [], hp (qc q 15 0 111 0 8))) rfl (T_Po_copyFrom_109_13_b38 (qc q 15 0 111 0 8))

def Po_copyFrom_109_13_b8 (q : zM)  : Option zM :=
  Po_copyFrom_109_13_b23 (qc q 14 0 110 0 8)
theorem T_Po_copyFrom_109_13_b8 {E : zE} (q : zM)  : SimV E 38 (0, 0, 8, [(0, vR (some 109)), (1, vR (some 13))], [], hp q) eV (Po_copyFrom_109_13_b8 q ) := by
  unfold Po_copyFrom_109_13_b8
  exact S_run 8 (f' := (0, 0, 23, [(0, vR (some 109)), (1, vR (some 13))], [], hp (qc q 14 0 110 0 8))) rfl (T_Po_copyFrom_109_13_b23 (qc q 14 0 110 0 8))

def Po_copyFrom_109_13 (q : zM)  : Option zM :=
  Po_copyFrom_109_13_b8 (qs q 109 0 (q.1 13 0))
theorem T_Po_copyFrom_109_13 {E : zE} (q : zM)  : SimV E 38 (entF [vR (some 109), vR (some 13)] (hp q)) eV (Po_copyFrom_109_13 q ) := by
  unfold Po_copyFrom_109_13
  exact S_run 0 (f' := (0, 0, 0, [(0, vR (some 109)), (1, vR (some 13))], [], hp q)) rfl (S_run 4 (f' := (0, 0, 8, [(0, vR (some 109)), (1, vR (some 13))], [], hp (qs q 109 0 (q.1 13 0)))) rfl (T_Po_copyFrom_109_13_b8 (qs q 109 0 (q.1 13 0))))

def St_copyFrom_101_5 (q : zM)  : Option zM :=
  (Ws_copyFrom_102_6 q ).bind fun r_1 =>
    (Me_copyFrom_108_12 r_1 ).bind fun r_2 =>
      (Po_copyFrom_109_13 r_2 ).bind fun r_3 =>
        some r_3
theorem T_St_copyFrom_101_5 {E : zE} (q : zM)  : SimV E 45 (entF [vR (some 101), vR (some 5)] (hp q)) eV (St_copyFrom_101_5 q ) := by
  unfold St_copyFrom_101_5
  exact S_run 0 (f' := (0, 0, 0, [(0, vR (some 101)), (1, vR (some 5))], [], hp q)) rfl (S_run 4 (f' := (0, 0, 8, [(0, vR (some 101)), (1, vR (some 5))], [vR (some 6), vR (some 102)], hp q)) rfl (S_call (m' := 88) (args := [vR (some 102), vR (some 6)]) (h := hp q) (k := fun r => (0, 0, 11, [(0, vR (some 101)), (1, vR (some 5))], r.1.toList ++ [], r.2)) rfl (T_Ws_copyFrom_102_6 q ) (fun r_1 => S_run 4 (f' := (0, 0, 19, [(0, vR (some 101)), (1, vR (some 5))], [vR (some 12), vR (some 108)], hp r_1)) rfl (S_call (m' := 21) (args := [vR (some 108), vR (some 12)]) (h := hp r_1) (k := fun r => (0, 0, 22, [(0, vR (some 101)), (1, vR (some 5))], r.1.toList ++ [], r.2)) rfl (T_Me_copyFrom_108_12 r_1 ) (fun r_2 => S_run 4 (f' := (0, 0, 30, [(0, vR (some 101)), (1, vR (some 5))], [vR (some 13), vR (some 109)], hp r_2)) rfl (S_call (m' := 38) (args := [vR (some 109), vR (some 13)]) (h := hp r_2) (k := fun r => (0, 0, 33, [(0, vR (some 101)), (1, vR (some 5))], r.1.toList ++ [], r.2)) rfl (T_Po_copyFrom_109_13 r_2 ) (fun r_3 => S_run 0 (f' := (0, 0, 33, [(0, vR (some 101)), (1, vR (some 5))], [], hp r_3)) rfl (S_ret rfl))))))))

def Ws_copyFrom_89_6_b68 (q : zM)  : Option zM :=
  some (qc q 11 0 94 0 40)
theorem T_Ws_copyFrom_89_6_b68 {E : zE} (q : zM)  : SimV E 88 (0, 0, 68, [(0, vR (some 89)), (1, vR (some 6))], [], hp q) eV (Ws_copyFrom_89_6_b68 q ) := by
  unfold Ws_copyFrom_89_6_b68
  exact S_run 8 (f' := (0, 0, 83, [(0, vR (some 89)), (1, vR (some 6))], [], hp (qc q 11 0 94 0 40))) rfl (S_ret rfl)

def Ws_copyFrom_89_6_b53 (q : zM)  : Option zM :=
  Ws_copyFrom_89_6_b68 (qc q 10 0 93 0 40)
theorem T_Ws_copyFrom_89_6_b53 {E : zE} (q : zM)  : SimV E 88 (0, 0, 53, [(0, vR (some 89)), (1, vR (some 6))], [], hp q) eV (Ws_copyFrom_89_6_b53 q ) := by
  unfold Ws_copyFrom_89_6_b53
  exact S_run 8 (f' := (0, 0, 68, [(0, vR (some 89)), (1, vR (some 6))], [], hp (qc q 10 0 93 0 40))) rfl (T_Ws_copyFrom_89_6_b68 (qc q 10 0 93 0 40))

def Ws_copyFrom_89_6_b38 (q : zM)  : Option zM :=
  Ws_copyFrom_89_6_b53 (qc q 9 0 92 0 40)
theorem T_Ws_copyFrom_89_6_b38 {E : zE} (q : zM)  : SimV E 88 (0, 0, 38, [(0, vR (some 89)), (1, vR (some 6))], [], hp q) eV (Ws_copyFrom_89_6_b38 q ) := by
  unfold Ws_copyFrom_89_6_b38
  exact S_run 8 (f' := (0, 0, 53, [(0, vR (some 89)), (1, vR (some 6))], [], hp (qc q 9 0 92 0 40))) rfl (T_Ws_copyFrom_89_6_b53 (qc q 9 0 92 0 40))

def Ws_copyFrom_89_6_b23 (q : zM)  : Option zM :=
  Ws_copyFrom_89_6_b38 (qc q 8 0 91 0 40)
theorem T_Ws_copyFrom_89_6_b23 {E : zE} (q : zM)  : SimV E 88 (0, 0, 23, [(0, vR (some 89)), (1, vR (some 6))], [], hp q) eV (Ws_copyFrom_89_6_b23 q ) := by
  unfold Ws_copyFrom_89_6_b23
  exact S_run 8 (f' := (0, 0, 38, [(0, vR (some 89)), (1, vR (some 6))], [], hp (qc q 8 0 91 0 40))) rfl (T_Ws_copyFrom_89_6_b38 (qc q 8 0 91 0 40))

def Ws_copyFrom_89_6_b8 (q : zM)  : Option zM :=
  Ws_copyFrom_89_6_b23 (qcl q 7 0 90 0 40)
theorem T_Ws_copyFrom_89_6_b8 {E : zE} (q : zM)  : SimV E 88 (0, 0, 8, [(0, vR (some 89)), (1, vR (some 6))], [], hp q) eV (Ws_copyFrom_89_6_b8 q ) := by
  unfold Ws_copyFrom_89_6_b8
  exact S_run 8 (f' := (0, 0, 23, [(0, vR (some 89)), (1, vR (some 6))], [], hp (qcl q 7 0 90 0 40))) rfl (T_Ws_copyFrom_89_6_b23 (qcl q 7 0 90 0 40))

def Ws_copyFrom_89_6 (q : zM)  : Option zM :=
  Ws_copyFrom_89_6_b8 (qs q 89 0 (q.1 6 0))
theorem T_Ws_copyFrom_89_6 {E : zE} (q : zM)  : SimV E 88 (entF [vR (some 89), vR (some 6)] (hp q)) eV (Ws_copyFrom_89_6 q ) := by
  unfold Ws_copyFrom_89_6
  exact S_run 0 (f' := (0, 0, 0, [(0, vR (some 89)), (1, vR (some 6))], [], hp q)) rfl (S_run 4 (f' := (0, 0, 8, [(0, vR (some 89)), (1, vR (some 6))], [], hp (qs q 89 0 (q.1 6 0)))) rfl (T_Ws_copyFrom_89_6_b8 (qs q 89 0 (q.1 6 0))))

def Me_change_95_b5 (q : zM) (v1 : Int) (v2 : Int) : Option zM :=
  some (qs q 95 1 v2)
theorem T_Me_change_95_b5 {E : zE} (q : zM) (v1 : Int) (v2 : Int) : SimV E 17 (0, 0, 5, [(0, vR (some 95)), (1, vI v1), (2, vI v2)], [], hp q) eV (Me_change_95_b5 q v1 v2) := by
  unfold Me_change_95_b5
  exact S_run 3 (f' := (0, 0, 10, [(0, vR (some 95)), (1, vI v1), (2, vI v2)], [], hp (qs q 95 1 v2))) rfl (S_ret rfl)

def Me_change_95 (q : zM) (v1 : Int) (v2 : Int) : Option zM :=
  Me_change_95_b5 (qs q 95 0 v1) v1 v2
theorem T_Me_change_95 {E : zE} (q : zM) (v1 : Int) (v2 : Int) : SimV E 17 (entF [vR (some 95), vI v1, vI v2] (hp q)) eV (Me_change_95 q v1 v2) := by
  unfold Me_change_95
  exact S_run 0 (f' := (0, 0, 0, [(0, vR (some 95)), (1, vI v1), (2, vI v2)], [], hp q)) rfl (S_run 3 (f' := (0, 0, 5, [(0, vR (some 95)), (1, vI v1), (2, vI v2)], [], hp (qs q 95 0 v1))) rfl (T_Me_change_95_b5 (qs q 95 0 v1) v1 v2))

def Me_copyFrom_95_12 (q : zM)  : Option zM :=
  (Me_change_95 q (q.1 12 0) (q.1 12 1)).bind fun r_1 =>
    some r_1
theorem T_Me_copyFrom_95_12 {E : zE} (q : zM)  : SimV E 21 (entF [vR (some 95), vR (some 12)] (hp q)) eV (Me_copyFrom_95_12 q ) := by
  unfold Me_copyFrom_95_12
  exact S_run 0 (f' := (0, 0, 0, [(0, vR (some 95)), (1, vR (some 12))], [], hp q)) rfl (S_run 5 (f' := (0, 0, 9, [(0, vR (some 95)), (1, vR (some 12))], [vI (q.1 12 1), vI (q.1 12 0), vR (some 95)], hp q)) rfl (S_call (m' := 17) (args := [vR (some 95), vI (q.1 12 0), vI (q.1 12 1)]) (h := hp q) (k := fun r => (0, 0, 12, [(0, vR (some 95)), (1, vR (some 12))], r.1.toList ++ [], r.2)) rfl (T_Me_change_95 q (q.1 12 0) (q.1 12 1)) (fun r_1 => S_run 0 (f' := (0, 0, 12, [(0, vR (some 95)), (1, vR (some 12))], [], hp r_1)) rfl (S_ret rfl))))

def Po_copyFrom_96_13_b53 (q : zM)  : Option zM :=
  some (qc q 17 0 100 0 96)
theorem T_Po_copyFrom_96_13_b53 {E : zE} (q : zM)  : SimV E 38 (0, 0, 53, [(0, vR (some 96)), (1, vR (some 13))], [], hp q) eV (Po_copyFrom_96_13_b53 q ) := by
  unfold Po_copyFrom_96_13_b53
  exact S_run 8 (f' := (0, 0, 68, [(0, vR (some 96)), (1, vR (some 13))], [], hp (qc q 17 0 100 0 96))) rfl (S_ret rfl)

def Po_copyFrom_96_13_b38 (q : zM)  : Option zM :=
  Po_copyFrom_96_13_b53 (qc q 16 0 99 0 8)
theorem T_Po_copyFrom_96_13_b38 {E : zE} (q : zM)  : SimV E 38 (0, 0, 38, [(0, vR (some 96)), (1, vR (some 13))], [], hp q) eV (Po_copyFrom_96_13_b38 q ) := by
  unfold Po_copyFrom_96_13_b38
  exact S_run 8 (f' := (0, 0, 53, [(0, vR (some 96)), (1, vR (some 13))], [], hp (qc q 16 0 99 0 8))) rfl (T_Po_copyFrom_96_13_b53 (qc q 16 0 99 0 8))

def Po_copyFrom_96_13_b23 (q : zM)  : Option zM :=
  Po_copyFrom_96_13_b38 (qc q 15 0 98 0 8)
theorem T_Po_copyFrom_96_13_b23 {E : zE} (q : zM)  : SimV E 38 (0, 0, 23, [(0, vR (some 96)), (1, vR (some 13))], [], hp q) eV (Po_copyFrom_96_13_b23 q ) := by
  unfold Po_copyFrom_96_13_b23
  exact S_run 8 (f' := (0, 0, 38, [(0, vR (some 96)), (1, vR (some 13))], [], hp (qc q 15 0 98 0 8))) rfl (T_Po_copyFrom_96_13_b38 (qc q 15 0 98 0 8))

def Po_copyFrom_96_13_b8 (q : zM)  : Option zM :=
  Po_copyFrom_96_13_b23 (qc q 14 0 97 0 8)
theorem T_Po_copyFrom_96_13_b8 {E : zE} (q : zM)  : SimV E 38 (0, 0, 8, [(0, vR (some 96)), (1, vR (some 13))], [], hp q) eV (Po_copyFrom_96_13_b8 q ) := by
  unfold Po_copyFrom_96_13_b8
  exact S_run 8 (f' := (0, 0, 23, [(0, vR (some 96)), (1, vR (some 13))], [], hp (qc q 14 0 97 0 8))) rfl (T_Po_copyFrom_96_13_b23 (qc q 14 0 97 0 8))

def Po_copyFrom_96_13 (q : zM)  : Option zM :=
  Po_copyFrom_96_13_b8 (qs q 96 0 (q.1 13 0))
theorem T_Po_copyFrom_96_13 {E : zE} (q : zM)  : SimV E 38 (entF [vR (some 96), vR (some 13)] (hp q)) eV (Po_copyFrom_96_13 q ) := by
  unfold Po_copyFrom_96_13
  exact S_run 0 (f' := (0, 0, 0, [(0, vR (some 96)), (1, vR (some 13))], [], hp q)) rfl (S_run 4 (f' := (0, 0, 8, [(0, vR (some 96)), (1, vR (some 13))], [], hp (qs q 96 0 (q.1 13 0)))) rfl (T_Po_copyFrom_96_13_b8 (qs q 96 0 (q.1 13 0))))

def St_copyFrom_88_5 (q : zM)  : Option zM :=
  (Ws_copyFrom_89_6 q ).bind fun r_1 =>
    (Me_copyFrom_95_12 r_1 ).bind fun r_2 =>
      (Po_copyFrom_96_13 r_2 ).bind fun r_3 =>
        some r_3
theorem T_St_copyFrom_88_5 {E : zE} (q : zM)  : SimV E 45 (entF [vR (some 88), vR (some 5)] (hp q)) eV (St_copyFrom_88_5 q ) := by
  unfold St_copyFrom_88_5
  exact S_run 0 (f' := (0, 0, 0, [(0, vR (some 88)), (1, vR (some 5))], [], hp q)) rfl (S_run 4 (f' := (0, 0, 8, [(0, vR (some 88)), (1, vR (some 5))], [vR (some 6), vR (some 89)], hp q)) rfl (S_call (m' := 88) (args := [vR (some 89), vR (some 6)]) (h := hp q) (k := fun r => (0, 0, 11, [(0, vR (some 88)), (1, vR (some 5))], r.1.toList ++ [], r.2)) rfl (T_Ws_copyFrom_89_6 q ) (fun r_1 => S_run 4 (f' := (0, 0, 19, [(0, vR (some 88)), (1, vR (some 5))], [vR (some 12), vR (some 95)], hp r_1)) rfl (S_call (m' := 21) (args := [vR (some 95), vR (some 12)]) (h := hp r_1) (k := fun r => (0, 0, 22, [(0, vR (some 88)), (1, vR (some 5))], r.1.toList ++ [], r.2)) rfl (T_Me_copyFrom_95_12 r_1 ) (fun r_2 => S_run 4 (f' := (0, 0, 30, [(0, vR (some 88)), (1, vR (some 5))], [vR (some 13), vR (some 96)], hp r_2)) rfl (S_call (m' := 38) (args := [vR (some 96), vR (some 13)]) (h := hp r_2) (k := fun r => (0, 0, 33, [(0, vR (some 88)), (1, vR (some 5))], r.1.toList ++ [], r.2)) rfl (T_Po_copyFrom_96_13 r_2 ) (fun r_3 => S_run 0 (f' := (0, 0, 33, [(0, vR (some 88)), (1, vR (some 5))], [], hp r_3)) rfl (S_ret rfl))))))))

def Sn_take (q : zM) (v1 : Int) : Option zM :=
  (Sn_has q v1).bind fun r_1 =>
    if wrap r_1 = (0 : Int) then
      some q
    else
      if wrap v1 = 0 then
        (St_copyFrom_88_5 q ).bind fun r_6 =>
          ck (wrap v1) 2 (
            some (qs r_6 87 (wrap v1).toNat ((1 : Int) % 2)))
      else
        if wrap v1 = 1 then
          (St_copyFrom_101_5 q ).bind fun r_4 =>
            ck (wrap v1) 2 (
              some (qs r_4 87 (wrap v1).toNat ((1 : Int) % 2)))
        else
          none
theorem T_Sn_take {E : zE} (q : zM) (v1 : Int) : SimV E 42 (entF [vR (some 85), vI v1, vR (some 5)] (hp q)) eV (Sn_take q v1) := by
  unfold Sn_take
  exact S_run 0 (f' := (0, 0, 0, [(0, vR (some 85)), (1, vI v1), (2, vR (some 5))], [], hp q)) rfl (S_run 2 (f' := (0, 0, 2, [(0, vR (some 85)), (1, vI v1), (2, vR (some 5))], [vI v1, vR (some 85)], hp q)) rfl (S_call (m' := 40) (args := [vR (some 85), vI v1]) (h := hp q) (k := fun r => (0, 0, 5, [(0, vR (some 85)), (1, vI v1), (2, vR (some 5))], r.1.toList ++ [], r.2)) rfl (T_Sn_has q v1) (fun r_1 => S_run 0 (f' := (0, 0, 5, [(0, vR (some 85)), (1, vI v1), (2, vR (some 5))], [vI r_1], hp q)) rfl (S_ite (fun h_2 => S_go (J_if2 rfl rfl (B_eq h_2)) (S_run 0 (f' := (0, 0, 25, [(0, vR (some 85)), (1, vI v1), (2, vR (some 5))], [], hp q)) rfl (S_ret rfl))) (fun h_2 => S_go (J_if2 rfl rfl (B_eq' h_2)) (S_run 3 (f' := (0, 0, 13, [(0, vR (some 85)), (1, vI v1), (2, vR (some 5))], [vI v1, vR (some 86)], hp q)) rfl (S_ite (fun h_3_0 => S_go (H_aald (j := 0) rfl rfl rfl h_3_0 (by decide) rfl) (S_run 1 (f' := (0, 0, 15, [(0, vR (some 85)), (1, vI v1), (2, vR (some 5))], [vR (some 5), vR (some 88)], hp q)) rfl (S_call (m' := 45) (args := [vR (some 88), vR (some 5)]) (h := hp q) (k := fun r => (0, 0, 18, [(0, vR (some 85)), (1, vI v1), (2, vR (some 5))], r.1.toList ++ [], r.2)) rfl (T_St_copyFrom_88_5 q ) (fun r_6 => S_run 4 (f' := (0, 0, 24, [(0, vR (some 85)), (1, vI v1), (2, vR (some 5))], [vI (1 : Int), vI v1, vR (some 87)], hp r_6)) rfl (S_ck (n := 2) (fun h_7 => S_go (H_bast rfl rfl rfl h_7) (S_run 0 (f' := (0, 0, 25, [(0, vR (some 85)), (1, vI v1), (2, vR (some 5))], [], hp (qs r_6 87 (wrap v1).toNat ((1 : Int) % 2)))) rfl (S_ret rfl)))))))) (fun _ => S_ite (fun h_3_1 => S_go (H_aald (j := 1) rfl rfl rfl h_3_1 (by decide) rfl) (S_run 1 (f' := (0, 0, 15, [(0, vR (some 85)), (1, vI v1), (2, vR (some 5))], [vR (some 5), vR (some 101)], hp q)) rfl (S_call (m' := 45) (args := [vR (some 101), vR (some 5)]) (h := hp q) (k := fun r => (0, 0, 18, [(0, vR (some 85)), (1, vI v1), (2, vR (some 5))], r.1.toList ++ [], r.2)) rfl (T_St_copyFrom_101_5 q ) (fun r_4 => S_run 4 (f' := (0, 0, 24, [(0, vR (some 85)), (1, vI v1), (2, vR (some 5))], [vI (1 : Int), vI v1, vR (some 87)], hp r_4)) rfl (S_ck (n := 2) (fun h_5 => S_go (H_bast rfl rfl rfl h_5) (S_run 0 (f' := (0, 0, 25, [(0, vR (some 85)), (1, vI v1), (2, vR (some 5))], [], hp (qs r_4 87 (wrap v1).toNat ((1 : Int) % 2)))) rfl (S_ret rfl)))))))) (fun _ => S_none)))))))))

def Ev_keep (q : zM) (v1 : Int) : Option (Int × zM) :=
  (Sn_has q v1).bind fun r_1 =>
    if wrap r_1 = (0 : Int) then
      some ((-1 : Int), q)
    else
      (Sn_take q v1).bind fun r_3 =>
        (Ws_size r_3 ).bind fun r_4 =>
          some (r_4, r_3)
theorem T_Ev_keep {E : zE} (q : zM) (v1 : Int) : SimV E 100 (entF [vR (some 1), vI v1] (hp q)) eI (Ev_keep q v1) := by
  unfold Ev_keep
  exact S_run 0 (f' := (0, 0, 0, [(0, vR (some 1)), (1, vI v1)], [], hp q)) rfl (S_run 3 (f' := (0, 0, 5, [(0, vR (some 1)), (1, vI v1)], [vI v1, vR (some 85)], hp q)) rfl (S_call (m' := 40) (args := [vR (some 85), vI v1]) (h := hp q) (k := fun r => (0, 0, 8, [(0, vR (some 1)), (1, vI v1)], r.1.toList ++ [], r.2)) rfl (T_Sn_has q v1) (fun r_1 => S_run 0 (f' := (0, 0, 8, [(0, vR (some 1)), (1, vI v1)], [vI r_1], hp q)) rfl (S_ite (fun h_2 => S_go (J_if2 rfl rfl (B_ne h_2)) (S_run 1 (f' := (0, 0, 12, [(0, vR (some 1)), (1, vI v1)], [vI (-1 : Int)], hp q)) rfl (S_ret rfl))) (fun h_2 => S_go (J_if2 rfl rfl (B_ne' h_2)) (S_run 5 (f' := (0, 0, 22, [(0, vR (some 1)), (1, vI v1)], [vR (some 5), vI v1, vR (some 85)], hp q)) rfl (S_call (m' := 42) (args := [vR (some 85), vI v1, vR (some 5)]) (h := hp q) (k := fun r => (0, 0, 25, [(0, vR (some 1)), (1, vI v1)], r.1.toList ++ [], r.2)) rfl (T_Sn_take q v1) (fun r_3 => S_run 3 (f' := (0, 0, 32, [(0, vR (some 1)), (1, vI v1)], [vR (some 6)], hp r_3)) rfl (S_call (m' := 74) (args := [vR (some 6)]) (h := hp r_3) (k := fun r => (0, 0, 35, [(0, vR (some 1)), (1, vI v1)], r.1.toList ++ [], r.2)) rfl (T_Ws_size r_3 ) (fun r_4 => S_run 0 (f' := (0, 0, 35, [(0, vR (some 1)), (1, vI v1)], [vI r_4], hp r_3)) rfl (S_ret rfl)))))))))))

def Sn_isTaken (q : zM) (v1 : Int) : Option Int :=
  (Sn_has q v1).bind fun r_1 =>
    if wrap r_1 = (0 : Int) then
      some (0 : Int)
    else
      ck (wrap v1) 2 (
        if wrap (q.1 87 (wrap v1).toNat) = (0 : Int) then
          some (0 : Int)
        else
          some (1 : Int))
theorem T_Sn_isTaken {E : zE} (q : zM) (v1 : Int) : SimV E 41 (entF [vR (some 85), vI v1] (hp q)) (eP q) (Sn_isTaken q v1) := by
  unfold Sn_isTaken
  exact S_run 0 (f' := (0, 0, 0, [(0, vR (some 85)), (1, vI v1)], [], hp q)) rfl (S_run 2 (f' := (0, 0, 2, [(0, vR (some 85)), (1, vI v1)], [vI v1, vR (some 85)], hp q)) rfl (S_call (m' := 40) (args := [vR (some 85), vI v1]) (h := hp q) (k := fun r => (0, 0, 5, [(0, vR (some 85)), (1, vI v1)], r.1.toList ++ [], r.2)) rfl (T_Sn_has q v1) (fun r_1 => S_run 0 (f' := (0, 0, 5, [(0, vR (some 85)), (1, vI v1)], [vI r_1], hp q)) rfl (S_ite (fun h_2 => S_go (J_if2 rfl rfl (B_eq h_2)) (S_run 1 (f' := (0, 0, 22, [(0, vR (some 85)), (1, vI v1)], [vI (0 : Int)], hp q)) rfl (S_ret rfl))) (fun h_2 => S_go (J_if2 rfl rfl (B_eq' h_2)) (S_run 3 (f' := (0, 0, 13, [(0, vR (some 85)), (1, vI v1)], [vI v1, vR (some 87)], hp q)) rfl (S_ck (n := 2) (fun h_3 => S_go (H_bald rfl rfl rfl h_3) (S_run 0 (f' := (0, 0, 14, [(0, vR (some 85)), (1, vI v1)], [vI (q.1 87 (wrap v1).toNat)], hp q)) rfl (S_ite (fun h_4 => S_go (J_if2 rfl rfl (B_eq h_4)) (S_run 1 (f' := (0, 0, 22, [(0, vR (some 85)), (1, vI v1)], [vI (0 : Int)], hp q)) rfl (S_ret rfl))) (fun h_4 => S_go (J_if2 rfl rfl (B_eq' h_4)) (S_run 2 (f' := (0, 0, 22, [(0, vR (some 85)), (1, vI v1)], [vI (1 : Int)], hp q)) rfl (S_ret rfl)))))))))))))

def Ws_copyFrom_6_102_b68 (q : zM)  : Option zM :=
  some (qc q 107 0 11 0 40)
theorem T_Ws_copyFrom_6_102_b68 {E : zE} (q : zM)  : SimV E 88 (0, 0, 68, [(0, vR (some 6)), (1, vR (some 102))], [], hp q) eV (Ws_copyFrom_6_102_b68 q ) := by
  unfold Ws_copyFrom_6_102_b68
  exact S_run 8 (f' := (0, 0, 83, [(0, vR (some 6)), (1, vR (some 102))], [], hp (qc q 107 0 11 0 40))) rfl (S_ret rfl)

def Ws_copyFrom_6_102_b53 (q : zM)  : Option zM :=
  Ws_copyFrom_6_102_b68 (qc q 106 0 10 0 40)
theorem T_Ws_copyFrom_6_102_b53 {E : zE} (q : zM)  : SimV E 88 (0, 0, 53, [(0, vR (some 6)), (1, vR (some 102))], [], hp q) eV (Ws_copyFrom_6_102_b53 q ) := by
  unfold Ws_copyFrom_6_102_b53
  exact S_run 8 (f' := (0, 0, 68, [(0, vR (some 6)), (1, vR (some 102))], [], hp (qc q 106 0 10 0 40))) rfl (T_Ws_copyFrom_6_102_b68 (qc q 106 0 10 0 40))

def Ws_copyFrom_6_102_b38 (q : zM)  : Option zM :=
  Ws_copyFrom_6_102_b53 (qc q 105 0 9 0 40)
theorem T_Ws_copyFrom_6_102_b38 {E : zE} (q : zM)  : SimV E 88 (0, 0, 38, [(0, vR (some 6)), (1, vR (some 102))], [], hp q) eV (Ws_copyFrom_6_102_b38 q ) := by
  unfold Ws_copyFrom_6_102_b38
  exact S_run 8 (f' := (0, 0, 53, [(0, vR (some 6)), (1, vR (some 102))], [], hp (qc q 105 0 9 0 40))) rfl (T_Ws_copyFrom_6_102_b53 (qc q 105 0 9 0 40))

def Ws_copyFrom_6_102_b23 (q : zM)  : Option zM :=
  Ws_copyFrom_6_102_b38 (qc q 104 0 8 0 40)
theorem T_Ws_copyFrom_6_102_b23 {E : zE} (q : zM)  : SimV E 88 (0, 0, 23, [(0, vR (some 6)), (1, vR (some 102))], [], hp q) eV (Ws_copyFrom_6_102_b23 q ) := by
  unfold Ws_copyFrom_6_102_b23
  exact S_run 8 (f' := (0, 0, 38, [(0, vR (some 6)), (1, vR (some 102))], [], hp (qc q 104 0 8 0 40))) rfl (T_Ws_copyFrom_6_102_b38 (qc q 104 0 8 0 40))

def Ws_copyFrom_6_102_b8 (q : zM)  : Option zM :=
  Ws_copyFrom_6_102_b23 (qcl q 103 0 7 0 40)
theorem T_Ws_copyFrom_6_102_b8 {E : zE} (q : zM)  : SimV E 88 (0, 0, 8, [(0, vR (some 6)), (1, vR (some 102))], [], hp q) eV (Ws_copyFrom_6_102_b8 q ) := by
  unfold Ws_copyFrom_6_102_b8
  exact S_run 8 (f' := (0, 0, 23, [(0, vR (some 6)), (1, vR (some 102))], [], hp (qcl q 103 0 7 0 40))) rfl (T_Ws_copyFrom_6_102_b23 (qcl q 103 0 7 0 40))

def Ws_copyFrom_6_102 (q : zM)  : Option zM :=
  Ws_copyFrom_6_102_b8 (qs q 6 0 (q.1 102 0))
theorem T_Ws_copyFrom_6_102 {E : zE} (q : zM)  : SimV E 88 (entF [vR (some 6), vR (some 102)] (hp q)) eV (Ws_copyFrom_6_102 q ) := by
  unfold Ws_copyFrom_6_102
  exact S_run 0 (f' := (0, 0, 0, [(0, vR (some 6)), (1, vR (some 102))], [], hp q)) rfl (S_run 4 (f' := (0, 0, 8, [(0, vR (some 6)), (1, vR (some 102))], [], hp (qs q 6 0 (q.1 102 0)))) rfl (T_Ws_copyFrom_6_102_b8 (qs q 6 0 (q.1 102 0))))

def Me_copyFrom_12_108 (q : zM)  : Option zM :=
  (Me_change_12 q (q.1 108 0) (q.1 108 1)).bind fun r_1 =>
    some r_1
theorem T_Me_copyFrom_12_108 {E : zE} (q : zM)  : SimV E 21 (entF [vR (some 12), vR (some 108)] (hp q)) eV (Me_copyFrom_12_108 q ) := by
  unfold Me_copyFrom_12_108
  exact S_run 0 (f' := (0, 0, 0, [(0, vR (some 12)), (1, vR (some 108))], [], hp q)) rfl (S_run 5 (f' := (0, 0, 9, [(0, vR (some 12)), (1, vR (some 108))], [vI (q.1 108 1), vI (q.1 108 0), vR (some 12)], hp q)) rfl (S_call (m' := 17) (args := [vR (some 12), vI (q.1 108 0), vI (q.1 108 1)]) (h := hp q) (k := fun r => (0, 0, 12, [(0, vR (some 12)), (1, vR (some 108))], r.1.toList ++ [], r.2)) rfl (T_Me_change_12 q (q.1 108 0) (q.1 108 1)) (fun r_1 => S_run 0 (f' := (0, 0, 12, [(0, vR (some 12)), (1, vR (some 108))], [], hp r_1)) rfl (S_ret rfl))))

def Po_copyFrom_13_109_b53 (q : zM)  : Option zM :=
  some (qc q 113 0 17 0 96)
theorem T_Po_copyFrom_13_109_b53 {E : zE} (q : zM)  : SimV E 38 (0, 0, 53, [(0, vR (some 13)), (1, vR (some 109))], [], hp q) eV (Po_copyFrom_13_109_b53 q ) := by
  unfold Po_copyFrom_13_109_b53
  exact S_run 8 (f' := (0, 0, 68, [(0, vR (some 13)), (1, vR (some 109))], [], hp (qc q 113 0 17 0 96))) rfl (S_ret rfl)

def Po_copyFrom_13_109_b38 (q : zM)  : Option zM :=
  Po_copyFrom_13_109_b53 (qc q 112 0 16 0 8)
theorem T_Po_copyFrom_13_109_b38 {E : zE} (q : zM)  : SimV E 38 (0, 0, 38, [(0, vR (some 13)), (1, vR (some 109))], [], hp q) eV (Po_copyFrom_13_109_b38 q ) := by
  unfold Po_copyFrom_13_109_b38
  exact S_run 8 (f' := (0, 0, 53, [(0, vR (some 13)), (1, vR (some 109))], [], hp (qc q 112 0 16 0 8))) rfl (T_Po_copyFrom_13_109_b53 (qc q 112 0 16 0 8))

def Po_copyFrom_13_109_b23 (q : zM)  : Option zM :=
  Po_copyFrom_13_109_b38 (qc q 111 0 15 0 8)
theorem T_Po_copyFrom_13_109_b23 {E : zE} (q : zM)  : SimV E 38 (0, 0, 23, [(0, vR (some 13)), (1, vR (some 109))], [], hp q) eV (Po_copyFrom_13_109_b23 q ) := by
  unfold Po_copyFrom_13_109_b23
  exact S_run 8 (f' := (0, 0, 38, [(0, vR (some 13)), (1, vR (some 109))], [], hp (qc q 111 0 15 0 8))) rfl (T_Po_copyFrom_13_109_b38 (qc q 111 0 15 0 8))

def Po_copyFrom_13_109_b8 (q : zM)  : Option zM :=
  Po_copyFrom_13_109_b23 (qc q 110 0 14 0 8)
theorem T_Po_copyFrom_13_109_b8 {E : zE} (q : zM)  : SimV E 38 (0, 0, 8, [(0, vR (some 13)), (1, vR (some 109))], [], hp q) eV (Po_copyFrom_13_109_b8 q ) := by
  unfold Po_copyFrom_13_109_b8
  exact S_run 8 (f' := (0, 0, 23, [(0, vR (some 13)), (1, vR (some 109))], [], hp (qc q 110 0 14 0 8))) rfl (T_Po_copyFrom_13_109_b23 (qc q 110 0 14 0 8))

def Po_copyFrom_13_109 (q : zM)  : Option zM :=
  Po_copyFrom_13_109_b8 (qs q 13 0 (q.1 109 0))
theorem T_Po_copyFrom_13_109 {E : zE} (q : zM)  : SimV E 38 (entF [vR (some 13), vR (some 109)] (hp q)) eV (Po_copyFrom_13_109 q ) := by
  unfold Po_copyFrom_13_109
  exact S_run 0 (f' := (0, 0, 0, [(0, vR (some 13)), (1, vR (some 109))], [], hp q)) rfl (S_run 4 (f' := (0, 0, 8, [(0, vR (some 13)), (1, vR (some 109))], [], hp (qs q 13 0 (q.1 109 0)))) rfl (T_Po_copyFrom_13_109_b8 (qs q 13 0 (q.1 109 0))))

def St_copyFrom_5_101 (q : zM)  : Option zM :=
  (Ws_copyFrom_6_102 q ).bind fun r_1 =>
    (Me_copyFrom_12_108 r_1 ).bind fun r_2 =>
      (Po_copyFrom_13_109 r_2 ).bind fun r_3 =>
        some r_3
theorem T_St_copyFrom_5_101 {E : zE} (q : zM)  : SimV E 45 (entF [vR (some 5), vR (some 101)] (hp q)) eV (St_copyFrom_5_101 q ) := by
  unfold St_copyFrom_5_101
  exact S_run 0 (f' := (0, 0, 0, [(0, vR (some 5)), (1, vR (some 101))], [], hp q)) rfl (S_run 4 (f' := (0, 0, 8, [(0, vR (some 5)), (1, vR (some 101))], [vR (some 102), vR (some 6)], hp q)) rfl (S_call (m' := 88) (args := [vR (some 6), vR (some 102)]) (h := hp q) (k := fun r => (0, 0, 11, [(0, vR (some 5)), (1, vR (some 101))], r.1.toList ++ [], r.2)) rfl (T_Ws_copyFrom_6_102 q ) (fun r_1 => S_run 4 (f' := (0, 0, 19, [(0, vR (some 5)), (1, vR (some 101))], [vR (some 108), vR (some 12)], hp r_1)) rfl (S_call (m' := 21) (args := [vR (some 12), vR (some 108)]) (h := hp r_1) (k := fun r => (0, 0, 22, [(0, vR (some 5)), (1, vR (some 101))], r.1.toList ++ [], r.2)) rfl (T_Me_copyFrom_12_108 r_1 ) (fun r_2 => S_run 4 (f' := (0, 0, 30, [(0, vR (some 5)), (1, vR (some 101))], [vR (some 109), vR (some 13)], hp r_2)) rfl (S_call (m' := 38) (args := [vR (some 13), vR (some 109)]) (h := hp r_2) (k := fun r => (0, 0, 33, [(0, vR (some 5)), (1, vR (some 101))], r.1.toList ++ [], r.2)) rfl (T_Po_copyFrom_13_109 r_2 ) (fun r_3 => S_run 0 (f' := (0, 0, 33, [(0, vR (some 5)), (1, vR (some 101))], [], hp r_3)) rfl (S_ret rfl))))))))

def Ws_copyFrom_6_89_b68 (q : zM)  : Option zM :=
  some (qc q 94 0 11 0 40)
theorem T_Ws_copyFrom_6_89_b68 {E : zE} (q : zM)  : SimV E 88 (0, 0, 68, [(0, vR (some 6)), (1, vR (some 89))], [], hp q) eV (Ws_copyFrom_6_89_b68 q ) := by
  unfold Ws_copyFrom_6_89_b68
  exact S_run 8 (f' := (0, 0, 83, [(0, vR (some 6)), (1, vR (some 89))], [], hp (qc q 94 0 11 0 40))) rfl (S_ret rfl)

def Ws_copyFrom_6_89_b53 (q : zM)  : Option zM :=
  Ws_copyFrom_6_89_b68 (qc q 93 0 10 0 40)
theorem T_Ws_copyFrom_6_89_b53 {E : zE} (q : zM)  : SimV E 88 (0, 0, 53, [(0, vR (some 6)), (1, vR (some 89))], [], hp q) eV (Ws_copyFrom_6_89_b53 q ) := by
  unfold Ws_copyFrom_6_89_b53
  exact S_run 8 (f' := (0, 0, 68, [(0, vR (some 6)), (1, vR (some 89))], [], hp (qc q 93 0 10 0 40))) rfl (T_Ws_copyFrom_6_89_b68 (qc q 93 0 10 0 40))

def Ws_copyFrom_6_89_b38 (q : zM)  : Option zM :=
  Ws_copyFrom_6_89_b53 (qc q 92 0 9 0 40)
theorem T_Ws_copyFrom_6_89_b38 {E : zE} (q : zM)  : SimV E 88 (0, 0, 38, [(0, vR (some 6)), (1, vR (some 89))], [], hp q) eV (Ws_copyFrom_6_89_b38 q ) := by
  unfold Ws_copyFrom_6_89_b38
  exact S_run 8 (f' := (0, 0, 53, [(0, vR (some 6)), (1, vR (some 89))], [], hp (qc q 92 0 9 0 40))) rfl (T_Ws_copyFrom_6_89_b53 (qc q 92 0 9 0 40))

def Ws_copyFrom_6_89_b23 (q : zM)  : Option zM :=
  Ws_copyFrom_6_89_b38 (qc q 91 0 8 0 40)
theorem T_Ws_copyFrom_6_89_b23 {E : zE} (q : zM)  : SimV E 88 (0, 0, 23, [(0, vR (some 6)), (1, vR (some 89))], [], hp q) eV (Ws_copyFrom_6_89_b23 q ) := by
  unfold Ws_copyFrom_6_89_b23
  exact S_run 8 (f' := (0, 0, 38, [(0, vR (some 6)), (1, vR (some 89))], [], hp (qc q 91 0 8 0 40))) rfl (T_Ws_copyFrom_6_89_b38 (qc q 91 0 8 0 40))

def Ws_copyFrom_6_89_b8 (q : zM)  : Option zM :=
  Ws_copyFrom_6_89_b23 (qcl q 90 0 7 0 40)
theorem T_Ws_copyFrom_6_89_b8 {E : zE} (q : zM)  : SimV E 88 (0, 0, 8, [(0, vR (some 6)), (1, vR (some 89))], [], hp q) eV (Ws_copyFrom_6_89_b8 q ) := by
  unfold Ws_copyFrom_6_89_b8
  exact S_run 8 (f' := (0, 0, 23, [(0, vR (some 6)), (1, vR (some 89))], [], hp (qcl q 90 0 7 0 40))) rfl (T_Ws_copyFrom_6_89_b23 (qcl q 90 0 7 0 40))

def Ws_copyFrom_6_89 (q : zM)  : Option zM :=
  Ws_copyFrom_6_89_b8 (qs q 6 0 (q.1 89 0))
theorem T_Ws_copyFrom_6_89 {E : zE} (q : zM)  : SimV E 88 (entF [vR (some 6), vR (some 89)] (hp q)) eV (Ws_copyFrom_6_89 q ) := by
  unfold Ws_copyFrom_6_89
  exact S_run 0 (f' := (0, 0, 0, [(0, vR (some 6)), (1, vR (some 89))], [], hp q)) rfl (S_run 4 (f' := (0, 0, 8, [(0, vR (some 6)), (1, vR (some 89))], [], hp (qs q 6 0 (q.1 89 0)))) rfl (T_Ws_copyFrom_6_89_b8 (qs q 6 0 (q.1 89 0))))

def Me_copyFrom_12_95 (q : zM)  : Option zM :=
  (Me_change_12 q (q.1 95 0) (q.1 95 1)).bind fun r_1 =>
    some r_1
theorem T_Me_copyFrom_12_95 {E : zE} (q : zM)  : SimV E 21 (entF [vR (some 12), vR (some 95)] (hp q)) eV (Me_copyFrom_12_95 q ) := by
  unfold Me_copyFrom_12_95
  exact S_run 0 (f' := (0, 0, 0, [(0, vR (some 12)), (1, vR (some 95))], [], hp q)) rfl (S_run 5 (f' := (0, 0, 9, [(0, vR (some 12)), (1, vR (some 95))], [vI (q.1 95 1), vI (q.1 95 0), vR (some 12)], hp q)) rfl (S_call (m' := 17) (args := [vR (some 12), vI (q.1 95 0), vI (q.1 95 1)]) (h := hp q) (k := fun r => (0, 0, 12, [(0, vR (some 12)), (1, vR (some 95))], r.1.toList ++ [], r.2)) rfl (T_Me_change_12 q (q.1 95 0) (q.1 95 1)) (fun r_1 => S_run 0 (f' := (0, 0, 12, [(0, vR (some 12)), (1, vR (some 95))], [], hp r_1)) rfl (S_ret rfl))))

def Po_copyFrom_13_96_b53 (q : zM)  : Option zM :=
  some (qc q 100 0 17 0 96)
theorem T_Po_copyFrom_13_96_b53 {E : zE} (q : zM)  : SimV E 38 (0, 0, 53, [(0, vR (some 13)), (1, vR (some 96))], [], hp q) eV (Po_copyFrom_13_96_b53 q ) := by
  unfold Po_copyFrom_13_96_b53
  exact S_run 8 (f' := (0, 0, 68, [(0, vR (some 13)), (1, vR (some 96))], [], hp (qc q 100 0 17 0 96))) rfl (S_ret rfl)

def Po_copyFrom_13_96_b38 (q : zM)  : Option zM :=
  Po_copyFrom_13_96_b53 (qc q 99 0 16 0 8)
theorem T_Po_copyFrom_13_96_b38 {E : zE} (q : zM)  : SimV E 38 (0, 0, 38, [(0, vR (some 13)), (1, vR (some 96))], [], hp q) eV (Po_copyFrom_13_96_b38 q ) := by
  unfold Po_copyFrom_13_96_b38
  exact S_run 8 (f' := (0, 0, 53, [(0, vR (some 13)), (1, vR (some 96))], [], hp (qc q 99 0 16 0 8))) rfl (T_Po_copyFrom_13_96_b53 (qc q 99 0 16 0 8))

def Po_copyFrom_13_96_b23 (q : zM)  : Option zM :=
  Po_copyFrom_13_96_b38 (qc q 98 0 15 0 8)
theorem T_Po_copyFrom_13_96_b23 {E : zE} (q : zM)  : SimV E 38 (0, 0, 23, [(0, vR (some 13)), (1, vR (some 96))], [], hp q) eV (Po_copyFrom_13_96_b23 q ) := by
  unfold Po_copyFrom_13_96_b23
  exact S_run 8 (f' := (0, 0, 38, [(0, vR (some 13)), (1, vR (some 96))], [], hp (qc q 98 0 15 0 8))) rfl (T_Po_copyFrom_13_96_b38 (qc q 98 0 15 0 8))

def Po_copyFrom_13_96_b8 (q : zM)  : Option zM :=
  Po_copyFrom_13_96_b23 (qc q 97 0 14 0 8)
theorem T_Po_copyFrom_13_96_b8 {E : zE} (q : zM)  : SimV E 38 (0, 0, 8, [(0, vR (some 13)), (1, vR (some 96))], [], hp q) eV (Po_copyFrom_13_96_b8 q ) := by
  unfold Po_copyFrom_13_96_b8
  exact S_run 8 (f' := (0, 0, 23, [(0, vR (some 13)), (1, vR (some 96))], [], hp (qc q 97 0 14 0 8))) rfl (T_Po_copyFrom_13_96_b23 (qc q 97 0 14 0 8))

def Po_copyFrom_13_96 (q : zM)  : Option zM :=
  Po_copyFrom_13_96_b8 (qs q 13 0 (q.1 96 0))
theorem T_Po_copyFrom_13_96 {E : zE} (q : zM)  : SimV E 38 (entF [vR (some 13), vR (some 96)] (hp q)) eV (Po_copyFrom_13_96 q ) := by
  unfold Po_copyFrom_13_96
  exact S_run 0 (f' := (0, 0, 0, [(0, vR (some 13)), (1, vR (some 96))], [], hp q)) rfl (S_run 4 (f' := (0, 0, 8, [(0, vR (some 13)), (1, vR (some 96))], [], hp (qs q 13 0 (q.1 96 0)))) rfl (T_Po_copyFrom_13_96_b8 (qs q 13 0 (q.1 96 0))))

def St_copyFrom_5_88 (q : zM)  : Option zM :=
  (Ws_copyFrom_6_89 q ).bind fun r_1 =>
    (Me_copyFrom_12_95 r_1 ).bind fun r_2 =>
      (Po_copyFrom_13_96 r_2 ).bind fun r_3 =>
        some r_3
theorem T_St_copyFrom_5_88 {E : zE} (q : zM)  : SimV E 45 (entF [vR (some 5), vR (some 88)] (hp q)) eV (St_copyFrom_5_88 q ) := by
  unfold St_copyFrom_5_88
  exact S_run 0 (f' := (0, 0, 0, [(0, vR (some 5)), (1, vR (some 88))], [], hp q)) rfl (S_run 4 (f' := (0, 0, 8, [(0, vR (some 5)), (1, vR (some 88))], [vR (some 89), vR (some 6)], hp q)) rfl (S_call (m' := 88) (args := [vR (some 6), vR (some 89)]) (h := hp q) (k := fun r => (0, 0, 11, [(0, vR (some 5)), (1, vR (some 88))], r.1.toList ++ [], r.2)) rfl (T_Ws_copyFrom_6_89 q ) (fun r_1 => S_run 4 (f' := (0, 0, 19, [(0, vR (some 5)), (1, vR (some 88))], [vR (some 95), vR (some 12)], hp r_1)) rfl (S_call (m' := 21) (args := [vR (some 12), vR (some 95)]) (h := hp r_1) (k := fun r => (0, 0, 22, [(0, vR (some 5)), (1, vR (some 88))], r.1.toList ++ [], r.2)) rfl (T_Me_copyFrom_12_95 r_1 ) (fun r_2 => S_run 4 (f' := (0, 0, 30, [(0, vR (some 5)), (1, vR (some 88))], [vR (some 96), vR (some 13)], hp r_2)) rfl (S_call (m' := 38) (args := [vR (some 13), vR (some 96)]) (h := hp r_2) (k := fun r => (0, 0, 33, [(0, vR (some 5)), (1, vR (some 88))], r.1.toList ++ [], r.2)) rfl (T_Po_copyFrom_13_96 r_2 ) (fun r_3 => S_run 0 (f' := (0, 0, 33, [(0, vR (some 5)), (1, vR (some 88))], [], hp r_3)) rfl (S_ret rfl))))))))

def Sn_copyTo (q : zM) (v1 : Int) : Option zM :=
  (Sn_isTaken q v1).bind fun r_1 =>
    if wrap r_1 = (0 : Int) then
      some q
    else
      if wrap v1 = 0 then
        (St_copyFrom_5_88 q ).bind fun r_5 =>
          some r_5
      else
        if wrap v1 = 1 then
          (St_copyFrom_5_101 q ).bind fun r_4 =>
            some r_4
        else
          none
theorem T_Sn_copyTo {E : zE} (q : zM) (v1 : Int) : SimV E 43 (entF [vR (some 85), vI v1, vR (some 5)] (hp q)) eV (Sn_copyTo q v1) := by
  unfold Sn_copyTo
  exact S_run 0 (f' := (0, 0, 0, [(0, vR (some 85)), (1, vI v1), (2, vR (some 5))], [], hp q)) rfl (S_run 2 (f' := (0, 0, 2, [(0, vR (some 85)), (1, vI v1), (2, vR (some 5))], [vI v1, vR (some 85)], hp q)) rfl (S_call (m' := 41) (args := [vR (some 85), vI v1]) (h := hp q) (k := fun r => (0, 0, 5, [(0, vR (some 85)), (1, vI v1), (2, vR (some 5))], r.1.toList ++ [], r.2)) rfl (T_Sn_isTaken q v1) (fun r_1 => S_run 0 (f' := (0, 0, 5, [(0, vR (some 85)), (1, vI v1), (2, vR (some 5))], [vI r_1], hp q)) rfl (S_ite (fun h_2 => S_go (J_if2 rfl rfl (B_eq h_2)) (S_run 0 (f' := (0, 0, 18, [(0, vR (some 85)), (1, vI v1), (2, vR (some 5))], [], hp q)) rfl (S_ret rfl))) (fun h_2 => S_go (J_if2 rfl rfl (B_eq' h_2)) (S_run 4 (f' := (0, 0, 14, [(0, vR (some 85)), (1, vI v1), (2, vR (some 5))], [vI v1, vR (some 86), vR (some 5)], hp q)) rfl (S_ite (fun h_3_0 => S_go (H_aald (j := 0) rfl rfl rfl h_3_0 (by decide) rfl) (S_run 0 (f' := (0, 0, 15, [(0, vR (some 85)), (1, vI v1), (2, vR (some 5))], [vR (some 88), vR (some 5)], hp q)) rfl (S_call (m' := 45) (args := [vR (some 5), vR (some 88)]) (h := hp q) (k := fun r => (0, 0, 18, [(0, vR (some 85)), (1, vI v1), (2, vR (some 5))], r.1.toList ++ [], r.2)) rfl (T_St_copyFrom_5_88 q ) (fun r_5 => S_run 0 (f' := (0, 0, 18, [(0, vR (some 85)), (1, vI v1), (2, vR (some 5))], [], hp r_5)) rfl (S_ret rfl))))) (fun _ => S_ite (fun h_3_1 => S_go (H_aald (j := 1) rfl rfl rfl h_3_1 (by decide) rfl) (S_run 0 (f' := (0, 0, 15, [(0, vR (some 85)), (1, vI v1), (2, vR (some 5))], [vR (some 101), vR (some 5)], hp q)) rfl (S_call (m' := 45) (args := [vR (some 5), vR (some 101)]) (h := hp q) (k := fun r => (0, 0, 18, [(0, vR (some 85)), (1, vI v1), (2, vR (some 5))], r.1.toList ++ [], r.2)) rfl (T_St_copyFrom_5_101 q ) (fun r_4 => S_run 0 (f' := (0, 0, 18, [(0, vR (some 85)), (1, vI v1), (2, vR (some 5))], [], hp r_4)) rfl (S_ret rfl))))) (fun _ => S_none)))))))))

def Ev_restore (q : zM) (v1 : Int) : Option (Int × zM) :=
  (Sn_has q v1).bind fun r_1 =>
    if wrap r_1 = (0 : Int) then
      some ((-1 : Int), q)
    else
      (Sn_isTaken q v1).bind fun r_3 =>
        if wrap r_3 = (0 : Int) then
          some ((-5 : Int), q)
        else
          (Hi_record q ).bind fun r_5 =>
            (Sn_copyTo r_5 v1).bind fun r_6 =>
              (Ws_size r_6 ).bind fun r_7 =>
                some (r_7, r_6)
theorem T_Ev_restore {E : zE} (q : zM) (v1 : Int) : SimV E 101 (entF [vR (some 1), vI v1] (hp q)) eI (Ev_restore q v1) := by
  unfold Ev_restore
  exact S_run 0 (f' := (0, 0, 0, [(0, vR (some 1)), (1, vI v1)], [], hp q)) rfl (S_run 3 (f' := (0, 0, 5, [(0, vR (some 1)), (1, vI v1)], [vI v1, vR (some 85)], hp q)) rfl (S_call (m' := 40) (args := [vR (some 85), vI v1]) (h := hp q) (k := fun r => (0, 0, 8, [(0, vR (some 1)), (1, vI v1)], r.1.toList ++ [], r.2)) rfl (T_Sn_has q v1) (fun r_1 => S_run 0 (f' := (0, 0, 8, [(0, vR (some 1)), (1, vI v1)], [vI r_1], hp q)) rfl (S_ite (fun h_2 => S_go (J_if2 rfl rfl (B_ne h_2)) (S_run 1 (f' := (0, 0, 12, [(0, vR (some 1)), (1, vI v1)], [vI (-1 : Int)], hp q)) rfl (S_ret rfl))) (fun h_2 => S_go (J_if2 rfl rfl (B_ne' h_2)) (S_run 3 (f' := (0, 0, 18, [(0, vR (some 1)), (1, vI v1)], [vI v1, vR (some 85)], hp q)) rfl (S_call (m' := 41) (args := [vR (some 85), vI v1]) (h := hp q) (k := fun r => (0, 0, 21, [(0, vR (some 1)), (1, vI v1)], r.1.toList ++ [], r.2)) rfl (T_Sn_isTaken q v1) (fun r_3 => S_run 0 (f' := (0, 0, 21, [(0, vR (some 1)), (1, vI v1)], [vI r_3], hp q)) rfl (S_ite (fun h_4 => S_go (J_if2 rfl rfl (B_ne h_4)) (S_run 1 (f' := (0, 0, 26, [(0, vR (some 1)), (1, vI v1)], [vI (-5 : Int)], hp q)) rfl (S_ret rfl))) (fun h_4 => S_go (J_if2 rfl rfl (B_ne' h_4)) (S_run 4 (f' := (0, 0, 35, [(0, vR (some 1)), (1, vI v1)], [vR (some 5), vR (some 18)], hp q)) rfl (S_call (m' := 3) (args := [vR (some 18), vR (some 5)]) (h := hp q) (k := fun r => (0, 0, 38, [(0, vR (some 1)), (1, vI v1)], r.1.toList ++ [], r.2)) rfl (T_Hi_record q ) (fun r_5 => S_run 5 (f' := (0, 0, 47, [(0, vR (some 1)), (1, vI v1)], [vR (some 5), vI v1, vR (some 85)], hp r_5)) rfl (S_call (m' := 43) (args := [vR (some 85), vI v1, vR (some 5)]) (h := hp r_5) (k := fun r => (0, 0, 50, [(0, vR (some 1)), (1, vI v1)], r.1.toList ++ [], r.2)) rfl (T_Sn_copyTo r_5 v1) (fun r_6 => S_run 3 (f' := (0, 0, 57, [(0, vR (some 1)), (1, vI v1)], [vR (some 6)], hp r_6)) rfl (S_call (m' := 74) (args := [vR (some 6)]) (h := hp r_6) (k := fun r => (0, 0, 60, [(0, vR (some 1)), (1, vI v1)], r.1.toList ++ [], r.2)) rfl (T_Ws_size r_6 ) (fun r_7 => S_run 0 (f' := (0, 0, 60, [(0, vR (some 1)), (1, vI v1)], [vI r_7], hp r_6)) rfl (S_ret rfl))))))))))))))))))

def St_beatsFor_L4 (q : zM) (v1 : Int) (K : Int → Int → Option Int) : Nat → Int → Int → Option Int
  | 0, _, _ => none
  | n + 1, v2, v3 =>
    if wrap v3 < wrap (q.1 12 0) then
      (Me_fits q v1 v3).bind fun r_2 =>
        if wrap r_2 = (0 : Int) then
          St_beatsFor_L4 q v1 K n v2 (v3 + 1)
        else
          St_beatsFor_L4 q v1 K n (v2 + 1) (v3 + 1)
    else
      K v2 v3
theorem T_St_beatsFor_L4 {E : zE} (q : zM) (v1 : Int) {K : Int → Int → Option Int} (hK : ∀ (v2 : Int) (v3 : Int), SimV E 46 (0, 0, 40, [(0, vR (some 5)), (1, vI v1), (2, vI v2), (3, vI v3)], [], hp q) (eP q) (K v2 v3)) : ∀ (n : Nat) (v2 : Int) (v3 : Int), SimV E 46 (0, 0, 4, [(0, vR (some 5)), (1, vI v1), (2, vI v2), (3, vI v3)], [], hp q) (eP q) (St_beatsFor_L4 q v1 K n v2 v3) := by
  intro n
  induction n with
  | zero => intro _ _; exact S_none
  | succ n ih =>
    intro v2 v3
    rw [St_beatsFor_L4]
    exact S_run 4 (f' := (0, 0, 12, [(0, vR (some 5)), (1, vI v1), (2, vI v2), (3, vI v3)], [vI (q.1 12 0), vI v3], hp q)) rfl (S_ite (fun h_1 => S_go (J_icmp2 rfl rfl rfl (B_ge h_1)) (S_run 6 (f' := (0, 0, 25, [(0, vR (some 5)), (1, vI v1), (2, vI v2), (3, vI v3)], [vI v3, vI v1, vR (some 6), vR (some 12)], hp q)) rfl (S_call (m' := 18) (args := [vR (some 12), vR (some 6), vI v1, vI v3]) (h := hp q) (k := fun r => (0, 0, 28, [(0, vR (some 5)), (1, vI v1), (2, vI v2), (3, vI v3)], r.1.toList ++ [], r.2)) rfl (T_Me_fits q v1 v3) (fun r_2 => S_run 0 (f' := (0, 0, 28, [(0, vR (some 5)), (1, vI v1), (2, vI v2), (3, vI v3)], [vI r_2], hp q)) rfl (S_ite (fun h_3 => S_go (J_if2 rfl rfl (B_eq h_3)) (S_run 2 (f' := (0, 0, 4, [(0, vR (some 5)), (1, vI v1), (2, vI v2), (3, vI (v3 + 1))], [], hp q)) rfl (ih v2 (v3 + 1)))) (fun h_3 => S_go (J_if2 rfl rfl (B_eq' h_3)) (S_run 3 (f' := (0, 0, 4, [(0, vR (some 5)), (1, vI v1), (2, vI (v2 + 1)), (3, vI (v3 + 1))], [], hp q)) rfl (ih (v2 + 1) (v3 + 1))))))))) (fun h_1 => S_go (J_icmp2 rfl rfl rfl (B_ge' h_1)) (S_run 0 (f' := (0, 0, 40, [(0, vR (some 5)), (1, vI v1), (2, vI v2), (3, vI v3)], [], hp q)) rfl (hK v2 v3))))

def St_beatsFor (q : zM) (v1 : Int) : Option Int :=
  St_beatsFor_L4 q v1 (fun v2_4 v3_5 => 
    some v2_4) 5000 (0 : Int) (0 : Int)
theorem T_St_beatsFor {E : zE} (q : zM) (v1 : Int) : SimV E 46 (entF [vR (some 5), vI v1] (hp q)) (eP q) (St_beatsFor q v1) := by
  unfold St_beatsFor
  exact S_run 0 (f' := (0, 0, 0, [(0, vR (some 5)), (1, vI v1)], [], hp q)) rfl (S_run 4 (f' := (0, 0, 4, [(0, vR (some 5)), (1, vI v1), (2, vI (0 : Int)), (3, vI (0 : Int))], [], hp q)) rfl (T_St_beatsFor_L4 q v1 (fun v2_4 v3_5 => S_run 1 (f' := (0, 0, 41, [(0, vR (some 5)), (1, vI v1), (2, vI v2_4), (3, vI v3_5)], [vI v2_4], hp q)) rfl (S_ret rfl)) 5000 (0 : Int) (0 : Int)))

def Ev_word (q : zM) (v1 : Int) (v2 : Int) : Option Int :=
  (Ws_has q v1).bind fun r_1 =>
    if wrap r_1 = (0 : Int) then
      some (-1 : Int)
    else
      if wrap v2 = 0 then
        (Ws_letterCountOf q v1).bind fun r_11 =>
          some r_11
      else
        if wrap v2 = 1 then
          (Ws_syllablesOf q v1).bind fun r_10 =>
            some r_10
        else
          if wrap v2 = 2 then
            (Ws_strongOf q v1).bind fun r_9 =>
              some r_9
          else
            if wrap v2 = 3 then
              (Ws_limitOf q v1).bind fun r_8 =>
                some r_8
            else
              if wrap v2 = 4 then
                (Po_linesUsing q v1).bind fun r_7 =>
                  some r_7
              else
                if wrap v2 = 5 then
                  (Ws_firstLetterOf q v1).bind fun r_6 =>
                    some r_6
                else
                  if wrap v2 = 6 then
                    (Ws_lastLetterOf q v1).bind fun r_5 =>
                      some r_5
                  else
                    if wrap v2 = 7 then
                      (St_beatsFor q v1).bind fun r_4 =>
                        some r_4
                    else
                      some (-2 : Int)
theorem T_Ev_word {E : zE} (q : zM) (v1 : Int) (v2 : Int) : SimV E 102 (entF [vR (some 1), vI v1, vI v2] (hp q)) (eP q) (Ev_word q v1 v2) := by
  unfold Ev_word
  exact S_run 0 (f' := (0, 0, 0, [(0, vR (some 1)), (1, vI v1), (2, vI v2)], [], hp q)) rfl (S_run 4 (f' := (0, 0, 8, [(0, vR (some 1)), (1, vI v1), (2, vI v2)], [vI v1, vR (some 6)], hp q)) rfl (S_call (m' := 76) (args := [vR (some 6), vI v1]) (h := hp q) (k := fun r => (0, 0, 11, [(0, vR (some 1)), (1, vI v1), (2, vI v2)], r.1.toList ++ [], r.2)) rfl (T_Ws_has q v1) (fun r_1 => S_run 0 (f' := (0, 0, 11, [(0, vR (some 1)), (1, vI v1), (2, vI v2)], [vI r_1], hp q)) rfl (S_ite (fun h_2 => S_go (J_if2 rfl rfl (B_ne h_2)) (S_run 1 (f' := (0, 0, 15, [(0, vR (some 1)), (1, vI v1), (2, vI v2)], [vI (-1 : Int)], hp q)) rfl (S_ret rfl))) (fun h_2 => S_go (J_if2 rfl rfl (B_ne' h_2)) (S_run 1 (f' := (0, 0, 17, [(0, vR (some 1)), (1, vI v1), (2, vI v2)], [vI v2], hp q)) rfl (S_ite (fun h_3_0 => S_go (J_tin rfl h_3_0 (by decide) rfl) (S_run 4 (f' := (0, 0, 72, [(0, vR (some 1)), (1, vI v1), (2, vI v2)], [vI v1, vR (some 6)], hp q)) rfl (S_call (m' := 77) (args := [vR (some 6), vI v1]) (h := hp q) (k := fun r => (0, 0, 75, [(0, vR (some 1)), (1, vI v1), (2, vI v2)], r.1.toList ++ [], r.2)) rfl (T_Ws_letterCountOf q v1) (fun r_11 => S_run 0 (f' := (0, 0, 75, [(0, vR (some 1)), (1, vI v1), (2, vI v2)], [vI r_11], hp q)) rfl (S_ret rfl))))) (fun h_3_0 => S_ite (fun h_3_1 => S_go (J_tin rfl h_3_1 (by decide) rfl) (S_run 4 (f' := (0, 0, 84, [(0, vR (some 1)), (1, vI v1), (2, vI v2)], [vI v1, vR (some 6)], hp q)) rfl (S_call (m' := 78) (args := [vR (some 6), vI v1]) (h := hp q) (k := fun r => (0, 0, 87, [(0, vR (some 1)), (1, vI v1), (2, vI v2)], r.1.toList ++ [], r.2)) rfl (T_Ws_syllablesOf q v1) (fun r_10 => S_run 0 (f' := (0, 0, 87, [(0, vR (some 1)), (1, vI v1), (2, vI v2)], [vI r_10], hp q)) rfl (S_ret rfl))))) (fun h_3_1 => S_ite (fun h_3_2 => S_go (J_tin rfl h_3_2 (by decide) rfl) (S_run 4 (f' := (0, 0, 96, [(0, vR (some 1)), (1, vI v1), (2, vI v2)], [vI v1, vR (some 6)], hp q)) rfl (S_call (m' := 79) (args := [vR (some 6), vI v1]) (h := hp q) (k := fun r => (0, 0, 99, [(0, vR (some 1)), (1, vI v1), (2, vI v2)], r.1.toList ++ [], r.2)) rfl (T_Ws_strongOf q v1) (fun r_9 => S_run 0 (f' := (0, 0, 99, [(0, vR (some 1)), (1, vI v1), (2, vI v2)], [vI r_9], hp q)) rfl (S_ret rfl))))) (fun h_3_2 => S_ite (fun h_3_3 => S_go (J_tin rfl h_3_3 (by decide) rfl) (S_run 4 (f' := (0, 0, 108, [(0, vR (some 1)), (1, vI v1), (2, vI v2)], [vI v1, vR (some 6)], hp q)) rfl (S_call (m' := 80) (args := [vR (some 6), vI v1]) (h := hp q) (k := fun r => (0, 0, 111, [(0, vR (some 1)), (1, vI v1), (2, vI v2)], r.1.toList ++ [], r.2)) rfl (T_Ws_limitOf q v1) (fun r_8 => S_run 0 (f' := (0, 0, 111, [(0, vR (some 1)), (1, vI v1), (2, vI v2)], [vI r_8], hp q)) rfl (S_ret rfl))))) (fun h_3_3 => S_ite (fun h_3_4 => S_go (J_tin rfl h_3_4 (by decide) rfl) (S_run 4 (f' := (0, 0, 120, [(0, vR (some 1)), (1, vI v1), (2, vI v2)], [vI v1, vR (some 13)], hp q)) rfl (S_call (m' := 30) (args := [vR (some 13), vI v1]) (h := hp q) (k := fun r => (0, 0, 123, [(0, vR (some 1)), (1, vI v1), (2, vI v2)], r.1.toList ++ [], r.2)) rfl (T_Po_linesUsing q v1) (fun r_7 => S_run 0 (f' := (0, 0, 123, [(0, vR (some 1)), (1, vI v1), (2, vI v2)], [vI r_7], hp q)) rfl (S_ret rfl))))) (fun h_3_4 => S_ite (fun h_3_5 => S_go (J_tin rfl h_3_5 (by decide) rfl) (S_run 4 (f' := (0, 0, 132, [(0, vR (some 1)), (1, vI v1), (2, vI v2)], [vI v1, vR (some 6)], hp q)) rfl (S_call (m' := 82) (args := [vR (some 6), vI v1]) (h := hp q) (k := fun r => (0, 0, 135, [(0, vR (some 1)), (1, vI v1), (2, vI v2)], r.1.toList ++ [], r.2)) rfl (T_Ws_firstLetterOf q v1) (fun r_6 => S_run 0 (f' := (0, 0, 135, [(0, vR (some 1)), (1, vI v1), (2, vI v2)], [vI r_6], hp q)) rfl (S_ret rfl))))) (fun h_3_5 => S_ite (fun h_3_6 => S_go (J_tin rfl h_3_6 (by decide) rfl) (S_run 4 (f' := (0, 0, 144, [(0, vR (some 1)), (1, vI v1), (2, vI v2)], [vI v1, vR (some 6)], hp q)) rfl (S_call (m' := 83) (args := [vR (some 6), vI v1]) (h := hp q) (k := fun r => (0, 0, 147, [(0, vR (some 1)), (1, vI v1), (2, vI v2)], r.1.toList ++ [], r.2)) rfl (T_Ws_lastLetterOf q v1) (fun r_5 => S_run 0 (f' := (0, 0, 147, [(0, vR (some 1)), (1, vI v1), (2, vI v2)], [vI r_5], hp q)) rfl (S_ret rfl))))) (fun h_3_6 => S_ite (fun h_3_7 => S_go (J_tin rfl h_3_7 (by decide) rfl) (S_run 3 (f' := (0, 0, 153, [(0, vR (some 1)), (1, vI v1), (2, vI v2)], [vI v1, vR (some 5)], hp q)) rfl (S_call (m' := 46) (args := [vR (some 5), vI v1]) (h := hp q) (k := fun r => (0, 0, 156, [(0, vR (some 1)), (1, vI v1), (2, vI v2)], r.1.toList ++ [], r.2)) rfl (T_St_beatsFor q v1) (fun r_4 => S_run 0 (f' := (0, 0, 156, [(0, vR (some 1)), (1, vI v1), (2, vI v2)], [vI r_4], hp q)) rfl (S_ret rfl))))) (fun h_3_7 => S_go (J_tout rfl (by omega)) (S_run 1 (f' := (0, 0, 159, [(0, vR (some 1)), (1, vI v1), (2, vI v2)], [vI (-2 : Int)], hp q)) rfl (S_ret rfl)))))))))))))))))

def Ev_letterAt (q : zM) (v1 : Int) (v2 : Int) : Option Int :=
  (Ws_has q v1).bind fun r_1 =>
    if wrap r_1 = (0 : Int) then
      some (-1 : Int)
    else
      if wrap v2 < (0 : Int) then
        some (-2 : Int)
      else
        (Ws_letterCountOf q v1).bind fun r_4 =>
          if wrap v2 < wrap r_4 then
            (Ws_letterOf q v1 v2).bind fun r_6 =>
              some r_6
          else
            some (-5 : Int)
theorem T_Ev_letterAt {E : zE} (q : zM) (v1 : Int) (v2 : Int) : SimV E 103 (entF [vR (some 1), vI v1, vI v2] (hp q)) (eP q) (Ev_letterAt q v1 v2) := by
  unfold Ev_letterAt
  exact S_run 0 (f' := (0, 0, 0, [(0, vR (some 1)), (1, vI v1), (2, vI v2)], [], hp q)) rfl (S_run 4 (f' := (0, 0, 8, [(0, vR (some 1)), (1, vI v1), (2, vI v2)], [vI v1, vR (some 6)], hp q)) rfl (S_call (m' := 76) (args := [vR (some 6), vI v1]) (h := hp q) (k := fun r => (0, 0, 11, [(0, vR (some 1)), (1, vI v1), (2, vI v2)], r.1.toList ++ [], r.2)) rfl (T_Ws_has q v1) (fun r_1 => S_run 0 (f' := (0, 0, 11, [(0, vR (some 1)), (1, vI v1), (2, vI v2)], [vI r_1], hp q)) rfl (S_ite (fun h_2 => S_go (J_if2 rfl rfl (B_ne h_2)) (S_run 1 (f' := (0, 0, 15, [(0, vR (some 1)), (1, vI v1), (2, vI v2)], [vI (-1 : Int)], hp q)) rfl (S_ret rfl))) (fun h_2 => S_go (J_if2 rfl rfl (B_ne' h_2)) (S_run 1 (f' := (0, 0, 17, [(0, vR (some 1)), (1, vI v1), (2, vI v2)], [vI v2], hp q)) rfl (S_ite (fun h_3 => S_go (J_if2 rfl rfl (B_ge h_3)) (S_run 1 (f' := (0, 0, 22, [(0, vR (some 1)), (1, vI v1), (2, vI v2)], [vI (-2 : Int)], hp q)) rfl (S_ret rfl))) (fun h_3 => S_go (J_if2 rfl rfl (B_ge' h_3)) (S_run 5 (f' := (0, 0, 32, [(0, vR (some 1)), (1, vI v1), (2, vI v2)], [vI v1, vR (some 6), vI v2], hp q)) rfl (S_call (m' := 77) (args := [vR (some 6), vI v1]) (h := hp q) (k := fun r => (0, 0, 35, [(0, vR (some 1)), (1, vI v1), (2, vI v2)], r.1.toList ++ [vI v2], r.2)) rfl (T_Ws_letterCountOf q v1) (fun r_4 => S_run 0 (f' := (0, 0, 35, [(0, vR (some 1)), (1, vI v1), (2, vI v2)], [vI r_4, vI v2], hp q)) rfl (S_ite (fun h_5 => S_go (J_icmp2 rfl rfl rfl (B_ge h_5)) (S_run 5 (f' := (0, 0, 47, [(0, vR (some 1)), (1, vI v1), (2, vI v2)], [vI v2, vI v1, vR (some 6)], hp q)) rfl (S_call (m' := 81) (args := [vR (some 6), vI v1, vI v2]) (h := hp q) (k := fun r => (0, 0, 50, [(0, vR (some 1)), (1, vI v1), (2, vI v2)], r.1.toList ++ [], r.2)) rfl (T_Ws_letterOf q v1 v2) (fun r_6 => S_run 1 (f' := (0, 0, 55, [(0, vR (some 1)), (1, vI v1), (2, vI v2)], [vI r_6], hp q)) rfl (S_ret rfl))))) (fun h_5 => S_go (J_icmp2 rfl rfl rfl (B_ge' h_5)) (S_run 1 (f' := (0, 0, 55, [(0, vR (some 1)), (1, vI v1), (2, vI v2)], [vI (-5 : Int)], hp q)) rfl (S_ret rfl)))))))))))))))

def Ls_countRows_L39 (q : zM) (v2 : Int) (v3 : Int) (v4 : Int) (K : Int → Int → Option (Int × zM)) : Nat → Int → Int → Option (Int × zM)
  | 0, _, _ => none
  | n + 1, v5, v6 =>
    (Ws_size q ).bind fun r_4 =>
      if wrap v6 < wrap r_4 then
        (Ls_canStand_114_5 q v6 v4).bind fun r_6 =>
          if wrap r_6 = (0 : Int) then
            Ls_countRows_L39 q v2 v3 v4 K n v5 (v6 + 1)
          else
            (Ws_syllablesOf q v6).bind fun r_8 =>
              ck (wrap (v4 + r_8)) 13 (
                Ls_countRows_L39 q v2 v3 v4 K n (v5 + (q.1 118 (wrap (v4 + r_8)).toNat)) (v6 + 1))
      else
        K v5 v6
theorem T_Ls_countRows_L39 {E : zE} (q : zM) (v2 : Int) (v3 : Int) (v4 : Int) {K : Int → Int → Option (Int × zM)} (hK : ∀ (v5 : Int) (v6 : Int), SimV E 8 (0, 0, 91, [(0, vR (some 114)), (1, vR (some 5)), (2, vI v2), (3, vI v3), (4, vI v4), (5, vI v5), (6, vI v6)], [], hp q) eI (K v5 v6)) : ∀ (n : Nat) (v5 : Int) (v6 : Int), SimV E 8 (0, 0, 39, [(0, vR (some 114)), (1, vR (some 5)), (2, vI v2), (3, vI v3), (4, vI v4), (5, vI v5), (6, vI v6)], [], hp q) eI (Ls_countRows_L39 q v2 v3 v4 K n v5 v6) := by
  intro n
  induction n with
  | zero => intro _ _; exact S_none
  | succ n ih =>
    intro v5 v6
    rw [Ls_countRows_L39]
    exact S_run 3 (f' := (0, 0, 45, [(0, vR (some 114)), (1, vR (some 5)), (2, vI v2), (3, vI v3), (4, vI v4), (5, vI v5), (6, vI v6)], [vR (some 6), vI v6], hp q)) rfl (S_call (m' := 74) (args := [vR (some 6)]) (h := hp q) (k := fun r => (0, 0, 48, [(0, vR (some 114)), (1, vR (some 5)), (2, vI v2), (3, vI v3), (4, vI v4), (5, vI v5), (6, vI v6)], r.1.toList ++ [vI v6], r.2)) rfl (T_Ws_size q ) (fun r_4 => S_run 0 (f' := (0, 0, 48, [(0, vR (some 114)), (1, vR (some 5)), (2, vI v2), (3, vI v3), (4, vI v4), (5, vI v5), (6, vI v6)], [vI r_4, vI v6], hp q)) rfl (S_ite (fun h_5 => S_go (J_icmp2 rfl rfl rfl (B_ge h_5)) (S_run 4 (f' := (0, 0, 57, [(0, vR (some 114)), (1, vR (some 5)), (2, vI v2), (3, vI v3), (4, vI v4), (5, vI v5), (6, vI v6)], [vI v4, vI v6, vR (some 5), vR (some 114)], hp q)) rfl (S_call (m' := 12) (args := [vR (some 114), vR (some 5), vI v6, vI v4]) (h := hp q) (k := fun r => (0, 0, 60, [(0, vR (some 114)), (1, vR (some 5)), (2, vI v2), (3, vI v3), (4, vI v4), (5, vI v5), (6, vI v6)], r.1.toList ++ [], r.2)) rfl (T_Ls_canStand_114_5 q v6 v4) (fun r_6 => S_run 0 (f' := (0, 0, 60, [(0, vR (some 114)), (1, vR (some 5)), (2, vI v2), (3, vI v3), (4, vI v4), (5, vI v5), (6, vI v6)], [vI r_6], hp q)) rfl (S_ite (fun h_7 => S_go (J_if2 rfl rfl (B_eq h_7)) (S_run 2 (f' := (0, 0, 39, [(0, vR (some 114)), (1, vR (some 5)), (2, vI v2), (3, vI v3), (4, vI v4), (5, vI v5), (6, vI (v6 + 1))], [], hp q)) rfl (ih v5 (v6 + 1)))) (fun h_7 => S_go (J_if2 rfl rfl (B_eq' h_7)) (S_run 7 (f' := (0, 0, 77, [(0, vR (some 114)), (1, vR (some 5)), (2, vI v2), (3, vI v3), (4, vI v4), (5, vI v5), (6, vI v6)], [vI v6, vR (some 6), vI v4, vR (some 118), vI v5], hp q)) rfl (S_call (m' := 78) (args := [vR (some 6), vI v6]) (h := hp q) (k := fun r => (0, 0, 80, [(0, vR (some 114)), (1, vR (some 5)), (2, vI v2), (3, vI v3), (4, vI v4), (5, vI v5), (6, vI v6)], r.1.toList ++ [vI v4, vR (some 118), vI v5], r.2)) rfl (T_Ws_syllablesOf q v6) (fun r_8 => S_run 1 (f' := (0, 0, 81, [(0, vR (some 114)), (1, vR (some 5)), (2, vI v2), (3, vI v3), (4, vI v4), (5, vI v5), (6, vI v6)], [vI (v4 + r_8), vR (some 118), vI v5], hp q)) rfl (S_ck (n := 13) (fun h_9 => S_go (H_iald rfl rfl rfl h_9) (S_run 4 (f' := (0, 0, 39, [(0, vR (some 114)), (1, vR (some 5)), (2, vI v2), (3, vI v3), (4, vI v4), (5, vI (v5 + (q.1 118 (wrap (v4 + r_8)).toNat))), (6, vI (v6 + 1))], [], hp q)) rfl (ih (v5 + (q.1 118 (wrap (v4 + r_8)).toNat)) (v6 + 1)))))))))))))) (fun h_5 => S_go (J_icmp2 rfl rfl rfl (B_ge' h_5)) (S_run 0 (f' := (0, 0, 91, [(0, vR (some 114)), (1, vR (some 5)), (2, vI v2), (3, vI v3), (4, vI v4), (5, vI v5), (6, vI v6)], [], hp q)) rfl (hK v5 v6))))))

def Ls_countRows_L28 (v2 : Int) (v3 : Int) (K : Int → zM → Option (Int × zM)) : Nat → Int → zM → Option (Int × zM)
  | 0, _, _ => none
  | n + 1, v4, q =>
    if wrap v4 < (0 : Int) then
      K v4 q
    else
      Ls_countRows_L39 q v2 v3 v4 (fun v5_10 v6_11 => 
        ck (wrap v4) 13 (
          Ls_countRows_L28 v2 v3 K n (v4 + (-1)) (qs q 118 (wrap v4).toNat (wmin v5_10 (1000 : Int))))) 5000 (0 : Int) (0 : Int)
theorem T_Ls_countRows_L28 {E : zE} (v2 : Int) (v3 : Int) {K : Int → zM → Option (Int × zM)} (hK : ∀ (v4 : Int) (q : zM), SimV E 8 (0, 0, 112, [(0, vR (some 114)), (1, vR (some 5)), (2, vI v2), (3, vI v3), (4, vI v4)], [], hp q) eI (K v4 q)) : ∀ (n : Nat) (v4 : Int) (q : zM), SimV E 8 (0, 0, 28, [(0, vR (some 114)), (1, vR (some 5)), (2, vI v2), (3, vI v3), (4, vI v4)], [], hp q) eI (Ls_countRows_L28 v2 v3 K n v4 q) := by
  intro n
  induction n with
  | zero => intro _ _; exact S_none
  | succ n ih =>
    intro v4 q
    rw [Ls_countRows_L28]
    exact S_run 1 (f' := (0, 0, 30, [(0, vR (some 114)), (1, vR (some 5)), (2, vI v2), (3, vI v3), (4, vI v4)], [vI v4], hp q)) rfl (S_ite (fun h_3 => S_go (J_if2 rfl rfl (B_lt h_3)) (S_run 0 (f' := (0, 0, 112, [(0, vR (some 114)), (1, vR (some 5)), (2, vI v2), (3, vI v3), (4, vI v4)], [], hp q)) rfl (hK v4 q))) (fun h_3 => S_go (J_if2 rfl rfl (B_lt' h_3)) (S_run 4 (f' := (0, 0, 39, [(0, vR (some 114)), (1, vR (some 5)), (2, vI v2), (3, vI v3), (4, vI v4), (5, vI (0 : Int)), (6, vI (0 : Int))], [], hp q)) rfl (T_Ls_countRows_L39 q v2 v3 v4 (fun v5_10 v6_11 => S_run 6 (f' := (0, 0, 105, [(0, vR (some 114)), (1, vR (some 5)), (2, vI v2), (3, vI v3), (4, vI v4), (5, vI v5_10), (6, vI v6_11)], [vI (wmin v5_10 (1000 : Int)), vI v4, vR (some 118)], hp q)) rfl (S_ck (n := 13) (fun h_12 => S_go (H_iast rfl rfl rfl h_12) (S_run 2 (f' := (0, 0, 28, [(0, vR (some 114)), (1, vR (some 5)), (2, vI v2), (3, vI v3), (4, vI (v4 + (-1)))], [], hp (qs q 118 (wrap v4).toNat (wmin v5_10 (1000 : Int))))) rfl (ih (v4 + (-1)) (qs q 118 (wrap v4).toNat (wmin v5_10 (1000 : Int)))))))) 5000 (0 : Int) (0 : Int)))))

def Ls_countRows_b23 (q : zM) (v2 : Int) (v3 : Int) : Option (Int × zM) :=
  Ls_countRows_L28 v2 v3 (fun v4_13 q_14 => 
    some (q_14.1 118 0, q_14)) 5000 (v3 - (1 : Int)) q
theorem T_Ls_countRows_b23 {E : zE} (q : zM) (v2 : Int) (v3 : Int) : SimV E 8 (0, 0, 23, [(0, vR (some 114)), (1, vR (some 5)), (2, vI v2), (3, vI v3)], [], hp q) eI (Ls_countRows_b23 q v2 v3) := by
  unfold Ls_countRows_b23
  exact S_run 4 (f' := (0, 0, 28, [(0, vR (some 114)), (1, vR (some 5)), (2, vI v2), (3, vI v3), (4, vI (v3 - (1 : Int)))], [], hp q)) rfl (T_Ls_countRows_L28 v2 v3 (fun v4_13 q_14 => S_run 4 (f' := (0, 0, 118, [(0, vR (some 114)), (1, vR (some 5)), (2, vI v2), (3, vI v3), (4, vI v4_13)], [vI (q_14.1 118 0)], hp q_14)) rfl (S_ret rfl)) 5000 (v3 - (1 : Int)) q)

def Ls_countRows (q : zM) (v2 : Int) : Option (Int × zM) :=
  (Ls_prepare_114_5 q v2 (1 : Int) (1 : Int)).bind fun r_1 =>
    ck (wrap (r_1.1 12 0)) 13 (
      Ls_countRows_b23 (qs r_1 118 (wrap (r_1.1 12 0)).toNat (1 : Int)) v2 (r_1.1 12 0))
theorem T_Ls_countRows {E : zE} (q : zM) (v2 : Int) : SimV E 8 (entF [vR (some 114), vR (some 5), vI v2] (hp q)) eI (Ls_countRows q v2) := by
  unfold Ls_countRows
  exact S_run 0 (f' := (0, 0, 0, [(0, vR (some 114)), (1, vR (some 5)), (2, vI v2)], [], hp q)) rfl (S_run 5 (f' := (0, 0, 5, [(0, vR (some 114)), (1, vR (some 5)), (2, vI v2)], [vI (1 : Int), vI (1 : Int), vI v2, vR (some 5), vR (some 114)], hp q)) rfl (S_call (m' := 11) (args := [vR (some 114), vR (some 5), vI v2, vI (1 : Int), vI (1 : Int)]) (h := hp q) (k := fun r => (0, 0, 8, [(0, vR (some 114)), (1, vR (some 5)), (2, vI v2)], r.1.toList ++ [], r.2)) rfl (T_Ls_prepare_114_5 q v2 (1 : Int) (1 : Int)) (fun r_1 => S_run 8 (f' := (0, 0, 22, [(0, vR (some 114)), (1, vR (some 5)), (2, vI v2), (3, vI (r_1.1 12 0))], [vI (1 : Int), vI (r_1.1 12 0), vR (some 118)], hp r_1)) rfl (S_ck (n := 13) (fun h_2 => S_go (H_iast rfl rfl rfl h_2) (S_run 0 (f' := (0, 0, 23, [(0, vR (some 114)), (1, vR (some 5)), (2, vI v2), (3, vI (r_1.1 12 0))], [], hp (qs r_1 118 (wrap (r_1.1 12 0)).toNat (1 : Int)))) rfl (T_Ls_countRows_b23 (qs r_1 118 (wrap (r_1.1 12 0)).toNat (1 : Int)) v2 (r_1.1 12 0))))))))

def Po_wordIn (q : zM) (v1 : Int) (v2 : Int) : Option Int :=
  if wrap v2 < (0 : Int) then
    some (-1 : Int)
  else
    (Po_wordsIn q v1).bind fun r_2 =>
      if wrap v2 < wrap r_2 then
        ck (wrap ((v1 * (12 : Int)) + v2)) 96 (
          some (q.1 17 (wrap ((v1 * (12 : Int)) + v2)).toNat))
      else
        some (-1 : Int)
theorem T_Po_wordIn {E : zE} (q : zM) (v1 : Int) (v2 : Int) : SimV E 28 (entF [vR (some 13), vI v1, vI v2] (hp q)) (eP q) (Po_wordIn q v1 v2) := by
  unfold Po_wordIn
  exact S_run 0 (f' := (0, 0, 0, [(0, vR (some 13)), (1, vI v1), (2, vI v2)], [], hp q)) rfl (S_run 1 (f' := (0, 0, 1, [(0, vR (some 13)), (1, vI v1), (2, vI v2)], [vI v2], hp q)) rfl (S_ite (fun h_1 => S_go (J_if2 rfl rfl (B_lt h_1)) (S_run 1 (f' := (0, 0, 14, [(0, vR (some 13)), (1, vI v1), (2, vI v2)], [vI (-1 : Int)], hp q)) rfl (S_ret rfl))) (fun h_1 => S_go (J_if2 rfl rfl (B_lt' h_1)) (S_run 3 (f' := (0, 0, 7, [(0, vR (some 13)), (1, vI v1), (2, vI v2)], [vI v1, vR (some 13), vI v2], hp q)) rfl (S_call (m' := 27) (args := [vR (some 13), vI v1]) (h := hp q) (k := fun r => (0, 0, 10, [(0, vR (some 13)), (1, vI v1), (2, vI v2)], r.1.toList ++ [vI v2], r.2)) rfl (T_Po_wordsIn q v1) (fun r_2 => S_run 0 (f' := (0, 0, 10, [(0, vR (some 13)), (1, vI v1), (2, vI v2)], [vI r_2, vI v2], hp q)) rfl (S_ite (fun h_3 => S_go (J_icmp2 rfl rfl rfl (B_lt h_3)) (S_run 7 (f' := (0, 0, 25, [(0, vR (some 13)), (1, vI v1), (2, vI v2)], [vI ((v1 * (12 : Int)) + v2), vR (some 17)], hp q)) rfl (S_ck (n := 96) (fun h_4 => S_go (H_iald rfl rfl rfl h_4) (S_run 0 (f' := (0, 0, 26, [(0, vR (some 13)), (1, vI v1), (2, vI v2)], [vI (q.1 17 (wrap ((v1 * (12 : Int)) + v2)).toNat)], hp q)) rfl (S_ret rfl)))))) (fun h_3 => S_go (J_icmp2 rfl rfl rfl (B_lt' h_3)) (S_run 1 (f' := (0, 0, 14, [(0, vR (some 13)), (1, vI v1), (2, vI v2)], [vI (-1 : Int)], hp q)) rfl (S_ret rfl))))))))))

def St_lettersIn_L4 (q : zM) (v1 : Int) (K : Int → Int → Option Int) : Nat → Int → Int → Option Int
  | 0, _, _ => none
  | n + 1, v2, v3 =>
    (Po_wordsIn q v1).bind fun r_1 =>
      if wrap v3 < wrap r_1 then
        (Po_wordIn q v1 v3).bind fun r_3 =>
          (Ws_letterCountOf q r_3).bind fun r_4 =>
            St_lettersIn_L4 q v1 K n (v2 + r_4) (v3 + 1)
      else
        K v2 v3
theorem T_St_lettersIn_L4 {E : zE} (q : zM) (v1 : Int) {K : Int → Int → Option Int} (hK : ∀ (v2 : Int) (v3 : Int), SimV E 49 (0, 0, 41, [(0, vR (some 5)), (1, vI v1), (2, vI v2), (3, vI v3)], [], hp q) (eP q) (K v2 v3)) : ∀ (n : Nat) (v2 : Int) (v3 : Int), SimV E 49 (0, 0, 4, [(0, vR (some 5)), (1, vI v1), (2, vI v2), (3, vI v3)], [], hp q) (eP q) (St_lettersIn_L4 q v1 K n v2 v3) := by
  intro n
  induction n with
  | zero => intro _ _; exact S_none
  | succ n ih =>
    intro v2 v3
    rw [St_lettersIn_L4]
    exact S_run 4 (f' := (0, 0, 10, [(0, vR (some 5)), (1, vI v1), (2, vI v2), (3, vI v3)], [vI v1, vR (some 13), vI v3], hp q)) rfl (S_call (m' := 27) (args := [vR (some 13), vI v1]) (h := hp q) (k := fun r => (0, 0, 13, [(0, vR (some 5)), (1, vI v1), (2, vI v2), (3, vI v3)], r.1.toList ++ [vI v3], r.2)) rfl (T_Po_wordsIn q v1) (fun r_1 => S_run 0 (f' := (0, 0, 13, [(0, vR (some 5)), (1, vI v1), (2, vI v2), (3, vI v3)], [vI r_1, vI v3], hp q)) rfl (S_ite (fun h_2 => S_go (J_icmp2 rfl rfl rfl (B_ge h_2)) (S_run 7 (f' := (0, 0, 27, [(0, vR (some 5)), (1, vI v1), (2, vI v2), (3, vI v3)], [vI v3, vI v1, vR (some 13), vR (some 6), vI v2], hp q)) rfl (S_call (m' := 28) (args := [vR (some 13), vI v1, vI v3]) (h := hp q) (k := fun r => (0, 0, 30, [(0, vR (some 5)), (1, vI v1), (2, vI v2), (3, vI v3)], r.1.toList ++ [vR (some 6), vI v2], r.2)) rfl (T_Po_wordIn q v1 v3) (fun r_3 => S_run 0 (f' := (0, 0, 30, [(0, vR (some 5)), (1, vI v1), (2, vI v2), (3, vI v3)], [vI r_3, vR (some 6), vI v2], hp q)) rfl (S_call (m' := 77) (args := [vR (some 6), vI r_3]) (h := hp q) (k := fun r => (0, 0, 33, [(0, vR (some 5)), (1, vI v1), (2, vI v2), (3, vI v3)], r.1.toList ++ [vI v2], r.2)) rfl (T_Ws_letterCountOf q r_3) (fun r_4 => S_run 4 (f' := (0, 0, 4, [(0, vR (some 5)), (1, vI v1), (2, vI (v2 + r_4)), (3, vI (v3 + 1))], [], hp q)) rfl (ih (v2 + r_4) (v3 + 1)))))))) (fun h_2 => S_go (J_icmp2 rfl rfl rfl (B_ge' h_2)) (S_run 0 (f' := (0, 0, 41, [(0, vR (some 5)), (1, vI v1), (2, vI v2), (3, vI v3)], [], hp q)) rfl (hK v2 v3))))))

def St_lettersIn (q : zM) (v1 : Int) : Option Int :=
  St_lettersIn_L4 q v1 (fun v2_5 v3_6 => 
    some v2_5) 5000 (0 : Int) (0 : Int)
theorem T_St_lettersIn {E : zE} (q : zM) (v1 : Int) : SimV E 49 (entF [vR (some 5), vI v1] (hp q)) (eP q) (St_lettersIn q v1) := by
  unfold St_lettersIn
  exact S_run 0 (f' := (0, 0, 0, [(0, vR (some 5)), (1, vI v1)], [], hp q)) rfl (S_run 4 (f' := (0, 0, 4, [(0, vR (some 5)), (1, vI v1), (2, vI (0 : Int)), (3, vI (0 : Int))], [], hp q)) rfl (T_St_lettersIn_L4 q v1 (fun v2_5 v3_6 => S_run 1 (f' := (0, 0, 42, [(0, vR (some 5)), (1, vI v1), (2, vI v2_5), (3, vI v3_6)], [vI v2_5], hp q)) rfl (S_ret rfl)) 5000 (0 : Int) (0 : Int)))

def St_bendsIn_L7 (q : zM) (v1 : Int) (K : Int → Int → Int → Option Int) : Nat → Int → Int → Int → Option Int
  | 0, _, _, _ => none
  | n + 1, v2, v3, v4 =>
    (Po_wordsIn q v1).bind fun r_1 =>
      if wrap v4 < wrap r_1 then
        (Po_wordIn q v1 v4).bind fun r_3 =>
          (Me_bends q r_3 v3).bind fun r_4 =>
            (Ws_syllablesOf q r_3).bind fun r_5 =>
              St_bendsIn_L7 q v1 K n (v2 + r_4) (v3 + r_5) (v4 + 1)
      else
        K v2 v3 v4
theorem T_St_bendsIn_L7 {E : zE} (q : zM) (v1 : Int) {K : Int → Int → Int → Option Int} (hK : ∀ (v2 : Int) (v3 : Int) (v4 : Int), SimV E 47 (0, 0, 67, [(0, vR (some 5)), (1, vI v1), (2, vI v2), (3, vI v3), (4, vI v4)], [], hp q) (eP q) (K v2 v3 v4)) : ∀ (n : Nat) (v2 : Int) (v3 : Int) (v4 : Int), SimV E 47 (0, 0, 7, [(0, vR (some 5)), (1, vI v1), (2, vI v2), (3, vI v3), (4, vI v4)], [], hp q) (eP q) (St_bendsIn_L7 q v1 K n v2 v3 v4) := by
  intro n
  induction n with
  | zero => intro _ _ _; exact S_none
  | succ n ih =>
    intro v2 v3 v4
    rw [St_bendsIn_L7]
    exact S_run 4 (f' := (0, 0, 14, [(0, vR (some 5)), (1, vI v1), (2, vI v2), (3, vI v3), (4, vI v4)], [vI v1, vR (some 13), vI v4], hp q)) rfl (S_call (m' := 27) (args := [vR (some 13), vI v1]) (h := hp q) (k := fun r => (0, 0, 17, [(0, vR (some 5)), (1, vI v1), (2, vI v2), (3, vI v3), (4, vI v4)], r.1.toList ++ [vI v4], r.2)) rfl (T_Po_wordsIn q v1) (fun r_1 => S_run 0 (f' := (0, 0, 17, [(0, vR (some 5)), (1, vI v1), (2, vI v2), (3, vI v3), (4, vI v4)], [vI r_1, vI v4], hp q)) rfl (S_ite (fun h_2 => S_go (J_icmp2 rfl rfl rfl (B_ge h_2)) (S_run 4 (f' := (0, 0, 27, [(0, vR (some 5)), (1, vI v1), (2, vI v2), (3, vI v3), (4, vI v4)], [vI v4, vI v1, vR (some 13)], hp q)) rfl (S_call (m' := 28) (args := [vR (some 13), vI v1, vI v4]) (h := hp q) (k := fun r => (0, 0, 30, [(0, vR (some 5)), (1, vI v1), (2, vI v2), (3, vI v3), (4, vI v4)], r.1.toList ++ [], r.2)) rfl (T_Po_wordIn q v1 v4) (fun r_3 => S_run 8 (f' := (0, 0, 44, [(0, vR (some 5)), (1, vI v1), (2, vI v2), (3, vI v3), (4, vI v4), (5, vI r_3)], [vI v3, vI r_3, vR (some 6), vR (some 12), vI v2], hp q)) rfl (S_call (m' := 19) (args := [vR (some 12), vR (some 6), vI r_3, vI v3]) (h := hp q) (k := fun r => (0, 0, 47, [(0, vR (some 5)), (1, vI v1), (2, vI v2), (3, vI v3), (4, vI v4), (5, vI r_3)], r.1.toList ++ [vI v2], r.2)) rfl (T_Me_bends q r_3 v3) (fun r_4 => S_run 6 (f' := (0, 0, 56, [(0, vR (some 5)), (1, vI v1), (2, vI (v2 + r_4)), (3, vI v3), (4, vI v4), (5, vI r_3)], [vI r_3, vR (some 6), vI v3], hp q)) rfl (S_call (m' := 78) (args := [vR (some 6), vI r_3]) (h := hp q) (k := fun r => (0, 0, 59, [(0, vR (some 5)), (1, vI v1), (2, vI (v2 + r_4)), (3, vI v3), (4, vI v4), (5, vI r_3)], r.1.toList ++ [vI v3], r.2)) rfl (T_Ws_syllablesOf q r_3) (fun r_5 => S_run 4 (f' := (0, 0, 7, [(0, vR (some 5)), (1, vI v1), (2, vI (v2 + r_4)), (3, vI (v3 + r_5)), (4, vI (v4 + 1))], [], hp q)) rfl (ih (v2 + r_4) (v3 + r_5) (v4 + 1)))))))))) (fun h_2 => S_go (J_icmp2 rfl rfl rfl (B_ge' h_2)) (S_run 0 (f' := (0, 0, 67, [(0, vR (some 5)), (1, vI v1), (2, vI v2), (3, vI v3), (4, vI v4)], [], hp q)) rfl (hK v2 v3 v4))))))

def St_bendsIn (q : zM) (v1 : Int) : Option Int :=
  St_bendsIn_L7 q v1 (fun v2_6 v3_7 v4_8 => 
    some v2_6) 5000 (0 : Int) (0 : Int) (0 : Int)
theorem T_St_bendsIn {E : zE} (q : zM) (v1 : Int) : SimV E 47 (entF [vR (some 5), vI v1] (hp q)) (eP q) (St_bendsIn q v1) := by
  unfold St_bendsIn
  exact S_run 0 (f' := (0, 0, 0, [(0, vR (some 5)), (1, vI v1)], [], hp q)) rfl (S_run 6 (f' := (0, 0, 7, [(0, vR (some 5)), (1, vI v1), (2, vI (0 : Int)), (3, vI (0 : Int)), (4, vI (0 : Int))], [], hp q)) rfl (T_St_bendsIn_L7 q v1 (fun v2_6 v3_7 v4_8 => S_run 1 (f' := (0, 0, 68, [(0, vR (some 5)), (1, vI v1), (2, vI v2_6), (3, vI v3_7), (4, vI v4_8)], [vI v2_6], hp q)) rfl (S_ret rfl)) 5000 (0 : Int) (0 : Int) (0 : Int)))

def Ev_line (q : zM) (v1 : Int) (v2 : Int) : Option (Int × zM) :=
  (Po_has q v1).bind fun r_1 =>
    if wrap r_1 = (0 : Int) then
      some ((-1 : Int), q)
    else
      if wrap v2 = 0 then
        (Po_wordsIn q v1).bind fun r_9 =>
          some (r_9, q)
      else
        if wrap v2 = 1 then
          (St_bendsIn q v1).bind fun r_8 =>
            some (r_8, q)
        else
          if wrap v2 = 2 then
            (St_lettersIn q v1).bind fun r_7 =>
              some (r_7, q)
          else
            if wrap v2 = 3 then
              (Po_firstLetterOf q v1).bind fun r_6 =>
                some (r_6, q)
            else
              if wrap v2 = 4 then
                (Po_lastLetterOf q v1).bind fun r_5 =>
                  some (r_5, q)
              else
                if wrap v2 = 5 then
                  (Ls_countRows q v1).bind fun r_4 =>
                    some (r_4.1, r_4.2)
                else
                  some ((-2 : Int), q)
theorem T_Ev_line {E : zE} (q : zM) (v1 : Int) (v2 : Int) : SimV E 104 (entF [vR (some 1), vI v1, vI v2] (hp q)) eI (Ev_line q v1 v2) := by
  unfold Ev_line
  exact S_run 0 (f' := (0, 0, 0, [(0, vR (some 1)), (1, vI v1), (2, vI v2)], [], hp q)) rfl (S_run 4 (f' := (0, 0, 8, [(0, vR (some 1)), (1, vI v1), (2, vI v2)], [vI v1, vR (some 13)], hp q)) rfl (S_call (m' := 24) (args := [vR (some 13), vI v1]) (h := hp q) (k := fun r => (0, 0, 11, [(0, vR (some 1)), (1, vI v1), (2, vI v2)], r.1.toList ++ [], r.2)) rfl (T_Po_has q v1) (fun r_1 => S_run 0 (f' := (0, 0, 11, [(0, vR (some 1)), (1, vI v1), (2, vI v2)], [vI r_1], hp q)) rfl (S_ite (fun h_2 => S_go (J_if2 rfl rfl (B_ne h_2)) (S_run 1 (f' := (0, 0, 15, [(0, vR (some 1)), (1, vI v1), (2, vI v2)], [vI (-1 : Int)], hp q)) rfl (S_ret rfl))) (fun h_2 => S_go (J_if2 rfl rfl (B_ne' h_2)) (S_run 1 (f' := (0, 0, 17, [(0, vR (some 1)), (1, vI v1), (2, vI v2)], [vI v2], hp q)) rfl (S_ite (fun h_3_0 => S_go (J_tin rfl h_3_0 (by decide) rfl) (S_run 4 (f' := (0, 0, 64, [(0, vR (some 1)), (1, vI v1), (2, vI v2)], [vI v1, vR (some 13)], hp q)) rfl (S_call (m' := 27) (args := [vR (some 13), vI v1]) (h := hp q) (k := fun r => (0, 0, 67, [(0, vR (some 1)), (1, vI v1), (2, vI v2)], r.1.toList ++ [], r.2)) rfl (T_Po_wordsIn q v1) (fun r_9 => S_run 0 (f' := (0, 0, 67, [(0, vR (some 1)), (1, vI v1), (2, vI v2)], [vI r_9], hp q)) rfl (S_ret rfl))))) (fun h_3_0 => S_ite (fun h_3_1 => S_go (J_tin rfl h_3_1 (by decide) rfl) (S_run 3 (f' := (0, 0, 73, [(0, vR (some 1)), (1, vI v1), (2, vI v2)], [vI v1, vR (some 5)], hp q)) rfl (S_call (m' := 47) (args := [vR (some 5), vI v1]) (h := hp q) (k := fun r => (0, 0, 76, [(0, vR (some 1)), (1, vI v1), (2, vI v2)], r.1.toList ++ [], r.2)) rfl (T_St_bendsIn q v1) (fun r_8 => S_run 0 (f' := (0, 0, 76, [(0, vR (some 1)), (1, vI v1), (2, vI v2)], [vI r_8], hp q)) rfl (S_ret rfl))))) (fun h_3_1 => S_ite (fun h_3_2 => S_go (J_tin rfl h_3_2 (by decide) rfl) (S_run 3 (f' := (0, 0, 82, [(0, vR (some 1)), (1, vI v1), (2, vI v2)], [vI v1, vR (some 5)], hp q)) rfl (S_call (m' := 49) (args := [vR (some 5), vI v1]) (h := hp q) (k := fun r => (0, 0, 85, [(0, vR (some 1)), (1, vI v1), (2, vI v2)], r.1.toList ++ [], r.2)) rfl (T_St_lettersIn q v1) (fun r_7 => S_run 0 (f' := (0, 0, 85, [(0, vR (some 1)), (1, vI v1), (2, vI v2)], [vI r_7], hp q)) rfl (S_ret rfl))))) (fun h_3_2 => S_ite (fun h_3_3 => S_go (J_tin rfl h_3_3 (by decide) rfl) (S_run 4 (f' := (0, 0, 94, [(0, vR (some 1)), (1, vI v1), (2, vI v2)], [vI v1, vR (some 13)], hp q)) rfl (S_call (m' := 25) (args := [vR (some 13), vI v1]) (h := hp q) (k := fun r => (0, 0, 97, [(0, vR (some 1)), (1, vI v1), (2, vI v2)], r.1.toList ++ [], r.2)) rfl (T_Po_firstLetterOf q v1) (fun r_6 => S_run 0 (f' := (0, 0, 97, [(0, vR (some 1)), (1, vI v1), (2, vI v2)], [vI r_6], hp q)) rfl (S_ret rfl))))) (fun h_3_3 => S_ite (fun h_3_4 => S_go (J_tin rfl h_3_4 (by decide) rfl) (S_run 4 (f' := (0, 0, 106, [(0, vR (some 1)), (1, vI v1), (2, vI v2)], [vI v1, vR (some 13)], hp q)) rfl (S_call (m' := 26) (args := [vR (some 13), vI v1]) (h := hp q) (k := fun r => (0, 0, 109, [(0, vR (some 1)), (1, vI v1), (2, vI v2)], r.1.toList ++ [], r.2)) rfl (T_Po_lastLetterOf q v1) (fun r_5 => S_run 0 (f' := (0, 0, 109, [(0, vR (some 1)), (1, vI v1), (2, vI v2)], [vI r_5], hp q)) rfl (S_ret rfl))))) (fun h_3_4 => S_ite (fun h_3_5 => S_go (J_tin rfl h_3_5 (by decide) rfl) (S_run 5 (f' := (0, 0, 119, [(0, vR (some 1)), (1, vI v1), (2, vI v2)], [vI v1, vR (some 5), vR (some 114)], hp q)) rfl (S_call (m' := 8) (args := [vR (some 114), vR (some 5), vI v1]) (h := hp q) (k := fun r => (0, 0, 122, [(0, vR (some 1)), (1, vI v1), (2, vI v2)], r.1.toList ++ [], r.2)) rfl (T_Ls_countRows q v1) (fun r_4 => S_run 0 (f' := (0, 0, 122, [(0, vR (some 1)), (1, vI v1), (2, vI v2)], [vI r_4.1], hp r_4.2)) rfl (S_ret rfl))))) (fun h_3_5 => S_go (J_tout rfl (by omega)) (S_run 1 (f' := (0, 0, 125, [(0, vR (some 1)), (1, vI v1), (2, vI v2)], [vI (-2 : Int)], hp q)) rfl (S_ret rfl)))))))))))))))

def Ev_wordAt (q : zM) (v1 : Int) (v2 : Int) : Option Int :=
  (Po_has q v1).bind fun r_1 =>
    if wrap r_1 = (0 : Int) then
      some (-1 : Int)
    else
      if wrap v2 < (0 : Int) then
        some (-2 : Int)
      else
        (Po_wordsIn q v1).bind fun r_4 =>
          if wrap v2 < wrap r_4 then
            (Po_wordIn q v1 v2).bind fun r_6 =>
              some r_6
          else
            some (-5 : Int)
theorem T_Ev_wordAt {E : zE} (q : zM) (v1 : Int) (v2 : Int) : SimV E 105 (entF [vR (some 1), vI v1, vI v2] (hp q)) (eP q) (Ev_wordAt q v1 v2) := by
  unfold Ev_wordAt
  exact S_run 0 (f' := (0, 0, 0, [(0, vR (some 1)), (1, vI v1), (2, vI v2)], [], hp q)) rfl (S_run 4 (f' := (0, 0, 8, [(0, vR (some 1)), (1, vI v1), (2, vI v2)], [vI v1, vR (some 13)], hp q)) rfl (S_call (m' := 24) (args := [vR (some 13), vI v1]) (h := hp q) (k := fun r => (0, 0, 11, [(0, vR (some 1)), (1, vI v1), (2, vI v2)], r.1.toList ++ [], r.2)) rfl (T_Po_has q v1) (fun r_1 => S_run 0 (f' := (0, 0, 11, [(0, vR (some 1)), (1, vI v1), (2, vI v2)], [vI r_1], hp q)) rfl (S_ite (fun h_2 => S_go (J_if2 rfl rfl (B_ne h_2)) (S_run 1 (f' := (0, 0, 15, [(0, vR (some 1)), (1, vI v1), (2, vI v2)], [vI (-1 : Int)], hp q)) rfl (S_ret rfl))) (fun h_2 => S_go (J_if2 rfl rfl (B_ne' h_2)) (S_run 1 (f' := (0, 0, 17, [(0, vR (some 1)), (1, vI v1), (2, vI v2)], [vI v2], hp q)) rfl (S_ite (fun h_3 => S_go (J_if2 rfl rfl (B_ge h_3)) (S_run 1 (f' := (0, 0, 22, [(0, vR (some 1)), (1, vI v1), (2, vI v2)], [vI (-2 : Int)], hp q)) rfl (S_ret rfl))) (fun h_3 => S_go (J_if2 rfl rfl (B_ge' h_3)) (S_run 5 (f' := (0, 0, 32, [(0, vR (some 1)), (1, vI v1), (2, vI v2)], [vI v1, vR (some 13), vI v2], hp q)) rfl (S_call (m' := 27) (args := [vR (some 13), vI v1]) (h := hp q) (k := fun r => (0, 0, 35, [(0, vR (some 1)), (1, vI v1), (2, vI v2)], r.1.toList ++ [vI v2], r.2)) rfl (T_Po_wordsIn q v1) (fun r_4 => S_run 0 (f' := (0, 0, 35, [(0, vR (some 1)), (1, vI v1), (2, vI v2)], [vI r_4, vI v2], hp q)) rfl (S_ite (fun h_5 => S_go (J_icmp2 rfl rfl rfl (B_ge h_5)) (S_run 5 (f' := (0, 0, 47, [(0, vR (some 1)), (1, vI v1), (2, vI v2)], [vI v2, vI v1, vR (some 13)], hp q)) rfl (S_call (m' := 28) (args := [vR (some 13), vI v1, vI v2]) (h := hp q) (k := fun r => (0, 0, 50, [(0, vR (some 1)), (1, vI v1), (2, vI v2)], r.1.toList ++ [], r.2)) rfl (T_Po_wordIn q v1 v2) (fun r_6 => S_run 1 (f' := (0, 0, 55, [(0, vR (some 1)), (1, vI v1), (2, vI v2)], [vI r_6], hp q)) rfl (S_ret rfl))))) (fun h_5 => S_go (J_icmp2 rfl rfl rfl (B_ge' h_5)) (S_run 1 (f' := (0, 0, 55, [(0, vR (some 1)), (1, vI v1), (2, vI v2)], [vI (-5 : Int)], hp q)) rfl (S_ret rfl)))))))))))))))

def Ls_prepare_120_5_L38 (v2 : Int) (v3 : Int) (v4 : Int) (K : Int → zM → Option zM) : Nat → Int → zM → Option zM
  | 0, _, _ => none
  | n + 1, v5, q =>
    (Ws_size q ).bind fun r_3 =>
      if wrap v5 < wrap r_3 then
        (Po_linesUsingBesides q v2 v5).bind fun r_5 =>
          (Ws_limitOf q v5).bind fun r_6 =>
            if wrap r_5 < wrap r_6 then
              ck (wrap v5) 40 (
                Ls_prepare_120_5_L38 v2 v3 v4 K n (v5 + 1) (qs q 121 (wrap v5).toNat ((1 : Int) % 2)))
            else
              ck (wrap v5) 40 (
                Ls_prepare_120_5_L38 v2 v3 v4 K n (v5 + 1) (qs q 121 (wrap v5).toNat ((0 : Int) % 2)))
      else
        K v5 q
theorem T_Ls_prepare_120_5_L38 {E : zE} (v2 : Int) (v3 : Int) (v4 : Int) {K : Int → zM → Option zM} (hK : ∀ (v5 : Int) (q : zM), SimV E 11 (0, 0, 94, [(0, vR (some 120)), (1, vR (some 5)), (2, vI v2), (3, vI v3), (4, vI v4), (5, vI v5)], [], hp q) eV (K v5 q)) : ∀ (n : Nat) (v5 : Int) (q : zM), SimV E 11 (0, 0, 38, [(0, vR (some 120)), (1, vR (some 5)), (2, vI v2), (3, vI v3), (4, vI v4), (5, vI v5)], [], hp q) eV (Ls_prepare_120_5_L38 v2 v3 v4 K n v5 q) := by
  intro n
  induction n with
  | zero => intro _ _; exact S_none
  | succ n ih =>
    intro v5 q
    rw [Ls_prepare_120_5_L38]
    exact S_run 3 (f' := (0, 0, 44, [(0, vR (some 120)), (1, vR (some 5)), (2, vI v2), (3, vI v3), (4, vI v4), (5, vI v5)], [vR (some 6), vI v5], hp q)) rfl (S_call (m' := 74) (args := [vR (some 6)]) (h := hp q) (k := fun r => (0, 0, 47, [(0, vR (some 120)), (1, vR (some 5)), (2, vI v2), (3, vI v3), (4, vI v4), (5, vI v5)], r.1.toList ++ [vI v5], r.2)) rfl (T_Ws_size q ) (fun r_3 => S_run 0 (f' := (0, 0, 47, [(0, vR (some 120)), (1, vR (some 5)), (2, vI v2), (3, vI v3), (4, vI v4), (5, vI v5)], [vI r_3, vI v5], hp q)) rfl (S_ite (fun h_4 => S_go (J_icmp2 rfl rfl rfl (B_ge h_4)) (S_run 4 (f' := (0, 0, 57, [(0, vR (some 120)), (1, vR (some 5)), (2, vI v2), (3, vI v3), (4, vI v4), (5, vI v5)], [vI v5, vI v2, vR (some 13)], hp q)) rfl (S_call (m' := 31) (args := [vR (some 13), vI v2, vI v5]) (h := hp q) (k := fun r => (0, 0, 60, [(0, vR (some 120)), (1, vR (some 5)), (2, vI v2), (3, vI v3), (4, vI v4), (5, vI v5)], r.1.toList ++ [], r.2)) rfl (T_Po_linesUsingBesides q v2 v5) (fun r_5 => S_run 8 (f' := (0, 0, 76, [(0, vR (some 120)), (1, vR (some 5)), (2, vI v2), (3, vI v3), (4, vI v4), (5, vI v5), (6, vI r_5)], [vI v5, vR (some 6), vI r_5, vI v5, vR (some 121)], hp q)) rfl (S_call (m' := 80) (args := [vR (some 6), vI v5]) (h := hp q) (k := fun r => (0, 0, 79, [(0, vR (some 120)), (1, vR (some 5)), (2, vI v2), (3, vI v3), (4, vI v4), (5, vI v5), (6, vI r_5)], r.1.toList ++ [vI r_5, vI v5, vR (some 121)], r.2)) rfl (T_Ws_limitOf q v5) (fun r_6 => S_run 0 (f' := (0, 0, 79, [(0, vR (some 120)), (1, vR (some 5)), (2, vI v2), (3, vI v3), (4, vI v4), (5, vI v5), (6, vI r_5)], [vI r_6, vI r_5, vI v5, vR (some 121)], hp q)) rfl (S_ite (fun h_7 => S_go (J_icmp2 rfl rfl rfl (B_ge h_7)) (S_run 2 (f' := (0, 0, 87, [(0, vR (some 120)), (1, vR (some 5)), (2, vI v2), (3, vI v3), (4, vI v4), (5, vI v5), (6, vI r_5)], [vI (1 : Int), vI v5, vR (some 121)], hp q)) rfl (S_ck (n := 40) (fun h_9 => S_go (H_bast rfl rfl rfl h_9) (S_run 2 (f' := (0, 0, 38, [(0, vR (some 120)), (1, vR (some 5)), (2, vI v2), (3, vI v3), (4, vI v4), (5, vI (v5 + 1))], [], hp (qs q 121 (wrap v5).toNat ((1 : Int) % 2)))) rfl (ih (v5 + 1) (qs q 121 (wrap v5).toNat ((1 : Int) % 2)))))))) (fun h_7 => S_go (J_icmp2 rfl rfl rfl (B_ge' h_7)) (S_run 1 (f' := (0, 0, 87, [(0, vR (some 120)), (1, vR (some 5)), (2, vI v2), (3, vI v3), (4, vI v4), (5, vI v5), (6, vI r_5)], [vI (0 : Int), vI v5, vR (some 121)], hp q)) rfl (S_ck (n := 40) (fun h_8 => S_go (H_bast rfl rfl rfl h_8) (S_run 2 (f' := (0, 0, 38, [(0, vR (some 120)), (1, vR (some 5)), (2, vI v2), (3, vI v3), (4, vI v4), (5, vI (v5 + 1))], [], hp (qs q 121 (wrap v5).toNat ((0 : Int) % 2)))) rfl (ih (v5 + 1) (qs q 121 (wrap v5).toNat ((0 : Int) % 2))))))))))))))) (fun h_4 => S_go (J_icmp2 rfl rfl rfl (B_ge' h_4)) (S_run 0 (f' := (0, 0, 94, [(0, vR (some 120)), (1, vR (some 5)), (2, vI v2), (3, vI v3), (4, vI v4), (5, vI v5)], [], hp q)) rfl (hK v5 q))))))

def Ls_prepare_120_5_b35 (q : zM) (v2 : Int) (v3 : Int) (v4 : Int) : Option zM :=
  Ls_prepare_120_5_L38 v2 v3 v4 (fun v5_10 q_11 => 
    some q_11) 5000 (0 : Int) q
theorem T_Ls_prepare_120_5_b35 {E : zE} (q : zM) (v2 : Int) (v3 : Int) (v4 : Int) : SimV E 11 (0, 0, 35, [(0, vR (some 120)), (1, vR (some 5)), (2, vI v2), (3, vI v3), (4, vI v4)], [], hp q) eV (Ls_prepare_120_5_b35 q v2 v3 v4) := by
  unfold Ls_prepare_120_5_b35
  exact S_run 2 (f' := (0, 0, 38, [(0, vR (some 120)), (1, vR (some 5)), (2, vI v2), (3, vI v3), (4, vI v4), (5, vI (0 : Int))], [], hp q)) rfl (T_Ls_prepare_120_5_L38 v2 v3 v4 (fun v5_10 q_11 => S_run 0 (f' := (0, 0, 94, [(0, vR (some 120)), (1, vR (some 5)), (2, vI v2), (3, vI v3), (4, vI v4), (5, vI v5_10)], [], hp q_11)) rfl (S_ret rfl)) 5000 (0 : Int) q)

def Ls_prepare_120_5_b29 (q : zM) (v2 : Int) (v3 : Int) (v4 : Int) : Option zM :=
  if wrap v4 = 0 ∨ wrap v4 = 1 then
    Ls_prepare_120_5_b35 (qs q 120 9 v4) v2 v3 v4
  else none
theorem T_Ls_prepare_120_5_b29 {E : zE} (q : zM) (v2 : Int) (v3 : Int) (v4 : Int) : SimV E 11 (0, 0, 29, [(0, vR (some 120)), (1, vR (some 5)), (2, vI v2), (3, vI v3), (4, vI v4)], [], hp q) eV (Ls_prepare_120_5_b29 q v2 v3 v4) := by
  unfold Ls_prepare_120_5_b29
  exact S_run 2 (f' := (0, 0, 32, [(0, vR (some 120)), (1, vR (some 5)), (2, vI v2), (3, vI v3), (4, vI v4)], [vI v4, vR (some 120)], hp q)) rfl (S_ite (fun h_12 => S_go (H_putz rfl rfl rfl rfl h_12) (S_run 0 (f' := (0, 0, 35, [(0, vR (some 120)), (1, vR (some 5)), (2, vI v2), (3, vI v3), (4, vI v4)], [], hp (qs q 120 9 v4))) rfl (T_Ls_prepare_120_5_b35 (qs q 120 9 v4) v2 v3 v4))) (fun _ => S_none))

def Ls_prepare_120_5_b24 (q : zM) (v2 : Int) (v3 : Int) (v4 : Int) : Option zM :=
  if wrap v3 = 0 ∨ wrap v3 = 1 then
    Ls_prepare_120_5_b29 (qs q 120 8 v3) v2 v3 v4
  else none
theorem T_Ls_prepare_120_5_b24 {E : zE} (q : zM) (v2 : Int) (v3 : Int) (v4 : Int) : SimV E 11 (0, 0, 24, [(0, vR (some 120)), (1, vR (some 5)), (2, vI v2), (3, vI v3), (4, vI v4)], [], hp q) eV (Ls_prepare_120_5_b24 q v2 v3 v4) := by
  unfold Ls_prepare_120_5_b24
  exact S_run 2 (f' := (0, 0, 26, [(0, vR (some 120)), (1, vR (some 5)), (2, vI v2), (3, vI v3), (4, vI v4)], [vI v3, vR (some 120)], hp q)) rfl (S_ite (fun h_13 => S_go (H_putz rfl rfl rfl rfl h_13) (S_run 0 (f' := (0, 0, 29, [(0, vR (some 120)), (1, vR (some 5)), (2, vI v2), (3, vI v3), (4, vI v4)], [], hp (qs q 120 8 v3))) rfl (T_Ls_prepare_120_5_b29 (qs q 120 8 v3) v2 v3 v4))) (fun _ => S_none))

def Ls_prepare_120_5_b12 (q : zM) (v2 : Int) (v3 : Int) (v4 : Int) : Option zM :=
  (Po_lastLetterOf q v2).bind fun r_2 =>
    Ls_prepare_120_5_b24 (qs q 120 7 r_2) v2 v3 v4
theorem T_Ls_prepare_120_5_b12 {E : zE} (q : zM) (v2 : Int) (v3 : Int) (v4 : Int) : SimV E 11 (0, 0, 12, [(0, vR (some 120)), (1, vR (some 5)), (2, vI v2), (3, vI v3), (4, vI v4)], [], hp q) eV (Ls_prepare_120_5_b12 q v2 v3 v4) := by
  unfold Ls_prepare_120_5_b12
  exact S_run 4 (f' := (0, 0, 18, [(0, vR (some 120)), (1, vR (some 5)), (2, vI v2), (3, vI v3), (4, vI v4)], [vI v2, vR (some 13), vR (some 120)], hp q)) rfl (S_call (m' := 26) (args := [vR (some 13), vI v2]) (h := hp q) (k := fun r => (0, 0, 21, [(0, vR (some 120)), (1, vR (some 5)), (2, vI v2), (3, vI v3), (4, vI v4)], r.1.toList ++ [vR (some 120)], r.2)) rfl (T_Po_lastLetterOf q v2) (fun r_2 => S_run 1 (f' := (0, 0, 24, [(0, vR (some 120)), (1, vR (some 5)), (2, vI v2), (3, vI v3), (4, vI v4)], [], hp (qs q 120 7 r_2))) rfl (T_Ls_prepare_120_5_b24 (qs q 120 7 r_2) v2 v3 v4)))

def Ls_prepare_120_5 (q : zM) (v2 : Int) (v3 : Int) (v4 : Int) : Option zM :=
  (Po_firstLetterOf q v2).bind fun r_1 =>
    Ls_prepare_120_5_b12 (qs q 120 6 r_1) v2 v3 v4
theorem T_Ls_prepare_120_5 {E : zE} (q : zM) (v2 : Int) (v3 : Int) (v4 : Int) : SimV E 11 (entF [vR (some 120), vR (some 5), vI v2, vI v3, vI v4] (hp q)) eV (Ls_prepare_120_5 q v2 v3 v4) := by
  unfold Ls_prepare_120_5
  exact S_run 0 (f' := (0, 0, 0, [(0, vR (some 120)), (1, vR (some 5)), (2, vI v2), (3, vI v3), (4, vI v4)], [], hp q)) rfl (S_run 4 (f' := (0, 0, 6, [(0, vR (some 120)), (1, vR (some 5)), (2, vI v2), (3, vI v3), (4, vI v4)], [vI v2, vR (some 13), vR (some 120)], hp q)) rfl (S_call (m' := 25) (args := [vR (some 13), vI v2]) (h := hp q) (k := fun r => (0, 0, 9, [(0, vR (some 120)), (1, vR (some 5)), (2, vI v2), (3, vI v3), (4, vI v4)], r.1.toList ++ [vR (some 120)], r.2)) rfl (T_Po_firstLetterOf q v2) (fun r_1 => S_run 1 (f' := (0, 0, 12, [(0, vR (some 120)), (1, vR (some 5)), (2, vI v2), (3, vI v3), (4, vI v4)], [], hp (qs q 120 6 r_1))) rfl (T_Ls_prepare_120_5_b12 (qs q 120 6 r_1) v2 v3 v4))))

def Ls_canStand_120_5 (q : zM) (v2 : Int) (v3 : Int) : Option Int :=
  ck (wrap v2) 40 (
    if wrap (q.1 121 (wrap v2).toNat) = (0 : Int) then
      some (0 : Int)
    else
      (Me_fits q v2 v3).bind fun r_3 =>
        if wrap r_3 = (0 : Int) then
          some (0 : Int)
        else
          if wrap v3 = (0 : Int) then
            (Ws_firstLetterOf q v2).bind fun r_18 =>
              if wrap r_18 = wrap (q.1 120 6) then
                if (1 : Int) = wrap (q.1 120 8) then
                  (Ws_syllablesOf q v2).bind fun r_34 =>
                    if wrap (v3 + r_34) = wrap (q.1 12 0) then
                      if (1 : Int) = (0 : Int) then
                        some (1 : Int)
                      else
                        (Ws_lastLetterOf q v2).bind fun r_42 =>
                          if wrap r_42 = wrap (q.1 120 7) then
                            if (1 : Int) = wrap (q.1 120 9) then
                              some (1 : Int)
                            else
                              some (0 : Int)
                          else
                            if (0 : Int) = wrap (q.1 120 9) then
                              some (1 : Int)
                            else
                              some (0 : Int)
                    else
                      if (0 : Int) = (0 : Int) then
                        some (1 : Int)
                      else
                        (Ws_lastLetterOf q v2).bind fun r_37 =>
                          if wrap r_37 = wrap (q.1 120 7) then
                            if (1 : Int) = wrap (q.1 120 9) then
                              some (1 : Int)
                            else
                              some (0 : Int)
                          else
                            if (0 : Int) = wrap (q.1 120 9) then
                              some (1 : Int)
                            else
                              some (0 : Int)
                else
                  some (0 : Int)
              else
                if (0 : Int) = wrap (q.1 120 8) then
                  (Ws_syllablesOf q v2).bind fun r_21 =>
                    if wrap (v3 + r_21) = wrap (q.1 12 0) then
                      if (1 : Int) = (0 : Int) then
                        some (1 : Int)
                      else
                        (Ws_lastLetterOf q v2).bind fun r_29 =>
                          if wrap r_29 = wrap (q.1 120 7) then
                            if (1 : Int) = wrap (q.1 120 9) then
                              some (1 : Int)
                            else
                              some (0 : Int)
                          else
                            if (0 : Int) = wrap (q.1 120 9) then
                              some (1 : Int)
                            else
                              some (0 : Int)
                    else
                      if (0 : Int) = (0 : Int) then
                        some (1 : Int)
                      else
                        (Ws_lastLetterOf q v2).bind fun r_24 =>
                          if wrap r_24 = wrap (q.1 120 7) then
                            if (1 : Int) = wrap (q.1 120 9) then
                              some (1 : Int)
                            else
                              some (0 : Int)
                          else
                            if (0 : Int) = wrap (q.1 120 9) then
                              some (1 : Int)
                            else
                              some (0 : Int)
                else
                  some (0 : Int)
          else
            (Ws_syllablesOf q v2).bind fun r_6 =>
              if wrap (v3 + r_6) = wrap (q.1 12 0) then
                if (1 : Int) = (0 : Int) then
                  some (1 : Int)
                else
                  (Ws_lastLetterOf q v2).bind fun r_14 =>
                    if wrap r_14 = wrap (q.1 120 7) then
                      if (1 : Int) = wrap (q.1 120 9) then
                        some (1 : Int)
                      else
                        some (0 : Int)
                    else
                      if (0 : Int) = wrap (q.1 120 9) then
                        some (1 : Int)
                      else
                        some (0 : Int)
              else
                if (0 : Int) = (0 : Int) then
                  some (1 : Int)
                else
                  (Ws_lastLetterOf q v2).bind fun r_9 =>
                    if wrap r_9 = wrap (q.1 120 7) then
                      if (1 : Int) = wrap (q.1 120 9) then
                        some (1 : Int)
                      else
                        some (0 : Int)
                    else
                      if (0 : Int) = wrap (q.1 120 9) then
                        some (1 : Int)
                      else
                        some (0 : Int))
theorem T_Ls_canStand_120_5 {E : zE} (q : zM) (v2 : Int) (v3 : Int) : SimV E 12 (entF [vR (some 120), vR (some 5), vI v2, vI v3] (hp q)) (eP q) (Ls_canStand_120_5 q v2 v3) := by
  unfold Ls_canStand_120_5
  exact S_run 0 (f' := (0, 0, 0, [(0, vR (some 120)), (1, vR (some 5)), (2, vI v2), (3, vI v3)], [], hp q)) rfl (S_run 3 (f' := (0, 0, 5, [(0, vR (some 120)), (1, vR (some 5)), (2, vI v2), (3, vI v3)], [vI v2, vR (some 121)], hp q)) rfl (S_ck (n := 40) (fun h_1 => S_go (H_bald rfl rfl rfl h_1) (S_run 0 (f' := (0, 0, 6, [(0, vR (some 120)), (1, vR (some 5)), (2, vI v2), (3, vI v3)], [vI (q.1 121 (wrap v2).toNat)], hp q)) rfl (S_ite (fun h_2 => S_go (J_if2 rfl rfl (B_eq h_2)) (S_run 1 (f' := (0, 0, 26, [(0, vR (some 120)), (1, vR (some 5)), (2, vI v2), (3, vI v3)], [vI (0 : Int)], hp q)) rfl (S_ret rfl))) (fun h_2 => S_go (J_if2 rfl rfl (B_eq' h_2)) (S_run 6 (f' := (0, 0, 19, [(0, vR (some 120)), (1, vR (some 5)), (2, vI v2), (3, vI v3)], [vI v3, vI v2, vR (some 6), vR (some 12)], hp q)) rfl (S_call (m' := 18) (args := [vR (some 12), vR (some 6), vI v2, vI v3]) (h := hp q) (k := fun r => (0, 0, 22, [(0, vR (some 120)), (1, vR (some 5)), (2, vI v2), (3, vI v3)], r.1.toList ++ [], r.2)) rfl (T_Me_fits q v2 v3) (fun r_3 => S_run 0 (f' := (0, 0, 22, [(0, vR (some 120)), (1, vR (some 5)), (2, vI v2), (3, vI v3)], [vI r_3], hp q)) rfl (S_ite (fun h_4 => S_go (J_if2 rfl rfl (B_ne h_4)) (S_run 1 (f' := (0, 0, 26, [(0, vR (some 120)), (1, vR (some 5)), (2, vI v2), (3, vI v3)], [vI (0 : Int)], hp q)) rfl (S_ret rfl))) (fun h_4 => S_go (J_if2 rfl rfl (B_ne' h_4)) (S_run 1 (f' := (0, 0, 28, [(0, vR (some 120)), (1, vR (some 5)), (2, vI v2), (3, vI v3)], [vI v3], hp q)) rfl (S_ite (fun h_5 => S_go (J_if2 rfl rfl (B_ne h_5)) (S_run 3 (f' := (0, 0, 36, [(0, vR (some 120)), (1, vR (some 5)), (2, vI v2), (3, vI v3)], [vI v2, vR (some 6)], hp q)) rfl (S_call (m' := 82) (args := [vR (some 6), vI v2]) (h := hp q) (k := fun r => (0, 0, 39, [(0, vR (some 120)), (1, vR (some 5)), (2, vI v2), (3, vI v3)], r.1.toList ++ [], r.2)) rfl (T_Ws_firstLetterOf q v2) (fun r_18 => S_run 2 (f' := (0, 0, 43, [(0, vR (some 120)), (1, vR (some 5)), (2, vI v2), (3, vI v3)], [vI (q.1 120 6), vI r_18], hp q)) rfl (S_ite (fun h_19 => S_go (J_icmp2 rfl rfl rfl (B_ne h_19)) (S_run 4 (f' := (0, 0, 55, [(0, vR (some 120)), (1, vR (some 5)), (2, vI v2), (3, vI v3)], [vI (q.1 120 8), vI (1 : Int)], hp q)) rfl (S_ite (fun h_33 => S_go (J_icmp2 rfl wl_1 rfl (B_eq h_33)) (S_run 4 (f' := (0, 0, 66, [(0, vR (some 120)), (1, vR (some 5)), (2, vI v2), (3, vI v3)], [vI v2, vR (some 6), vI v3], hp q)) rfl (S_call (m' := 78) (args := [vR (some 6), vI v2]) (h := hp q) (k := fun r => (0, 0, 69, [(0, vR (some 120)), (1, vR (some 5)), (2, vI v2), (3, vI v3)], r.1.toList ++ [vI v3], r.2)) rfl (T_Ws_syllablesOf q v2) (fun r_34 => S_run 4 (f' := (0, 0, 77, [(0, vR (some 120)), (1, vR (some 5)), (2, vI v2), (3, vI v3)], [vI (q.1 12 0), vI (v3 + r_34)], hp q)) rfl (S_ite (fun h_35 => S_go (J_icmp2 rfl rfl rfl (B_ne h_35)) (S_run 4 (f' := (0, 0, 89, [(0, vR (some 120)), (1, vR (some 5)), (2, vI v2), (3, vI v3), (4, vI (1 : Int))], [vI (1 : Int)], hp q)) rfl (S_ite (fun h_41 => S_go (J_if2 rfl wl_1 (B_eq h_41)) (S_run 2 (f' := (0, 0, 124, [(0, vR (some 120)), (1, vR (some 5)), (2, vI v2), (3, vI v3), (4, vI (1 : Int))], [vI (1 : Int)], hp q)) rfl (S_ret rfl))) (fun h_41 => S_go (J_if2 rfl wl_1 (B_eq' h_41)) (S_run 3 (f' := (0, 0, 97, [(0, vR (some 120)), (1, vR (some 5)), (2, vI v2), (3, vI v3), (4, vI (1 : Int))], [vI v2, vR (some 6)], hp q)) rfl (S_call (m' := 83) (args := [vR (some 6), vI v2]) (h := hp q) (k := fun r => (0, 0, 100, [(0, vR (some 120)), (1, vR (some 5)), (2, vI v2), (3, vI v3), (4, vI (1 : Int))], r.1.toList ++ [], r.2)) rfl (T_Ws_lastLetterOf q v2) (fun r_42 => S_run 2 (f' := (0, 0, 104, [(0, vR (some 120)), (1, vR (some 5)), (2, vI v2), (3, vI v3), (4, vI (1 : Int))], [vI (q.1 120 7), vI r_42], hp q)) rfl (S_ite (fun h_43 => S_go (J_icmp2 rfl rfl rfl (B_ne h_43)) (S_run 4 (f' := (0, 0, 116, [(0, vR (some 120)), (1, vR (some 5)), (2, vI v2), (3, vI v3), (4, vI (1 : Int))], [vI (q.1 120 9), vI (1 : Int)], hp q)) rfl (S_ite (fun h_45 => S_go (J_icmp2 rfl wl_1 rfl (B_ne h_45)) (S_run 2 (f' := (0, 0, 124, [(0, vR (some 120)), (1, vR (some 5)), (2, vI v2), (3, vI v3), (4, vI (1 : Int))], [vI (1 : Int)], hp q)) rfl (S_ret rfl))) (fun h_45 => S_go (J_icmp2 rfl wl_1 rfl (B_ne' h_45)) (S_run 1 (f' := (0, 0, 124, [(0, vR (some 120)), (1, vR (some 5)), (2, vI v2), (3, vI v3), (4, vI (1 : Int))], [vI (0 : Int)], hp q)) rfl (S_ret rfl)))))) (fun h_43 => S_go (J_icmp2 rfl rfl rfl (B_ne' h_43)) (S_run 3 (f' := (0, 0, 116, [(0, vR (some 120)), (1, vR (some 5)), (2, vI v2), (3, vI v3), (4, vI (1 : Int))], [vI (q.1 120 9), vI (0 : Int)], hp q)) rfl (S_ite (fun h_44 => S_go (J_icmp2 rfl wl_0 rfl (B_ne h_44)) (S_run 2 (f' := (0, 0, 124, [(0, vR (some 120)), (1, vR (some 5)), (2, vI v2), (3, vI v3), (4, vI (1 : Int))], [vI (1 : Int)], hp q)) rfl (S_ret rfl))) (fun h_44 => S_go (J_icmp2 rfl wl_0 rfl (B_ne' h_44)) (S_run 1 (f' := (0, 0, 124, [(0, vR (some 120)), (1, vR (some 5)), (2, vI v2), (3, vI v3), (4, vI (1 : Int))], [vI (0 : Int)], hp q)) rfl (S_ret rfl)))))))))))))) (fun h_35 => S_go (J_icmp2 rfl rfl rfl (B_ne' h_35)) (S_run 3 (f' := (0, 0, 89, [(0, vR (some 120)), (1, vR (some 5)), (2, vI v2), (3, vI v3), (4, vI (0 : Int))], [vI (0 : Int)], hp q)) rfl (S_ite (fun h_36 => S_go (J_if2 rfl wl_0 (B_eq h_36)) (S_run 2 (f' := (0, 0, 124, [(0, vR (some 120)), (1, vR (some 5)), (2, vI v2), (3, vI v3), (4, vI (0 : Int))], [vI (1 : Int)], hp q)) rfl (S_ret rfl))) (fun h_36 => S_go (J_if2 rfl wl_0 (B_eq' h_36)) (S_run 3 (f' := (0, 0, 97, [(0, vR (some 120)), (1, vR (some 5)), (2, vI v2), (3, vI v3), (4, vI (0 : Int))], [vI v2, vR (some 6)], hp q)) rfl (S_call (m' := 83) (args := [vR (some 6), vI v2]) (h := hp q) (k := fun r => (0, 0, 100, [(0, vR (some 120)), (1, vR (some 5)), (2, vI v2), (3, vI v3), (4, vI (0 : Int))], r.1.toList ++ [], r.2)) rfl (T_Ws_lastLetterOf q v2) (fun r_37 => S_run 2 (f' := (0, 0, 104, [(0, vR (some 120)), (1, vR (some 5)), (2, vI v2), (3, vI v3), (4, vI (0 : Int))], [vI (q.1 120 7), vI r_37], hp q)) rfl (S_ite (fun h_38 => S_go (J_icmp2 rfl rfl rfl (B_ne h_38)) (S_run 4 (f' := (0, 0, 116, [(0, vR (some 120)), (1, vR (some 5)), (2, vI v2), (3, vI v3), (4, vI (0 : Int))], [vI (q.1 120 9), vI (1 : Int)], hp q)) rfl (S_ite (fun h_40 => S_go (J_icmp2 rfl wl_1 rfl (B_ne h_40)) (S_run 2 (f' := (0, 0, 124, [(0, vR (some 120)), (1, vR (some 5)), (2, vI v2), (3, vI v3), (4, vI (0 : Int))], [vI (1 : Int)], hp q)) rfl (S_ret rfl))) (fun h_40 => S_go (J_icmp2 rfl wl_1 rfl (B_ne' h_40)) (S_run 1 (f' := (0, 0, 124, [(0, vR (some 120)), (1, vR (some 5)), (2, vI v2), (3, vI v3), (4, vI (0 : Int))], [vI (0 : Int)], hp q)) rfl (S_ret rfl)))))) (fun h_38 => S_go (J_icmp2 rfl rfl rfl (B_ne' h_38)) (S_run 3 (f' := (0, 0, 116, [(0, vR (some 120)), (1, vR (some 5)), (2, vI v2), (3, vI v3), (4, vI (0 : Int))], [vI (q.1 120 9), vI (0 : Int)], hp q)) rfl (S_ite (fun h_39 => S_go (J_icmp2 rfl wl_0 rfl (B_ne h_39)) (S_run 2 (f' := (0, 0, 124, [(0, vR (some 120)), (1, vR (some 5)), (2, vI v2), (3, vI v3), (4, vI (0 : Int))], [vI (1 : Int)], hp q)) rfl (S_ret rfl))) (fun h_39 => S_go (J_icmp2 rfl wl_0 rfl (B_ne' h_39)) (S_run 1 (f' := (0, 0, 124, [(0, vR (some 120)), (1, vR (some 5)), (2, vI v2), (3, vI v3), (4, vI (0 : Int))], [vI (0 : Int)], hp q)) rfl (S_ret rfl))))))))))))))))))) (fun h_33 => S_go (J_icmp2 rfl wl_1 rfl (B_eq' h_33)) (S_run 1 (f' := (0, 0, 59, [(0, vR (some 120)), (1, vR (some 5)), (2, vI v2), (3, vI v3)], [vI (0 : Int)], hp q)) rfl (S_ret rfl)))))) (fun h_19 => S_go (J_icmp2 rfl rfl rfl (B_ne' h_19)) (S_run 3 (f' := (0, 0, 55, [(0, vR (some 120)), (1, vR (some 5)), (2, vI v2), (3, vI v3)], [vI (q.1 120 8), vI (0 : Int)], hp q)) rfl (S_ite (fun h_20 => S_go (J_icmp2 rfl wl_0 rfl (B_eq h_20)) (S_run 4 (f' := (0, 0, 66, [(0, vR (some 120)), (1, vR (some 5)), (2, vI v2), (3, vI v3)], [vI v2, vR (some 6), vI v3], hp q)) rfl (S_call (m' := 78) (args := [vR (some 6), vI v2]) (h := hp q) (k := fun r => (0, 0, 69, [(0, vR (some 120)), (1, vR (some 5)), (2, vI v2), (3, vI v3)], r.1.toList ++ [vI v3], r.2)) rfl (T_Ws_syllablesOf q v2) (fun r_21 => S_run 4 (f' := (0, 0, 77, [(0, vR (some 120)), (1, vR (some 5)), (2, vI v2), (3, vI v3)], [vI (q.1 12 0), vI (v3 + r_21)], hp q)) rfl (S_ite (fun h_22 => S_go (J_icmp2 rfl rfl rfl (B_ne h_22)) (S_run 4 (f' := (0, 0, 89, [(0, vR (some 120)), (1, vR (some 5)), (2, vI v2), (3, vI v3), (4, vI (1 : Int))], [vI (1 : Int)], hp q)) rfl (S_ite (fun h_28 => S_go (J_if2 rfl wl_1 (B_eq h_28)) (S_run 2 (f' := (0, 0, 124, [(0, vR (some 120)), (1, vR (some 5)), (2, vI v2), (3, vI v3), (4, vI (1 : Int))], [vI (1 : Int)], hp q)) rfl (S_ret rfl))) (fun h_28 => S_go (J_if2 rfl wl_1 (B_eq' h_28)) (S_run 3 (f' := (0, 0, 97, [(0, vR (some 120)), (1, vR (some 5)), (2, vI v2), (3, vI v3), (4, vI (1 : Int))], [vI v2, vR (some 6)], hp q)) rfl (S_call (m' := 83) (args := [vR (some 6), vI v2]) (h := hp q) (k := fun r => (0, 0, 100, [(0, vR (some 120)), (1, vR (some 5)), (2, vI v2), (3, vI v3), (4, vI (1 : Int))], r.1.toList ++ [], r.2)) rfl (T_Ws_lastLetterOf q v2) (fun r_29 => S_run 2 (f' := (0, 0, 104, [(0, vR (some 120)), (1, vR (some 5)), (2, vI v2), (3, vI v3), (4, vI (1 : Int))], [vI (q.1 120 7), vI r_29], hp q)) rfl (S_ite (fun h_30 => S_go (J_icmp2 rfl rfl rfl (B_ne h_30)) (S_run 4 (f' := (0, 0, 116, [(0, vR (some 120)), (1, vR (some 5)), (2, vI v2), (3, vI v3), (4, vI (1 : Int))], [vI (q.1 120 9), vI (1 : Int)], hp q)) rfl (S_ite (fun h_32 => S_go (J_icmp2 rfl wl_1 rfl (B_ne h_32)) (S_run 2 (f' := (0, 0, 124, [(0, vR (some 120)), (1, vR (some 5)), (2, vI v2), (3, vI v3), (4, vI (1 : Int))], [vI (1 : Int)], hp q)) rfl (S_ret rfl))) (fun h_32 => S_go (J_icmp2 rfl wl_1 rfl (B_ne' h_32)) (S_run 1 (f' := (0, 0, 124, [(0, vR (some 120)), (1, vR (some 5)), (2, vI v2), (3, vI v3), (4, vI (1 : Int))], [vI (0 : Int)], hp q)) rfl (S_ret rfl)))))) (fun h_30 => S_go (J_icmp2 rfl rfl rfl (B_ne' h_30)) (S_run 3 (f' := (0, 0, 116, [(0, vR (some 120)), (1, vR (some 5)), (2, vI v2), (3, vI v3), (4, vI (1 : Int))], [vI (q.1 120 9), vI (0 : Int)], hp q)) rfl (S_ite (fun h_31 => S_go (J_icmp2 rfl wl_0 rfl (B_ne h_31)) (S_run 2 (f' := (0, 0, 124, [(0, vR (some 120)), (1, vR (some 5)), (2, vI v2), (3, vI v3), (4, vI (1 : Int))], [vI (1 : Int)], hp q)) rfl (S_ret rfl))) (fun h_31 => S_go (J_icmp2 rfl wl_0 rfl (B_ne' h_31)) (S_run 1 (f' := (0, 0, 124, [(0, vR (some 120)), (1, vR (some 5)), (2, vI v2), (3, vI v3), (4, vI (1 : Int))], [vI (0 : Int)], hp q)) rfl (S_ret rfl)))))))))))))) (fun h_22 => S_go (J_icmp2 rfl rfl rfl (B_ne' h_22)) (S_run 3 (f' := (0, 0, 89, [(0, vR (some 120)), (1, vR (some 5)), (2, vI v2), (3, vI v3), (4, vI (0 : Int))], [vI (0 : Int)], hp q)) rfl (S_ite (fun h_23 => S_go (J_if2 rfl wl_0 (B_eq h_23)) (S_run 2 (f' := (0, 0, 124, [(0, vR (some 120)), (1, vR (some 5)), (2, vI v2), (3, vI v3), (4, vI (0 : Int))], [vI (1 : Int)], hp q)) rfl (S_ret rfl))) (fun h_23 => S_go (J_if2 rfl wl_0 (B_eq' h_23)) (S_run 3 (f' := (0, 0, 97, [(0, vR (some 120)), (1, vR (some 5)), (2, vI v2), (3, vI v3), (4, vI (0 : Int))], [vI v2, vR (some 6)], hp q)) rfl (S_call (m' := 83) (args := [vR (some 6), vI v2]) (h := hp q) (k := fun r => (0, 0, 100, [(0, vR (some 120)), (1, vR (some 5)), (2, vI v2), (3, vI v3), (4, vI (0 : Int))], r.1.toList ++ [], r.2)) rfl (T_Ws_lastLetterOf q v2) (fun r_24 => S_run 2 (f' := (0, 0, 104, [(0, vR (some 120)), (1, vR (some 5)), (2, vI v2), (3, vI v3), (4, vI (0 : Int))], [vI (q.1 120 7), vI r_24], hp q)) rfl (S_ite (fun h_25 => S_go (J_icmp2 rfl rfl rfl (B_ne h_25)) (S_run 4 (f' := (0, 0, 116, [(0, vR (some 120)), (1, vR (some 5)), (2, vI v2), (3, vI v3), (4, vI (0 : Int))], [vI (q.1 120 9), vI (1 : Int)], hp q)) rfl (S_ite (fun h_27 => S_go (J_icmp2 rfl wl_1 rfl (B_ne h_27)) (S_run 2 (f' := (0, 0, 124, [(0, vR (some 120)), (1, vR (some 5)), (2, vI v2), (3, vI v3), (4, vI (0 : Int))], [vI (1 : Int)], hp q)) rfl (S_ret rfl))) (fun h_27 => S_go (J_icmp2 rfl wl_1 rfl (B_ne' h_27)) (S_run 1 (f' := (0, 0, 124, [(0, vR (some 120)), (1, vR (some 5)), (2, vI v2), (3, vI v3), (4, vI (0 : Int))], [vI (0 : Int)], hp q)) rfl (S_ret rfl)))))) (fun h_25 => S_go (J_icmp2 rfl rfl rfl (B_ne' h_25)) (S_run 3 (f' := (0, 0, 116, [(0, vR (some 120)), (1, vR (some 5)), (2, vI v2), (3, vI v3), (4, vI (0 : Int))], [vI (q.1 120 9), vI (0 : Int)], hp q)) rfl (S_ite (fun h_26 => S_go (J_icmp2 rfl wl_0 rfl (B_ne h_26)) (S_run 2 (f' := (0, 0, 124, [(0, vR (some 120)), (1, vR (some 5)), (2, vI v2), (3, vI v3), (4, vI (0 : Int))], [vI (1 : Int)], hp q)) rfl (S_ret rfl))) (fun h_26 => S_go (J_icmp2 rfl wl_0 rfl (B_ne' h_26)) (S_run 1 (f' := (0, 0, 124, [(0, vR (some 120)), (1, vR (some 5)), (2, vI v2), (3, vI v3), (4, vI (0 : Int))], [vI (0 : Int)], hp q)) rfl (S_ret rfl))))))))))))))))))) (fun h_20 => S_go (J_icmp2 rfl wl_0 rfl (B_eq' h_20)) (S_run 1 (f' := (0, 0, 59, [(0, vR (some 120)), (1, vR (some 5)), (2, vI v2), (3, vI v3)], [vI (0 : Int)], hp q)) rfl (S_ret rfl))))))))))) (fun h_5 => S_go (J_if2 rfl rfl (B_ne' h_5)) (S_run 4 (f' := (0, 0, 66, [(0, vR (some 120)), (1, vR (some 5)), (2, vI v2), (3, vI v3)], [vI v2, vR (some 6), vI v3], hp q)) rfl (S_call (m' := 78) (args := [vR (some 6), vI v2]) (h := hp q) (k := fun r => (0, 0, 69, [(0, vR (some 120)), (1, vR (some 5)), (2, vI v2), (3, vI v3)], r.1.toList ++ [vI v3], r.2)) rfl (T_Ws_syllablesOf q v2) (fun r_6 => S_run 4 (f' := (0, 0, 77, [(0, vR (some 120)), (1, vR (some 5)), (2, vI v2), (3, vI v3)], [vI (q.1 12 0), vI (v3 + r_6)], hp q)) rfl (S_ite (fun h_7 => S_go (J_icmp2 rfl rfl rfl (B_ne h_7)) (S_run 4 (f' := (0, 0, 89, [(0, vR (some 120)), (1, vR (some 5)), (2, vI v2), (3, vI v3), (4, vI (1 : Int))], [vI (1 : Int)], hp q)) rfl (S_ite (fun h_13 => S_go (J_if2 rfl wl_1 (B_eq h_13)) (S_run 2 (f' := (0, 0, 124, [(0, vR (some 120)), (1, vR (some 5)), (2, vI v2), (3, vI v3), (4, vI (1 : Int))], [vI (1 : Int)], hp q)) rfl (S_ret rfl))) (fun h_13 => S_go (J_if2 rfl wl_1 (B_eq' h_13)) (S_run 3 (f' := (0, 0, 97, [(0, vR (some 120)), (1, vR (some 5)), (2, vI v2), (3, vI v3), (4, vI (1 : Int))], [vI v2, vR (some 6)], hp q)) rfl (S_call (m' := 83) (args := [vR (some 6), vI v2]) (h := hp q) (k := fun r => (0, 0, 100, [(0, vR (some 120)), (1, vR (some 5)), (2, vI v2), (3, vI v3), (4, vI (1 : Int))], r.1.toList ++ [], r.2)) rfl (T_Ws_lastLetterOf q v2) (fun r_14 => S_run 2 (f' := (0, 0, 104, [(0, vR (some 120)), (1, vR (some 5)), (2, vI v2), (3, vI v3), (4, vI (1 : Int))], [vI (q.1 120 7), vI r_14], hp q)) rfl (S_ite (fun h_15 => S_go (J_icmp2 rfl rfl rfl (B_ne h_15)) (S_run 4 (f' := (0, 0, 116, [(0, vR (some 120)), (1, vR (some 5)), (2, vI v2), (3, vI v3), (4, vI (1 : Int))], [vI (q.1 120 9), vI (1 : Int)], hp q)) rfl (S_ite (fun h_17 => S_go (J_icmp2 rfl wl_1 rfl (B_ne h_17)) (S_run 2 (f' := (0, 0, 124, [(0, vR (some 120)), (1, vR (some 5)), (2, vI v2), (3, vI v3), (4, vI (1 : Int))], [vI (1 : Int)], hp q)) rfl (S_ret rfl))) (fun h_17 => S_go (J_icmp2 rfl wl_1 rfl (B_ne' h_17)) (S_run 1 (f' := (0, 0, 124, [(0, vR (some 120)), (1, vR (some 5)), (2, vI v2), (3, vI v3), (4, vI (1 : Int))], [vI (0 : Int)], hp q)) rfl (S_ret rfl)))))) (fun h_15 => S_go (J_icmp2 rfl rfl rfl (B_ne' h_15)) (S_run 3 (f' := (0, 0, 116, [(0, vR (some 120)), (1, vR (some 5)), (2, vI v2), (3, vI v3), (4, vI (1 : Int))], [vI (q.1 120 9), vI (0 : Int)], hp q)) rfl (S_ite (fun h_16 => S_go (J_icmp2 rfl wl_0 rfl (B_ne h_16)) (S_run 2 (f' := (0, 0, 124, [(0, vR (some 120)), (1, vR (some 5)), (2, vI v2), (3, vI v3), (4, vI (1 : Int))], [vI (1 : Int)], hp q)) rfl (S_ret rfl))) (fun h_16 => S_go (J_icmp2 rfl wl_0 rfl (B_ne' h_16)) (S_run 1 (f' := (0, 0, 124, [(0, vR (some 120)), (1, vR (some 5)), (2, vI v2), (3, vI v3), (4, vI (1 : Int))], [vI (0 : Int)], hp q)) rfl (S_ret rfl)))))))))))))) (fun h_7 => S_go (J_icmp2 rfl rfl rfl (B_ne' h_7)) (S_run 3 (f' := (0, 0, 89, [(0, vR (some 120)), (1, vR (some 5)), (2, vI v2), (3, vI v3), (4, vI (0 : Int))], [vI (0 : Int)], hp q)) rfl (S_ite (fun h_8 => S_go (J_if2 rfl wl_0 (B_eq h_8)) (S_run 2 (f' := (0, 0, 124, [(0, vR (some 120)), (1, vR (some 5)), (2, vI v2), (3, vI v3), (4, vI (0 : Int))], [vI (1 : Int)], hp q)) rfl (S_ret rfl))) (fun h_8 => S_go (J_if2 rfl wl_0 (B_eq' h_8)) (S_run 3 (f' := (0, 0, 97, [(0, vR (some 120)), (1, vR (some 5)), (2, vI v2), (3, vI v3), (4, vI (0 : Int))], [vI v2, vR (some 6)], hp q)) rfl (S_call (m' := 83) (args := [vR (some 6), vI v2]) (h := hp q) (k := fun r => (0, 0, 100, [(0, vR (some 120)), (1, vR (some 5)), (2, vI v2), (3, vI v3), (4, vI (0 : Int))], r.1.toList ++ [], r.2)) rfl (T_Ws_lastLetterOf q v2) (fun r_9 => S_run 2 (f' := (0, 0, 104, [(0, vR (some 120)), (1, vR (some 5)), (2, vI v2), (3, vI v3), (4, vI (0 : Int))], [vI (q.1 120 7), vI r_9], hp q)) rfl (S_ite (fun h_10 => S_go (J_icmp2 rfl rfl rfl (B_ne h_10)) (S_run 4 (f' := (0, 0, 116, [(0, vR (some 120)), (1, vR (some 5)), (2, vI v2), (3, vI v3), (4, vI (0 : Int))], [vI (q.1 120 9), vI (1 : Int)], hp q)) rfl (S_ite (fun h_12 => S_go (J_icmp2 rfl wl_1 rfl (B_ne h_12)) (S_run 2 (f' := (0, 0, 124, [(0, vR (some 120)), (1, vR (some 5)), (2, vI v2), (3, vI v3), (4, vI (0 : Int))], [vI (1 : Int)], hp q)) rfl (S_ret rfl))) (fun h_12 => S_go (J_icmp2 rfl wl_1 rfl (B_ne' h_12)) (S_run 1 (f' := (0, 0, 124, [(0, vR (some 120)), (1, vR (some 5)), (2, vI v2), (3, vI v3), (4, vI (0 : Int))], [vI (0 : Int)], hp q)) rfl (S_ret rfl)))))) (fun h_10 => S_go (J_icmp2 rfl rfl rfl (B_ne' h_10)) (S_run 3 (f' := (0, 0, 116, [(0, vR (some 120)), (1, vR (some 5)), (2, vI v2), (3, vI v3), (4, vI (0 : Int))], [vI (q.1 120 9), vI (0 : Int)], hp q)) rfl (S_ite (fun h_11 => S_go (J_icmp2 rfl wl_0 rfl (B_ne h_11)) (S_run 2 (f' := (0, 0, 124, [(0, vR (some 120)), (1, vR (some 5)), (2, vI v2), (3, vI v3), (4, vI (0 : Int))], [vI (1 : Int)], hp q)) rfl (S_ret rfl))) (fun h_11 => S_go (J_icmp2 rfl wl_0 rfl (B_ne' h_11)) (S_run 1 (f' := (0, 0, 124, [(0, vR (some 120)), (1, vR (some 5)), (2, vI v2), (3, vI v3), (4, vI (0 : Int))], [vI (0 : Int)], hp q)) rfl (S_ret rfl))))))))))))))))))))))))))))))))
