/-! the methods as functions, printed by wip/p24/dec.py -/
def Lw_makes_j93 (q : zM) (v1 : Int) (v2 : Int) (v3 : Int) (v4 : Int) (v5 : Int) (s0 : Int) : Option (Int × zM) :=
  if (0 : Int) < wrap v2 then
    if (1000 : Int) < wrap v2 then
      some ((0 : Int), q)
    else
      (Ev_line q v1 (0 : Int)).bind fun r_9 =>
        if wrap v5 = wrap r_9.1 then
          if (0 : Int) < wrap v5 then
            if wrap s0 = (0 : Int) then
              some ((0 : Int), r_9.2)
            else
              (Ev_line r_9.2 v1 (5 : Int)).bind fun r_13 =>
                if wrap r_13.1 = wrap v2 then
                  (Ev_makeLine r_13.2 v1).bind fun r_15 =>
                    if wrap r_15.1 = wrap v5 then
                      some ((1 : Int), r_15.2)
                    else
                      some ((0 : Int), r_15.2)
                else
                  some ((0 : Int), r_13.2)
          else
            some ((0 : Int), r_9.2)
        else
          some ((0 : Int), r_9.2)
  else
    some ((0 : Int), q)
set_option maxRecDepth 100000 in
theorem T_Lw_makes_j93 {E : zE} (q : zM) (v1 : Int) (v2 : Int) (v3 : Int) (v4 : Int) (v5 : Int) (s0 : Int) : SimV E 119 (0, 0, 93, [(0, vR (some 1)), (1, vI v1), (2, vI v2), (3, vI v3), (4, vI v4), (5, vI v5)], [vI s0], hp q) eI (Lw_makes_j93 q v1 v2 v3 v4 v5 s0) := by
  unfold Lw_makes_j93
  exact S_run 2 (f' := (0, 0, 96, [(0, vR (some 1)), (1, vI v1), (2, vI v2), (3, vI v3), (4, vI v4), (5, vI v5), (6, vI s0)], [vI v2], hp q)) rfl (S_ite (fun h_7 => S_go (J_if2 rfl rfl (B_le h_7)) (S_run 2 (f' := (0, 0, 103, [(0, vR (some 1)), (1, vI v1), (2, vI v2), (3, vI v3), (4, vI v4), (5, vI v5), (6, vI s0)], [vI (1000 : Int), vI v2], hp q)) rfl (S_ite (fun h_8 => S_go (J_icmp2 rfl rfl wl_1000 (B_gt h_8)) (S_run 1 (f' := (0, 0, 152, [(0, vR (some 1)), (1, vI v1), (2, vI v2), (3, vI v3), (4, vI v4), (5, vI v5), (6, vI s0)], [vI (0 : Int)], hp q)) rfl (S_ret rfl))) (fun h_8 => S_go (J_icmp2 rfl rfl wl_1000 (B_gt' h_8)) (S_run 4 (f' := (0, 0, 111, [(0, vR (some 1)), (1, vI v1), (2, vI v2), (3, vI v3), (4, vI v4), (5, vI v5), (6, vI s0)], [vI (0 : Int), vI v1, vR (some 1), vI v5], hp q)) rfl (S_call (m' := 104) (args := [vR (some 1), vI v1, vI (0 : Int)]) (h := hp q) (k := fun r => (0, 0, 114, [(0, vR (some 1)), (1, vI v1), (2, vI v2), (3, vI v3), (4, vI v4), (5, vI v5), (6, vI s0)], r.1.toList ++ [vI v5], r.2)) rfl (T_Ev_line q v1 (0 : Int)) (fun r_9 => S_run 0 (f' := (0, 0, 114, [(0, vR (some 1)), (1, vI v1), (2, vI v2), (3, vI v3), (4, vI v4), (5, vI v5), (6, vI s0)], [vI r_9.1, vI v5], hp r_9.2)) rfl (S_ite (fun h_10 => S_go (J_icmp2 rfl rfl rfl (B_ne h_10)) (S_run 1 (f' := (0, 0, 119, [(0, vR (some 1)), (1, vI v1), (2, vI v2), (3, vI v3), (4, vI v4), (5, vI v5), (6, vI s0)], [vI v5], hp r_9.2)) rfl (S_ite (fun h_11 => S_go (J_if2 rfl rfl (B_le h_11)) (S_run 1 (f' := (0, 0, 124, [(0, vR (some 1)), (1, vI v1), (2, vI v2), (3, vI v3), (4, vI v4), (5, vI v5), (6, vI s0)], [vI s0], hp r_9.2)) rfl (S_ite (fun h_12 => S_go (J_if2 rfl rfl (B_eq h_12)) (S_run 1 (f' := (0, 0, 152, [(0, vR (some 1)), (1, vI v1), (2, vI v2), (3, vI v3), (4, vI v4), (5, vI v5), (6, vI s0)], [vI (0 : Int)], hp r_9.2)) rfl (S_ret rfl))) (fun h_12 => S_go (J_if2 rfl rfl (B_eq' h_12)) (S_run 3 (f' := (0, 0, 130, [(0, vR (some 1)), (1, vI v1), (2, vI v2), (3, vI v3), (4, vI v4), (5, vI v5), (6, vI s0)], [vI (5 : Int), vI v1, vR (some 1)], hp r_9.2)) rfl (S_call (m' := 104) (args := [vR (some 1), vI v1, vI (5 : Int)]) (h := hp r_9.2) (k := fun r => (0, 0, 133, [(0, vR (some 1)), (1, vI v1), (2, vI v2), (3, vI v3), (4, vI v4), (5, vI v5), (6, vI s0)], r.1.toList ++ [], r.2)) rfl (T_Ev_line r_9.2 v1 (5 : Int)) (fun r_13 => S_run 1 (f' := (0, 0, 134, [(0, vR (some 1)), (1, vI v1), (2, vI v2), (3, vI v3), (4, vI v4), (5, vI v5), (6, vI s0)], [vI v2, vI r_13.1], hp r_13.2)) rfl (S_ite (fun h_14 => S_go (J_icmp2 rfl rfl rfl (B_ne h_14)) (S_run 2 (f' := (0, 0, 139, [(0, vR (some 1)), (1, vI v1), (2, vI v2), (3, vI v3), (4, vI v4), (5, vI v5), (6, vI s0)], [vI v1, vR (some 1)], hp r_13.2)) rfl (S_call (m' := 97) (args := [vR (some 1), vI v1]) (h := hp r_13.2) (k := fun r => (0, 0, 142, [(0, vR (some 1)), (1, vI v1), (2, vI v2), (3, vI v3), (4, vI v4), (5, vI v5), (6, vI s0)], r.1.toList ++ [], r.2)) rfl (T_Ev_makeLine r_13.2 v1) (fun r_15 => S_run 1 (f' := (0, 0, 144, [(0, vR (some 1)), (1, vI v1), (2, vI v2), (3, vI v3), (4, vI v4), (5, vI v5), (6, vI s0)], [vI v5, vI r_15.1], hp r_15.2)) rfl (S_ite (fun h_16 => S_go (J_icmp2 rfl rfl rfl (B_ne h_16)) (S_run 2 (f' := (0, 0, 152, [(0, vR (some 1)), (1, vI v1), (2, vI v2), (3, vI v3), (4, vI v4), (5, vI v5), (6, vI s0)], [vI (1 : Int)], hp r_15.2)) rfl (S_ret rfl))) (fun h_16 => S_go (J_icmp2 rfl rfl rfl (B_ne' h_16)) (S_run 1 (f' := (0, 0, 152, [(0, vR (some 1)), (1, vI v1), (2, vI v2), (3, vI v3), (4, vI v4), (5, vI v5), (6, vI s0)], [vI (0 : Int)], hp r_15.2)) rfl (S_ret rfl)))))))) (fun h_14 => S_go (J_icmp2 rfl rfl rfl (B_ne' h_14)) (S_run 1 (f' := (0, 0, 152, [(0, vR (some 1)), (1, vI v1), (2, vI v2), (3, vI v3), (4, vI v4), (5, vI v5), (6, vI s0)], [vI (0 : Int)], hp r_13.2)) rfl (S_ret rfl))))))))))) (fun h_11 => S_go (J_if2 rfl rfl (B_le' h_11)) (S_run 1 (f' := (0, 0, 152, [(0, vR (some 1)), (1, vI v1), (2, vI v2), (3, vI v3), (4, vI v4), (5, vI v5), (6, vI s0)], [vI (0 : Int)], hp r_9.2)) rfl (S_ret rfl)))))) (fun h_10 => S_go (J_icmp2 rfl rfl rfl (B_ne' h_10)) (S_run 1 (f' := (0, 0, 152, [(0, vR (some 1)), (1, vI v1), (2, vI v2), (3, vI v3), (4, vI v4), (5, vI v5), (6, vI s0)], [vI (0 : Int)], hp r_9.2)) rfl (S_ret rfl))))))))))) (fun h_7 => S_go (J_if2 rfl rfl (B_le' h_7)) (S_run 1 (f' := (0, 0, 152, [(0, vR (some 1)), (1, vI v1), (2, vI v2), (3, vI v3), (4, vI v4), (5, vI v5), (6, vI s0)], [vI (0 : Int)], hp q)) rfl (S_ret rfl))))

def Lw_makes_j88 (q : zM) (v1 : Int) (v2 : Int) (v3 : Int) (v4 : Int) (v5 : Int) : Option (Int × zM) :=
  Lw_makes_j93 q v1 v2 v3 v4 v5 (1 : Int)
set_option maxRecDepth 100000 in
theorem T_Lw_makes_j88 {E : zE} (q : zM) (v1 : Int) (v2 : Int) (v3 : Int) (v4 : Int) (v5 : Int) : SimV E 119 (0, 0, 88, [(0, vR (some 1)), (1, vI v1), (2, vI v2), (3, vI v3), (4, vI v4), (5, vI v5)], [], hp q) eI (Lw_makes_j88 q v1 v2 v3 v4 v5) := by
  unfold Lw_makes_j88
  exact S_run 2 (f' := (0, 0, 93, [(0, vR (some 1)), (1, vI v1), (2, vI v2), (3, vI v3), (4, vI v4), (5, vI v5)], [vI (1 : Int)], hp q)) rfl (T_Lw_makes_j93 q v1 v2 v3 v4 v5 (1 : Int))

def Lw_makes_j92 (q : zM) (v1 : Int) (v2 : Int) (v3 : Int) (v4 : Int) (v5 : Int) : Option (Int × zM) :=
  Lw_makes_j93 q v1 v2 v3 v4 v5 (0 : Int)
set_option maxRecDepth 100000 in
theorem T_Lw_makes_j92 {E : zE} (q : zM) (v1 : Int) (v2 : Int) (v3 : Int) (v4 : Int) (v5 : Int) : SimV E 119 (0, 0, 92, [(0, vR (some 1)), (1, vI v1), (2, vI v2), (3, vI v3), (4, vI v4), (5, vI v5)], [], hp q) eI (Lw_makes_j92 q v1 v2 v3 v4 v5) := by
  unfold Lw_makes_j92
  exact S_run 1 (f' := (0, 0, 93, [(0, vR (some 1)), (1, vI v1), (2, vI v2), (3, vI v3), (4, vI v4), (5, vI v5)], [vI (0 : Int)], hp q)) rfl (T_Lw_makes_j93 q v1 v2 v3 v4 v5 (0 : Int))

def Lw_makes (q : zM) (v1 : Int) : Option (Int × zM) :=
  (Ev_line q v1 (5 : Int)).bind fun r_1 =>
    (Ev_line r_1.2 v1 (0 : Int)).bind fun r_2 =>
      (Ev_line r_2.2 v1 (1 : Int)).bind fun r_3 =>
        (Ev_makeLine r_3.2 v1).bind fun r_4 =>
          if wrap r_1.1 = (0 : Int) then
            if wrap r_4.1 = (-5 : Int) then
              (Ev_line r_4.2 v1 (0 : Int)).bind fun r_23 =>
                if wrap r_23.1 = wrap r_2.1 then
                  some ((1 : Int), r_23.2)
                else
                  some ((0 : Int), r_23.2)
            else
              some ((0 : Int), r_4.2)
          else
            if wrap r_2.1 = (0 : Int) then
              Lw_makes_j88 r_4.2 v1 r_1.1 r_2.1 r_3.1 r_4.1
            else
              (Ev_line r_4.2 v1 (1 : Int)).bind fun r_17 =>
                if wrap r_17.1 < wrap r_3.1 then
                  Lw_makes_j88 r_17.2 v1 r_1.1 r_2.1 r_3.1 r_4.1
                else
                  (Ev_line r_17.2 v1 (1 : Int)).bind fun r_19 =>
                    if wrap r_19.1 = wrap r_3.1 then
                      if wrap r_2.1 < wrap r_4.1 then
                        Lw_makes_j92 r_19.2 v1 r_1.1 r_2.1 r_3.1 r_4.1
                      else
                        Lw_makes_j88 r_19.2 v1 r_1.1 r_2.1 r_3.1 r_4.1
                    else
                      Lw_makes_j92 r_19.2 v1 r_1.1 r_2.1 r_3.1 r_4.1
set_option maxRecDepth 100000 in
theorem T_Lw_makes {E : zE} (q : zM) (v1 : Int) : SimV E 119 (entF [vR (some 1), vI v1] (hp q)) eI (Lw_makes q v1) := by
  unfold Lw_makes
  exact S_run 0 (f' := (0, 0, 0, [(0, vR (some 1)), (1, vI v1)], [], hp q)) rfl (S_run 3 (f' := (0, 0, 3, [(0, vR (some 1)), (1, vI v1)], [vI (5 : Int), vI v1, vR (some 1)], hp q)) rfl (S_call (m' := 104) (args := [vR (some 1), vI v1, vI (5 : Int)]) (h := hp q) (k := fun r => (0, 0, 6, [(0, vR (some 1)), (1, vI v1)], r.1.toList ++ [], r.2)) rfl (T_Ev_line q v1 (5 : Int)) (fun r_1 => S_run 4 (f' := (0, 0, 10, [(0, vR (some 1)), (1, vI v1), (2, vI r_1.1)], [vI (0 : Int), vI v1, vR (some 1)], hp r_1.2)) rfl (S_call (m' := 104) (args := [vR (some 1), vI v1, vI (0 : Int)]) (h := hp r_1.2) (k := fun r => (0, 0, 13, [(0, vR (some 1)), (1, vI v1), (2, vI r_1.1)], r.1.toList ++ [], r.2)) rfl (T_Ev_line r_1.2 v1 (0 : Int)) (fun r_2 => S_run 4 (f' := (0, 0, 17, [(0, vR (some 1)), (1, vI v1), (2, vI r_1.1), (3, vI r_2.1)], [vI (1 : Int), vI v1, vR (some 1)], hp r_2.2)) rfl (S_call (m' := 104) (args := [vR (some 1), vI v1, vI (1 : Int)]) (h := hp r_2.2) (k := fun r => (0, 0, 20, [(0, vR (some 1)), (1, vI v1), (2, vI r_1.1), (3, vI r_2.1)], r.1.toList ++ [], r.2)) rfl (T_Ev_line r_2.2 v1 (1 : Int)) (fun r_3 => S_run 3 (f' := (0, 0, 24, [(0, vR (some 1)), (1, vI v1), (2, vI r_1.1), (3, vI r_2.1), (4, vI r_3.1)], [vI v1, vR (some 1)], hp r_3.2)) rfl (S_call (m' := 97) (args := [vR (some 1), vI v1]) (h := hp r_3.2) (k := fun r => (0, 0, 27, [(0, vR (some 1)), (1, vI v1), (2, vI r_1.1), (3, vI r_2.1), (4, vI r_3.1)], r.1.toList ++ [], r.2)) rfl (T_Ev_makeLine r_3.2 v1) (fun r_4 => S_run 2 (f' := (0, 0, 30, [(0, vR (some 1)), (1, vI v1), (2, vI r_1.1), (3, vI r_2.1), (4, vI r_3.1), (5, vI r_4.1)], [vI r_1.1], hp r_4.2)) rfl (S_ite (fun h_5 => S_go (J_if2 rfl rfl (B_ne h_5)) (S_run 2 (f' := (0, 0, 37, [(0, vR (some 1)), (1, vI v1), (2, vI r_1.1), (3, vI r_2.1), (4, vI r_3.1), (5, vI r_4.1)], [vI (-5 : Int), vI r_4.1], hp r_4.2)) rfl (S_ite (fun h_22 => S_go (J_icmp2 rfl rfl wl_m5 (B_ne h_22)) (S_run 3 (f' := (0, 0, 43, [(0, vR (some 1)), (1, vI v1), (2, vI r_1.1), (3, vI r_2.1), (4, vI r_3.1), (5, vI r_4.1)], [vI (0 : Int), vI v1, vR (some 1)], hp r_4.2)) rfl (S_call (m' := 104) (args := [vR (some 1), vI v1, vI (0 : Int)]) (h := hp r_4.2) (k := fun r => (0, 0, 46, [(0, vR (some 1)), (1, vI v1), (2, vI r_1.1), (3, vI r_2.1), (4, vI r_3.1), (5, vI r_4.1)], r.1.toList ++ [], r.2)) rfl (T_Ev_line r_4.2 v1 (0 : Int)) (fun r_23 => S_run 1 (f' := (0, 0, 47, [(0, vR (some 1)), (1, vI v1), (2, vI r_1.1), (3, vI r_2.1), (4, vI r_3.1), (5, vI r_4.1)], [vI r_2.1, vI r_23.1], hp r_23.2)) rfl (S_ite (fun h_24 => S_go (J_icmp2 rfl rfl rfl (B_ne h_24)) (S_run 2 (f' := (0, 0, 55, [(0, vR (some 1)), (1, vI v1), (2, vI r_1.1), (3, vI r_2.1), (4, vI r_3.1), (5, vI r_4.1)], [vI (1 : Int)], hp r_23.2)) rfl (S_ret rfl))) (fun h_24 => S_go (J_icmp2 rfl rfl rfl (B_ne' h_24)) (S_run 1 (f' := (0, 0, 55, [(0, vR (some 1)), (1, vI v1), (2, vI r_1.1), (3, vI r_2.1), (4, vI r_3.1), (5, vI r_4.1)], [vI (0 : Int)], hp r_23.2)) rfl (S_ret rfl)))))))) (fun h_22 => S_go (J_icmp2 rfl rfl wl_m5 (B_ne' h_22)) (S_run 1 (f' := (0, 0, 55, [(0, vR (some 1)), (1, vI v1), (2, vI r_1.1), (3, vI r_2.1), (4, vI r_3.1), (5, vI r_4.1)], [vI (0 : Int)], hp r_4.2)) rfl (S_ret rfl)))))) (fun h_5 => S_go (J_if2 rfl rfl (B_ne' h_5)) (S_run 1 (f' := (0, 0, 57, [(0, vR (some 1)), (1, vI v1), (2, vI r_1.1), (3, vI r_2.1), (4, vI r_3.1), (5, vI r_4.1)], [vI r_2.1], hp r_4.2)) rfl (S_ite (fun h_6 => S_go (J_if2 rfl rfl (B_eq h_6)) (S_run 0 (f' := (0, 0, 88, [(0, vR (some 1)), (1, vI v1), (2, vI r_1.1), (3, vI r_2.1), (4, vI r_3.1), (5, vI r_4.1)], [], hp r_4.2)) rfl (T_Lw_makes_j88 r_4.2 v1 r_1.1 r_2.1 r_3.1 r_4.1))) (fun h_6 => S_go (J_if2 rfl rfl (B_eq' h_6)) (S_run 3 (f' := (0, 0, 63, [(0, vR (some 1)), (1, vI v1), (2, vI r_1.1), (3, vI r_2.1), (4, vI r_3.1), (5, vI r_4.1)], [vI (1 : Int), vI v1, vR (some 1)], hp r_4.2)) rfl (S_call (m' := 104) (args := [vR (some 1), vI v1, vI (1 : Int)]) (h := hp r_4.2) (k := fun r => (0, 0, 66, [(0, vR (some 1)), (1, vI v1), (2, vI r_1.1), (3, vI r_2.1), (4, vI r_3.1), (5, vI r_4.1)], r.1.toList ++ [], r.2)) rfl (T_Ev_line r_4.2 v1 (1 : Int)) (fun r_17 => S_run 1 (f' := (0, 0, 68, [(0, vR (some 1)), (1, vI v1), (2, vI r_1.1), (3, vI r_2.1), (4, vI r_3.1), (5, vI r_4.1)], [vI r_3.1, vI r_17.1], hp r_17.2)) rfl (S_ite (fun h_18 => S_go (J_icmp2 rfl rfl rfl (B_lt h_18)) (S_run 0 (f' := (0, 0, 88, [(0, vR (some 1)), (1, vI v1), (2, vI r_1.1), (3, vI r_2.1), (4, vI r_3.1), (5, vI r_4.1)], [], hp r_17.2)) rfl (T_Lw_makes_j88 r_17.2 v1 r_1.1 r_2.1 r_3.1 r_4.1))) (fun h_18 => S_go (J_icmp2 rfl rfl rfl (B_lt' h_18)) (S_run 3 (f' := (0, 0, 74, [(0, vR (some 1)), (1, vI v1), (2, vI r_1.1), (3, vI r_2.1), (4, vI r_3.1), (5, vI r_4.1)], [vI (1 : Int), vI v1, vR (some 1)], hp r_17.2)) rfl (S_call (m' := 104) (args := [vR (some 1), vI v1, vI (1 : Int)]) (h := hp r_17.2) (k := fun r => (0, 0, 77, [(0, vR (some 1)), (1, vI v1), (2, vI r_1.1), (3, vI r_2.1), (4, vI r_3.1), (5, vI r_4.1)], r.1.toList ++ [], r.2)) rfl (T_Ev_line r_17.2 v1 (1 : Int)) (fun r_19 => S_run 1 (f' := (0, 0, 79, [(0, vR (some 1)), (1, vI v1), (2, vI r_1.1), (3, vI r_2.1), (4, vI r_3.1), (5, vI r_4.1)], [vI r_3.1, vI r_19.1], hp r_19.2)) rfl (S_ite (fun h_20 => S_go (J_icmp2 rfl rfl rfl (B_ne h_20)) (S_run 2 (f' := (0, 0, 85, [(0, vR (some 1)), (1, vI v1), (2, vI r_1.1), (3, vI r_2.1), (4, vI r_3.1), (5, vI r_4.1)], [vI r_2.1, vI r_4.1], hp r_19.2)) rfl (S_ite (fun h_21 => S_go (J_icmp2 rfl rfl rfl (B_gt h_21)) (S_run 0 (f' := (0, 0, 92, [(0, vR (some 1)), (1, vI v1), (2, vI r_1.1), (3, vI r_2.1), (4, vI r_3.1), (5, vI r_4.1)], [], hp r_19.2)) rfl (T_Lw_makes_j92 r_19.2 v1 r_1.1 r_2.1 r_3.1 r_4.1))) (fun h_21 => S_go (J_icmp2 rfl rfl rfl (B_gt' h_21)) (S_run 0 (f' := (0, 0, 88, [(0, vR (some 1)), (1, vI v1), (2, vI r_1.1), (3, vI r_2.1), (4, vI r_3.1), (5, vI r_4.1)], [], hp r_19.2)) rfl (T_Lw_makes_j88 r_19.2 v1 r_1.1 r_2.1 r_3.1 r_4.1)))))) (fun h_20 => S_go (J_icmp2 rfl rfl rfl (B_ne' h_20)) (S_run 0 (f' := (0, 0, 92, [(0, vR (some 1)), (1, vI v1), (2, vI r_1.1), (3, vI r_2.1), (4, vI r_3.1), (5, vI r_4.1)], [], hp r_19.2)) rfl (T_Lw_makes_j92 r_19.2 v1 r_1.1 r_2.1 r_3.1 r_4.1))))))))))))))))))))))))))

def Lw_finds_L22 (v1 : Int) (v2 : Int) (K : Int → zM → Option (Int × zM)) : Nat → Int → zM → Option (Int × zM)
  | 0, _, _ => none
  | n + 1, v3, q =>
    (Ev_word q v1 (0 : Int)).bind fun r_4 =>
      if wrap v3 < wrap r_4 then
        (Ev_letterAt q v1 v3).bind fun r_6 =>
          (Ev_type q (r_6 % 65536)).bind fun r_7 =>
            Lw_finds_L22 v1 v2 K n (v3 + 1) r_7.2
      else
        K v3 q
set_option maxRecDepth 100000 in
theorem T_Lw_finds_L22 {E : zE} (v1 : Int) (v2 : Int) {K : Int → zM → Option (Int × zM)} (hK : ∀ (v3 : Int) (q : zM), SimV E 121 (0, 0, 50, [(0, vR (some 1)), (1, vI v1), (2, vI v2), (3, vI v3)], [], hp q) eI (K v3 q)) : ∀ (n : Nat) (v3 : Int) (q : zM), SimV E 121 (0, 0, 22, [(0, vR (some 1)), (1, vI v1), (2, vI v2), (3, vI v3)], [], hp q) eI (Lw_finds_L22 v1 v2 K n v3 q) := by
  intro n
  induction n with
  | zero => intro _ _; exact S_none
  | succ n ih =>
    intro v3 q
    rw [Lw_finds_L22]
    exact S_run 4 (f' := (0, 0, 26, [(0, vR (some 1)), (1, vI v1), (2, vI v2), (3, vI v3)], [vI (0 : Int), vI v1, vR (some 1), vI v3], hp q)) rfl (S_call (m' := 102) (args := [vR (some 1), vI v1, vI (0 : Int)]) (h := hp q) (k := fun r => (0, 0, 29, [(0, vR (some 1)), (1, vI v1), (2, vI v2), (3, vI v3)], r.1.toList ++ [vI v3], r.2)) rfl (T_Ev_word q v1 (0 : Int)) (fun r_4 => S_run 0 (f' := (0, 0, 29, [(0, vR (some 1)), (1, vI v1), (2, vI v2), (3, vI v3)], [vI r_4, vI v3], hp q)) rfl (S_ite (fun h_5 => S_go (J_icmp2 rfl rfl rfl (B_ge h_5)) (S_run 4 (f' := (0, 0, 36, [(0, vR (some 1)), (1, vI v1), (2, vI v2), (3, vI v3)], [vI v3, vI v1, vR (some 1), vR (some 1)], hp q)) rfl (S_call (m' := 103) (args := [vR (some 1), vI v1, vI v3]) (h := hp q) (k := fun r => (0, 0, 39, [(0, vR (some 1)), (1, vI v1), (2, vI v2), (3, vI v3)], r.1.toList ++ [vR (some 1)], r.2)) rfl (T_Ev_letterAt q v1 v3) (fun r_6 => S_run 1 (f' := (0, 0, 40, [(0, vR (some 1)), (1, vI v1), (2, vI v2), (3, vI v3)], [vI (r_6 % 65536), vR (some 1)], hp q)) rfl (S_call (m' := 90) (args := [vR (some 1), vI (r_6 % 65536)]) (h := hp q) (k := fun r => (0, 0, 43, [(0, vR (some 1)), (1, vI v1), (2, vI v2), (3, vI v3)], r.1.toList ++ [], r.2)) rfl (T_Ev_type q (r_6 % 65536)) (fun r_7 => S_run 3 (f' := (0, 0, 22, [(0, vR (some 1)), (1, vI v1), (2, vI v2), (3, vI (v3 + 1))], [], hp r_7.2)) rfl (ih (v3 + 1) r_7.2))))))) (fun h_5 => S_go (J_icmp2 rfl rfl rfl (B_ge' h_5)) (S_run 0 (f' := (0, 0, 50, [(0, vR (some 1)), (1, vI v1), (2, vI v2), (3, vI v3)], [], hp q)) rfl (hK v3 q))))))

def Lw_finds_j63 (q : zM) (v1 : Int) (v2 : Int) (v3 : Int) (s0 : Int) : Option (Int × zM) :=
  (Ev_type q (39 : Int)).bind fun r_12 =>
    if wrap v2 = (0 : Int) then
      some ((0 : Int), r_12.2)
    else
      if wrap s0 = (0 : Int) then
        some ((0 : Int), r_12.2)
      else
        (Ev_find r_12.2 ).bind fun r_15 =>
          if wrap r_15 = (-5 : Int) then
            some ((1 : Int), r_12.2)
          else
            some ((0 : Int), r_12.2)
set_option maxRecDepth 100000 in
theorem T_Lw_finds_j63 {E : zE} (q : zM) (v1 : Int) (v2 : Int) (v3 : Int) (s0 : Int) : SimV E 121 (0, 0, 63, [(0, vR (some 1)), (1, vI v1), (2, vI v2), (3, vI v3)], [vI s0], hp q) eI (Lw_finds_j63 q v1 v2 v3 s0) := by
  unfold Lw_finds_j63
  exact S_run 3 (f' := (0, 0, 67, [(0, vR (some 1)), (1, vI v1), (2, vI v2), (3, vI s0)], [vI (39 : Int), vR (some 1)], hp q)) rfl (S_call (m' := 90) (args := [vR (some 1), vI (39 : Int)]) (h := hp q) (k := fun r => (0, 0, 70, [(0, vR (some 1)), (1, vI v1), (2, vI v2), (3, vI s0)], r.1.toList ++ [], r.2)) rfl (T_Ev_type q (39 : Int)) (fun r_12 => S_run 2 (f' := (0, 0, 72, [(0, vR (some 1)), (1, vI v1), (2, vI v2), (3, vI s0)], [vI v2], hp r_12.2)) rfl (S_ite (fun h_13 => S_go (J_if2 rfl rfl (B_eq h_13)) (S_run 1 (f' := (0, 0, 93, [(0, vR (some 1)), (1, vI v1), (2, vI v2), (3, vI s0)], [vI (0 : Int)], hp r_12.2)) rfl (S_ret rfl))) (fun h_13 => S_go (J_if2 rfl rfl (B_eq' h_13)) (S_run 1 (f' := (0, 0, 76, [(0, vR (some 1)), (1, vI v1), (2, vI v2), (3, vI s0)], [vI s0], hp r_12.2)) rfl (S_ite (fun h_14 => S_go (J_if2 rfl rfl (B_eq h_14)) (S_run 1 (f' := (0, 0, 93, [(0, vR (some 1)), (1, vI v1), (2, vI v2), (3, vI s0)], [vI (0 : Int)], hp r_12.2)) rfl (S_ret rfl))) (fun h_14 => S_go (J_if2 rfl rfl (B_eq' h_14)) (S_run 1 (f' := (0, 0, 80, [(0, vR (some 1)), (1, vI v1), (2, vI v2), (3, vI s0)], [vR (some 1)], hp r_12.2)) rfl (S_call (m' := 107) (args := [vR (some 1)]) (h := hp r_12.2) (k := fun r => (0, 0, 83, [(0, vR (some 1)), (1, vI v1), (2, vI v2), (3, vI s0)], r.1.toList ++ [], r.2)) rfl (T_Ev_find r_12.2 ) (fun r_15 => S_run 1 (f' := (0, 0, 85, [(0, vR (some 1)), (1, vI v1), (2, vI v2), (3, vI s0)], [vI (-5 : Int), vI r_15], hp r_12.2)) rfl (S_ite (fun h_16 => S_go (J_icmp2 rfl rfl wl_m5 (B_ne h_16)) (S_run 2 (f' := (0, 0, 93, [(0, vR (some 1)), (1, vI v1), (2, vI v2), (3, vI s0)], [vI (1 : Int)], hp r_12.2)) rfl (S_ret rfl))) (fun h_16 => S_go (J_icmp2 rfl rfl wl_m5 (B_ne' h_16)) (S_run 1 (f' := (0, 0, 93, [(0, vR (some 1)), (1, vI v1), (2, vI v2), (3, vI s0)], [vI (0 : Int)], hp r_12.2)) rfl (S_ret rfl))))))))))))))

def Lw_finds_j19 (q : zM) (v1 : Int) (s0 : Int) : Option (Int × zM) :=
  Lw_finds_L22 v1 s0 (fun v3_8 q_9 => 
    (Ev_find q_9 ).bind fun r_10 =>
      if wrap r_10 = wrap v1 then
        Lw_finds_j63 q_9 v1 s0 v3_8 (1 : Int)
      else
        Lw_finds_j63 q_9 v1 s0 v3_8 (0 : Int)) 5000 (0 : Int) q
set_option maxRecDepth 100000 in
theorem T_Lw_finds_j19 {E : zE} (q : zM) (v1 : Int) (s0 : Int) : SimV E 121 (0, 0, 19, [(0, vR (some 1)), (1, vI v1)], [vI s0], hp q) eI (Lw_finds_j19 q v1 s0) := by
  unfold Lw_finds_j19
  exact S_run 3 (f' := (0, 0, 22, [(0, vR (some 1)), (1, vI v1), (2, vI s0), (3, vI (0 : Int))], [], hp q)) rfl (T_Lw_finds_L22 v1 s0 (fun v3_8 q_9 => S_run 1 (f' := (0, 0, 51, [(0, vR (some 1)), (1, vI v1), (2, vI s0), (3, vI v3_8)], [vR (some 1)], hp q_9)) rfl (S_call (m' := 107) (args := [vR (some 1)]) (h := hp q_9) (k := fun r => (0, 0, 54, [(0, vR (some 1)), (1, vI v1), (2, vI s0), (3, vI v3_8)], r.1.toList ++ [], r.2)) rfl (T_Ev_find q_9 ) (fun r_10 => S_run 1 (f' := (0, 0, 55, [(0, vR (some 1)), (1, vI v1), (2, vI s0), (3, vI v3_8)], [vI v1, vI r_10], hp q_9)) rfl (S_ite (fun h_11 => S_go (J_icmp2 rfl rfl rfl (B_ne h_11)) (S_run 2 (f' := (0, 0, 63, [(0, vR (some 1)), (1, vI v1), (2, vI s0), (3, vI v3_8)], [vI (1 : Int)], hp q_9)) rfl (T_Lw_finds_j63 q_9 v1 s0 v3_8 (1 : Int)))) (fun h_11 => S_go (J_icmp2 rfl rfl rfl (B_ne' h_11)) (S_run 1 (f' := (0, 0, 63, [(0, vR (some 1)), (1, vI v1), (2, vI s0), (3, vI v3_8)], [vI (0 : Int)], hp q_9)) rfl (T_Lw_finds_j63 q_9 v1 s0 v3_8 (0 : Int)))))))) 5000 (0 : Int) q)

def Lw_finds (q : zM) (v1 : Int) : Option (Int × zM) :=
  (Ev_clearText q ).bind fun r_1 =>
    (Ev_find r_1.2 ).bind fun r_2 =>
      if wrap r_2 = (-5 : Int) then
        Lw_finds_j19 r_1.2 v1 (1 : Int)
      else
        Lw_finds_j19 r_1.2 v1 (0 : Int)
set_option maxRecDepth 100000 in
theorem T_Lw_finds {E : zE} (q : zM) (v1 : Int) : SimV E 121 (entF [vR (some 1), vI v1] (hp q)) eI (Lw_finds q v1) := by
  unfold Lw_finds
  exact S_run 0 (f' := (0, 0, 0, [(0, vR (some 1)), (1, vI v1)], [], hp q)) rfl (S_run 1 (f' := (0, 0, 1, [(0, vR (some 1)), (1, vI v1)], [vR (some 1)], hp q)) rfl (S_call (m' := 91) (args := [vR (some 1)]) (h := hp q) (k := fun r => (0, 0, 4, [(0, vR (some 1)), (1, vI v1)], r.1.toList ++ [], r.2)) rfl (T_Ev_clearText q ) (fun r_1 => S_run 2 (f' := (0, 0, 6, [(0, vR (some 1)), (1, vI v1)], [vR (some 1)], hp r_1.2)) rfl (S_call (m' := 107) (args := [vR (some 1)]) (h := hp r_1.2) (k := fun r => (0, 0, 9, [(0, vR (some 1)), (1, vI v1)], r.1.toList ++ [], r.2)) rfl (T_Ev_find r_1.2 ) (fun r_2 => S_run 1 (f' := (0, 0, 11, [(0, vR (some 1)), (1, vI v1)], [vI (-5 : Int), vI r_2], hp r_1.2)) rfl (S_ite (fun h_3 => S_go (J_icmp2 rfl rfl wl_m5 (B_ne h_3)) (S_run 2 (f' := (0, 0, 19, [(0, vR (some 1)), (1, vI v1)], [vI (1 : Int)], hp r_1.2)) rfl (T_Lw_finds_j19 r_1.2 v1 (1 : Int)))) (fun h_3 => S_go (J_icmp2 rfl rfl wl_m5 (B_ne' h_3)) (S_run 1 (f' := (0, 0, 19, [(0, vR (some 1)), (1, vI v1)], [vI (0 : Int)], hp r_1.2)) rfl (T_Lw_finds_j19 r_1.2 v1 (0 : Int))))))))))

def Lw_adds_j150 (q : zM) (v1 : Int) (v2 : Int) (v3 : Int) (v4 : Int) (v5 : Int) (v6 : Int) (v7 : Int) (v8 : Int) (v9 : Int) (v10 : Int) (s0 : Int) (K R : Int → Int → Int → Int → Int → zM → Option (Int × zM)) : Option (Int × zM) :=
  (Ev_type q (v8 % 65536)).bind fun r_9 =>
    R (v4 + 1) r_9.1 s0 v8 (v10 + 1) r_9.2
set_option maxRecDepth 100000 in
theorem T_Lw_adds_j150 {E : zE} (q : zM) (v1 : Int) (v2 : Int) (v3 : Int) (v4 : Int) (v5 : Int) (v6 : Int) (v7 : Int) (v8 : Int) (v9 : Int) (v10 : Int) (s0 : Int) {K R : Int → Int → Int → Int → Int → zM → Option (Int × zM)} (hK : ∀ (v4 : Int) (v6 : Int) (v7 : Int) (v8 : Int) (v10 : Int) (q : zM), SimV E 120 (0, 0, 170, [(0, vR (some 1)), (1, vI v1), (2, vI v2), (3, vI v3), (4, vI v4), (5, vI v5), (6, vI v6), (7, vI v7), (8, vI v8), (9, vI v9), (10, vI v10)], [], hp q) eI (K v4 v6 v7 v8 v10 q)) (hR : ∀ (v4 : Int) (v6 : Int) (v7 : Int) (v8 : Int) (v10 : Int) (q : zM), SimV E 120 (0, 0, 108, [(0, vR (some 1)), (1, vI v1), (2, vI v2), (3, vI v3), (4, vI v4), (5, vI v5), (6, vI v6), (7, vI v7), (8, vI v8), (9, vI v9), (10, vI v10)], [], hp q) eI (R v4 v6 v7 v8 v10 q)) : SimV E 120 (0, 0, 150, [(0, vR (some 1)), (1, vI v1), (2, vI v2), (3, vI v3), (4, vI v4), (5, vI v5), (6, vI v6), (7, vI v7), (8, vI v8), (9, vI v9), (10, vI v10)], [vI s0], hp q) eI (Lw_adds_j150 q v1 v2 v3 v4 v5 v6 v7 v8 v9 v10 s0 K R) := by
  unfold Lw_adds_j150
  exact S_run 4 (f' := (0, 0, 156, [(0, vR (some 1)), (1, vI v1), (2, vI v2), (3, vI v3), (4, vI v4), (5, vI v5), (6, vI v6), (7, vI s0), (8, vI v8), (9, vI v9), (10, vI v10)], [vI (v8 % 65536), vR (some 1)], hp q)) rfl (S_call (m' := 90) (args := [vR (some 1), vI (v8 % 65536)]) (h := hp q) (k := fun r => (0, 0, 159, [(0, vR (some 1)), (1, vI v1), (2, vI v2), (3, vI v3), (4, vI v4), (5, vI v5), (6, vI v6), (7, vI s0), (8, vI v8), (9, vI v9), (10, vI v10)], r.1.toList ++ [], r.2)) rfl (T_Ev_type q (v8 % 65536)) (fun r_9 => S_run 4 (f' := (0, 0, 108, [(0, vR (some 1)), (1, vI v1), (2, vI v2), (3, vI v3), (4, vI (v4 + 1)), (5, vI v5), (6, vI r_9.1), (7, vI s0), (8, vI v8), (9, vI v9), (10, vI (v10 + 1))], [], hp r_9.2)) rfl (hR (v4 + 1) r_9.1 s0 v8 (v10 + 1) r_9.2)))

def Lw_adds_L108 (v1 : Int) (v2 : Int) (v3 : Int) (v5 : Int) (v9 : Int) (K : Int → Int → Int → Int → Int → zM → Option (Int × zM)) : Nat → Int → Int → Int → Int → Int → zM → Option (Int × zM)
  | 0, _, _, _, _, _, _ => none
  | n + 1, v4, v6, v7, v8, v10, q =>
    if wrap v10 < wrap ((1 : Int) + (wand (wshr v1 ((3 : Int) + v9)) (1 : Int))) then
      (Lw_low q (wshr v2 ((3 : Int) * v4)) (4 : Int)).bind fun r_7 =>
        if wrap v4 = (0 : Int) then
          Lw_adds_j150 q v1 v2 v3 v4 v5 v6 v7 ((97 : Int) + r_7) v9 v10 ((97 : Int) + r_7) K (Lw_adds_L108 v1 v2 v3 v5 v9 K n)
        else
          Lw_adds_j150 q v1 v2 v3 v4 v5 v6 v7 ((97 : Int) + r_7) v9 v10 v7 K (Lw_adds_L108 v1 v2 v3 v5 v9 K n)
    else
      K v4 v6 v7 v8 v10 q
set_option maxRecDepth 100000 in
theorem T_Lw_adds_L108 {E : zE} (v1 : Int) (v2 : Int) (v3 : Int) (v5 : Int) (v9 : Int) {K : Int → Int → Int → Int → Int → zM → Option (Int × zM)} (hK : ∀ (v4 : Int) (v6 : Int) (v7 : Int) (v8 : Int) (v10 : Int) (q : zM), SimV E 120 (0, 0, 170, [(0, vR (some 1)), (1, vI v1), (2, vI v2), (3, vI v3), (4, vI v4), (5, vI v5), (6, vI v6), (7, vI v7), (8, vI v8), (9, vI v9), (10, vI v10)], [], hp q) eI (K v4 v6 v7 v8 v10 q)) : ∀ (n : Nat) (v4 : Int) (v6 : Int) (v7 : Int) (v8 : Int) (v10 : Int) (q : zM), SimV E 120 (0, 0, 108, [(0, vR (some 1)), (1, vI v1), (2, vI v2), (3, vI v3), (4, vI v4), (5, vI v5), (6, vI v6), (7, vI v7), (8, vI v8), (9, vI v9), (10, vI v10)], [], hp q) eI (Lw_adds_L108 v1 v2 v3 v5 v9 K n v4 v6 v7 v8 v10 q) := by
  intro n
  induction n with
  | zero => intro _ _ _ _ _ _; exact S_none
  | succ n ih =>
    intro v4 v6 v7 v8 v10 q
    rw [Lw_adds_L108]
    exact S_run 10 (f' := (0, 0, 120, [(0, vR (some 1)), (1, vI v1), (2, vI v2), (3, vI v3), (4, vI v4), (5, vI v5), (6, vI v6), (7, vI v7), (8, vI v8), (9, vI v9), (10, vI v10)], [vI ((1 : Int) + (wand (wshr v1 ((3 : Int) + v9)) (1 : Int))), vI v10], hp q)) rfl (S_ite (fun h_6 => S_go (J_icmp2 rfl rfl rfl (B_ge h_6)) (S_run 7 (f' := (0, 0, 132, [(0, vR (some 1)), (1, vI v1), (2, vI v2), (3, vI v3), (4, vI v4), (5, vI v5), (6, vI v6), (7, vI v7), (8, vI v8), (9, vI v9), (10, vI v10)], [vI (4 : Int), vI (wshr v2 ((3 : Int) * v4)), vI (97 : Int)], hp q)) rfl (S_call (m' := 112) (args := [vI (wshr v2 ((3 : Int) * v4)), vI (4 : Int)]) (h := hp q) (k := fun r => (0, 0, 135, [(0, vR (some 1)), (1, vI v1), (2, vI v2), (3, vI v3), (4, vI v4), (5, vI v5), (6, vI v6), (7, vI v7), (8, vI v8), (9, vI v9), (10, vI v10)], r.1.toList ++ [vI (97 : Int)], r.2)) rfl (T_Lw_low q (wshr v2 ((3 : Int) * v4)) (4 : Int)) (fun r_7 => S_run 3 (f' := (0, 0, 140, [(0, vR (some 1)), (1, vI v1), (2, vI v2), (3, vI v3), (4, vI v4), (5, vI v5), (6, vI v6), (7, vI v7), (8, vI ((97 : Int) + r_7)), (9, vI v9), (10, vI v10)], [vI v4], hp q)) rfl (S_ite (fun h_8 => S_go (J_if2 rfl rfl (B_ne h_8)) (S_run 2 (f' := (0, 0, 150, [(0, vR (some 1)), (1, vI v1), (2, vI v2), (3, vI v3), (4, vI v4), (5, vI v5), (6, vI v6), (7, vI v7), (8, vI ((97 : Int) + r_7)), (9, vI v9), (10, vI v10)], [vI ((97 : Int) + r_7)], hp q)) rfl (T_Lw_adds_j150 q v1 v2 v3 v4 v5 v6 v7 ((97 : Int) + r_7) v9 v10 ((97 : Int) + r_7) hK (ih)))) (fun h_8 => S_go (J_if2 rfl rfl (B_ne' h_8)) (S_run 1 (f' := (0, 0, 150, [(0, vR (some 1)), (1, vI v1), (2, vI v2), (3, vI v3), (4, vI v4), (5, vI v5), (6, vI v6), (7, vI v7), (8, vI ((97 : Int) + r_7)), (9, vI v9), (10, vI v10)], [vI v7], hp q)) rfl (T_Lw_adds_j150 q v1 v2 v3 v4 v5 v6 v7 ((97 : Int) + r_7) v9 v10 v7 hK (ih))))))))) (fun h_6 => S_go (J_icmp2 rfl rfl rfl (B_ge' h_6)) (S_run 0 (f' := (0, 0, 170, [(0, vR (some 1)), (1, vI v1), (2, vI v2), (3, vI v3), (4, vI v4), (5, vI v5), (6, vI v6), (7, vI v7), (8, vI v8), (9, vI v9), (10, vI v10)], [], hp q)) rfl (hK v4 v6 v7 v8 v10 q))))

def Lw_adds_j105 (q : zM) (v1 : Int) (v2 : Int) (v3 : Int) (v4 : Int) (v5 : Int) (v6 : Int) (v7 : Int) (v8 : Int) (v9 : Int) (K R : Int → Int → Int → Int → Int → Int → zM → Option (Int × zM)) : Option (Int × zM) :=
  Lw_adds_L108 v1 v2 v3 v5 v9 (fun v4_10 v6_11 v7_12 v8_13 v10_14 q_15 => 
    R v4_10 v5 v6_11 v7_12 v8_13 (v9 + 1) q_15) 5000 v4 v6 v7 v8 (0 : Int) q
set_option maxRecDepth 100000 in
theorem T_Lw_adds_j105 {E : zE} (q : zM) (v1 : Int) (v2 : Int) (v3 : Int) (v4 : Int) (v5 : Int) (v6 : Int) (v7 : Int) (v8 : Int) (v9 : Int) {K R : Int → Int → Int → Int → Int → Int → zM → Option (Int × zM)} (hK : ∀ (v4 : Int) (v5 : Int) (v6 : Int) (v7 : Int) (v8 : Int) (v9 : Int) (q : zM), SimV E 120 (0, 0, 176, [(0, vR (some 1)), (1, vI v1), (2, vI v2), (3, vI v3), (4, vI v4), (5, vI v5), (6, vI v6), (7, vI v7), (8, vI v8), (9, vI v9)], [], hp q) eI (K v4 v5 v6 v7 v8 v9 q)) (hR : ∀ (v4 : Int) (v5 : Int) (v6 : Int) (v7 : Int) (v8 : Int) (v9 : Int) (q : zM), SimV E 120 (0, 0, 31, [(0, vR (some 1)), (1, vI v1), (2, vI v2), (3, vI v3), (4, vI v4), (5, vI v5), (6, vI v6), (7, vI v7), (8, vI v8), (9, vI v9)], [], hp q) eI (R v4 v5 v6 v7 v8 v9 q)) : SimV E 120 (0, 0, 105, [(0, vR (some 1)), (1, vI v1), (2, vI v2), (3, vI v3), (4, vI v4), (5, vI v5), (6, vI v6), (7, vI v7), (8, vI v8), (9, vI v9)], [], hp q) eI (Lw_adds_j105 q v1 v2 v3 v4 v5 v6 v7 v8 v9 K R) := by
  unfold Lw_adds_j105
  exact S_run 2 (f' := (0, 0, 108, [(0, vR (some 1)), (1, vI v1), (2, vI v2), (3, vI v3), (4, vI v4), (5, vI v5), (6, vI v6), (7, vI v7), (8, vI v8), (9, vI v9), (10, vI (0 : Int))], [], hp q)) rfl (T_Lw_adds_L108 v1 v2 v3 v5 v9 (fun v4_10 v6_11 v7_12 v8_13 v10_14 q_15 => S_run 2 (f' := (0, 0, 31, [(0, vR (some 1)), (1, vI v1), (2, vI v2), (3, vI v3), (4, vI v4_10), (5, vI v5), (6, vI v6_11), (7, vI v7_12), (8, vI v8_13), (9, vI (v9 + 1))], [], hp q_15)) rfl (hR v4_10 v5 v6_11 v7_12 v8_13 (v9 + 1) q_15)) 5000 v4 v6 v7 v8 (0 : Int) q)

def Lw_adds_j64 (q : zM) (v1 : Int) (v2 : Int) (v3 : Int) (v4 : Int) (v5 : Int) (v6 : Int) (v7 : Int) (v8 : Int) (v9 : Int) (K R : Int → Int → Int → Int → Int → Int → zM → Option (Int × zM)) : Option (Int × zM) :=
  if wrap (wand (wshr v2 v9) (1 : Int)) = (1 : Int) then
    (Ev_type q (39 : Int)).bind fun r_16 =>
      (Ev_addWord r_16.2 ).bind fun r_17 =>
        if wrap r_17.1 = wrap ((-100 : Int) - r_16.1) then
          Lw_adds_j105 r_17.2 v1 v2 v3 v4 (wor v5 (wshl (1 : Int) v9)) r_16.1 v7 v8 v9 K (R)
        else
          some ((0 : Int), r_17.2)
  else
    Lw_adds_j105 q v1 v2 v3 v4 v5 v6 v7 v8 v9 K (R)
set_option maxRecDepth 100000 in
theorem T_Lw_adds_j64 {E : zE} (q : zM) (v1 : Int) (v2 : Int) (v3 : Int) (v4 : Int) (v5 : Int) (v6 : Int) (v7 : Int) (v8 : Int) (v9 : Int) {K R : Int → Int → Int → Int → Int → Int → zM → Option (Int × zM)} (hK : ∀ (v4 : Int) (v5 : Int) (v6 : Int) (v7 : Int) (v8 : Int) (v9 : Int) (q : zM), SimV E 120 (0, 0, 176, [(0, vR (some 1)), (1, vI v1), (2, vI v2), (3, vI v3), (4, vI v4), (5, vI v5), (6, vI v6), (7, vI v7), (8, vI v8), (9, vI v9)], [], hp q) eI (K v4 v5 v6 v7 v8 v9 q)) (hR : ∀ (v4 : Int) (v5 : Int) (v6 : Int) (v7 : Int) (v8 : Int) (v9 : Int) (q : zM), SimV E 120 (0, 0, 31, [(0, vR (some 1)), (1, vI v1), (2, vI v2), (3, vI v3), (4, vI v4), (5, vI v5), (6, vI v6), (7, vI v7), (8, vI v8), (9, vI v9)], [], hp q) eI (R v4 v5 v6 v7 v8 v9 q)) : SimV E 120 (0, 0, 64, [(0, vR (some 1)), (1, vI v1), (2, vI v2), (3, vI v3), (4, vI v4), (5, vI v5), (6, vI v6), (7, vI v7), (8, vI v8), (9, vI v9)], [], hp q) eI (Lw_adds_j64 q v1 v2 v3 v4 v5 v6 v7 v8 v9 K R) := by
  unfold Lw_adds_j64
  exact S_run 6 (f' := (0, 0, 71, [(0, vR (some 1)), (1, vI v1), (2, vI v2), (3, vI v3), (4, vI v4), (5, vI v5), (6, vI v6), (7, vI v7), (8, vI v8), (9, vI v9)], [vI (1 : Int), vI (wand (wshr v2 v9) (1 : Int))], hp q)) rfl (S_ite (fun h_5 => S_go (J_icmp2 rfl rfl wl_1 (B_ne h_5)) (S_run 8 (f' := (0, 0, 86, [(0, vR (some 1)), (1, vI v1), (2, vI v2), (3, vI v3), (4, vI v4), (5, vI (wor v5 (wshl (1 : Int) v9))), (6, vI v6), (7, vI v7), (8, vI v8), (9, vI v9)], [vI (39 : Int), vR (some 1)], hp q)) rfl (S_call (m' := 90) (args := [vR (some 1), vI (39 : Int)]) (h := hp q) (k := fun r => (0, 0, 89, [(0, vR (some 1)), (1, vI v1), (2, vI v2), (3, vI v3), (4, vI v4), (5, vI (wor v5 (wshl (1 : Int) v9))), (6, vI v6), (7, vI v7), (8, vI v8), (9, vI v9)], r.1.toList ++ [], r.2)) rfl (T_Ev_type q (39 : Int)) (fun r_16 => S_run 2 (f' := (0, 0, 92, [(0, vR (some 1)), (1, vI v1), (2, vI v2), (3, vI v3), (4, vI v4), (5, vI (wor v5 (wshl (1 : Int) v9))), (6, vI r_16.1), (7, vI v7), (8, vI v8), (9, vI v9)], [vR (some 1)], hp r_16.2)) rfl (S_call (m' := 92) (args := [vR (some 1)]) (h := hp r_16.2) (k := fun r => (0, 0, 95, [(0, vR (some 1)), (1, vI v1), (2, vI v2), (3, vI v3), (4, vI v4), (5, vI (wor v5 (wshl (1 : Int) v9))), (6, vI r_16.1), (7, vI v7), (8, vI v8), (9, vI v9)], r.1.toList ++ [], r.2)) rfl (T_Ev_addWord r_16.2 ) (fun r_17 => S_run 3 (f' := (0, 0, 100, [(0, vR (some 1)), (1, vI v1), (2, vI v2), (3, vI v3), (4, vI v4), (5, vI (wor v5 (wshl (1 : Int) v9))), (6, vI r_16.1), (7, vI v7), (8, vI v8), (9, vI v9)], [vI ((-100 : Int) - r_16.1), vI r_17.1], hp r_17.2)) rfl (S_ite (fun h_18 => S_go (J_icmp2 rfl rfl rfl (B_eq h_18)) (S_run 0 (f' := (0, 0, 105, [(0, vR (some 1)), (1, vI v1), (2, vI v2), (3, vI v3), (4, vI v4), (5, vI (wor v5 (wshl (1 : Int) v9))), (6, vI r_16.1), (7, vI v7), (8, vI v8), (9, vI v9)], [], hp r_17.2)) rfl (T_Lw_adds_j105 r_17.2 v1 v2 v3 v4 (wor v5 (wshl (1 : Int) v9)) r_16.1 v7 v8 v9 hK (hR)))) (fun h_18 => S_go (J_icmp2 rfl rfl rfl (B_eq' h_18)) (S_run 1 (f' := (0, 0, 104, [(0, vR (some 1)), (1, vI v1), (2, vI v2), (3, vI v3), (4, vI v4), (5, vI (wor v5 (wshl (1 : Int) v9))), (6, vI r_16.1), (7, vI v7), (8, vI v8), (9, vI v9)], [vI (0 : Int)], hp r_17.2)) rfl (S_ret rfl)))))))))) (fun h_5 => S_go (J_icmp2 rfl rfl wl_1 (B_ne' h_5)) (S_run 0 (f' := (0, 0, 105, [(0, vR (some 1)), (1, vI v1), (2, vI v2), (3, vI v3), (4, vI v4), (5, vI v5), (6, vI v6), (7, vI v7), (8, vI v8), (9, vI v9)], [], hp q)) rfl (T_Lw_adds_j105 q v1 v2 v3 v4 v5 v6 v7 v8 v9 hK (hR)))))

def Lw_adds_L31 (v1 : Int) (v2 : Int) (v3 : Int) (K : Int → Int → Int → Int → Int → Int → zM → Option (Int × zM)) : Nat → Int → Int → Int → Int → Int → Int → zM → Option (Int × zM)
  | 0, _, _, _, _, _, _, _ => none
  | n + 1, v4, v5, v6, v7, v8, v9, q =>
    if wrap v9 < wrap v3 then
      if (0 : Int) < wrap v9 then
        (Ev_type q (45 : Int)).bind fun r_19 =>
          (Ev_addWord r_19.2 ).bind fun r_20 =>
            if wrap r_20.1 = wrap ((-100 : Int) - r_19.1) then
              Lw_adds_j64 r_20.2 v1 v2 v3 v4 v5 r_19.1 v7 v8 v9 K (Lw_adds_L31 v1 v2 v3 K n)
            else
              some ((0 : Int), r_20.2)
      else
        Lw_adds_j64 q v1 v2 v3 v4 v5 v6 v7 v8 v9 K (Lw_adds_L31 v1 v2 v3 K n)
    else
      K v4 v5 v6 v7 v8 v9 q
set_option maxRecDepth 100000 in
theorem T_Lw_adds_L31 {E : zE} (v1 : Int) (v2 : Int) (v3 : Int) {K : Int → Int → Int → Int → Int → Int → zM → Option (Int × zM)} (hK : ∀ (v4 : Int) (v5 : Int) (v6 : Int) (v7 : Int) (v8 : Int) (v9 : Int) (q : zM), SimV E 120 (0, 0, 176, [(0, vR (some 1)), (1, vI v1), (2, vI v2), (3, vI v3), (4, vI v4), (5, vI v5), (6, vI v6), (7, vI v7), (8, vI v8), (9, vI v9)], [], hp q) eI (K v4 v5 v6 v7 v8 v9 q)) : ∀ (n : Nat) (v4 : Int) (v5 : Int) (v6 : Int) (v7 : Int) (v8 : Int) (v9 : Int) (q : zM), SimV E 120 (0, 0, 31, [(0, vR (some 1)), (1, vI v1), (2, vI v2), (3, vI v3), (4, vI v4), (5, vI v5), (6, vI v6), (7, vI v7), (8, vI v8), (9, vI v9)], [], hp q) eI (Lw_adds_L31 v1 v2 v3 K n v4 v5 v6 v7 v8 v9 q) := by
  intro n
  induction n with
  | zero => intro _ _ _ _ _ _ _; exact S_none
  | succ n ih =>
    intro v4 v5 v6 v7 v8 v9 q
    rw [Lw_adds_L31]
    exact S_run 2 (f' := (0, 0, 34, [(0, vR (some 1)), (1, vI v1), (2, vI v2), (3, vI v3), (4, vI v4), (5, vI v5), (6, vI v6), (7, vI v7), (8, vI v8), (9, vI v9)], [vI v3, vI v9], hp q)) rfl (S_ite (fun h_3 => S_go (J_icmp2 rfl rfl rfl (B_ge h_3)) (S_run 1 (f' := (0, 0, 39, [(0, vR (some 1)), (1, vI v1), (2, vI v2), (3, vI v3), (4, vI v4), (5, vI v5), (6, vI v6), (7, vI v7), (8, vI v8), (9, vI v9)], [vI v9], hp q)) rfl (S_ite (fun h_4 => S_go (J_if2 rfl rfl (B_le h_4)) (S_run 2 (f' := (0, 0, 45, [(0, vR (some 1)), (1, vI v1), (2, vI v2), (3, vI v3), (4, vI v4), (5, vI v5), (6, vI v6), (7, vI v7), (8, vI v8), (9, vI v9)], [vI (45 : Int), vR (some 1)], hp q)) rfl (S_call (m' := 90) (args := [vR (some 1), vI (45 : Int)]) (h := hp q) (k := fun r => (0, 0, 48, [(0, vR (some 1)), (1, vI v1), (2, vI v2), (3, vI v3), (4, vI v4), (5, vI v5), (6, vI v6), (7, vI v7), (8, vI v8), (9, vI v9)], r.1.toList ++ [], r.2)) rfl (T_Ev_type q (45 : Int)) (fun r_19 => S_run 2 (f' := (0, 0, 51, [(0, vR (some 1)), (1, vI v1), (2, vI v2), (3, vI v3), (4, vI v4), (5, vI v5), (6, vI r_19.1), (7, vI v7), (8, vI v8), (9, vI v9)], [vR (some 1)], hp r_19.2)) rfl (S_call (m' := 92) (args := [vR (some 1)]) (h := hp r_19.2) (k := fun r => (0, 0, 54, [(0, vR (some 1)), (1, vI v1), (2, vI v2), (3, vI v3), (4, vI v4), (5, vI v5), (6, vI r_19.1), (7, vI v7), (8, vI v8), (9, vI v9)], r.1.toList ++ [], r.2)) rfl (T_Ev_addWord r_19.2 ) (fun r_20 => S_run 3 (f' := (0, 0, 59, [(0, vR (some 1)), (1, vI v1), (2, vI v2), (3, vI v3), (4, vI v4), (5, vI v5), (6, vI r_19.1), (7, vI v7), (8, vI v8), (9, vI v9)], [vI ((-100 : Int) - r_19.1), vI r_20.1], hp r_20.2)) rfl (S_ite (fun h_21 => S_go (J_icmp2 rfl rfl rfl (B_eq h_21)) (S_run 0 (f' := (0, 0, 64, [(0, vR (some 1)), (1, vI v1), (2, vI v2), (3, vI v3), (4, vI v4), (5, vI v5), (6, vI r_19.1), (7, vI v7), (8, vI v8), (9, vI v9)], [], hp r_20.2)) rfl (T_Lw_adds_j64 r_20.2 v1 v2 v3 v4 v5 r_19.1 v7 v8 v9 hK (ih)))) (fun h_21 => S_go (J_icmp2 rfl rfl rfl (B_eq' h_21)) (S_run 1 (f' := (0, 0, 63, [(0, vR (some 1)), (1, vI v1), (2, vI v2), (3, vI v3), (4, vI v4), (5, vI v5), (6, vI r_19.1), (7, vI v7), (8, vI v8), (9, vI v9)], [vI (0 : Int)], hp r_20.2)) rfl (S_ret rfl)))))))))) (fun h_4 => S_go (J_if2 rfl rfl (B_le' h_4)) (S_run 0 (f' := (0, 0, 64, [(0, vR (some 1)), (1, vI v1), (2, vI v2), (3, vI v3), (4, vI v4), (5, vI v5), (6, vI v6), (7, vI v7), (8, vI v8), (9, vI v9)], [], hp q)) rfl (T_Lw_adds_j64 q v1 v2 v3 v4 v5 v6 v7 v8 v9 hK (ih))))))) (fun h_3 => S_go (J_icmp2 rfl rfl rfl (B_ge' h_3)) (S_run 0 (f' := (0, 0, 176, [(0, vR (some 1)), (1, vI v1), (2, vI v2), (3, vI v3), (4, vI v4), (5, vI v5), (6, vI v6), (7, vI v7), (8, vI v8), (9, vI v9)], [], hp q)) rfl (hK v4 v5 v6 v7 v8 v9 q))))

def Lw_adds_j254 (q : zM) (v1 : Int) (v2 : Int) (v3 : Int) (v4 : Int) (v5 : Int) (v6 : Int) (v7 : Int) (v8 : Int) (v9 : Int) (v10 : Int) (v11 : Int) : Option (Int × zM) :=
  (Ev_count q (0 : Int)).bind fun r_34 =>
    if wrap r_34 = wrap v10 then
      some ((1 : Int), q)
    else
      some ((0 : Int), q)
set_option maxRecDepth 100000 in
theorem T_Lw_adds_j254 {E : zE} (q : zM) (v1 : Int) (v2 : Int) (v3 : Int) (v4 : Int) (v5 : Int) (v6 : Int) (v7 : Int) (v8 : Int) (v9 : Int) (v10 : Int) (v11 : Int) : SimV E 120 (0, 0, 254, [(0, vR (some 1)), (1, vI v1), (2, vI v2), (3, vI v3), (4, vI v4), (5, vI v5), (6, vI v6), (7, vI v7), (8, vI v8), (9, vI v9), (10, vI v10), (11, vI v11)], [], hp q) eI (Lw_adds_j254 q v1 v2 v3 v4 v5 v6 v7 v8 v9 v10 v11) := by
  unfold Lw_adds_j254
  exact S_run 2 (f' := (0, 0, 256, [(0, vR (some 1)), (1, vI v1), (2, vI v2), (3, vI v3), (4, vI v4), (5, vI v5), (6, vI v6), (7, vI v7), (8, vI v8), (9, vI v9), (10, vI v10), (11, vI v11)], [vI (0 : Int), vR (some 1)], hp q)) rfl (S_call (m' := 109) (args := [vR (some 1), vI (0 : Int)]) (h := hp q) (k := fun r => (0, 0, 259, [(0, vR (some 1)), (1, vI v1), (2, vI v2), (3, vI v3), (4, vI v4), (5, vI v5), (6, vI v6), (7, vI v7), (8, vI v8), (9, vI v9), (10, vI v10), (11, vI v11)], r.1.toList ++ [], r.2)) rfl (T_Ev_count q (0 : Int)) (fun r_34 => S_run 1 (f' := (0, 0, 261, [(0, vR (some 1)), (1, vI v1), (2, vI v2), (3, vI v3), (4, vI v4), (5, vI v5), (6, vI v6), (7, vI v7), (8, vI v8), (9, vI v9), (10, vI v10), (11, vI v11)], [vI v10, vI r_34], hp q)) rfl (S_ite (fun h_35 => S_go (J_icmp2 rfl rfl rfl (B_ne h_35)) (S_run 2 (f' := (0, 0, 269, [(0, vR (some 1)), (1, vI v1), (2, vI v2), (3, vI v3), (4, vI v4), (5, vI v5), (6, vI v6), (7, vI v7), (8, vI v8), (9, vI v9), (10, vI v10), (11, vI v11)], [vI (1 : Int)], hp q)) rfl (S_ret rfl))) (fun h_35 => S_go (J_icmp2 rfl rfl rfl (B_ne' h_35)) (S_run 1 (f' := (0, 0, 269, [(0, vR (some 1)), (1, vI v1), (2, vI v2), (3, vI v3), (4, vI v4), (5, vI v5), (6, vI v6), (7, vI v7), (8, vI v8), (9, vI v9), (10, vI v10), (11, vI v11)], [vI (0 : Int)], hp q)) rfl (S_ret rfl))))))

def Lw_adds_j366 (q : zM) (v1 : Int) (v2 : Int) (v3 : Int) (v4 : Int) (v5 : Int) (v6 : Int) (v7 : Int) (v8 : Int) (v9 : Int) (v10 : Int) (v11 : Int) (s0 : Int) : Option (Int × zM) :=
  (Ev_type q (46 : Int)).bind fun r_38 =>
    if wrap s0 = (0 : Int) then
      some ((0 : Int), r_38.2)
    else
      (Ev_addWord r_38.2 ).bind fun r_40 =>
        if wrap r_40.1 = wrap ((-99 : Int) - r_38.1) then
          (Lw_finds r_40.2 v11).bind fun r_42 =>
            if wrap r_42.1 = (0 : Int) then
              some ((0 : Int), r_42.2)
            else
              some ((1 : Int), r_42.2)
        else
          some ((0 : Int), r_40.2)
set_option maxRecDepth 100000 in
theorem T_Lw_adds_j366 {E : zE} (q : zM) (v1 : Int) (v2 : Int) (v3 : Int) (v4 : Int) (v5 : Int) (v6 : Int) (v7 : Int) (v8 : Int) (v9 : Int) (v10 : Int) (v11 : Int) (s0 : Int) : SimV E 120 (0, 0, 366, [(0, vR (some 1)), (1, vI v1), (2, vI v2), (3, vI v3), (4, vI v4), (5, vI v5), (6, vI v6), (7, vI v7), (8, vI v8), (9, vI v9), (10, vI v10), (11, vI v11)], [vI s0], hp q) eI (Lw_adds_j366 q v1 v2 v3 v4 v5 v6 v7 v8 v9 v10 v11 s0) := by
  unfold Lw_adds_j366
  exact S_run 3 (f' := (0, 0, 371, [(0, vR (some 1)), (1, vI v1), (2, vI v2), (3, vI v3), (4, vI v4), (5, vI v5), (6, vI v6), (7, vI v7), (8, vI v8), (9, vI v9), (10, vI v10), (11, vI v11), (12, vI s0)], [vI (46 : Int), vR (some 1)], hp q)) rfl (S_call (m' := 90) (args := [vR (some 1), vI (46 : Int)]) (h := hp q) (k := fun r => (0, 0, 374, [(0, vR (some 1)), (1, vI v1), (2, vI v2), (3, vI v3), (4, vI v4), (5, vI v5), (6, vI v6), (7, vI v7), (8, vI v8), (9, vI v9), (10, vI v10), (11, vI v11), (12, vI s0)], r.1.toList ++ [], r.2)) rfl (T_Ev_type q (46 : Int)) (fun r_38 => S_run 2 (f' := (0, 0, 378, [(0, vR (some 1)), (1, vI v1), (2, vI v2), (3, vI v3), (4, vI v4), (5, vI v5), (6, vI r_38.1), (7, vI v7), (8, vI v8), (9, vI v9), (10, vI v10), (11, vI v11), (12, vI s0)], [vI s0], hp r_38.2)) rfl (S_ite (fun h_39 => S_go (J_if2 rfl rfl (B_eq h_39)) (S_run 1 (f' := (0, 0, 407, [(0, vR (some 1)), (1, vI v1), (2, vI v2), (3, vI v3), (4, vI v4), (5, vI v5), (6, vI r_38.1), (7, vI v7), (8, vI v8), (9, vI v9), (10, vI v10), (11, vI v11), (12, vI s0)], [vI (0 : Int)], hp r_38.2)) rfl (S_ret rfl))) (fun h_39 => S_go (J_if2 rfl rfl (B_eq' h_39)) (S_run 1 (f' := (0, 0, 382, [(0, vR (some 1)), (1, vI v1), (2, vI v2), (3, vI v3), (4, vI v4), (5, vI v5), (6, vI r_38.1), (7, vI v7), (8, vI v8), (9, vI v9), (10, vI v10), (11, vI v11), (12, vI s0)], [vR (some 1)], hp r_38.2)) rfl (S_call (m' := 92) (args := [vR (some 1)]) (h := hp r_38.2) (k := fun r => (0, 0, 385, [(0, vR (some 1)), (1, vI v1), (2, vI v2), (3, vI v3), (4, vI v4), (5, vI v5), (6, vI r_38.1), (7, vI v7), (8, vI v8), (9, vI v9), (10, vI v10), (11, vI v11), (12, vI s0)], r.1.toList ++ [], r.2)) rfl (T_Ev_addWord r_38.2 ) (fun r_40 => S_run 3 (f' := (0, 0, 390, [(0, vR (some 1)), (1, vI v1), (2, vI v2), (3, vI v3), (4, vI v4), (5, vI v5), (6, vI r_38.1), (7, vI v7), (8, vI v8), (9, vI v9), (10, vI v10), (11, vI v11), (12, vI s0)], [vI ((-99 : Int) - r_38.1), vI r_40.1], hp r_40.2)) rfl (S_ite (fun h_41 => S_go (J_icmp2 rfl rfl rfl (B_ne h_41)) (S_run 2 (f' := (0, 0, 396, [(0, vR (some 1)), (1, vI v1), (2, vI v2), (3, vI v3), (4, vI v4), (5, vI v5), (6, vI r_38.1), (7, vI v7), (8, vI v8), (9, vI v9), (10, vI v10), (11, vI v11), (12, vI s0)], [vI v11, vR (some 1)], hp r_40.2)) rfl (S_call (m' := 121) (args := [vR (some 1), vI v11]) (h := hp r_40.2) (k := fun r => (0, 0, 399, [(0, vR (some 1)), (1, vI v1), (2, vI v2), (3, vI v3), (4, vI v4), (5, vI v5), (6, vI r_38.1), (7, vI v7), (8, vI v8), (9, vI v9), (10, vI v10), (11, vI v11), (12, vI s0)], r.1.toList ++ [], r.2)) rfl (T_Lw_finds r_40.2 v11) (fun r_42 => S_run 0 (f' := (0, 0, 399, [(0, vR (some 1)), (1, vI v1), (2, vI v2), (3, vI v3), (4, vI v4), (5, vI v5), (6, vI r_38.1), (7, vI v7), (8, vI v8), (9, vI v9), (10, vI v10), (11, vI v11), (12, vI s0)], [vI r_42.1], hp r_42.2)) rfl (S_ite (fun h_43 => S_go (J_if2 rfl rfl (B_eq h_43)) (S_run 1 (f' := (0, 0, 407, [(0, vR (some 1)), (1, vI v1), (2, vI v2), (3, vI v3), (4, vI v4), (5, vI v5), (6, vI r_38.1), (7, vI v7), (8, vI v8), (9, vI v9), (10, vI v10), (11, vI v11), (12, vI s0)], [vI (0 : Int)], hp r_42.2)) rfl (S_ret rfl))) (fun h_43 => S_go (J_if2 rfl rfl (B_eq' h_43)) (S_run 2 (f' := (0, 0, 407, [(0, vR (some 1)), (1, vI v1), (2, vI v2), (3, vI v3), (4, vI v4), (5, vI v5), (6, vI r_38.1), (7, vI v7), (8, vI v8), (9, vI v9), (10, vI v10), (11, vI v11), (12, vI s0)], [vI (1 : Int)], hp r_42.2)) rfl (S_ret rfl)))))))) (fun h_41 => S_go (J_icmp2 rfl rfl rfl (B_ne' h_41)) (S_run 1 (f' := (0, 0, 407, [(0, vR (some 1)), (1, vI v1), (2, vI v2), (3, vI v3), (4, vI v4), (5, vI v5), (6, vI r_38.1), (7, vI v7), (8, vI v8), (9, vI v9), (10, vI v10), (11, vI v11), (12, vI s0)], [vI (0 : Int)], hp r_40.2)) rfl (S_ret rfl)))))))))))

def Lw_adds_j365 (q : zM) (v1 : Int) (v2 : Int) (v3 : Int) (v4 : Int) (v5 : Int) (v6 : Int) (v7 : Int) (v8 : Int) (v9 : Int) (v10 : Int) (v11 : Int) : Option (Int × zM) :=
  Lw_adds_j366 q v1 v2 v3 v4 v5 v6 v7 v8 v9 v10 v11 (0 : Int)
set_option maxRecDepth 100000 in
theorem T_Lw_adds_j365 {E : zE} (q : zM) (v1 : Int) (v2 : Int) (v3 : Int) (v4 : Int) (v5 : Int) (v6 : Int) (v7 : Int) (v8 : Int) (v9 : Int) (v10 : Int) (v11 : Int) : SimV E 120 (0, 0, 365, [(0, vR (some 1)), (1, vI v1), (2, vI v2), (3, vI v3), (4, vI v4), (5, vI v5), (6, vI v6), (7, vI v7), (8, vI v8), (9, vI v9), (10, vI v10), (11, vI v11)], [], hp q) eI (Lw_adds_j365 q v1 v2 v3 v4 v5 v6 v7 v8 v9 v10 v11) := by
  unfold Lw_adds_j365
  exact S_run 1 (f' := (0, 0, 366, [(0, vR (some 1)), (1, vI v1), (2, vI v2), (3, vI v3), (4, vI v4), (5, vI v5), (6, vI v6), (7, vI v7), (8, vI v8), (9, vI v9), (10, vI v10), (11, vI v11)], [vI (0 : Int)], hp q)) rfl (T_Lw_adds_j366 q v1 v2 v3 v4 v5 v6 v7 v8 v9 v10 v11 (0 : Int))

def Lw_adds_j227 (q : zM) (v1 : Int) (v2 : Int) (v3 : Int) (v4 : Int) (v5 : Int) (v6 : Int) (v7 : Int) (v8 : Int) (v9 : Int) : Option (Int × zM) :=
  (Ev_count q (0 : Int)).bind fun r_31 =>
    (Ev_addWord q ).bind fun r_32 =>
      if wrap r_32.1 = (-4 : Int) then
        Lw_adds_j254 r_32.2 v1 v2 v3 v4 v5 v6 v7 v8 v9 r_31 r_32.1
      else
        if wrap r_32.1 = (-3 : Int) then
          Lw_adds_j254 r_32.2 v1 v2 v3 v4 v5 v6 v7 v8 v9 r_31 r_32.1
        else
          if wrap r_32.1 = wrap r_31 then
            (Ev_count r_32.2 (0 : Int)).bind fun r_44 =>
              if wrap r_44 = wrap (r_31 + (1 : Int)) then
                (Ev_word r_32.2 r_32.1 (0 : Int)).bind fun r_46 =>
                  if wrap r_46 = wrap v4 then
                    (Ev_word r_32.2 r_32.1 (1 : Int)).bind fun r_48 =>
                      if wrap r_48 = wrap v3 then
                        (Ev_word r_32.2 r_32.1 (2 : Int)).bind fun r_50 =>
                          if wrap r_50 = wrap v5 then
                            (Ev_word r_32.2 r_32.1 (3 : Int)).bind fun r_52 =>
                              if wrap r_52 = wrap v9 then
                                (Ev_word r_32.2 r_32.1 (5 : Int)).bind fun r_54 =>
                                  if wrap r_54 = wrap v7 then
                                    (Ev_word r_32.2 r_32.1 (6 : Int)).bind fun r_56 =>
                                      if wrap r_56 = wrap v8 then
                                        Lw_adds_j366 r_32.2 v1 v2 v3 v4 v5 v6 v7 v8 v9 r_31 r_32.1 (1 : Int)
                                      else
                                        Lw_adds_j365 r_32.2 v1 v2 v3 v4 v5 v6 v7 v8 v9 r_31 r_32.1
                                  else
                                    Lw_adds_j365 r_32.2 v1 v2 v3 v4 v5 v6 v7 v8 v9 r_31 r_32.1
                              else
                                Lw_adds_j365 r_32.2 v1 v2 v3 v4 v5 v6 v7 v8 v9 r_31 r_32.1
                          else
                            Lw_adds_j365 r_32.2 v1 v2 v3 v4 v5 v6 v7 v8 v9 r_31 r_32.1
                      else
                        Lw_adds_j365 r_32.2 v1 v2 v3 v4 v5 v6 v7 v8 v9 r_31 r_32.1
                  else
                    Lw_adds_j365 r_32.2 v1 v2 v3 v4 v5 v6 v7 v8 v9 r_31 r_32.1
              else
                Lw_adds_j365 r_32.2 v1 v2 v3 v4 v5 v6 v7 v8 v9 r_31 r_32.1
          else
            Lw_adds_j365 r_32.2 v1 v2 v3 v4 v5 v6 v7 v8 v9 r_31 r_32.1
set_option maxRecDepth 100000 in
theorem T_Lw_adds_j227 {E : zE} (q : zM) (v1 : Int) (v2 : Int) (v3 : Int) (v4 : Int) (v5 : Int) (v6 : Int) (v7 : Int) (v8 : Int) (v9 : Int) : SimV E 120 (0, 0, 227, [(0, vR (some 1)), (1, vI v1), (2, vI v2), (3, vI v3), (4, vI v4), (5, vI v5), (6, vI v6), (7, vI v7), (8, vI v8), (9, vI v9)], [], hp q) eI (Lw_adds_j227 q v1 v2 v3 v4 v5 v6 v7 v8 v9) := by
  unfold Lw_adds_j227
  exact S_run 2 (f' := (0, 0, 229, [(0, vR (some 1)), (1, vI v1), (2, vI v2), (3, vI v3), (4, vI v4), (5, vI v5), (6, vI v6), (7, vI v7), (8, vI v8), (9, vI v9)], [vI (0 : Int), vR (some 1)], hp q)) rfl (S_call (m' := 109) (args := [vR (some 1), vI (0 : Int)]) (h := hp q) (k := fun r => (0, 0, 232, [(0, vR (some 1)), (1, vI v1), (2, vI v2), (3, vI v3), (4, vI v4), (5, vI v5), (6, vI v6), (7, vI v7), (8, vI v8), (9, vI v9)], r.1.toList ++ [], r.2)) rfl (T_Ev_count q (0 : Int)) (fun r_31 => S_run 2 (f' := (0, 0, 235, [(0, vR (some 1)), (1, vI v1), (2, vI v2), (3, vI v3), (4, vI v4), (5, vI v5), (6, vI v6), (7, vI v7), (8, vI v8), (9, vI v9), (10, vI r_31)], [vR (some 1)], hp q)) rfl (S_call (m' := 92) (args := [vR (some 1)]) (h := hp q) (k := fun r => (0, 0, 238, [(0, vR (some 1)), (1, vI v1), (2, vI v2), (3, vI v3), (4, vI v4), (5, vI v5), (6, vI v6), (7, vI v7), (8, vI v8), (9, vI v9), (10, vI r_31)], r.1.toList ++ [], r.2)) rfl (T_Ev_addWord q ) (fun r_32 => S_run 3 (f' := (0, 0, 244, [(0, vR (some 1)), (1, vI v1), (2, vI v2), (3, vI v3), (4, vI v4), (5, vI v5), (6, vI v6), (7, vI v7), (8, vI v8), (9, vI v9), (10, vI r_31), (11, vI r_32.1)], [vI (-4 : Int), vI r_32.1], hp r_32.2)) rfl (S_ite (fun h_33 => S_go (J_icmp2 rfl rfl wl_m4 (B_eq h_33)) (S_run 0 (f' := (0, 0, 254, [(0, vR (some 1)), (1, vI v1), (2, vI v2), (3, vI v3), (4, vI v4), (5, vI v5), (6, vI v6), (7, vI v7), (8, vI v8), (9, vI v9), (10, vI r_31), (11, vI r_32.1)], [], hp r_32.2)) rfl (T_Lw_adds_j254 r_32.2 v1 v2 v3 v4 v5 v6 v7 v8 v9 r_31 r_32.1))) (fun h_33 => S_go (J_icmp2 rfl rfl wl_m4 (B_eq' h_33)) (S_run 2 (f' := (0, 0, 251, [(0, vR (some 1)), (1, vI v1), (2, vI v2), (3, vI v3), (4, vI v4), (5, vI v5), (6, vI v6), (7, vI v7), (8, vI v8), (9, vI v9), (10, vI r_31), (11, vI r_32.1)], [vI (-3 : Int), vI r_32.1], hp r_32.2)) rfl (S_ite (fun h_36 => S_go (J_icmp2 rfl rfl wl_m3 (B_ne h_36)) (S_run 0 (f' := (0, 0, 254, [(0, vR (some 1)), (1, vI v1), (2, vI v2), (3, vI v3), (4, vI v4), (5, vI v5), (6, vI v6), (7, vI v7), (8, vI v8), (9, vI v9), (10, vI r_31), (11, vI r_32.1)], [], hp r_32.2)) rfl (T_Lw_adds_j254 r_32.2 v1 v2 v3 v4 v5 v6 v7 v8 v9 r_31 r_32.1))) (fun h_36 => S_go (J_icmp2 rfl rfl wl_m3 (B_ne' h_36)) (S_run 2 (f' := (0, 0, 274, [(0, vR (some 1)), (1, vI v1), (2, vI v2), (3, vI v3), (4, vI v4), (5, vI v5), (6, vI v6), (7, vI v7), (8, vI v8), (9, vI v9), (10, vI r_31), (11, vI r_32.1)], [vI r_31, vI r_32.1], hp r_32.2)) rfl (S_ite (fun h_37 => S_go (J_icmp2 rfl rfl rfl (B_ne h_37)) (S_run 2 (f' := (0, 0, 279, [(0, vR (some 1)), (1, vI v1), (2, vI v2), (3, vI v3), (4, vI v4), (5, vI v5), (6, vI v6), (7, vI v7), (8, vI v8), (9, vI v9), (10, vI r_31), (11, vI r_32.1)], [vI (0 : Int), vR (some 1)], hp r_32.2)) rfl (S_call (m' := 109) (args := [vR (some 1), vI (0 : Int)]) (h := hp r_32.2) (k := fun r => (0, 0, 282, [(0, vR (some 1)), (1, vI v1), (2, vI v2), (3, vI v3), (4, vI v4), (5, vI v5), (6, vI v6), (7, vI v7), (8, vI v8), (9, vI v9), (10, vI r_31), (11, vI r_32.1)], r.1.toList ++ [], r.2)) rfl (T_Ev_count r_32.2 (0 : Int)) (fun r_44 => S_run 3 (f' := (0, 0, 286, [(0, vR (some 1)), (1, vI v1), (2, vI v2), (3, vI v3), (4, vI v4), (5, vI v5), (6, vI v6), (7, vI v7), (8, vI v8), (9, vI v9), (10, vI r_31), (11, vI r_32.1)], [vI (r_31 + (1 : Int)), vI r_44], hp r_32.2)) rfl (S_ite (fun h_45 => S_go (J_icmp2 rfl rfl rfl (B_ne h_45)) (S_run 3 (f' := (0, 0, 293, [(0, vR (some 1)), (1, vI v1), (2, vI v2), (3, vI v3), (4, vI v4), (5, vI v5), (6, vI v6), (7, vI v7), (8, vI v8), (9, vI v9), (10, vI r_31), (11, vI r_32.1)], [vI (0 : Int), vI r_32.1, vR (some 1)], hp r_32.2)) rfl (S_call (m' := 102) (args := [vR (some 1), vI r_32.1, vI (0 : Int)]) (h := hp r_32.2) (k := fun r => (0, 0, 296, [(0, vR (some 1)), (1, vI v1), (2, vI v2), (3, vI v3), (4, vI v4), (5, vI v5), (6, vI v6), (7, vI v7), (8, vI v8), (9, vI v9), (10, vI r_31), (11, vI r_32.1)], r.1.toList ++ [], r.2)) rfl (T_Ev_word r_32.2 r_32.1 (0 : Int)) (fun r_46 => S_run 1 (f' := (0, 0, 298, [(0, vR (some 1)), (1, vI v1), (2, vI v2), (3, vI v3), (4, vI v4), (5, vI v5), (6, vI v6), (7, vI v7), (8, vI v8), (9, vI v9), (10, vI r_31), (11, vI r_32.1)], [vI v4, vI r_46], hp r_32.2)) rfl (S_ite (fun h_47 => S_go (J_icmp2 rfl rfl rfl (B_ne h_47)) (S_run 3 (f' := (0, 0, 305, [(0, vR (some 1)), (1, vI v1), (2, vI v2), (3, vI v3), (4, vI v4), (5, vI v5), (6, vI v6), (7, vI v7), (8, vI v8), (9, vI v9), (10, vI r_31), (11, vI r_32.1)], [vI (1 : Int), vI r_32.1, vR (some 1)], hp r_32.2)) rfl (S_call (m' := 102) (args := [vR (some 1), vI r_32.1, vI (1 : Int)]) (h := hp r_32.2) (k := fun r => (0, 0, 308, [(0, vR (some 1)), (1, vI v1), (2, vI v2), (3, vI v3), (4, vI v4), (5, vI v5), (6, vI v6), (7, vI v7), (8, vI v8), (9, vI v9), (10, vI r_31), (11, vI r_32.1)], r.1.toList ++ [], r.2)) rfl (T_Ev_word r_32.2 r_32.1 (1 : Int)) (fun r_48 => S_run 1 (f' := (0, 0, 309, [(0, vR (some 1)), (1, vI v1), (2, vI v2), (3, vI v3), (4, vI v4), (5, vI v5), (6, vI v6), (7, vI v7), (8, vI v8), (9, vI v9), (10, vI r_31), (11, vI r_32.1)], [vI v3, vI r_48], hp r_32.2)) rfl (S_ite (fun h_49 => S_go (J_icmp2 rfl rfl rfl (B_ne h_49)) (S_run 3 (f' := (0, 0, 316, [(0, vR (some 1)), (1, vI v1), (2, vI v2), (3, vI v3), (4, vI v4), (5, vI v5), (6, vI v6), (7, vI v7), (8, vI v8), (9, vI v9), (10, vI r_31), (11, vI r_32.1)], [vI (2 : Int), vI r_32.1, vR (some 1)], hp r_32.2)) rfl (S_call (m' := 102) (args := [vR (some 1), vI r_32.1, vI (2 : Int)]) (h := hp r_32.2) (k := fun r => (0, 0, 319, [(0, vR (some 1)), (1, vI v1), (2, vI v2), (3, vI v3), (4, vI v4), (5, vI v5), (6, vI v6), (7, vI v7), (8, vI v8), (9, vI v9), (10, vI r_31), (11, vI r_32.1)], r.1.toList ++ [], r.2)) rfl (T_Ev_word r_32.2 r_32.1 (2 : Int)) (fun r_50 => S_run 1 (f' := (0, 0, 321, [(0, vR (some 1)), (1, vI v1), (2, vI v2), (3, vI v3), (4, vI v4), (5, vI v5), (6, vI v6), (7, vI v7), (8, vI v8), (9, vI v9), (10, vI r_31), (11, vI r_32.1)], [vI v5, vI r_50], hp r_32.2)) rfl (S_ite (fun h_51 => S_go (J_icmp2 rfl rfl rfl (B_ne h_51)) (S_run 3 (f' := (0, 0, 328, [(0, vR (some 1)), (1, vI v1), (2, vI v2), (3, vI v3), (4, vI v4), (5, vI v5), (6, vI v6), (7, vI v7), (8, vI v8), (9, vI v9), (10, vI r_31), (11, vI r_32.1)], [vI (3 : Int), vI r_32.1, vR (some 1)], hp r_32.2)) rfl (S_call (m' := 102) (args := [vR (some 1), vI r_32.1, vI (3 : Int)]) (h := hp r_32.2) (k := fun r => (0, 0, 331, [(0, vR (some 1)), (1, vI v1), (2, vI v2), (3, vI v3), (4, vI v4), (5, vI v5), (6, vI v6), (7, vI v7), (8, vI v8), (9, vI v9), (10, vI r_31), (11, vI r_32.1)], r.1.toList ++ [], r.2)) rfl (T_Ev_word r_32.2 r_32.1 (3 : Int)) (fun r_52 => S_run 1 (f' := (0, 0, 333, [(0, vR (some 1)), (1, vI v1), (2, vI v2), (3, vI v3), (4, vI v4), (5, vI v5), (6, vI v6), (7, vI v7), (8, vI v8), (9, vI v9), (10, vI r_31), (11, vI r_32.1)], [vI v9, vI r_52], hp r_32.2)) rfl (S_ite (fun h_53 => S_go (J_icmp2 rfl rfl rfl (B_ne h_53)) (S_run 3 (f' := (0, 0, 340, [(0, vR (some 1)), (1, vI v1), (2, vI v2), (3, vI v3), (4, vI v4), (5, vI v5), (6, vI v6), (7, vI v7), (8, vI v8), (9, vI v9), (10, vI r_31), (11, vI r_32.1)], [vI (5 : Int), vI r_32.1, vR (some 1)], hp r_32.2)) rfl (S_call (m' := 102) (args := [vR (some 1), vI r_32.1, vI (5 : Int)]) (h := hp r_32.2) (k := fun r => (0, 0, 343, [(0, vR (some 1)), (1, vI v1), (2, vI v2), (3, vI v3), (4, vI v4), (5, vI v5), (6, vI v6), (7, vI v7), (8, vI v8), (9, vI v9), (10, vI r_31), (11, vI r_32.1)], r.1.toList ++ [], r.2)) rfl (T_Ev_word r_32.2 r_32.1 (5 : Int)) (fun r_54 => S_run 1 (f' := (0, 0, 345, [(0, vR (some 1)), (1, vI v1), (2, vI v2), (3, vI v3), (4, vI v4), (5, vI v5), (6, vI v6), (7, vI v7), (8, vI v8), (9, vI v9), (10, vI r_31), (11, vI r_32.1)], [vI v7, vI r_54], hp r_32.2)) rfl (S_ite (fun h_55 => S_go (J_icmp2 rfl rfl rfl (B_ne h_55)) (S_run 3 (f' := (0, 0, 353, [(0, vR (some 1)), (1, vI v1), (2, vI v2), (3, vI v3), (4, vI v4), (5, vI v5), (6, vI v6), (7, vI v7), (8, vI v8), (9, vI v9), (10, vI r_31), (11, vI r_32.1)], [vI (6 : Int), vI r_32.1, vR (some 1)], hp r_32.2)) rfl (S_call (m' := 102) (args := [vR (some 1), vI r_32.1, vI (6 : Int)]) (h := hp r_32.2) (k := fun r => (0, 0, 356, [(0, vR (some 1)), (1, vI v1), (2, vI v2), (3, vI v3), (4, vI v4), (5, vI v5), (6, vI v6), (7, vI v7), (8, vI v8), (9, vI v9), (10, vI r_31), (11, vI r_32.1)], r.1.toList ++ [], r.2)) rfl (T_Ev_word r_32.2 r_32.1 (6 : Int)) (fun r_56 => S_run 1 (f' := (0, 0, 358, [(0, vR (some 1)), (1, vI v1), (2, vI v2), (3, vI v3), (4, vI v4), (5, vI v5), (6, vI v6), (7, vI v7), (8, vI v8), (9, vI v9), (10, vI r_31), (11, vI r_32.1)], [vI v8, vI r_56], hp r_32.2)) rfl (S_ite (fun h_57 => S_go (J_icmp2 rfl rfl rfl (B_ne h_57)) (S_run 2 (f' := (0, 0, 366, [(0, vR (some 1)), (1, vI v1), (2, vI v2), (3, vI v3), (4, vI v4), (5, vI v5), (6, vI v6), (7, vI v7), (8, vI v8), (9, vI v9), (10, vI r_31), (11, vI r_32.1)], [vI (1 : Int)], hp r_32.2)) rfl (T_Lw_adds_j366 r_32.2 v1 v2 v3 v4 v5 v6 v7 v8 v9 r_31 r_32.1 (1 : Int)))) (fun h_57 => S_go (J_icmp2 rfl rfl rfl (B_ne' h_57)) (S_run 0 (f' := (0, 0, 365, [(0, vR (some 1)), (1, vI v1), (2, vI v2), (3, vI v3), (4, vI v4), (5, vI v5), (6, vI v6), (7, vI v7), (8, vI v8), (9, vI v9), (10, vI r_31), (11, vI r_32.1)], [], hp r_32.2)) rfl (T_Lw_adds_j365 r_32.2 v1 v2 v3 v4 v5 v6 v7 v8 v9 r_31 r_32.1)))))))) (fun h_55 => S_go (J_icmp2 rfl rfl rfl (B_ne' h_55)) (S_run 0 (f' := (0, 0, 365, [(0, vR (some 1)), (1, vI v1), (2, vI v2), (3, vI v3), (4, vI v4), (5, vI v5), (6, vI v6), (7, vI v7), (8, vI v8), (9, vI v9), (10, vI r_31), (11, vI r_32.1)], [], hp r_32.2)) rfl (T_Lw_adds_j365 r_32.2 v1 v2 v3 v4 v5 v6 v7 v8 v9 r_31 r_32.1)))))))) (fun h_53 => S_go (J_icmp2 rfl rfl rfl (B_ne' h_53)) (S_run 0 (f' := (0, 0, 365, [(0, vR (some 1)), (1, vI v1), (2, vI v2), (3, vI v3), (4, vI v4), (5, vI v5), (6, vI v6), (7, vI v7), (8, vI v8), (9, vI v9), (10, vI r_31), (11, vI r_32.1)], [], hp r_32.2)) rfl (T_Lw_adds_j365 r_32.2 v1 v2 v3 v4 v5 v6 v7 v8 v9 r_31 r_32.1)))))))) (fun h_51 => S_go (J_icmp2 rfl rfl rfl (B_ne' h_51)) (S_run 0 (f' := (0, 0, 365, [(0, vR (some 1)), (1, vI v1), (2, vI v2), (3, vI v3), (4, vI v4), (5, vI v5), (6, vI v6), (7, vI v7), (8, vI v8), (9, vI v9), (10, vI r_31), (11, vI r_32.1)], [], hp r_32.2)) rfl (T_Lw_adds_j365 r_32.2 v1 v2 v3 v4 v5 v6 v7 v8 v9 r_31 r_32.1)))))))) (fun h_49 => S_go (J_icmp2 rfl rfl rfl (B_ne' h_49)) (S_run 0 (f' := (0, 0, 365, [(0, vR (some 1)), (1, vI v1), (2, vI v2), (3, vI v3), (4, vI v4), (5, vI v5), (6, vI v6), (7, vI v7), (8, vI v8), (9, vI v9), (10, vI r_31), (11, vI r_32.1)], [], hp r_32.2)) rfl (T_Lw_adds_j365 r_32.2 v1 v2 v3 v4 v5 v6 v7 v8 v9 r_31 r_32.1)))))))) (fun h_47 => S_go (J_icmp2 rfl rfl rfl (B_ne' h_47)) (S_run 0 (f' := (0, 0, 365, [(0, vR (some 1)), (1, vI v1), (2, vI v2), (3, vI v3), (4, vI v4), (5, vI v5), (6, vI v6), (7, vI v7), (8, vI v8), (9, vI v9), (10, vI r_31), (11, vI r_32.1)], [], hp r_32.2)) rfl (T_Lw_adds_j365 r_32.2 v1 v2 v3 v4 v5 v6 v7 v8 v9 r_31 r_32.1)))))))) (fun h_45 => S_go (J_icmp2 rfl rfl rfl (B_ne' h_45)) (S_run 0 (f' := (0, 0, 365, [(0, vR (some 1)), (1, vI v1), (2, vI v2), (3, vI v3), (4, vI v4), (5, vI v5), (6, vI v6), (7, vI v7), (8, vI v8), (9, vI v9), (10, vI r_31), (11, vI r_32.1)], [], hp r_32.2)) rfl (T_Lw_adds_j365 r_32.2 v1 v2 v3 v4 v5 v6 v7 v8 v9 r_31 r_32.1)))))))) (fun h_37 => S_go (J_icmp2 rfl rfl rfl (B_ne' h_37)) (S_run 0 (f' := (0, 0, 365, [(0, vR (some 1)), (1, vI v1), (2, vI v2), (3, vI v3), (4, vI v4), (5, vI v5), (6, vI v6), (7, vI v7), (8, vI v8), (9, vI v9), (10, vI r_31), (11, vI r_32.1)], [], hp r_32.2)) rfl (T_Lw_adds_j365 r_32.2 v1 v2 v3 v4 v5 v6 v7 v8 v9 r_31 r_32.1))))))))))))))

def Lw_adds (q : zM) (v1 : Int) (v2 : Int) : Option (Int × zM) :=
  (Ev_clearText q ).bind fun r_1 =>
    (Lw_low r_1.2 v1 (3 : Int)).bind fun r_2 =>
      Lw_adds_L31 v1 v2 ((1 : Int) + r_2) (fun v4_22 v5_23 v6_24 v7_25 v8_26 v9_27 q_28 => 
        (Lw_low q_28 (wshr v1 (7 : Int)) (3 : Int)).bind fun r_29 =>
          if (1 : Int) < wrap ((1 : Int) + r_29) then
            (Ev_type q_28 (42 : Int)).bind fun r_58 =>
              (Ev_addWord r_58.2 ).bind fun r_59 =>
                if wrap r_59.1 = wrap ((-100 : Int) - r_58.1) then
                  (Ev_type r_59.2 (((48 : Int) + ((1 : Int) + r_29)) % 65536)).bind fun r_61 =>
                    Lw_adds_j227 r_61.2 v1 v2 ((1 : Int) + r_2) v4_22 v5_23 r_58.1 v7_25 v8_26 ((1 : Int) + r_29)
                else
                  some ((0 : Int), r_59.2)
          else
            Lw_adds_j227 q_28 v1 v2 ((1 : Int) + r_2) v4_22 v5_23 v6_24 v7_25 v8_26 ((1 : Int) + r_29)) 5000 (0 : Int) (0 : Int) (0 : Int) (0 : Int) (0 : Int) (0 : Int) r_1.2
set_option maxRecDepth 100000 in
theorem T_Lw_adds {E : zE} (q : zM) (v1 : Int) (v2 : Int) : SimV E 120 (entF [vR (some 1), vI v1, vI v2] (hp q)) eI (Lw_adds q v1 v2) := by
  unfold Lw_adds
  exact S_run 0 (f' := (0, 0, 0, [(0, vR (some 1)), (1, vI v1), (2, vI v2)], [], hp q)) rfl (S_run 1 (f' := (0, 0, 1, [(0, vR (some 1)), (1, vI v1), (2, vI v2)], [vR (some 1)], hp q)) rfl (S_call (m' := 91) (args := [vR (some 1)]) (h := hp q) (k := fun r => (0, 0, 4, [(0, vR (some 1)), (1, vI v1), (2, vI v2)], r.1.toList ++ [], r.2)) rfl (T_Ev_clearText q ) (fun r_1 => S_run 4 (f' := (0, 0, 8, [(0, vR (some 1)), (1, vI v1), (2, vI v2)], [vI (3 : Int), vI v1, vI (1 : Int)], hp r_1.2)) rfl (S_call (m' := 112) (args := [vI v1, vI (3 : Int)]) (h := hp r_1.2) (k := fun r => (0, 0, 11, [(0, vR (some 1)), (1, vI v1), (2, vI v2)], r.1.toList ++ [vI (1 : Int)], r.2)) rfl (T_Lw_low r_1.2 v1 (3 : Int)) (fun r_2 => S_run 14 (f' := (0, 0, 31, [(0, vR (some 1)), (1, vI v1), (2, vI v2), (3, vI ((1 : Int) + r_2)), (4, vI (0 : Int)), (5, vI (0 : Int)), (6, vI (0 : Int)), (7, vI (0 : Int)), (8, vI (0 : Int)), (9, vI (0 : Int))], [], hp r_1.2)) rfl (T_Lw_adds_L31 v1 v2 ((1 : Int) + r_2) (fun v4_22 v5_23 v6_24 v7_25 v8_26 v9_27 q_28 => S_run 5 (f' := (0, 0, 182, [(0, vR (some 1)), (1, vI v1), (2, vI v2), (3, vI ((1 : Int) + r_2)), (4, vI v4_22), (5, vI v5_23), (6, vI v6_24), (7, vI v7_25), (8, vI v8_26), (9, vI v9_27)], [vI (3 : Int), vI (wshr v1 (7 : Int)), vI (1 : Int)], hp q_28)) rfl (S_call (m' := 112) (args := [vI (wshr v1 (7 : Int)), vI (3 : Int)]) (h := hp q_28) (k := fun r => (0, 0, 185, [(0, vR (some 1)), (1, vI v1), (2, vI v2), (3, vI ((1 : Int) + r_2)), (4, vI v4_22), (5, vI v5_23), (6, vI v6_24), (7, vI v7_25), (8, vI v8_26), (9, vI v9_27)], r.1.toList ++ [vI (1 : Int)], r.2)) rfl (T_Lw_low q_28 (wshr v1 (7 : Int)) (3 : Int)) (fun r_29 => S_run 4 (f' := (0, 0, 191, [(0, vR (some 1)), (1, vI v1), (2, vI v2), (3, vI ((1 : Int) + r_2)), (4, vI v4_22), (5, vI v5_23), (6, vI v6_24), (7, vI v7_25), (8, vI v8_26), (9, vI ((1 : Int) + r_29))], [vI (1 : Int), vI ((1 : Int) + r_29)], hp q_28)) rfl (S_ite (fun h_30 => S_go (J_icmp2 rfl rfl wl_1 (B_le h_30)) (S_run 2 (f' := (0, 0, 197, [(0, vR (some 1)), (1, vI v1), (2, vI v2), (3, vI ((1 : Int) + r_2)), (4, vI v4_22), (5, vI v5_23), (6, vI v6_24), (7, vI v7_25), (8, vI v8_26), (9, vI ((1 : Int) + r_29))], [vI (42 : Int), vR (some 1)], hp q_28)) rfl (S_call (m' := 90) (args := [vR (some 1), vI (42 : Int)]) (h := hp q_28) (k := fun r => (0, 0, 200, [(0, vR (some 1)), (1, vI v1), (2, vI v2), (3, vI ((1 : Int) + r_2)), (4, vI v4_22), (5, vI v5_23), (6, vI v6_24), (7, vI v7_25), (8, vI v8_26), (9, vI ((1 : Int) + r_29))], r.1.toList ++ [], r.2)) rfl (T_Ev_type q_28 (42 : Int)) (fun r_58 => S_run 2 (f' := (0, 0, 203, [(0, vR (some 1)), (1, vI v1), (2, vI v2), (3, vI ((1 : Int) + r_2)), (4, vI v4_22), (5, vI v5_23), (6, vI r_58.1), (7, vI v7_25), (8, vI v8_26), (9, vI ((1 : Int) + r_29))], [vR (some 1)], hp r_58.2)) rfl (S_call (m' := 92) (args := [vR (some 1)]) (h := hp r_58.2) (k := fun r => (0, 0, 206, [(0, vR (some 1)), (1, vI v1), (2, vI v2), (3, vI ((1 : Int) + r_2)), (4, vI v4_22), (5, vI v5_23), (6, vI r_58.1), (7, vI v7_25), (8, vI v8_26), (9, vI ((1 : Int) + r_29))], r.1.toList ++ [], r.2)) rfl (T_Ev_addWord r_58.2 ) (fun r_59 => S_run 3 (f' := (0, 0, 211, [(0, vR (some 1)), (1, vI v1), (2, vI v2), (3, vI ((1 : Int) + r_2)), (4, vI v4_22), (5, vI v5_23), (6, vI r_58.1), (7, vI v7_25), (8, vI v8_26), (9, vI ((1 : Int) + r_29))], [vI ((-100 : Int) - r_58.1), vI r_59.1], hp r_59.2)) rfl (S_ite (fun h_60 => S_go (J_icmp2 rfl rfl rfl (B_eq h_60)) (S_run 5 (f' := (0, 0, 223, [(0, vR (some 1)), (1, vI v1), (2, vI v2), (3, vI ((1 : Int) + r_2)), (4, vI v4_22), (5, vI v5_23), (6, vI r_58.1), (7, vI v7_25), (8, vI v8_26), (9, vI ((1 : Int) + r_29))], [vI (((48 : Int) + ((1 : Int) + r_29)) % 65536), vR (some 1)], hp r_59.2)) rfl (S_call (m' := 90) (args := [vR (some 1), vI (((48 : Int) + ((1 : Int) + r_29)) % 65536)]) (h := hp r_59.2) (k := fun r => (0, 0, 226, [(0, vR (some 1)), (1, vI v1), (2, vI v2), (3, vI ((1 : Int) + r_2)), (4, vI v4_22), (5, vI v5_23), (6, vI r_58.1), (7, vI v7_25), (8, vI v8_26), (9, vI ((1 : Int) + r_29))], r.1.toList ++ [], r.2)) rfl (T_Ev_type r_59.2 (((48 : Int) + ((1 : Int) + r_29)) % 65536)) (fun r_61 => S_run 1 (f' := (0, 0, 227, [(0, vR (some 1)), (1, vI v1), (2, vI v2), (3, vI ((1 : Int) + r_2)), (4, vI v4_22), (5, vI v5_23), (6, vI r_58.1), (7, vI v7_25), (8, vI v8_26), (9, vI ((1 : Int) + r_29))], [], hp r_61.2)) rfl (T_Lw_adds_j227 r_61.2 v1 v2 ((1 : Int) + r_2) v4_22 v5_23 r_58.1 v7_25 v8_26 ((1 : Int) + r_29)))))) (fun h_60 => S_go (J_icmp2 rfl rfl rfl (B_eq' h_60)) (S_run 1 (f' := (0, 0, 215, [(0, vR (some 1)), (1, vI v1), (2, vI v2), (3, vI ((1 : Int) + r_2)), (4, vI v4_22), (5, vI v5_23), (6, vI r_58.1), (7, vI v7_25), (8, vI v8_26), (9, vI ((1 : Int) + r_29))], [vI (0 : Int)], hp r_59.2)) rfl (S_ret rfl)))))))))) (fun h_30 => S_go (J_icmp2 rfl rfl wl_1 (B_le' h_30)) (S_run 0 (f' := (0, 0, 227, [(0, vR (some 1)), (1, vI v1), (2, vI v2), (3, vI ((1 : Int) + r_2)), (4, vI v4_22), (5, vI v5_23), (6, vI v6_24), (7, vI v7_25), (8, vI v8_26), (9, vI ((1 : Int) + r_29))], [], hp q_28)) rfl (T_Lw_adds_j227 q_28 v1 v2 ((1 : Int) + r_2) v4_22 v5_23 v6_24 v7_25 v8_26 ((1 : Int) + r_29)))))))) 5000 (0 : Int) (0 : Int) (0 : Int) (0 : Int) (0 : Int) (0 : Int) r_1.2))))))

def Lw_edges_j50 (q : zM) (v1 : Int) (v2 : Int) (v3 : Int) (v4 : Int) (s1 : Int) (K R : Int → zM → Option (Int × zM)) : Option (Int × zM) :=
  (Ev_type q s1).bind fun r_6 =>
    if wrap v4 < wrap ((2 : Int) * v3) then
      if wrap v4 = (0 : Int) then
        R (v4 + 1) r_6.2
      else
        (Ev_setEdges r_6.2 ).bind fun r_9 =>
          if wrap r_9.1 = (-4 : Int) then
            R (v4 + 1) r_9.2
          else
            some ((0 : Int), r_9.2)
    else
      R (v4 + 1) r_6.2
set_option maxRecDepth 100000 in
theorem T_Lw_edges_j50 {E : zE} (q : zM) (v1 : Int) (v2 : Int) (v3 : Int) (v4 : Int) (s1 : Int) {K R : Int → zM → Option (Int × zM)} (hK : ∀ (v4 : Int) (q : zM), SimV E 122 (0, 0, 84, [(0, vR (some 1)), (1, vI v1), (2, vI v2), (3, vI v3), (4, vI v4)], [], hp q) eI (K v4 q)) (hR : ∀ (v4 : Int) (q : zM), SimV E 122 (0, 0, 16, [(0, vR (some 1)), (1, vI v1), (2, vI v2), (3, vI v3), (4, vI v4)], [], hp q) eI (R v4 q)) : SimV E 122 (0, 0, 50, [(0, vR (some 1)), (1, vI v1), (2, vI v2), (3, vI v3), (4, vI v4)], [vI s1, vR (some 1)], hp q) eI (Lw_edges_j50 q v1 v2 v3 v4 s1 K R) := by
  unfold Lw_edges_j50
  exact S_run 0 (f' := (0, 0, 50, [(0, vR (some 1)), (1, vI v1), (2, vI v2), (3, vI v3), (4, vI v4)], [vI s1, vR (some 1)], hp q)) rfl (S_call (m' := 90) (args := [vR (some 1), vI s1]) (h := hp q) (k := fun r => (0, 0, 53, [(0, vR (some 1)), (1, vI v1), (2, vI v2), (3, vI v3), (4, vI v4)], r.1.toList ++ [], r.2)) rfl (T_Ev_type q s1) (fun r_6 => S_run 5 (f' := (0, 0, 59, [(0, vR (some 1)), (1, vI v1), (2, vI v2), (3, vI v3), (4, vI v4)], [vI ((2 : Int) * v3), vI v4], hp r_6.2)) rfl (S_ite (fun h_7 => S_go (J_icmp2 rfl rfl rfl (B_ge h_7)) (S_run 1 (f' := (0, 0, 64, [(0, vR (some 1)), (1, vI v1), (2, vI v2), (3, vI v3), (4, vI v4)], [vI v4], hp r_6.2)) rfl (S_ite (fun h_8 => S_go (J_if2 rfl rfl (B_eq h_8)) (S_run 2 (f' := (0, 0, 16, [(0, vR (some 1)), (1, vI v1), (2, vI v2), (3, vI v3), (4, vI (v4 + 1))], [], hp r_6.2)) rfl (hR (v4 + 1) r_6.2))) (fun h_8 => S_go (J_if2 rfl rfl (B_eq' h_8)) (S_run 1 (f' := (0, 0, 68, [(0, vR (some 1)), (1, vI v1), (2, vI v2), (3, vI v3), (4, vI v4)], [vR (some 1)], hp r_6.2)) rfl (S_call (m' := 96) (args := [vR (some 1)]) (h := hp r_6.2) (k := fun r => (0, 0, 71, [(0, vR (some 1)), (1, vI v1), (2, vI v2), (3, vI v3), (4, vI v4)], r.1.toList ++ [], r.2)) rfl (T_Ev_setEdges r_6.2 ) (fun r_9 => S_run 1 (f' := (0, 0, 73, [(0, vR (some 1)), (1, vI v1), (2, vI v2), (3, vI v3), (4, vI v4)], [vI (-4 : Int), vI r_9.1], hp r_9.2)) rfl (S_ite (fun h_10 => S_go (J_icmp2 rfl rfl wl_m4 (B_eq h_10)) (S_run 2 (f' := (0, 0, 16, [(0, vR (some 1)), (1, vI v1), (2, vI v2), (3, vI v3), (4, vI (v4 + 1))], [], hp r_9.2)) rfl (hR (v4 + 1) r_9.2))) (fun h_10 => S_go (J_icmp2 rfl rfl wl_m4 (B_eq' h_10)) (S_run 1 (f' := (0, 0, 77, [(0, vR (some 1)), (1, vI v1), (2, vI v2), (3, vI v3), (4, vI v4)], [vI (0 : Int)], hp r_9.2)) rfl (S_ret rfl))))))))))) (fun h_7 => S_go (J_icmp2 rfl rfl rfl (B_ge' h_7)) (S_run 2 (f' := (0, 0, 16, [(0, vR (some 1)), (1, vI v1), (2, vI v2), (3, vI v3), (4, vI (v4 + 1))], [], hp r_6.2)) rfl (hR (v4 + 1) r_6.2))))))

def Lw_edges_L16 (v1 : Int) (v2 : Int) (v3 : Int) (K : Int → zM → Option (Int × zM)) : Nat → Int → zM → Option (Int × zM)
  | 0, _, _ => none
  | n + 1, v4, q =>
    if wrap v4 < wrap (((2 : Int) * v3) + (1 : Int)) then
      if wrap v4 = wrap v3 then
        Lw_edges_j50 q v1 v2 v3 v4 (47 : Int) K (Lw_edges_L16 v1 v2 v3 K n)
      else
        (Lw_low q (wshr v2 v4) (4 : Int)).bind fun r_5 =>
          Lw_edges_j50 q v1 v2 v3 v4 (((97 : Int) + r_5) % 65536) K (Lw_edges_L16 v1 v2 v3 K n)
    else
      K v4 q
set_option maxRecDepth 100000 in
theorem T_Lw_edges_L16 {E : zE} (v1 : Int) (v2 : Int) (v3 : Int) {K : Int → zM → Option (Int × zM)} (hK : ∀ (v4 : Int) (q : zM), SimV E 122 (0, 0, 84, [(0, vR (some 1)), (1, vI v1), (2, vI v2), (3, vI v3), (4, vI v4)], [], hp q) eI (K v4 q)) : ∀ (n : Nat) (v4 : Int) (q : zM), SimV E 122 (0, 0, 16, [(0, vR (some 1)), (1, vI v1), (2, vI v2), (3, vI v3), (4, vI v4)], [], hp q) eI (Lw_edges_L16 v1 v2 v3 K n v4 q) := by
  intro n
  induction n with
  | zero => intro _ _; exact S_none
  | succ n ih =>
    intro v4 q
    rw [Lw_edges_L16]
    exact S_run 6 (f' := (0, 0, 23, [(0, vR (some 1)), (1, vI v1), (2, vI v2), (3, vI v3), (4, vI v4)], [vI (((2 : Int) * v3) + (1 : Int)), vI v4], hp q)) rfl (S_ite (fun h_3 => S_go (J_icmp2 rfl rfl rfl (B_ge h_3)) (S_run 3 (f' := (0, 0, 30, [(0, vR (some 1)), (1, vI v1), (2, vI v2), (3, vI v3), (4, vI v4)], [vI v3, vI v4, vR (some 1)], hp q)) rfl (S_ite (fun h_4 => S_go (J_icmp2 rfl rfl rfl (B_ne h_4)) (S_run 2 (f' := (0, 0, 50, [(0, vR (some 1)), (1, vI v1), (2, vI v2), (3, vI v3), (4, vI v4)], [vI (47 : Int), vR (some 1)], hp q)) rfl (T_Lw_edges_j50 q v1 v2 v3 v4 (47 : Int) hK (ih)))) (fun h_4 => S_go (J_icmp2 rfl rfl rfl (B_ne' h_4)) (S_run 5 (f' := (0, 0, 45, [(0, vR (some 1)), (1, vI v1), (2, vI v2), (3, vI v3), (4, vI v4)], [vI (4 : Int), vI (wshr v2 v4), vI (97 : Int), vR (some 1)], hp q)) rfl (S_call (m' := 112) (args := [vI (wshr v2 v4), vI (4 : Int)]) (h := hp q) (k := fun r => (0, 0, 48, [(0, vR (some 1)), (1, vI v1), (2, vI v2), (3, vI v3), (4, vI v4)], r.1.toList ++ [vI (97 : Int), vR (some 1)], r.2)) rfl (T_Lw_low q (wshr v2 v4) (4 : Int)) (fun r_5 => S_run 2 (f' := (0, 0, 50, [(0, vR (some 1)), (1, vI v1), (2, vI v2), (3, vI v3), (4, vI v4)], [vI (((97 : Int) + r_5) % 65536), vR (some 1)], hp q)) rfl (T_Lw_edges_j50 q v1 v2 v3 v4 (((97 : Int) + r_5) % 65536) hK (ih))))))))) (fun h_3 => S_go (J_icmp2 rfl rfl rfl (B_ge' h_3)) (S_run 0 (f' := (0, 0, 84, [(0, vR (some 1)), (1, vI v1), (2, vI v2), (3, vI v3), (4, vI v4)], [], hp q)) rfl (hK v4 q))))

def Lw_edges_L114 (v1 : Int) (v2 : Int) (v3 : Int) (K : Int → zM → Option (Int × zM)) : Nat → Int → zM → Option (Int × zM)
  | 0, _, _ => none
  | n + 1, v4, q =>
    if wrap v4 < wrap v3 then
      (Ev_line q v4 (3 : Int)).bind fun r_20 =>
        (Lw_low r_20.2 (wshr v2 v4) (4 : Int)).bind fun r_21 =>
          if wrap r_20.1 = wrap ((97 : Int) + r_21) then
            (Ev_line r_20.2 v4 (4 : Int)).bind fun r_23 =>
              (Lw_low r_23.2 (wshr v2 ((v3 + (1 : Int)) + v4)) (4 : Int)).bind fun r_24 =>
                if wrap r_23.1 = wrap ((97 : Int) + r_24) then
                  Lw_edges_L114 v1 v2 v3 K n (v4 + 1) r_23.2
                else
                  some ((0 : Int), r_23.2)
          else
            some ((0 : Int), r_20.2)
    else
      K v4 q
set_option maxRecDepth 100000 in
theorem T_Lw_edges_L114 {E : zE} (v1 : Int) (v2 : Int) (v3 : Int) {K : Int → zM → Option (Int × zM)} (hK : ∀ (v4 : Int) (q : zM), SimV E 122 (0, 0, 174, [(0, vR (some 1)), (1, vI v1), (2, vI v2), (3, vI v3), (4, vI v4)], [], hp q) eI (K v4 q)) : ∀ (n : Nat) (v4 : Int) (q : zM), SimV E 122 (0, 0, 114, [(0, vR (some 1)), (1, vI v1), (2, vI v2), (3, vI v3), (4, vI v4)], [], hp q) eI (Lw_edges_L114 v1 v2 v3 K n v4 q) := by
  intro n
  induction n with
  | zero => intro _ _; exact S_none
  | succ n ih =>
    intro v4 q
    rw [Lw_edges_L114]
    exact S_run 2 (f' := (0, 0, 117, [(0, vR (some 1)), (1, vI v1), (2, vI v2), (3, vI v3), (4, vI v4)], [vI v3, vI v4], hp q)) rfl (S_ite (fun h_19 => S_go (J_icmp2 rfl rfl rfl (B_ge h_19)) (S_run 3 (f' := (0, 0, 124, [(0, vR (some 1)), (1, vI v1), (2, vI v2), (3, vI v3), (4, vI v4)], [vI (3 : Int), vI v4, vR (some 1)], hp q)) rfl (S_call (m' := 104) (args := [vR (some 1), vI v4, vI (3 : Int)]) (h := hp q) (k := fun r => (0, 0, 127, [(0, vR (some 1)), (1, vI v1), (2, vI v2), (3, vI v3), (4, vI v4)], r.1.toList ++ [], r.2)) rfl (T_Ev_line q v4 (3 : Int)) (fun r_20 => S_run 5 (f' := (0, 0, 134, [(0, vR (some 1)), (1, vI v1), (2, vI v2), (3, vI v3), (4, vI v4)], [vI (4 : Int), vI (wshr v2 v4), vI (97 : Int), vI r_20.1], hp r_20.2)) rfl (S_call (m' := 112) (args := [vI (wshr v2 v4), vI (4 : Int)]) (h := hp r_20.2) (k := fun r => (0, 0, 137, [(0, vR (some 1)), (1, vI v1), (2, vI v2), (3, vI v3), (4, vI v4)], r.1.toList ++ [vI (97 : Int), vI r_20.1], r.2)) rfl (T_Lw_low r_20.2 (wshr v2 v4) (4 : Int)) (fun r_21 => S_run 1 (f' := (0, 0, 138, [(0, vR (some 1)), (1, vI v1), (2, vI v2), (3, vI v3), (4, vI v4)], [vI ((97 : Int) + r_21), vI r_20.1], hp r_20.2)) rfl (S_ite (fun h_22 => S_go (J_icmp2 rfl rfl rfl (B_ne h_22)) (S_run 3 (f' := (0, 0, 145, [(0, vR (some 1)), (1, vI v1), (2, vI v2), (3, vI v3), (4, vI v4)], [vI (4 : Int), vI v4, vR (some 1)], hp r_20.2)) rfl (S_call (m' := 104) (args := [vR (some 1), vI v4, vI (4 : Int)]) (h := hp r_20.2) (k := fun r => (0, 0, 148, [(0, vR (some 1)), (1, vI v1), (2, vI v2), (3, vI v3), (4, vI v4)], r.1.toList ++ [], r.2)) rfl (T_Ev_line r_20.2 v4 (4 : Int)) (fun r_23 => S_run 9 (f' := (0, 0, 159, [(0, vR (some 1)), (1, vI v1), (2, vI v2), (3, vI v3), (4, vI v4)], [vI (4 : Int), vI (wshr v2 ((v3 + (1 : Int)) + v4)), vI (97 : Int), vI r_23.1], hp r_23.2)) rfl (S_call (m' := 112) (args := [vI (wshr v2 ((v3 + (1 : Int)) + v4)), vI (4 : Int)]) (h := hp r_23.2) (k := fun r => (0, 0, 162, [(0, vR (some 1)), (1, vI v1), (2, vI v2), (3, vI v3), (4, vI v4)], r.1.toList ++ [vI (97 : Int), vI r_23.1], r.2)) rfl (T_Lw_low r_23.2 (wshr v2 ((v3 + (1 : Int)) + v4)) (4 : Int)) (fun r_24 => S_run 1 (f' := (0, 0, 163, [(0, vR (some 1)), (1, vI v1), (2, vI v2), (3, vI v3), (4, vI v4)], [vI ((97 : Int) + r_24), vI r_23.1], hp r_23.2)) rfl (S_ite (fun h_25 => S_go (J_icmp2 rfl rfl rfl (B_eq h_25)) (S_run 2 (f' := (0, 0, 114, [(0, vR (some 1)), (1, vI v1), (2, vI v2), (3, vI v3), (4, vI (v4 + 1))], [], hp r_23.2)) rfl (ih (v4 + 1) r_23.2))) (fun h_25 => S_go (J_icmp2 rfl rfl rfl (B_eq' h_25)) (S_run 1 (f' := (0, 0, 167, [(0, vR (some 1)), (1, vI v1), (2, vI v2), (3, vI v3), (4, vI v4)], [vI (0 : Int)], hp r_23.2)) rfl (S_ret rfl)))))))))) (fun h_22 => S_go (J_icmp2 rfl rfl rfl (B_ne' h_22)) (S_run 1 (f' := (0, 0, 167, [(0, vR (some 1)), (1, vI v1), (2, vI v2), (3, vI v3), (4, vI v4)], [vI (0 : Int)], hp r_20.2)) rfl (S_ret rfl)))))))))) (fun h_19 => S_go (J_icmp2 rfl rfl rfl (B_ge' h_19)) (S_run 0 (f' := (0, 0, 174, [(0, vR (some 1)), (1, vI v1), (2, vI v2), (3, vI v3), (4, vI v4)], [], hp q)) rfl (hK v4 q))))

def Lw_edges (q : zM) (v1 : Int) (v2 : Int) : Option (Int × zM) :=
  (Lw_low q v1 (5 : Int)).bind fun r_1 =>
    (Ev_clearText q ).bind fun r_2 =>
      Lw_edges_L16 v1 v2 ((1 : Int) + r_1) (fun v4_11 q_12 => 
        (Ev_setEdges q_12 ).bind fun r_13 =>
          if wrap r_13.1 = wrap ((1 : Int) + r_1) then
            (Ev_count r_13.2 (1 : Int)).bind fun r_15 =>
              if wrap r_15 = wrap ((1 : Int) + r_1) then
                (Ev_count r_13.2 (2 : Int)).bind fun r_17 =>
                  if wrap r_17 = (0 : Int) then
                    Lw_edges_L114 v1 v2 ((1 : Int) + r_1) (fun v4_26 q_27 => 
                      some ((1 : Int), q_27)) 5000 (0 : Int) r_13.2
                  else
                    some ((0 : Int), r_13.2)
              else
                some ((0 : Int), r_13.2)
          else
            some ((0 : Int), r_13.2)) 5000 (0 : Int) r_2.2
set_option maxRecDepth 100000 in
theorem T_Lw_edges {E : zE} (q : zM) (v1 : Int) (v2 : Int) : SimV E 122 (entF [vR (some 1), vI v1, vI v2] (hp q)) eI (Lw_edges q v1 v2) := by
  unfold Lw_edges
  exact S_run 0 (f' := (0, 0, 0, [(0, vR (some 1)), (1, vI v1), (2, vI v2)], [], hp q)) rfl (S_run 3 (f' := (0, 0, 3, [(0, vR (some 1)), (1, vI v1), (2, vI v2)], [vI (5 : Int), vI v1, vI (1 : Int)], hp q)) rfl (S_call (m' := 112) (args := [vI v1, vI (5 : Int)]) (h := hp q) (k := fun r => (0, 0, 6, [(0, vR (some 1)), (1, vI v1), (2, vI v2)], r.1.toList ++ [vI (1 : Int)], r.2)) rfl (T_Lw_low q v1 (5 : Int)) (fun r_1 => S_run 3 (f' := (0, 0, 9, [(0, vR (some 1)), (1, vI v1), (2, vI v2), (3, vI ((1 : Int) + r_1))], [vR (some 1)], hp q)) rfl (S_call (m' := 91) (args := [vR (some 1)]) (h := hp q) (k := fun r => (0, 0, 12, [(0, vR (some 1)), (1, vI v1), (2, vI v2), (3, vI ((1 : Int) + r_1))], r.1.toList ++ [], r.2)) rfl (T_Ev_clearText q ) (fun r_2 => S_run 3 (f' := (0, 0, 16, [(0, vR (some 1)), (1, vI v1), (2, vI v2), (3, vI ((1 : Int) + r_1)), (4, vI (0 : Int))], [], hp r_2.2)) rfl (T_Lw_edges_L16 v1 v2 ((1 : Int) + r_1) (fun v4_11 q_12 => S_run 1 (f' := (0, 0, 85, [(0, vR (some 1)), (1, vI v1), (2, vI v2), (3, vI ((1 : Int) + r_1)), (4, vI v4_11)], [vR (some 1)], hp q_12)) rfl (S_call (m' := 96) (args := [vR (some 1)]) (h := hp q_12) (k := fun r => (0, 0, 88, [(0, vR (some 1)), (1, vI v1), (2, vI v2), (3, vI ((1 : Int) + r_1)), (4, vI v4_11)], r.1.toList ++ [], r.2)) rfl (T_Ev_setEdges q_12 ) (fun r_13 => S_run 1 (f' := (0, 0, 89, [(0, vR (some 1)), (1, vI v1), (2, vI v2), (3, vI ((1 : Int) + r_1)), (4, vI v4_11)], [vI ((1 : Int) + r_1), vI r_13.1], hp r_13.2)) rfl (S_ite (fun h_14 => S_go (J_icmp2 rfl rfl rfl (B_ne h_14)) (S_run 2 (f' := (0, 0, 94, [(0, vR (some 1)), (1, vI v1), (2, vI v2), (3, vI ((1 : Int) + r_1)), (4, vI v4_11)], [vI (1 : Int), vR (some 1)], hp r_13.2)) rfl (S_call (m' := 109) (args := [vR (some 1), vI (1 : Int)]) (h := hp r_13.2) (k := fun r => (0, 0, 97, [(0, vR (some 1)), (1, vI v1), (2, vI v2), (3, vI ((1 : Int) + r_1)), (4, vI v4_11)], r.1.toList ++ [], r.2)) rfl (T_Ev_count r_13.2 (1 : Int)) (fun r_15 => S_run 1 (f' := (0, 0, 98, [(0, vR (some 1)), (1, vI v1), (2, vI v2), (3, vI ((1 : Int) + r_1)), (4, vI v4_11)], [vI ((1 : Int) + r_1), vI r_15], hp r_13.2)) rfl (S_ite (fun h_16 => S_go (J_icmp2 rfl rfl rfl (B_ne h_16)) (S_run 2 (f' := (0, 0, 103, [(0, vR (some 1)), (1, vI v1), (2, vI v2), (3, vI ((1 : Int) + r_1)), (4, vI v4_11)], [vI (2 : Int), vR (some 1)], hp r_13.2)) rfl (S_call (m' := 109) (args := [vR (some 1), vI (2 : Int)]) (h := hp r_13.2) (k := fun r => (0, 0, 106, [(0, vR (some 1)), (1, vI v1), (2, vI v2), (3, vI ((1 : Int) + r_1)), (4, vI v4_11)], r.1.toList ++ [], r.2)) rfl (T_Ev_count r_13.2 (2 : Int)) (fun r_17 => S_run 0 (f' := (0, 0, 106, [(0, vR (some 1)), (1, vI v1), (2, vI v2), (3, vI ((1 : Int) + r_1)), (4, vI v4_11)], [vI r_17], hp r_13.2)) rfl (S_ite (fun h_18 => S_go (J_if2 rfl rfl (B_eq h_18)) (S_run 2 (f' := (0, 0, 114, [(0, vR (some 1)), (1, vI v1), (2, vI v2), (3, vI ((1 : Int) + r_1)), (4, vI (0 : Int))], [], hp r_13.2)) rfl (T_Lw_edges_L114 v1 v2 ((1 : Int) + r_1) (fun v4_26 q_27 => S_run 1 (f' := (0, 0, 175, [(0, vR (some 1)), (1, vI v1), (2, vI v2), (3, vI ((1 : Int) + r_1)), (4, vI v4_26)], [vI (1 : Int)], hp q_27)) rfl (S_ret rfl)) 5000 (0 : Int) r_13.2))) (fun h_18 => S_go (J_if2 rfl rfl (B_eq' h_18)) (S_run 1 (f' := (0, 0, 110, [(0, vR (some 1)), (1, vI v1), (2, vI v2), (3, vI ((1 : Int) + r_1)), (4, vI v4_11)], [vI (0 : Int)], hp r_13.2)) rfl (S_ret rfl)))))))) (fun h_16 => S_go (J_icmp2 rfl rfl rfl (B_ne' h_16)) (S_run 1 (f' := (0, 0, 110, [(0, vR (some 1)), (1, vI v1), (2, vI v2), (3, vI ((1 : Int) + r_1)), (4, vI v4_11)], [vI (0 : Int)], hp r_13.2)) rfl (S_ret rfl)))))))) (fun h_14 => S_go (J_icmp2 rfl rfl rfl (B_ne' h_14)) (S_run 1 (f' := (0, 0, 110, [(0, vR (some 1)), (1, vI v1), (2, vI v2), (3, vI ((1 : Int) + r_1)), (4, vI v4_11)], [vI (0 : Int)], hp r_13.2)) rfl (S_ret rfl))))))) 5000 (0 : Int) r_2.2))))))

def Lw_errors_j100 (q : zM) (v1 : Int) (v2 : Int) (s0 : Int) : Option (Int × zM) :=
  if wrap s0 = (0 : Int) then
    some ((0 : Int), q)
  else
    (Ev_letterAt q v1 (0 : Int)).bind fun r_6 =>
      if wrap r_6 = (-1 : Int) then
        (Ev_wordAt q v2 (0 : Int)).bind fun r_8 =>
          if wrap r_8 = (-1 : Int) then
            (Ev_nearMiss q v2 (0 : Int)).bind fun r_10 =>
              if wrap r_10.1 = (-1 : Int) then
                (Ev_keep r_10.2 (2 : Int)).bind fun r_12 =>
                  if wrap r_12.1 = (-1 : Int) then
                    (Ev_restore r_12.2 (2 : Int)).bind fun r_14 =>
                      if wrap r_14.1 = (-1 : Int) then
                        if wrap v1 = (0 : Int) then
                          some ((1 : Int), r_14.2)
                        else
                          (Ev_setLimit r_14.2 (0 : Int) (10 : Int)).bind fun r_17 =>
                            if wrap r_17.1 = (-2 : Int) then
                              some ((1 : Int), r_17.2)
                            else
                              some ((0 : Int), r_17.2)
                      else
                        some ((0 : Int), r_14.2)
                  else
                    some ((0 : Int), r_12.2)
              else
                some ((0 : Int), r_10.2)
          else
            some ((0 : Int), q)
      else
        some ((0 : Int), q)
set_option maxRecDepth 100000 in
theorem T_Lw_errors_j100 {E : zE} (q : zM) (v1 : Int) (v2 : Int) (s0 : Int) : SimV E 123 (0, 0, 100, [(0, vR (some 1)), (1, vI v1), (2, vI v2)], [vI s0], hp q) eI (Lw_errors_j100 q v1 v2 s0) := by
  unfold Lw_errors_j100
  exact S_run 2 (f' := (0, 0, 102, [(0, vR (some 1)), (1, vI v1), (2, vI v2), (3, vI s0)], [vI s0], hp q)) rfl (S_ite (fun h_5 => S_go (J_if2 rfl rfl (B_eq h_5)) (S_run 1 (f' := (0, 0, 174, [(0, vR (some 1)), (1, vI v1), (2, vI v2), (3, vI s0)], [vI (0 : Int)], hp q)) rfl (S_ret rfl))) (fun h_5 => S_go (J_if2 rfl rfl (B_eq' h_5)) (S_run 3 (f' := (0, 0, 108, [(0, vR (some 1)), (1, vI v1), (2, vI v2), (3, vI s0)], [vI (0 : Int), vI v1, vR (some 1)], hp q)) rfl (S_call (m' := 103) (args := [vR (some 1), vI v1, vI (0 : Int)]) (h := hp q) (k := fun r => (0, 0, 111, [(0, vR (some 1)), (1, vI v1), (2, vI v2), (3, vI s0)], r.1.toList ++ [], r.2)) rfl (T_Ev_letterAt q v1 (0 : Int)) (fun r_6 => S_run 1 (f' := (0, 0, 112, [(0, vR (some 1)), (1, vI v1), (2, vI v2), (3, vI s0)], [vI (-1 : Int), vI r_6], hp q)) rfl (S_ite (fun h_7 => S_go (J_icmp2 rfl rfl wl_m1 (B_ne h_7)) (S_run 3 (f' := (0, 0, 118, [(0, vR (some 1)), (1, vI v1), (2, vI v2), (3, vI s0)], [vI (0 : Int), vI v2, vR (some 1)], hp q)) rfl (S_call (m' := 105) (args := [vR (some 1), vI v2, vI (0 : Int)]) (h := hp q) (k := fun r => (0, 0, 121, [(0, vR (some 1)), (1, vI v1), (2, vI v2), (3, vI s0)], r.1.toList ++ [], r.2)) rfl (T_Ev_wordAt q v2 (0 : Int)) (fun r_8 => S_run 1 (f' := (0, 0, 122, [(0, vR (some 1)), (1, vI v1), (2, vI v2), (3, vI s0)], [vI (-1 : Int), vI r_8], hp q)) rfl (S_ite (fun h_9 => S_go (J_icmp2 rfl rfl wl_m1 (B_ne h_9)) (S_run 3 (f' := (0, 0, 128, [(0, vR (some 1)), (1, vI v1), (2, vI v2), (3, vI s0)], [vI (0 : Int), vI v2, vR (some 1)], hp q)) rfl (S_call (m' := 106) (args := [vR (some 1), vI v2, vI (0 : Int)]) (h := hp q) (k := fun r => (0, 0, 131, [(0, vR (some 1)), (1, vI v1), (2, vI v2), (3, vI s0)], r.1.toList ++ [], r.2)) rfl (T_Ev_nearMiss q v2 (0 : Int)) (fun r_10 => S_run 1 (f' := (0, 0, 132, [(0, vR (some 1)), (1, vI v1), (2, vI v2), (3, vI s0)], [vI (-1 : Int), vI r_10.1], hp r_10.2)) rfl (S_ite (fun h_11 => S_go (J_icmp2 rfl rfl wl_m1 (B_ne h_11)) (S_run 2 (f' := (0, 0, 137, [(0, vR (some 1)), (1, vI v1), (2, vI v2), (3, vI s0)], [vI (2 : Int), vR (some 1)], hp r_10.2)) rfl (S_call (m' := 100) (args := [vR (some 1), vI (2 : Int)]) (h := hp r_10.2) (k := fun r => (0, 0, 140, [(0, vR (some 1)), (1, vI v1), (2, vI v2), (3, vI s0)], r.1.toList ++ [], r.2)) rfl (T_Ev_keep r_10.2 (2 : Int)) (fun r_12 => S_run 1 (f' := (0, 0, 141, [(0, vR (some 1)), (1, vI v1), (2, vI v2), (3, vI s0)], [vI (-1 : Int), vI r_12.1], hp r_12.2)) rfl (S_ite (fun h_13 => S_go (J_icmp2 rfl rfl wl_m1 (B_ne h_13)) (S_run 2 (f' := (0, 0, 146, [(0, vR (some 1)), (1, vI v1), (2, vI v2), (3, vI s0)], [vI (2 : Int), vR (some 1)], hp r_12.2)) rfl (S_call (m' := 101) (args := [vR (some 1), vI (2 : Int)]) (h := hp r_12.2) (k := fun r => (0, 0, 149, [(0, vR (some 1)), (1, vI v1), (2, vI v2), (3, vI s0)], r.1.toList ++ [], r.2)) rfl (T_Ev_restore r_12.2 (2 : Int)) (fun r_14 => S_run 1 (f' := (0, 0, 150, [(0, vR (some 1)), (1, vI v1), (2, vI v2), (3, vI s0)], [vI (-1 : Int), vI r_14.1], hp r_14.2)) rfl (S_ite (fun h_15 => S_go (J_icmp2 rfl rfl wl_m1 (B_ne h_15)) (S_run 1 (f' := (0, 0, 154, [(0, vR (some 1)), (1, vI v1), (2, vI v2), (3, vI s0)], [vI v1], hp r_14.2)) rfl (S_ite (fun h_16 => S_go (J_if2 rfl rfl (B_eq h_16)) (S_run 2 (f' := (0, 0, 174, [(0, vR (some 1)), (1, vI v1), (2, vI v2), (3, vI s0)], [vI (1 : Int)], hp r_14.2)) rfl (S_ret rfl))) (fun h_16 => S_go (J_if2 rfl rfl (B_eq' h_16)) (S_run 3 (f' := (0, 0, 161, [(0, vR (some 1)), (1, vI v1), (2, vI v2), (3, vI s0)], [vI (10 : Int), vI (0 : Int), vR (some 1)], hp r_14.2)) rfl (S_call (m' := 94) (args := [vR (some 1), vI (0 : Int), vI (10 : Int)]) (h := hp r_14.2) (k := fun r => (0, 0, 164, [(0, vR (some 1)), (1, vI v1), (2, vI v2), (3, vI s0)], r.1.toList ++ [], r.2)) rfl (T_Ev_setLimit r_14.2 (0 : Int) (10 : Int)) (fun r_17 => S_run 1 (f' := (0, 0, 166, [(0, vR (some 1)), (1, vI v1), (2, vI v2), (3, vI s0)], [vI (-2 : Int), vI r_17.1], hp r_17.2)) rfl (S_ite (fun h_18 => S_go (J_icmp2 rfl rfl wl_m2 (B_ne h_18)) (S_run 2 (f' := (0, 0, 174, [(0, vR (some 1)), (1, vI v1), (2, vI v2), (3, vI s0)], [vI (1 : Int)], hp r_17.2)) rfl (S_ret rfl))) (fun h_18 => S_go (J_icmp2 rfl rfl wl_m2 (B_ne' h_18)) (S_run 1 (f' := (0, 0, 174, [(0, vR (some 1)), (1, vI v1), (2, vI v2), (3, vI s0)], [vI (0 : Int)], hp r_17.2)) rfl (S_ret rfl))))))))))) (fun h_15 => S_go (J_icmp2 rfl rfl wl_m1 (B_ne' h_15)) (S_run 1 (f' := (0, 0, 174, [(0, vR (some 1)), (1, vI v1), (2, vI v2), (3, vI s0)], [vI (0 : Int)], hp r_14.2)) rfl (S_ret rfl)))))))) (fun h_13 => S_go (J_icmp2 rfl rfl wl_m1 (B_ne' h_13)) (S_run 1 (f' := (0, 0, 174, [(0, vR (some 1)), (1, vI v1), (2, vI v2), (3, vI s0)], [vI (0 : Int)], hp r_12.2)) rfl (S_ret rfl)))))))) (fun h_11 => S_go (J_icmp2 rfl rfl wl_m1 (B_ne' h_11)) (S_run 1 (f' := (0, 0, 174, [(0, vR (some 1)), (1, vI v1), (2, vI v2), (3, vI s0)], [vI (0 : Int)], hp r_10.2)) rfl (S_ret rfl)))))))) (fun h_9 => S_go (J_icmp2 rfl rfl wl_m1 (B_ne' h_9)) (S_run 1 (f' := (0, 0, 174, [(0, vR (some 1)), (1, vI v1), (2, vI v2), (3, vI s0)], [vI (0 : Int)], hp q)) rfl (S_ret rfl)))))))) (fun h_7 => S_go (J_icmp2 rfl rfl wl_m1 (B_ne' h_7)) (S_run 1 (f' := (0, 0, 174, [(0, vR (some 1)), (1, vI v1), (2, vI v2), (3, vI s0)], [vI (0 : Int)], hp q)) rfl (S_ret rfl)))))))))

def Lw_errors_j99 (q : zM) (v1 : Int) (v2 : Int) : Option (Int × zM) :=
  Lw_errors_j100 q v1 v2 (0 : Int)
set_option maxRecDepth 100000 in
theorem T_Lw_errors_j99 {E : zE} (q : zM) (v1 : Int) (v2 : Int) : SimV E 123 (0, 0, 99, [(0, vR (some 1)), (1, vI v1), (2, vI v2)], [], hp q) eI (Lw_errors_j99 q v1 v2) := by
  unfold Lw_errors_j99
  exact S_run 1 (f' := (0, 0, 100, [(0, vR (some 1)), (1, vI v1), (2, vI v2)], [vI (0 : Int)], hp q)) rfl (T_Lw_errors_j100 q v1 v2 (0 : Int))

def Lw_errors (q : zM)  : Option (Int × zM) :=
  (Ev_count q (0 : Int)).bind fun r_1 =>
    (Ev_count q (1 : Int)).bind fun r_2 =>
      (Ev_removeWord q r_1).bind fun r_3 =>
        if wrap r_3.1 = (-1 : Int) then
          (Ev_setLimit r_3.2 r_1 (1 : Int)).bind fun r_19 =>
            if wrap r_19.1 = (-1 : Int) then
              (Ev_setMetre r_19.2 (1 : Int) (0 : Int)).bind fun r_21 =>
                if wrap r_21.1 = (-2 : Int) then
                  (Ev_setMetre r_21.2 (13 : Int) (0 : Int)).bind fun r_23 =>
                    if wrap r_23.1 = (-2 : Int) then
                      (Ev_setMetre r_23.2 (3 : Int) (8 : Int)).bind fun r_25 =>
                        if wrap r_25.1 = (-2 : Int) then
                          (Ev_setMetre r_25.2 (3 : Int) (-1 : Int)).bind fun r_27 =>
                            if wrap r_27.1 = (-2 : Int) then
                              (Ev_makeLine r_27.2 r_2).bind fun r_29 =>
                                if wrap r_29.1 = (-1 : Int) then
                                  (Ev_clearLine r_29.2 (-1 : Int)).bind fun r_31 =>
                                    if wrap r_31.1 = (-1 : Int) then
                                      Lw_errors_j100 r_31.2 r_1 r_2 (1 : Int)
                                    else
                                      Lw_errors_j99 r_31.2 r_1 r_2
                                else
                                  Lw_errors_j99 r_29.2 r_1 r_2
                            else
                              Lw_errors_j99 r_27.2 r_1 r_2
                        else
                          Lw_errors_j99 r_25.2 r_1 r_2
                    else
                      Lw_errors_j99 r_23.2 r_1 r_2
                else
                  Lw_errors_j99 r_21.2 r_1 r_2
            else
              Lw_errors_j99 r_19.2 r_1 r_2
        else
          Lw_errors_j99 r_3.2 r_1 r_2
set_option maxRecDepth 100000 in
theorem T_Lw_errors {E : zE} (q : zM)  : SimV E 123 (entF [vR (some 1)] (hp q)) eI (Lw_errors q ) := by
  unfold Lw_errors
  exact S_run 0 (f' := (0, 0, 0, [(0, vR (some 1))], [], hp q)) rfl (S_run 2 (f' := (0, 0, 2, [(0, vR (some 1))], [vI (0 : Int), vR (some 1)], hp q)) rfl (S_call (m' := 109) (args := [vR (some 1), vI (0 : Int)]) (h := hp q) (k := fun r => (0, 0, 5, [(0, vR (some 1))], r.1.toList ++ [], r.2)) rfl (T_Ev_count q (0 : Int)) (fun r_1 => S_run 3 (f' := (0, 0, 8, [(0, vR (some 1)), (1, vI r_1)], [vI (1 : Int), vR (some 1)], hp q)) rfl (S_call (m' := 109) (args := [vR (some 1), vI (1 : Int)]) (h := hp q) (k := fun r => (0, 0, 11, [(0, vR (some 1)), (1, vI r_1)], r.1.toList ++ [], r.2)) rfl (T_Ev_count q (1 : Int)) (fun r_2 => S_run 3 (f' := (0, 0, 14, [(0, vR (some 1)), (1, vI r_1), (2, vI r_2)], [vI r_1, vR (some 1)], hp q)) rfl (S_call (m' := 93) (args := [vR (some 1), vI r_1]) (h := hp q) (k := fun r => (0, 0, 17, [(0, vR (some 1)), (1, vI r_1), (2, vI r_2)], r.1.toList ++ [], r.2)) rfl (T_Ev_removeWord q r_1) (fun r_3 => S_run 1 (f' := (0, 0, 18, [(0, vR (some 1)), (1, vI r_1), (2, vI r_2)], [vI (-1 : Int), vI r_3.1], hp r_3.2)) rfl (S_ite (fun h_4 => S_go (J_icmp2 rfl rfl wl_m1 (B_ne h_4)) (S_run 3 (f' := (0, 0, 24, [(0, vR (some 1)), (1, vI r_1), (2, vI r_2)], [vI (1 : Int), vI r_1, vR (some 1)], hp r_3.2)) rfl (S_call (m' := 94) (args := [vR (some 1), vI r_1, vI (1 : Int)]) (h := hp r_3.2) (k := fun r => (0, 0, 27, [(0, vR (some 1)), (1, vI r_1), (2, vI r_2)], r.1.toList ++ [], r.2)) rfl (T_Ev_setLimit r_3.2 r_1 (1 : Int)) (fun r_19 => S_run 1 (f' := (0, 0, 28, [(0, vR (some 1)), (1, vI r_1), (2, vI r_2)], [vI (-1 : Int), vI r_19.1], hp r_19.2)) rfl (S_ite (fun h_20 => S_go (J_icmp2 rfl rfl wl_m1 (B_ne h_20)) (S_run 3 (f' := (0, 0, 34, [(0, vR (some 1)), (1, vI r_1), (2, vI r_2)], [vI (0 : Int), vI (1 : Int), vR (some 1)], hp r_19.2)) rfl (S_call (m' := 95) (args := [vR (some 1), vI (1 : Int), vI (0 : Int)]) (h := hp r_19.2) (k := fun r => (0, 0, 37, [(0, vR (some 1)), (1, vI r_1), (2, vI r_2)], r.1.toList ++ [], r.2)) rfl (T_Ev_setMetre r_19.2 (1 : Int) (0 : Int)) (fun r_21 => S_run 1 (f' := (0, 0, 39, [(0, vR (some 1)), (1, vI r_1), (2, vI r_2)], [vI (-2 : Int), vI r_21.1], hp r_21.2)) rfl (S_ite (fun h_22 => S_go (J_icmp2 rfl rfl wl_m2 (B_ne h_22)) (S_run 3 (f' := (0, 0, 46, [(0, vR (some 1)), (1, vI r_1), (2, vI r_2)], [vI (0 : Int), vI (13 : Int), vR (some 1)], hp r_21.2)) rfl (S_call (m' := 95) (args := [vR (some 1), vI (13 : Int), vI (0 : Int)]) (h := hp r_21.2) (k := fun r => (0, 0, 49, [(0, vR (some 1)), (1, vI r_1), (2, vI r_2)], r.1.toList ++ [], r.2)) rfl (T_Ev_setMetre r_21.2 (13 : Int) (0 : Int)) (fun r_23 => S_run 1 (f' := (0, 0, 51, [(0, vR (some 1)), (1, vI r_1), (2, vI r_2)], [vI (-2 : Int), vI r_23.1], hp r_23.2)) rfl (S_ite (fun h_24 => S_go (J_icmp2 rfl rfl wl_m2 (B_ne h_24)) (S_run 3 (f' := (0, 0, 58, [(0, vR (some 1)), (1, vI r_1), (2, vI r_2)], [vI (8 : Int), vI (3 : Int), vR (some 1)], hp r_23.2)) rfl (S_call (m' := 95) (args := [vR (some 1), vI (3 : Int), vI (8 : Int)]) (h := hp r_23.2) (k := fun r => (0, 0, 61, [(0, vR (some 1)), (1, vI r_1), (2, vI r_2)], r.1.toList ++ [], r.2)) rfl (T_Ev_setMetre r_23.2 (3 : Int) (8 : Int)) (fun r_25 => S_run 1 (f' := (0, 0, 63, [(0, vR (some 1)), (1, vI r_1), (2, vI r_2)], [vI (-2 : Int), vI r_25.1], hp r_25.2)) rfl (S_ite (fun h_26 => S_go (J_icmp2 rfl rfl wl_m2 (B_ne h_26)) (S_run 3 (f' := (0, 0, 69, [(0, vR (some 1)), (1, vI r_1), (2, vI r_2)], [vI (-1 : Int), vI (3 : Int), vR (some 1)], hp r_25.2)) rfl (S_call (m' := 95) (args := [vR (some 1), vI (3 : Int), vI (-1 : Int)]) (h := hp r_25.2) (k := fun r => (0, 0, 72, [(0, vR (some 1)), (1, vI r_1), (2, vI r_2)], r.1.toList ++ [], r.2)) rfl (T_Ev_setMetre r_25.2 (3 : Int) (-1 : Int)) (fun r_27 => S_run 1 (f' := (0, 0, 74, [(0, vR (some 1)), (1, vI r_1), (2, vI r_2)], [vI (-2 : Int), vI r_27.1], hp r_27.2)) rfl (S_ite (fun h_28 => S_go (J_icmp2 rfl rfl wl_m2 (B_ne h_28)) (S_run 2 (f' := (0, 0, 79, [(0, vR (some 1)), (1, vI r_1), (2, vI r_2)], [vI r_2, vR (some 1)], hp r_27.2)) rfl (S_call (m' := 97) (args := [vR (some 1), vI r_2]) (h := hp r_27.2) (k := fun r => (0, 0, 82, [(0, vR (some 1)), (1, vI r_1), (2, vI r_2)], r.1.toList ++ [], r.2)) rfl (T_Ev_makeLine r_27.2 r_2) (fun r_29 => S_run 1 (f' := (0, 0, 83, [(0, vR (some 1)), (1, vI r_1), (2, vI r_2)], [vI (-1 : Int), vI r_29.1], hp r_29.2)) rfl (S_ite (fun h_30 => S_go (J_icmp2 rfl rfl wl_m1 (B_ne h_30)) (S_run 2 (f' := (0, 0, 88, [(0, vR (some 1)), (1, vI r_1), (2, vI r_2)], [vI (-1 : Int), vR (some 1)], hp r_29.2)) rfl (S_call (m' := 99) (args := [vR (some 1), vI (-1 : Int)]) (h := hp r_29.2) (k := fun r => (0, 0, 91, [(0, vR (some 1)), (1, vI r_1), (2, vI r_2)], r.1.toList ++ [], r.2)) rfl (T_Ev_clearLine r_29.2 (-1 : Int)) (fun r_31 => S_run 1 (f' := (0, 0, 92, [(0, vR (some 1)), (1, vI r_1), (2, vI r_2)], [vI (-1 : Int), vI r_31.1], hp r_31.2)) rfl (S_ite (fun h_32 => S_go (J_icmp2 rfl rfl wl_m1 (B_ne h_32)) (S_run 2 (f' := (0, 0, 100, [(0, vR (some 1)), (1, vI r_1), (2, vI r_2)], [vI (1 : Int)], hp r_31.2)) rfl (T_Lw_errors_j100 r_31.2 r_1 r_2 (1 : Int)))) (fun h_32 => S_go (J_icmp2 rfl rfl wl_m1 (B_ne' h_32)) (S_run 0 (f' := (0, 0, 99, [(0, vR (some 1)), (1, vI r_1), (2, vI r_2)], [], hp r_31.2)) rfl (T_Lw_errors_j99 r_31.2 r_1 r_2)))))))) (fun h_30 => S_go (J_icmp2 rfl rfl wl_m1 (B_ne' h_30)) (S_run 0 (f' := (0, 0, 99, [(0, vR (some 1)), (1, vI r_1), (2, vI r_2)], [], hp r_29.2)) rfl (T_Lw_errors_j99 r_29.2 r_1 r_2)))))))) (fun h_28 => S_go (J_icmp2 rfl rfl wl_m2 (B_ne' h_28)) (S_run 0 (f' := (0, 0, 99, [(0, vR (some 1)), (1, vI r_1), (2, vI r_2)], [], hp r_27.2)) rfl (T_Lw_errors_j99 r_27.2 r_1 r_2)))))))) (fun h_26 => S_go (J_icmp2 rfl rfl wl_m2 (B_ne' h_26)) (S_run 0 (f' := (0, 0, 99, [(0, vR (some 1)), (1, vI r_1), (2, vI r_2)], [], hp r_25.2)) rfl (T_Lw_errors_j99 r_25.2 r_1 r_2)))))))) (fun h_24 => S_go (J_icmp2 rfl rfl wl_m2 (B_ne' h_24)) (S_run 0 (f' := (0, 0, 99, [(0, vR (some 1)), (1, vI r_1), (2, vI r_2)], [], hp r_23.2)) rfl (T_Lw_errors_j99 r_23.2 r_1 r_2)))))))) (fun h_22 => S_go (J_icmp2 rfl rfl wl_m2 (B_ne' h_22)) (S_run 0 (f' := (0, 0, 99, [(0, vR (some 1)), (1, vI r_1), (2, vI r_2)], [], hp r_21.2)) rfl (T_Lw_errors_j99 r_21.2 r_1 r_2)))))))) (fun h_20 => S_go (J_icmp2 rfl rfl wl_m1 (B_ne' h_20)) (S_run 0 (f' := (0, 0, 99, [(0, vR (some 1)), (1, vI r_1), (2, vI r_2)], [], hp r_19.2)) rfl (T_Lw_errors_j99 r_19.2 r_1 r_2)))))))) (fun h_4 => S_go (J_icmp2 rfl rfl wl_m1 (B_ne' h_4)) (S_run 0 (f' := (0, 0, 99, [(0, vR (some 1)), (1, vI r_1), (2, vI r_2)], [], hp r_3.2)) rfl (T_Lw_errors_j99 r_3.2 r_1 r_2)))))))))))

def Lw_cell (E : zE) (q : zM) (v1 : Int) : Option Int :=
  if wrap v1 < wrap (E.1 : Int) then
    ck (wrap v1) E.1 (
      some (E.2 (wrap v1).toNat))
  else
    some (((10210007 : Int) * v1) + (9719 : Int))
set_option maxRecDepth 100000 in
theorem T_Lw_cell {E : zE} (q : zM) (v1 : Int) : SimV E 124 (entF [vR (some 0), vI v1] (hp q)) (eP q) (Lw_cell E q v1) := by
  unfold Lw_cell
  exact S_run 0 (f' := (0, 0, 0, [(0, vR (some 0)), (1, vI v1)], [], hp q)) rfl (S_run 3 (f' := (0, 0, 3, [(0, vR (some 0)), (1, vI v1)], [vI (E.1 : Int), vI v1], hp q)) rfl (S_ite (fun h_1 => S_go (J_icmp2 rfl rfl rfl (B_ge h_1)) (S_run 2 (f' := (0, 0, 8, [(0, vR (some 0)), (1, vI v1)], [vI v1, vR (some 0)], hp q)) rfl (S_ck (n := E.1) (fun h_2 => S_go (H_sld rfl h_2) (S_run 1 (f' := (0, 0, 20, [(0, vR (some 0)), (1, vI v1)], [vI (E.2 (wrap v1).toNat)], hp q)) rfl (S_ret rfl)))))) (fun h_1 => S_go (J_icmp2 rfl rfl rfl (B_ge' h_1)) (S_run 5 (f' := (0, 0, 20, [(0, vR (some 0)), (1, vI v1)], [vI (((10210007 : Int) * v1) + (9719 : Int))], hp q)) rfl (S_ret rfl)))))
