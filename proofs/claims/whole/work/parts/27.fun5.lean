/-! the methods as functions, printed by wip/whole/dec.py -/
def Mo_setEdges_L46 (q : zM) (v1 : Int) (K : Int → Int → Option (Int × zM)) : Nat → Int → Int → Option (Int × zM)
  | 0, _, _ => none
  | n + 1, v2, v3 =>
    if wrap v3 < wrap (q.1 126 6) then
      if wrap v2 = (0 : Int) then
        K v2 v3
      else
        if wrap v3 = wrap v1 then
          Mo_setEdges_L46 q v1 K n (1 : Int) (v3 + 1)
        else
          ck (wrap v3) 40 (
            (Mo_isLetter q (q.1 132 (wrap v3).toNat)).bind fun r_6 =>
              if wrap r_6 = (0 : Int) then
                Mo_setEdges_L46 q v1 K n (0 : Int) (v3 + 1)
              else
                Mo_setEdges_L46 q v1 K n (1 : Int) (v3 + 1))
    else
      K v2 v3
theorem T_Mo_setEdges_L46 {E : zE} (q : zM) (v1 : Int) {K : Int → Int → Option (Int × zM)} (hK : ∀ (v2 : Int) (v3 : Int), SimV E 149 (0, 0, 87, [(0, vR (some 126)), (1, vI v1), (2, vI v2), (3, vI v3)], [], hp q) eI (K v2 v3)) : ∀ (n : Nat) (v2 : Int) (v3 : Int), SimV E 149 (0, 0, 46, [(0, vR (some 126)), (1, vI v1), (2, vI v2), (3, vI v3)], [], hp q) eI (Mo_setEdges_L46 q v1 K n v2 v3) := by
  intro n
  induction n with
  | zero => intro _ _; exact S_none
  | succ n ih =>
    intro v2 v3
    rw [Mo_setEdges_L46]
    exact S_run 3 (f' := (0, 0, 51, [(0, vR (some 126)), (1, vI v1), (2, vI v2), (3, vI v3)], [vI (q.1 126 6), vI v3], hp q)) rfl (S_ite (fun h_2 => S_go (J_icmp2 rfl rfl rfl (B_ge h_2)) (S_run 1 (f' := (0, 0, 55, [(0, vR (some 126)), (1, vI v1), (2, vI v2), (3, vI v3)], [vI v2], hp q)) rfl (S_ite (fun h_3 => S_go (J_if2 rfl rfl (B_eq h_3)) (S_run 0 (f' := (0, 0, 87, [(0, vR (some 126)), (1, vI v1), (2, vI v2), (3, vI v3)], [], hp q)) rfl (hK v2 v3))) (fun h_3 => S_go (J_if2 rfl rfl (B_eq' h_3)) (S_run 2 (f' := (0, 0, 60, [(0, vR (some 126)), (1, vI v1), (2, vI v2), (3, vI v3)], [vI v1, vI v3], hp q)) rfl (S_ite (fun h_4 => S_go (J_icmp2 rfl rfl rfl (B_eq h_4)) (S_run 5 (f' := (0, 0, 46, [(0, vR (some 126)), (1, vI v1), (2, vI (1 : Int)), (3, vI (v3 + 1))], [], hp q)) rfl (ih (1 : Int) (v3 + 1)))) (fun h_4 => S_go (J_icmp2 rfl rfl rfl (B_eq' h_4)) (S_run 3 (f' := (0, 0, 68, [(0, vR (some 126)), (1, vI v1), (2, vI v2), (3, vI v3)], [vI v3, vR (some 132)], hp q)) rfl (S_ck (n := 40) (fun h_5 => S_go (H_cald rfl rfl rfl h_5) (S_run 0 (f' := (0, 0, 69, [(0, vR (some 126)), (1, vI v1), (2, vI v2), (3, vI v3)], [vI (q.1 132 (wrap v3).toNat)], hp q)) rfl (S_call (m' := 132) (args := [vI (q.1 132 (wrap v3).toNat)]) (h := hp q) (k := fun r => (0, 0, 72, [(0, vR (some 126)), (1, vI v1), (2, vI v2), (3, vI v3)], r.1.toList ++ [], r.2)) rfl (T_Mo_isLetter q (q.1 132 (wrap v3).toNat)) (fun r_6 => S_run 0 (f' := (0, 0, 72, [(0, vR (some 126)), (1, vI v1), (2, vI v2), (3, vI v3)], [vI r_6], hp q)) rfl (S_ite (fun h_7 => S_go (J_if2 rfl rfl (B_eq h_7)) (S_run 4 (f' := (0, 0, 46, [(0, vR (some 126)), (1, vI v1), (2, vI (0 : Int)), (3, vI (v3 + 1))], [], hp q)) rfl (ih (0 : Int) (v3 + 1)))) (fun h_7 => S_go (J_if2 rfl rfl (B_eq' h_7)) (S_run 5 (f' := (0, 0, 46, [(0, vR (some 126)), (1, vI v1), (2, vI (1 : Int)), (3, vI (v3 + 1))], [], hp q)) rfl (ih (1 : Int) (v3 + 1)))))))))))))))))) (fun h_2 => S_go (J_icmp2 rfl rfl rfl (B_ge' h_2)) (S_run 0 (f' := (0, 0, 87, [(0, vR (some 126)), (1, vI v1), (2, vI v2), (3, vI v3)], [], hp q)) rfl (hK v2 v3))))

def Mo_setEdges_L112 (v1 : Int) (v2 : Int) (K : Int → zM → Option (Int × zM)) : Nat → Int → zM → Option (Int × zM)
  | 0, _, _ => none
  | n + 1, v3, q =>
    if wrap v3 < (8 : Int) then
      if wrap v3 < wrap v1 then
        ck (wrap v3) 40 (
          ck (wrap ((4 : Int) + v3)) 244 (
            if wrap v3 < wrap v1 then
              ck (wrap ((v1 + (1 : Int)) + v3)) 40 (
                ck (wrap ((12 : Int) + v3)) 244 (
                  Mo_setEdges_L112 v1 v2 K n (v3 + 1) (qs (qs q 127 (wrap ((4 : Int) + v3)).toNat (q.1 132 (wrap v3).toNat)) 127 (wrap ((12 : Int) + v3)).toNat ((qs q 127 (wrap ((4 : Int) + v3)).toNat (q.1 132 (wrap v3).toNat)).1 132 (wrap ((v1 + (1 : Int)) + v3)).toNat))))
            else
              ck (wrap ((12 : Int) + v3)) 244 (
                Mo_setEdges_L112 v1 v2 K n (v3 + 1) (qs (qs q 127 (wrap ((4 : Int) + v3)).toNat (q.1 132 (wrap v3).toNat)) 127 (wrap ((12 : Int) + v3)).toNat (0 : Int)))))
      else
        ck (wrap ((4 : Int) + v3)) 244 (
          if wrap v3 < wrap v1 then
            ck (wrap ((v1 + (1 : Int)) + v3)) 40 (
              ck (wrap ((12 : Int) + v3)) 244 (
                Mo_setEdges_L112 v1 v2 K n (v3 + 1) (qs (qs q 127 (wrap ((4 : Int) + v3)).toNat (0 : Int)) 127 (wrap ((12 : Int) + v3)).toNat ((qs q 127 (wrap ((4 : Int) + v3)).toNat (0 : Int)).1 132 (wrap ((v1 + (1 : Int)) + v3)).toNat))))
          else
            ck (wrap ((12 : Int) + v3)) 244 (
              Mo_setEdges_L112 v1 v2 K n (v3 + 1) (qs (qs q 127 (wrap ((4 : Int) + v3)).toNat (0 : Int)) 127 (wrap ((12 : Int) + v3)).toNat (0 : Int))))
    else
      K v3 q
theorem T_Mo_setEdges_L112 {E : zE} (v1 : Int) (v2 : Int) {K : Int → zM → Option (Int × zM)} (hK : ∀ (v3 : Int) (q : zM), SimV E 149 (0, 0, 175, [(0, vR (some 126)), (1, vI v1), (2, vI v2), (3, vI v3)], [], hp q) eI (K v3 q)) : ∀ (n : Nat) (v3 : Int) (q : zM), SimV E 149 (0, 0, 112, [(0, vR (some 126)), (1, vI v1), (2, vI v2), (3, vI v3)], [], hp q) eI (Mo_setEdges_L112 v1 v2 K n v3 q) := by
  intro n
  induction n with
  | zero => intro _ _; exact S_none
  | succ n ih =>
    intro v3 q
    rw [Mo_setEdges_L112]
    exact S_run 2 (f' := (0, 0, 115, [(0, vR (some 126)), (1, vI v1), (2, vI v2), (3, vI v3)], [vI (8 : Int), vI v3], hp q)) rfl (S_ite (fun h_14 => S_go (J_icmp2 rfl rfl wl_8 (B_ge h_14)) (S_run 7 (f' := (0, 0, 127, [(0, vR (some 126)), (1, vI v1), (2, vI v2), (3, vI v3)], [vI v1, vI v3, vI ((4 : Int) + v3), vR (some 127)], hp q)) rfl (S_ite (fun h_15 => S_go (J_icmp2 rfl rfl rfl (B_ge h_15)) (S_run 3 (f' := (0, 0, 135, [(0, vR (some 126)), (1, vI v1), (2, vI v2), (3, vI v3)], [vI v3, vR (some 132), vI ((4 : Int) + v3), vR (some 127)], hp q)) rfl (S_ck (n := 40) (fun h_21 => S_go (H_cald rfl rfl rfl h_21) (S_run 1 (f' := (0, 0, 140, [(0, vR (some 126)), (1, vI v1), (2, vI v2), (3, vI v3)], [vI (q.1 132 (wrap v3).toNat), vI ((4 : Int) + v3), vR (some 127)], hp q)) rfl (S_ck (n := 244) (fun h_22 => S_go (H_iast rfl rfl rfl h_22) (S_run 7 (f' := (0, 0, 151, [(0, vR (some 126)), (1, vI v1), (2, vI v2), (3, vI v3)], [vI v1, vI v3, vI ((12 : Int) + v3), vR (some 127)], hp (qs q 127 (wrap ((4 : Int) + v3)).toNat (q.1 132 (wrap v3).toNat)))) rfl (S_ite (fun h_23 => S_go (J_icmp2 rfl rfl rfl (B_ge h_23)) (S_run 7 (f' := (0, 0, 163, [(0, vR (some 126)), (1, vI v1), (2, vI v2), (3, vI v3)], [vI ((v1 + (1 : Int)) + v3), vR (some 132), vI ((12 : Int) + v3), vR (some 127)], hp (qs q 127 (wrap ((4 : Int) + v3)).toNat (q.1 132 (wrap v3).toNat)))) rfl (S_ck (n := 40) (fun h_25 => S_go (H_cald rfl rfl rfl h_25) (S_run 1 (f' := (0, 0, 168, [(0, vR (some 126)), (1, vI v1), (2, vI v2), (3, vI v3)], [vI ((qs q 127 (wrap ((4 : Int) + v3)).toNat (q.1 132 (wrap v3).toNat)).1 132 (wrap ((v1 + (1 : Int)) + v3)).toNat), vI ((12 : Int) + v3), vR (some 127)], hp (qs q 127 (wrap ((4 : Int) + v3)).toNat (q.1 132 (wrap v3).toNat)))) rfl (S_ck (n := 244) (fun h_26 => S_go (H_iast rfl rfl rfl h_26) (S_run 2 (f' := (0, 0, 112, [(0, vR (some 126)), (1, vI v1), (2, vI v2), (3, vI (v3 + 1))], [], hp (qs (qs q 127 (wrap ((4 : Int) + v3)).toNat (q.1 132 (wrap v3).toNat)) 127 (wrap ((12 : Int) + v3)).toNat ((qs q 127 (wrap ((4 : Int) + v3)).toNat (q.1 132 (wrap v3).toNat)).1 132 (wrap ((v1 + (1 : Int)) + v3)).toNat)))) rfl (ih (v3 + 1) (qs (qs q 127 (wrap ((4 : Int) + v3)).toNat (q.1 132 (wrap v3).toNat)) 127 (wrap ((12 : Int) + v3)).toNat ((qs q 127 (wrap ((4 : Int) + v3)).toNat (q.1 132 (wrap v3).toNat)).1 132 (wrap ((v1 + (1 : Int)) + v3)).toNat))))))))))) (fun h_23 => S_go (J_icmp2 rfl rfl rfl (B_ge' h_23)) (S_run 1 (f' := (0, 0, 168, [(0, vR (some 126)), (1, vI v1), (2, vI v2), (3, vI v3)], [vI (0 : Int), vI ((12 : Int) + v3), vR (some 127)], hp (qs q 127 (wrap ((4 : Int) + v3)).toNat (q.1 132 (wrap v3).toNat)))) rfl (S_ck (n := 244) (fun h_24 => S_go (H_iast rfl rfl rfl h_24) (S_run 2 (f' := (0, 0, 112, [(0, vR (some 126)), (1, vI v1), (2, vI v2), (3, vI (v3 + 1))], [], hp (qs (qs q 127 (wrap ((4 : Int) + v3)).toNat (q.1 132 (wrap v3).toNat)) 127 (wrap ((12 : Int) + v3)).toNat (0 : Int)))) rfl (ih (v3 + 1) (qs (qs q 127 (wrap ((4 : Int) + v3)).toNat (q.1 132 (wrap v3).toNat)) 127 (wrap ((12 : Int) + v3)).toNat (0 : Int))))))))))))))))) (fun h_15 => S_go (J_icmp2 rfl rfl rfl (B_ge' h_15)) (S_run 1 (f' := (0, 0, 140, [(0, vR (some 126)), (1, vI v1), (2, vI v2), (3, vI v3)], [vI (0 : Int), vI ((4 : Int) + v3), vR (some 127)], hp q)) rfl (S_ck (n := 244) (fun h_16 => S_go (H_iast rfl rfl rfl h_16) (S_run 7 (f' := (0, 0, 151, [(0, vR (some 126)), (1, vI v1), (2, vI v2), (3, vI v3)], [vI v1, vI v3, vI ((12 : Int) + v3), vR (some 127)], hp (qs q 127 (wrap ((4 : Int) + v3)).toNat (0 : Int)))) rfl (S_ite (fun h_17 => S_go (J_icmp2 rfl rfl rfl (B_ge h_17)) (S_run 7 (f' := (0, 0, 163, [(0, vR (some 126)), (1, vI v1), (2, vI v2), (3, vI v3)], [vI ((v1 + (1 : Int)) + v3), vR (some 132), vI ((12 : Int) + v3), vR (some 127)], hp (qs q 127 (wrap ((4 : Int) + v3)).toNat (0 : Int)))) rfl (S_ck (n := 40) (fun h_19 => S_go (H_cald rfl rfl rfl h_19) (S_run 1 (f' := (0, 0, 168, [(0, vR (some 126)), (1, vI v1), (2, vI v2), (3, vI v3)], [vI ((qs q 127 (wrap ((4 : Int) + v3)).toNat (0 : Int)).1 132 (wrap ((v1 + (1 : Int)) + v3)).toNat), vI ((12 : Int) + v3), vR (some 127)], hp (qs q 127 (wrap ((4 : Int) + v3)).toNat (0 : Int)))) rfl (S_ck (n := 244) (fun h_20 => S_go (H_iast rfl rfl rfl h_20) (S_run 2 (f' := (0, 0, 112, [(0, vR (some 126)), (1, vI v1), (2, vI v2), (3, vI (v3 + 1))], [], hp (qs (qs q 127 (wrap ((4 : Int) + v3)).toNat (0 : Int)) 127 (wrap ((12 : Int) + v3)).toNat ((qs q 127 (wrap ((4 : Int) + v3)).toNat (0 : Int)).1 132 (wrap ((v1 + (1 : Int)) + v3)).toNat)))) rfl (ih (v3 + 1) (qs (qs q 127 (wrap ((4 : Int) + v3)).toNat (0 : Int)) 127 (wrap ((12 : Int) + v3)).toNat ((qs q 127 (wrap ((4 : Int) + v3)).toNat (0 : Int)).1 132 (wrap ((v1 + (1 : Int)) + v3)).toNat))))))))))) (fun h_17 => S_go (J_icmp2 rfl rfl rfl (B_ge' h_17)) (S_run 1 (f' := (0, 0, 168, [(0, vR (some 126)), (1, vI v1), (2, vI v2), (3, vI v3)], [vI (0 : Int), vI ((12 : Int) + v3), vR (some 127)], hp (qs q 127 (wrap ((4 : Int) + v3)).toNat (0 : Int)))) rfl (S_ck (n := 244) (fun h_18 => S_go (H_iast rfl rfl rfl h_18) (S_run 2 (f' := (0, 0, 112, [(0, vR (some 126)), (1, vI v1), (2, vI v2), (3, vI (v3 + 1))], [], hp (qs (qs q 127 (wrap ((4 : Int) + v3)).toNat (0 : Int)) 127 (wrap ((12 : Int) + v3)).toNat (0 : Int)))) rfl (ih (v3 + 1) (qs (qs q 127 (wrap ((4 : Int) + v3)).toNat (0 : Int)) 127 (wrap ((12 : Int) + v3)).toNat (0 : Int))))))))))))))))) (fun h_14 => S_go (J_icmp2 rfl rfl wl_8 (B_ge' h_14)) (S_run 0 (f' := (0, 0, 175, [(0, vR (some 126)), (1, vI v1), (2, vI v2), (3, vI v3)], [], hp q)) rfl (hK v3 q))))

def Mo_setEdges_b110 (q : zM) (v1 : Int) (v2 : Int) (v3 : Int) : Option (Int × zM) :=
  Mo_setEdges_L112 v1 v2 (fun v3_27 q_28 => 
    (Mo_done q_28 v1).bind fun r_29 =>
      some (r_29.1, r_29.2)) 5000 (0 : Int) q
theorem T_Mo_setEdges_b110 {E : zE} (q : zM) (v1 : Int) (v2 : Int) (v3 : Int) : SimV E 149 (0, 0, 110, [(0, vR (some 126)), (1, vI v1), (2, vI v2), (3, vI v3)], [], hp q) eI (Mo_setEdges_b110 q v1 v2 v3) := by
  unfold Mo_setEdges_b110
  exact S_run 2 (f' := (0, 0, 112, [(0, vR (some 126)), (1, vI v1), (2, vI v2), (3, vI (0 : Int))], [], hp q)) rfl (T_Mo_setEdges_L112 v1 v2 (fun v3_27 q_28 => S_run 2 (f' := (0, 0, 177, [(0, vR (some 126)), (1, vI v1), (2, vI v2), (3, vI v3_27)], [vI v1, vR (some 126)], hp q_28)) rfl (S_call (m' := 117) (args := [vR (some 126), vI v1]) (h := hp q_28) (k := fun r => (0, 0, 180, [(0, vR (some 126)), (1, vI v1), (2, vI v2), (3, vI v3_27)], r.1.toList ++ [], r.2)) rfl (T_Mo_done q_28 v1) (fun r_29 => S_run 0 (f' := (0, 0, 180, [(0, vR (some 126)), (1, vI v1), (2, vI v2), (3, vI v3_27)], [vI r_29.1], hp r_29.2)) rfl (S_ret rfl)))) 5000 (0 : Int) q)

def Mo_setEdges (q : zM)  : Option (Int × zM) :=
  if wrap (wrem (q.1 126 6) (2 : Int)) = (1 : Int) then
    (Mo_in q (wdiv (q.1 126 6) (2 : Int)) (1 : Int) (8 : Int)).bind fun r_30 =>
      if wrap r_30 = (0 : Int) then
        Mo_setEdges_L46 q (wdiv (q.1 126 6) (2 : Int)) (fun v2_32 v3_33 => 
          if wrap v2_32 = (0 : Int) then
            some ((-4 : Int), q)
          else
            (Mo_begin q ).bind fun r_35 =>
              (Mo_emptyAll r_35 ).bind fun r_36 =>
                Mo_setEdges_b110 (qs r_36.2 127 3 (wdiv (q.1 126 6) (2 : Int))) (wdiv (q.1 126 6) (2 : Int)) v2_32 v3_33) 5000 (0 : Int) (0 : Int)
      else
        ck (wrap (wdiv (q.1 126 6) (2 : Int))) 40 (
          if wrap (q.1 132 (wrap (wdiv (q.1 126 6) (2 : Int))).toNat) = (47 : Int) then
            Mo_setEdges_L46 q (wdiv (q.1 126 6) (2 : Int)) (fun v2_46 v3_47 => 
              if wrap v2_46 = (0 : Int) then
                some ((-4 : Int), q)
              else
                (Mo_begin q ).bind fun r_49 =>
                  (Mo_emptyAll r_49 ).bind fun r_50 =>
                    Mo_setEdges_b110 (qs r_50.2 127 3 (wdiv (q.1 126 6) (2 : Int))) (wdiv (q.1 126 6) (2 : Int)) v2_46 v3_47) 5000 (1 : Int) (0 : Int)
          else
            Mo_setEdges_L46 q (wdiv (q.1 126 6) (2 : Int)) (fun v2_40 v3_41 => 
              if wrap v2_40 = (0 : Int) then
                some ((-4 : Int), q)
              else
                (Mo_begin q ).bind fun r_43 =>
                  (Mo_emptyAll r_43 ).bind fun r_44 =>
                    Mo_setEdges_b110 (qs r_44.2 127 3 (wdiv (q.1 126 6) (2 : Int))) (wdiv (q.1 126 6) (2 : Int)) v2_40 v3_41) 5000 (0 : Int) (0 : Int))
  else
    Mo_setEdges_L46 q (wdiv (q.1 126 6) (2 : Int)) (fun v2_8 v3_9 => 
      if wrap v2_8 = (0 : Int) then
        some ((-4 : Int), q)
      else
        (Mo_begin q ).bind fun r_11 =>
          (Mo_emptyAll r_11 ).bind fun r_12 =>
            Mo_setEdges_b110 (qs r_12.2 127 3 (wdiv (q.1 126 6) (2 : Int))) (wdiv (q.1 126 6) (2 : Int)) v2_8 v3_9) 5000 (0 : Int) (0 : Int)
theorem T_Mo_setEdges {E : zE} (q : zM)  : SimV E 149 (entF [vR (some 126)] (hp q)) eI (Mo_setEdges q ) := by
  unfold Mo_setEdges
  exact S_run 0 (f' := (0, 0, 0, [(0, vR (some 126))], [], hp q)) rfl (S_run 10 (f' := (0, 0, 14, [(0, vR (some 126)), (1, vI (wdiv (q.1 126 6) (2 : Int)))], [vI (1 : Int), vI (wrem (q.1 126 6) (2 : Int))], hp q)) rfl (S_ite (fun h_1 => S_go (J_icmp2 rfl rfl wl_1 (B_ne h_1)) (S_run 3 (f' := (0, 0, 21, [(0, vR (some 126)), (1, vI (wdiv (q.1 126 6) (2 : Int)))], [vI (8 : Int), vI (1 : Int), vI (wdiv (q.1 126 6) (2 : Int))], hp q)) rfl (S_call (m' := 115) (args := [vI (wdiv (q.1 126 6) (2 : Int)), vI (1 : Int), vI (8 : Int)]) (h := hp q) (k := fun r => (0, 0, 24, [(0, vR (some 126)), (1, vI (wdiv (q.1 126 6) (2 : Int)))], r.1.toList ++ [], r.2)) rfl (T_Mo_in q (wdiv (q.1 126 6) (2 : Int)) (1 : Int) (8 : Int)) (fun r_30 => S_run 0 (f' := (0, 0, 24, [(0, vR (some 126)), (1, vI (wdiv (q.1 126 6) (2 : Int)))], [vI r_30], hp q)) rfl (S_ite (fun h_31 => S_go (J_if2 rfl rfl (B_eq h_31)) (S_run 4 (f' := (0, 0, 46, [(0, vR (some 126)), (1, vI (wdiv (q.1 126 6) (2 : Int))), (2, vI (0 : Int)), (3, vI (0 : Int))], [], hp q)) rfl (T_Mo_setEdges_L46 q (wdiv (q.1 126 6) (2 : Int)) (fun v2_32 v3_33 => S_run 1 (f' := (0, 0, 88, [(0, vR (some 126)), (1, vI (wdiv (q.1 126 6) (2 : Int))), (2, vI v2_32), (3, vI v3_33)], [vI v2_32], hp q)) rfl (S_ite (fun h_34 => S_go (J_if2 rfl rfl (B_ne h_34)) (S_run 1 (f' := (0, 0, 93, [(0, vR (some 126)), (1, vI (wdiv (q.1 126 6) (2 : Int))), (2, vI v2_32), (3, vI v3_33)], [vI (-4 : Int)], hp q)) rfl (S_ret rfl))) (fun h_34 => S_go (J_if2 rfl rfl (B_ne' h_34)) (S_run 1 (f' := (0, 0, 95, [(0, vR (some 126)), (1, vI (wdiv (q.1 126 6) (2 : Int))), (2, vI v2_32), (3, vI v3_33)], [vR (some 126)], hp q)) rfl (S_call (m' := 116) (args := [vR (some 126)]) (h := hp q) (k := fun r => (0, 0, 98, [(0, vR (some 126)), (1, vI (wdiv (q.1 126 6) (2 : Int))), (2, vI v2_32), (3, vI v3_33)], r.1.toList ++ [], r.2)) rfl (T_Mo_begin q ) (fun r_35 => S_run 1 (f' := (0, 0, 99, [(0, vR (some 126)), (1, vI (wdiv (q.1 126 6) (2 : Int))), (2, vI v2_32), (3, vI v3_33)], [vR (some 126)], hp r_35)) rfl (S_call (m' := 145) (args := [vR (some 126)]) (h := hp r_35) (k := fun r => (0, 0, 102, [(0, vR (some 126)), (1, vI (wdiv (q.1 126 6) (2 : Int))), (2, vI v2_32), (3, vI v3_33)], r.1.toList ++ [], r.2)) rfl (T_Mo_emptyAll r_35 ) (fun r_36 => S_run 6 (f' := (0, 0, 110, [(0, vR (some 126)), (1, vI (wdiv (q.1 126 6) (2 : Int))), (2, vI v2_32), (3, vI v3_33)], [], hp (qs r_36.2 127 3 (wdiv (q.1 126 6) (2 : Int))))) rfl (T_Mo_setEdges_b110 (qs r_36.2 127 3 (wdiv (q.1 126 6) (2 : Int))) (wdiv (q.1 126 6) (2 : Int)) v2_32 v3_33))))))))) 5000 (0 : Int) (0 : Int)))) (fun h_31 => S_go (J_if2 rfl rfl (B_eq' h_31)) (S_run 3 (f' := (0, 0, 32, [(0, vR (some 126)), (1, vI (wdiv (q.1 126 6) (2 : Int)))], [vI (wdiv (q.1 126 6) (2 : Int)), vR (some 132)], hp q)) rfl (S_ck (n := 40) (fun h_38 => S_go (H_cald rfl rfl rfl h_38) (S_run 1 (f' := (0, 0, 35, [(0, vR (some 126)), (1, vI (wdiv (q.1 126 6) (2 : Int)))], [vI (47 : Int), vI (q.1 132 (wrap (wdiv (q.1 126 6) (2 : Int))).toNat)], hp q)) rfl (S_ite (fun h_39 => S_go (J_icmp2 rfl rfl wl_47 (B_ne h_39)) (S_run 5 (f' := (0, 0, 46, [(0, vR (some 126)), (1, vI (wdiv (q.1 126 6) (2 : Int))), (2, vI (1 : Int)), (3, vI (0 : Int))], [], hp q)) rfl (T_Mo_setEdges_L46 q (wdiv (q.1 126 6) (2 : Int)) (fun v2_46 v3_47 => S_run 1 (f' := (0, 0, 88, [(0, vR (some 126)), (1, vI (wdiv (q.1 126 6) (2 : Int))), (2, vI v2_46), (3, vI v3_47)], [vI v2_46], hp q)) rfl (S_ite (fun h_48 => S_go (J_if2 rfl rfl (B_ne h_48)) (S_run 1 (f' := (0, 0, 93, [(0, vR (some 126)), (1, vI (wdiv (q.1 126 6) (2 : Int))), (2, vI v2_46), (3, vI v3_47)], [vI (-4 : Int)], hp q)) rfl (S_ret rfl))) (fun h_48 => S_go (J_if2 rfl rfl (B_ne' h_48)) (S_run 1 (f' := (0, 0, 95, [(0, vR (some 126)), (1, vI (wdiv (q.1 126 6) (2 : Int))), (2, vI v2_46), (3, vI v3_47)], [vR (some 126)], hp q)) rfl (S_call (m' := 116) (args := [vR (some 126)]) (h := hp q) (k := fun r => (0, 0, 98, [(0, vR (some 126)), (1, vI (wdiv (q.1 126 6) (2 : Int))), (2, vI v2_46), (3, vI v3_47)], r.1.toList ++ [], r.2)) rfl (T_Mo_begin q ) (fun r_49 => S_run 1 (f' := (0, 0, 99, [(0, vR (some 126)), (1, vI (wdiv (q.1 126 6) (2 : Int))), (2, vI v2_46), (3, vI v3_47)], [vR (some 126)], hp r_49)) rfl (S_call (m' := 145) (args := [vR (some 126)]) (h := hp r_49) (k := fun r => (0, 0, 102, [(0, vR (some 126)), (1, vI (wdiv (q.1 126 6) (2 : Int))), (2, vI v2_46), (3, vI v3_47)], r.1.toList ++ [], r.2)) rfl (T_Mo_emptyAll r_49 ) (fun r_50 => S_run 6 (f' := (0, 0, 110, [(0, vR (some 126)), (1, vI (wdiv (q.1 126 6) (2 : Int))), (2, vI v2_46), (3, vI v3_47)], [], hp (qs r_50.2 127 3 (wdiv (q.1 126 6) (2 : Int))))) rfl (T_Mo_setEdges_b110 (qs r_50.2 127 3 (wdiv (q.1 126 6) (2 : Int))) (wdiv (q.1 126 6) (2 : Int)) v2_46 v3_47))))))))) 5000 (1 : Int) (0 : Int)))) (fun h_39 => S_go (J_icmp2 rfl rfl wl_47 (B_ne' h_39)) (S_run 4 (f' := (0, 0, 46, [(0, vR (some 126)), (1, vI (wdiv (q.1 126 6) (2 : Int))), (2, vI (0 : Int)), (3, vI (0 : Int))], [], hp q)) rfl (T_Mo_setEdges_L46 q (wdiv (q.1 126 6) (2 : Int)) (fun v2_40 v3_41 => S_run 1 (f' := (0, 0, 88, [(0, vR (some 126)), (1, vI (wdiv (q.1 126 6) (2 : Int))), (2, vI v2_40), (3, vI v3_41)], [vI v2_40], hp q)) rfl (S_ite (fun h_42 => S_go (J_if2 rfl rfl (B_ne h_42)) (S_run 1 (f' := (0, 0, 93, [(0, vR (some 126)), (1, vI (wdiv (q.1 126 6) (2 : Int))), (2, vI v2_40), (3, vI v3_41)], [vI (-4 : Int)], hp q)) rfl (S_ret rfl))) (fun h_42 => S_go (J_if2 rfl rfl (B_ne' h_42)) (S_run 1 (f' := (0, 0, 95, [(0, vR (some 126)), (1, vI (wdiv (q.1 126 6) (2 : Int))), (2, vI v2_40), (3, vI v3_41)], [vR (some 126)], hp q)) rfl (S_call (m' := 116) (args := [vR (some 126)]) (h := hp q) (k := fun r => (0, 0, 98, [(0, vR (some 126)), (1, vI (wdiv (q.1 126 6) (2 : Int))), (2, vI v2_40), (3, vI v3_41)], r.1.toList ++ [], r.2)) rfl (T_Mo_begin q ) (fun r_43 => S_run 1 (f' := (0, 0, 99, [(0, vR (some 126)), (1, vI (wdiv (q.1 126 6) (2 : Int))), (2, vI v2_40), (3, vI v3_41)], [vR (some 126)], hp r_43)) rfl (S_call (m' := 145) (args := [vR (some 126)]) (h := hp r_43) (k := fun r => (0, 0, 102, [(0, vR (some 126)), (1, vI (wdiv (q.1 126 6) (2 : Int))), (2, vI v2_40), (3, vI v3_41)], r.1.toList ++ [], r.2)) rfl (T_Mo_emptyAll r_43 ) (fun r_44 => S_run 6 (f' := (0, 0, 110, [(0, vR (some 126)), (1, vI (wdiv (q.1 126 6) (2 : Int))), (2, vI v2_40), (3, vI v3_41)], [], hp (qs r_44.2 127 3 (wdiv (q.1 126 6) (2 : Int))))) rfl (T_Mo_setEdges_b110 (qs r_44.2 127 3 (wdiv (q.1 126 6) (2 : Int))) (wdiv (q.1 126 6) (2 : Int)) v2_40 v3_41))))))))) 5000 (0 : Int) (0 : Int))))))))))))))) (fun h_1 => S_go (J_icmp2 rfl rfl wl_1 (B_ne' h_1)) (S_run 4 (f' := (0, 0, 46, [(0, vR (some 126)), (1, vI (wdiv (q.1 126 6) (2 : Int))), (2, vI (0 : Int)), (3, vI (0 : Int))], [], hp q)) rfl (T_Mo_setEdges_L46 q (wdiv (q.1 126 6) (2 : Int)) (fun v2_8 v3_9 => S_run 1 (f' := (0, 0, 88, [(0, vR (some 126)), (1, vI (wdiv (q.1 126 6) (2 : Int))), (2, vI v2_8), (3, vI v3_9)], [vI v2_8], hp q)) rfl (S_ite (fun h_10 => S_go (J_if2 rfl rfl (B_ne h_10)) (S_run 1 (f' := (0, 0, 93, [(0, vR (some 126)), (1, vI (wdiv (q.1 126 6) (2 : Int))), (2, vI v2_8), (3, vI v3_9)], [vI (-4 : Int)], hp q)) rfl (S_ret rfl))) (fun h_10 => S_go (J_if2 rfl rfl (B_ne' h_10)) (S_run 1 (f' := (0, 0, 95, [(0, vR (some 126)), (1, vI (wdiv (q.1 126 6) (2 : Int))), (2, vI v2_8), (3, vI v3_9)], [vR (some 126)], hp q)) rfl (S_call (m' := 116) (args := [vR (some 126)]) (h := hp q) (k := fun r => (0, 0, 98, [(0, vR (some 126)), (1, vI (wdiv (q.1 126 6) (2 : Int))), (2, vI v2_8), (3, vI v3_9)], r.1.toList ++ [], r.2)) rfl (T_Mo_begin q ) (fun r_11 => S_run 1 (f' := (0, 0, 99, [(0, vR (some 126)), (1, vI (wdiv (q.1 126 6) (2 : Int))), (2, vI v2_8), (3, vI v3_9)], [vR (some 126)], hp r_11)) rfl (S_call (m' := 145) (args := [vR (some 126)]) (h := hp r_11) (k := fun r => (0, 0, 102, [(0, vR (some 126)), (1, vI (wdiv (q.1 126 6) (2 : Int))), (2, vI v2_8), (3, vI v3_9)], r.1.toList ++ [], r.2)) rfl (T_Mo_emptyAll r_11 ) (fun r_12 => S_run 6 (f' := (0, 0, 110, [(0, vR (some 126)), (1, vI (wdiv (q.1 126 6) (2 : Int))), (2, vI v2_8), (3, vI v3_9)], [], hp (qs r_12.2 127 3 (wdiv (q.1 126 6) (2 : Int))))) rfl (T_Mo_setEdges_b110 (qs r_12.2 127 3 (wdiv (q.1 126 6) (2 : Int))) (wdiv (q.1 126 6) (2 : Int)) v2_8 v3_9))))))))) 5000 (0 : Int) (0 : Int))))))

def Mo_noLine (q : zM) (v1 : Int) : Option Int :=
  (Mo_in q v1 (0 : Int) ((q.1 127 3) - (1 : Int))).bind fun r_2 =>
    if wrap r_2 = (0 : Int) then
      some (1 : Int)
    else
      some (0 : Int)
theorem T_Mo_noLine {E : zE} (q : zM) (v1 : Int) : SimV E 139 (entF [vR (some 126), vI v1] (hp q)) (eP q) (Mo_noLine q v1) := by
  unfold Mo_noLine
  exact S_run 0 (f' := (0, 0, 0, [(0, vR (some 126)), (1, vI v1)], [], hp q)) rfl (S_run 8 (f' := (0, 0, 10, [(0, vR (some 126)), (1, vI v1)], [vI ((q.1 127 3) - (1 : Int)), vI (0 : Int), vI v1], hp q)) rfl (S_call (m' := 115) (args := [vI v1, vI (0 : Int), vI ((q.1 127 3) - (1 : Int))]) (h := hp q) (k := fun r => (0, 0, 13, [(0, vR (some 126)), (1, vI v1)], r.1.toList ++ [], r.2)) rfl (T_Mo_in q v1 (0 : Int) ((q.1 127 3) - (1 : Int))) (fun r_2 => S_run 0 (f' := (0, 0, 13, [(0, vR (some 126)), (1, vI v1)], [vI r_2], hp q)) rfl (S_ite (fun h_3 => S_go (J_if2 rfl rfl (B_ne h_3)) (S_run 2 (f' := (0, 0, 21, [(0, vR (some 126)), (1, vI v1)], [vI (1 : Int)], hp q)) rfl (S_ret rfl))) (fun h_3 => S_go (J_if2 rfl rfl (B_ne' h_3)) (S_run 1 (f' := (0, 0, 21, [(0, vR (some 126)), (1, vI v1)], [vI (0 : Int)], hp q)) rfl (S_ret rfl)))))))

def Mo_look_L3 (v1 : Int) (v2 : Int) (v3 : Int) (K : Int → zM → Option zM) : Nat → Int → zM → Option zM
  | 0, _, _ => none
  | n + 1, v4, q =>
    if wrap v4 < wrap (q.1 127 0) then
      (Mo_usedBut q v4 v1).bind fun r_3 =>
        (Mo_limit q v4).bind fun r_4 =>
          if wrap r_3 < wrap r_4 then
            ck (wrap v4) 40 (
              Mo_look_L3 v1 v2 v3 K n (v4 + 1) (qs q 134 (wrap v4).toNat ((1 : Int) % 2)))
          else
            ck (wrap v4) 40 (
              Mo_look_L3 v1 v2 v3 K n (v4 + 1) (qs q 134 (wrap v4).toNat ((0 : Int) % 2)))
    else
      K v4 q
theorem T_Mo_look_L3 {E : zE} (v1 : Int) (v2 : Int) (v3 : Int) {K : Int → zM → Option zM} (hK : ∀ (v4 : Int) (q : zM), SimV E 151 (0, 0, 48, [(0, vR (some 126)), (1, vI v1), (2, vI v2), (3, vI v3), (4, vI v4)], [], hp q) eV (K v4 q)) : ∀ (n : Nat) (v4 : Int) (q : zM), SimV E 151 (0, 0, 3, [(0, vR (some 126)), (1, vI v1), (2, vI v2), (3, vI v3), (4, vI v4)], [], hp q) eV (Mo_look_L3 v1 v2 v3 K n v4 q) := by
  intro n
  induction n with
  | zero => intro _ _; exact S_none
  | succ n ih =>
    intro v4 q
    rw [Mo_look_L3]
    exact S_run 5 (f' := (0, 0, 11, [(0, vR (some 126)), (1, vI v1), (2, vI v2), (3, vI v3), (4, vI v4)], [vI (q.1 127 0), vI v4], hp q)) rfl (S_ite (fun h_2 => S_go (J_icmp2 rfl rfl rfl (B_ge h_2)) (S_run 6 (f' := (0, 0, 24, [(0, vR (some 126)), (1, vI v1), (2, vI v2), (3, vI v3), (4, vI v4)], [vI v1, vI v4, vR (some 126), vI v4, vR (some 134)], hp q)) rfl (S_call (m' := 143) (args := [vR (some 126), vI v4, vI v1]) (h := hp q) (k := fun r => (0, 0, 27, [(0, vR (some 126)), (1, vI v1), (2, vI v2), (3, vI v3), (4, vI v4)], r.1.toList ++ [vI v4, vR (some 134)], r.2)) rfl (T_Mo_usedBut q v4 v1) (fun r_3 => S_run 2 (f' := (0, 0, 30, [(0, vR (some 126)), (1, vI v1), (2, vI v2), (3, vI v3), (4, vI v4)], [vI v4, vR (some 126), vI r_3, vI v4, vR (some 134)], hp q)) rfl (S_call (m' := 126) (args := [vR (some 126), vI v4]) (h := hp q) (k := fun r => (0, 0, 33, [(0, vR (some 126)), (1, vI v1), (2, vI v2), (3, vI v3), (4, vI v4)], r.1.toList ++ [vI r_3, vI v4, vR (some 134)], r.2)) rfl (T_Mo_limit q v4) (fun r_4 => S_run 0 (f' := (0, 0, 33, [(0, vR (some 126)), (1, vI v1), (2, vI v2), (3, vI v3), (4, vI v4)], [vI r_4, vI r_3, vI v4, vR (some 134)], hp q)) rfl (S_ite (fun h_5 => S_go (J_icmp2 rfl rfl rfl (B_ge h_5)) (S_run 2 (f' := (0, 0, 41, [(0, vR (some 126)), (1, vI v1), (2, vI v2), (3, vI v3), (4, vI v4)], [vI (1 : Int), vI v4, vR (some 134)], hp q)) rfl (S_ck (n := 40) (fun h_7 => S_go (H_bast rfl rfl rfl h_7) (S_run 2 (f' := (0, 0, 3, [(0, vR (some 126)), (1, vI v1), (2, vI v2), (3, vI v3), (4, vI (v4 + 1))], [], hp (qs q 134 (wrap v4).toNat ((1 : Int) % 2)))) rfl (ih (v4 + 1) (qs q 134 (wrap v4).toNat ((1 : Int) % 2)))))))) (fun h_5 => S_go (J_icmp2 rfl rfl rfl (B_ge' h_5)) (S_run 1 (f' := (0, 0, 41, [(0, vR (some 126)), (1, vI v1), (2, vI v2), (3, vI v3), (4, vI v4)], [vI (0 : Int), vI v4, vR (some 134)], hp q)) rfl (S_ck (n := 40) (fun h_6 => S_go (H_bast rfl rfl rfl h_6) (S_run 2 (f' := (0, 0, 3, [(0, vR (some 126)), (1, vI v1), (2, vI v2), (3, vI v3), (4, vI (v4 + 1))], [], hp (qs q 134 (wrap v4).toNat ((0 : Int) % 2)))) rfl (ih (v4 + 1) (qs q 134 (wrap v4).toNat ((0 : Int) % 2))))))))))))))) (fun h_2 => S_go (J_icmp2 rfl rfl rfl (B_ge' h_2)) (S_run 0 (f' := (0, 0, 48, [(0, vR (some 126)), (1, vI v1), (2, vI v2), (3, vI v3), (4, vI v4)], [], hp q)) rfl (hK v4 q))))

def Mo_look_b78 (q : zM) (v1 : Int) (v2 : Int) (v3 : Int) (v4 : Int) : Option zM :=
  if wrap v3 = 0 ∨ wrap v3 = 1 then
    some (qs q 126 17 v3)
  else none
theorem T_Mo_look_b78 {E : zE} (q : zM) (v1 : Int) (v2 : Int) (v3 : Int) (v4 : Int) : SimV E 151 (0, 0, 78, [(0, vR (some 126)), (1, vI v1), (2, vI v2), (3, vI v3), (4, vI v4)], [], hp q) eV (Mo_look_b78 q v1 v2 v3 v4) := by
  unfold Mo_look_b78
  exact S_run 2 (f' := (0, 0, 80, [(0, vR (some 126)), (1, vI v1), (2, vI v2), (3, vI v3), (4, vI v4)], [vI v3, vR (some 126)], hp q)) rfl (S_ite (fun h_12 => S_go (H_putz rfl rfl rfl rfl h_12) (S_run 0 (f' := (0, 0, 83, [(0, vR (some 126)), (1, vI v1), (2, vI v2), (3, vI v3), (4, vI v4)], [], hp (qs q 126 17 v3))) rfl (S_ret rfl))) (fun _ => S_none))

def Mo_look_b73 (q : zM) (v1 : Int) (v2 : Int) (v3 : Int) (v4 : Int) : Option zM :=
  if wrap v2 = 0 ∨ wrap v2 = 1 then
    Mo_look_b78 (qs q 126 16 v2) v1 v2 v3 v4
  else none
theorem T_Mo_look_b73 {E : zE} (q : zM) (v1 : Int) (v2 : Int) (v3 : Int) (v4 : Int) : SimV E 151 (0, 0, 73, [(0, vR (some 126)), (1, vI v1), (2, vI v2), (3, vI v3), (4, vI v4)], [], hp q) eV (Mo_look_b73 q v1 v2 v3 v4) := by
  unfold Mo_look_b73
  exact S_run 2 (f' := (0, 0, 75, [(0, vR (some 126)), (1, vI v1), (2, vI v2), (3, vI v3), (4, vI v4)], [vI v2, vR (some 126)], hp q)) rfl (S_ite (fun h_13 => S_go (H_putz rfl rfl rfl rfl h_13) (S_run 0 (f' := (0, 0, 78, [(0, vR (some 126)), (1, vI v1), (2, vI v2), (3, vI v3), (4, vI v4)], [], hp (qs q 126 16 v2))) rfl (T_Mo_look_b78 (qs q 126 16 v2) v1 v2 v3 v4))) (fun _ => S_none))

def Mo_look_b60 (q : zM) (v1 : Int) (v2 : Int) (v3 : Int) (v4 : Int) : Option zM :=
  ck (wrap ((12 : Int) + v1)) 244 (
    Mo_look_b73 (qs q 126 15 (q.1 127 (wrap ((12 : Int) + v1)).toNat)) v1 v2 v3 v4)
theorem T_Mo_look_b60 {E : zE} (q : zM) (v1 : Int) (v2 : Int) (v3 : Int) (v4 : Int) : SimV E 151 (0, 0, 60, [(0, vR (some 126)), (1, vI v1), (2, vI v2), (3, vI v3), (4, vI v4)], [], hp q) eV (Mo_look_b60 q v1 v2 v3 v4) := by
  unfold Mo_look_b60
  exact S_run 6 (f' := (0, 0, 69, [(0, vR (some 126)), (1, vI v1), (2, vI v2), (3, vI v3), (4, vI v4)], [vI ((12 : Int) + v1), vR (some 127), vR (some 126)], hp q)) rfl (S_ck (n := 244) (fun h_11 => S_go (H_iald rfl rfl rfl h_11) (S_run 1 (f' := (0, 0, 73, [(0, vR (some 126)), (1, vI v1), (2, vI v2), (3, vI v3), (4, vI v4)], [], hp (qs q 126 15 (q.1 127 (wrap ((12 : Int) + v1)).toNat)))) rfl (T_Mo_look_b73 (qs q 126 15 (q.1 127 (wrap ((12 : Int) + v1)).toNat)) v1 v2 v3 v4))))

def Mo_look (q : zM) (v1 : Int) (v2 : Int) (v3 : Int) : Option zM :=
  Mo_look_L3 v1 v2 v3 (fun v4_8 q_9 => 
    ck (wrap ((4 : Int) + v1)) 244 (
      Mo_look_b60 (qs q_9 126 14 (q_9.1 127 (wrap ((4 : Int) + v1)).toNat)) v1 v2 v3 v4_8)) 5000 (0 : Int) q
theorem T_Mo_look {E : zE} (q : zM) (v1 : Int) (v2 : Int) (v3 : Int) : SimV E 151 (entF [vR (some 126), vI v1, vI v2, vI v3] (hp q)) eV (Mo_look q v1 v2 v3) := by
  unfold Mo_look
  exact S_run 0 (f' := (0, 0, 0, [(0, vR (some 126)), (1, vI v1), (2, vI v2), (3, vI v3)], [], hp q)) rfl (S_run 2 (f' := (0, 0, 3, [(0, vR (some 126)), (1, vI v1), (2, vI v2), (3, vI v3), (4, vI (0 : Int))], [], hp q)) rfl (T_Mo_look_L3 v1 v2 v3 (fun v4_8 q_9 => S_run 6 (f' := (0, 0, 56, [(0, vR (some 126)), (1, vI v1), (2, vI v2), (3, vI v3), (4, vI v4_8)], [vI ((4 : Int) + v1), vR (some 127), vR (some 126)], hp q_9)) rfl (S_ck (n := 244) (fun h_10 => S_go (H_iald rfl rfl rfl h_10) (S_run 1 (f' := (0, 0, 60, [(0, vR (some 126)), (1, vI v1), (2, vI v2), (3, vI v3), (4, vI v4_8)], [], hp (qs q_9 126 14 (q_9.1 127 (wrap ((4 : Int) + v1)).toNat)))) rfl (T_Mo_look_b60 (qs q_9 126 14 (q_9.1 127 (wrap ((4 : Int) + v1)).toNat)) v1 v2 v3 v4_8))))) 5000 (0 : Int) q))

def Mo_syllables (q : zM) (v1 : Int) : Option Int :=
  ck (wrap (((20 : Int) + ((3 : Int) * v1)) + (2 : Int))) 244 (
    some (wand (wshr (q.1 127 (wrap (((20 : Int) + ((3 : Int) * v1)) + (2 : Int))).toNat) (4 : Int)) (15 : Int)))
theorem T_Mo_syllables {E : zE} (q : zM) (v1 : Int) : SimV E 124 (entF [vR (some 126), vI v1] (hp q)) (eP q) (Mo_syllables q v1) := by
  unfold Mo_syllables
  exact S_run 0 (f' := (0, 0, 0, [(0, vR (some 126)), (1, vI v1)], [], hp q)) rfl (S_run 9 (f' := (0, 0, 12, [(0, vR (some 126)), (1, vI v1)], [vI (((20 : Int) + ((3 : Int) * v1)) + (2 : Int)), vR (some 127)], hp q)) rfl (S_ck (n := 244) (fun h_1 => S_go (H_iald rfl rfl rfl h_1) (S_run 4 (f' := (0, 0, 18, [(0, vR (some 126)), (1, vI v1)], [vI (wand (wshr (q.1 127 (wrap (((20 : Int) + ((3 : Int) * v1)) + (2 : Int))).toNat) (4 : Int)) (15 : Int))], hp q)) rfl (S_ret rfl)))))

def Mo_stresses (q : zM) (v1 : Int) : Option Int :=
  ck (wrap (((20 : Int) + ((3 : Int) * v1)) + (2 : Int))) 244 (
    some (wand (wshr (q.1 127 (wrap (((20 : Int) + ((3 : Int) * v1)) + (2 : Int))).toNat) (8 : Int)) (15 : Int)))
theorem T_Mo_stresses {E : zE} (q : zM) (v1 : Int) : SimV E 125 (entF [vR (some 126), vI v1] (hp q)) (eP q) (Mo_stresses q v1) := by
  unfold Mo_stresses
  exact S_run 0 (f' := (0, 0, 0, [(0, vR (some 126)), (1, vI v1)], [], hp q)) rfl (S_run 9 (f' := (0, 0, 12, [(0, vR (some 126)), (1, vI v1)], [vI (((20 : Int) + ((3 : Int) * v1)) + (2 : Int)), vR (some 127)], hp q)) rfl (S_ck (n := 244) (fun h_1 => S_go (H_iald rfl rfl rfl h_1) (S_run 4 (f' := (0, 0, 19, [(0, vR (some 126)), (1, vI v1)], [vI (wand (wshr (q.1 127 (wrap (((20 : Int) + ((3 : Int) * v1)) + (2 : Int))).toNat) (8 : Int)) (15 : Int))], hp q)) rfl (S_ret rfl)))))

def Mo_bendsAt (q : zM) (v1 : Int) (v2 : Int) : Option Int :=
  (Mo_syllables q v1).bind fun r_1 =>
    if wrap (q.1 127 1) < wrap (v2 + r_1) then
      some (-5 : Int)
    else
      (Mo_stresses q v1).bind fun r_5 =>
        if wrap (wand (wshr (q.1 127 2) v2) ((wshl (1 : Int) r_1) - (1 : Int))) = wrap r_5 then
          if wrap r_1 = (1 : Int) then
            some (0 : Int)
          else
            if (0 : Int) = (0 : Int) then
              some (0 : Int)
            else
              some (-5 : Int)
        else
          if wrap r_1 = (1 : Int) then
            some (1 : Int)
          else
            if (1 : Int) = (0 : Int) then
              some (0 : Int)
            else
              some (-5 : Int)
theorem T_Mo_bendsAt {E : zE} (q : zM) (v1 : Int) (v2 : Int) : SimV E 150 (entF [vR (some 126), vI v1, vI v2] (hp q)) (eP q) (Mo_bendsAt q v1 v2) := by
  unfold Mo_bendsAt
  exact S_run 0 (f' := (0, 0, 0, [(0, vR (some 126)), (1, vI v1), (2, vI v2)], [], hp q)) rfl (S_run 2 (f' := (0, 0, 2, [(0, vR (some 126)), (1, vI v1), (2, vI v2)], [vI v1, vR (some 126)], hp q)) rfl (S_call (m' := 124) (args := [vR (some 126), vI v1]) (h := hp q) (k := fun r => (0, 0, 5, [(0, vR (some 126)), (1, vI v1), (2, vI v2)], r.1.toList ++ [], r.2)) rfl (T_Mo_syllables q v1) (fun r_1 => S_run 21 (f' := (0, 0, 31, [(0, vR (some 126)), (1, vI v1), (2, vI v2), (3, vI r_1), (4, vI (wand (wshr (q.1 127 2) v2) ((wshl (1 : Int) r_1) - (1 : Int))))], [vI (q.1 127 1), vI (v2 + r_1)], hp q)) rfl (S_ite (fun h_4 => S_go (J_icmp2 rfl rfl rfl (B_le h_4)) (S_run 1 (f' := (0, 0, 36, [(0, vR (some 126)), (1, vI v1), (2, vI v2), (3, vI r_1), (4, vI (wand (wshr (q.1 127 2) v2) ((wshl (1 : Int) r_1) - (1 : Int))))], [vI (-5 : Int)], hp q)) rfl (S_ret rfl))) (fun h_4 => S_go (J_icmp2 rfl rfl rfl (B_le' h_4)) (S_run 3 (f' := (0, 0, 41, [(0, vR (some 126)), (1, vI v1), (2, vI v2), (3, vI r_1), (4, vI (wand (wshr (q.1 127 2) v2) ((wshl (1 : Int) r_1) - (1 : Int))))], [vI v1, vR (some 126), vI (wand (wshr (q.1 127 2) v2) ((wshl (1 : Int) r_1) - (1 : Int)))], hp q)) rfl (S_call (m' := 125) (args := [vR (some 126), vI v1]) (h := hp q) (k := fun r => (0, 0, 44, [(0, vR (some 126)), (1, vI v1), (2, vI v2), (3, vI r_1), (4, vI (wand (wshr (q.1 127 2) v2) ((wshl (1 : Int) r_1) - (1 : Int))))], r.1.toList ++ [vI (wand (wshr (q.1 127 2) v2) ((wshl (1 : Int) r_1) - (1 : Int)))], r.2)) rfl (T_Mo_stresses q v1) (fun r_5 => S_run 0 (f' := (0, 0, 44, [(0, vR (some 126)), (1, vI v1), (2, vI v2), (3, vI r_1), (4, vI (wand (wshr (q.1 127 2) v2) ((wshl (1 : Int) r_1) - (1 : Int))))], [vI r_5, vI (wand (wshr (q.1 127 2) v2) ((wshl (1 : Int) r_1) - (1 : Int)))], hp q)) rfl (S_ite (fun h_6 => S_go (J_icmp2 rfl rfl rfl (B_ne h_6)) (S_run 5 (f' := (0, 0, 56, [(0, vR (some 126)), (1, vI v1), (2, vI v2), (3, vI r_1), (4, vI (wand (wshr (q.1 127 2) v2) ((wshl (1 : Int) r_1) - (1 : Int)))), (5, vI (0 : Int))], [vI (1 : Int), vI r_1], hp q)) rfl (S_ite (fun h_9 => S_go (J_icmp2 rfl rfl wl_1 (B_ne h_9)) (S_run 2 (f' := (0, 0, 75, [(0, vR (some 126)), (1, vI v1), (2, vI v2), (3, vI r_1), (4, vI (wand (wshr (q.1 127 2) v2) ((wshl (1 : Int) r_1) - (1 : Int)))), (5, vI (0 : Int))], [vI (0 : Int)], hp q)) rfl (S_ret rfl))) (fun h_9 => S_go (J_icmp2 rfl rfl wl_1 (B_ne' h_9)) (S_run 1 (f' := (0, 0, 66, [(0, vR (some 126)), (1, vI v1), (2, vI v2), (3, vI r_1), (4, vI (wand (wshr (q.1 127 2) v2) ((wshl (1 : Int) r_1) - (1 : Int)))), (5, vI (0 : Int))], [vI (0 : Int)], hp q)) rfl (S_ite (fun h_10 => S_go (J_if2 rfl wl_0 (B_ne h_10)) (S_run 2 (f' := (0, 0, 75, [(0, vR (some 126)), (1, vI v1), (2, vI v2), (3, vI r_1), (4, vI (wand (wshr (q.1 127 2) v2) ((wshl (1 : Int) r_1) - (1 : Int)))), (5, vI (0 : Int))], [vI (0 : Int)], hp q)) rfl (S_ret rfl))) (fun h_10 => S_go (J_if2 rfl wl_0 (B_ne' h_10)) (S_run 1 (f' := (0, 0, 75, [(0, vR (some 126)), (1, vI v1), (2, vI v2), (3, vI r_1), (4, vI (wand (wshr (q.1 127 2) v2) ((wshl (1 : Int) r_1) - (1 : Int)))), (5, vI (0 : Int))], [vI (-5 : Int)], hp q)) rfl (S_ret rfl))))))))) (fun h_6 => S_go (J_icmp2 rfl rfl rfl (B_ne' h_6)) (S_run 4 (f' := (0, 0, 56, [(0, vR (some 126)), (1, vI v1), (2, vI v2), (3, vI r_1), (4, vI (wand (wshr (q.1 127 2) v2) ((wshl (1 : Int) r_1) - (1 : Int)))), (5, vI (1 : Int))], [vI (1 : Int), vI r_1], hp q)) rfl (S_ite (fun h_7 => S_go (J_icmp2 rfl rfl wl_1 (B_ne h_7)) (S_run 2 (f' := (0, 0, 75, [(0, vR (some 126)), (1, vI v1), (2, vI v2), (3, vI r_1), (4, vI (wand (wshr (q.1 127 2) v2) ((wshl (1 : Int) r_1) - (1 : Int)))), (5, vI (1 : Int))], [vI (1 : Int)], hp q)) rfl (S_ret rfl))) (fun h_7 => S_go (J_icmp2 rfl rfl wl_1 (B_ne' h_7)) (S_run 1 (f' := (0, 0, 66, [(0, vR (some 126)), (1, vI v1), (2, vI v2), (3, vI r_1), (4, vI (wand (wshr (q.1 127 2) v2) ((wshl (1 : Int) r_1) - (1 : Int)))), (5, vI (1 : Int))], [vI (1 : Int)], hp q)) rfl (S_ite (fun h_8 => S_go (J_if2 rfl wl_1 (B_ne h_8)) (S_run 2 (f' := (0, 0, 75, [(0, vR (some 126)), (1, vI v1), (2, vI v2), (3, vI r_1), (4, vI (wand (wshr (q.1 127 2) v2) ((wshl (1 : Int) r_1) - (1 : Int)))), (5, vI (1 : Int))], [vI (0 : Int)], hp q)) rfl (S_ret rfl))) (fun h_8 => S_go (J_if2 rfl wl_1 (B_ne' h_8)) (S_run 1 (f' := (0, 0, 75, [(0, vR (some 126)), (1, vI v1), (2, vI v2), (3, vI r_1), (4, vI (wand (wshr (q.1 127 2) v2) ((wshl (1 : Int) r_1) - (1 : Int)))), (5, vI (1 : Int))], [vI (-5 : Int)], hp q)) rfl (S_ret rfl))))))))))))))))))

def Mo_place (q : zM) (v0 : Int) (v1 : Int) (v2 : Int) : Option Int :=
  some ((((169 : Int) * v0) + ((13 : Int) * v1)) + v2)
theorem T_Mo_place {E : zE} (q : zM) (v0 : Int) (v1 : Int) (v2 : Int) : SimV E 154 (entF [vI v0, vI v1, vI v2] (hp q)) (eP q) (Mo_place q v0 v1 v2) := by
  unfold Mo_place
  exact S_run 0 (f' := (0, 0, 0, [(0, vI v0), (1, vI v1), (2, vI v2)], [], hp q)) rfl (S_run 9 (f' := (0, 0, 12, [(0, vI v0), (1, vI v1), (2, vI v2)], [vI ((((169 : Int) * v0) + ((13 : Int) * v1)) + v2)], hp q)) rfl (S_ret rfl))

def Mo_lastLetter (q : zM) (v1 : Int) : Option Int :=
  (Mo_letters q v1).bind fun r_1 =>
    (Mo_letter q v1 (r_1 - (1 : Int))).bind fun r_2 =>
      some r_2
theorem T_Mo_lastLetter {E : zE} (q : zM) (v1 : Int) : SimV E 129 (entF [vR (some 126), vI v1] (hp q)) (eP q) (Mo_lastLetter q v1) := by
  unfold Mo_lastLetter
  exact S_run 0 (f' := (0, 0, 0, [(0, vR (some 126)), (1, vI v1)], [], hp q)) rfl (S_run 4 (f' := (0, 0, 4, [(0, vR (some 126)), (1, vI v1)], [vI v1, vR (some 126), vI v1, vR (some 126)], hp q)) rfl (S_call (m' := 123) (args := [vR (some 126), vI v1]) (h := hp q) (k := fun r => (0, 0, 7, [(0, vR (some 126)), (1, vI v1)], r.1.toList ++ [vI v1, vR (some 126)], r.2)) rfl (T_Mo_letters q v1) (fun r_1 => S_run 2 (f' := (0, 0, 9, [(0, vR (some 126)), (1, vI v1)], [vI (r_1 - (1 : Int)), vI v1, vR (some 126)], hp q)) rfl (S_call (m' := 122) (args := [vR (some 126), vI v1, vI (r_1 - (1 : Int))]) (h := hp q) (k := fun r => (0, 0, 12, [(0, vR (some 126)), (1, vI v1)], r.1.toList ++ [], r.2)) rfl (T_Mo_letter q v1 (r_1 - (1 : Int))) (fun r_2 => S_run 0 (f' := (0, 0, 12, [(0, vR (some 126)), (1, vI v1)], [vI r_2], hp q)) rfl (S_ret rfl))))))

def Mo_ends (q : zM) (v1 : Int) : Option Int :=
  (Mo_lastLetter q v1).bind fun r_1 =>
    if wrap r_1 = wrap (q.1 126 15) then
      if (1 : Int) = wrap (q.1 126 17) then
        some (0 : Int)
      else
        some (1 : Int)
    else
      if (0 : Int) = wrap (q.1 126 17) then
        some (0 : Int)
      else
        some (1 : Int)
theorem T_Mo_ends {E : zE} (q : zM) (v1 : Int) : SimV E 153 (entF [vR (some 126), vI v1] (hp q)) (eP q) (Mo_ends q v1) := by
  unfold Mo_ends
  exact S_run 0 (f' := (0, 0, 0, [(0, vR (some 126)), (1, vI v1)], [], hp q)) rfl (S_run 2 (f' := (0, 0, 2, [(0, vR (some 126)), (1, vI v1)], [vI v1, vR (some 126)], hp q)) rfl (S_call (m' := 129) (args := [vR (some 126), vI v1]) (h := hp q) (k := fun r => (0, 0, 5, [(0, vR (some 126)), (1, vI v1)], r.1.toList ++ [], r.2)) rfl (T_Mo_lastLetter q v1) (fun r_1 => S_run 2 (f' := (0, 0, 9, [(0, vR (some 126)), (1, vI v1)], [vI (q.1 126 15), vI r_1], hp q)) rfl (S_ite (fun h_2 => S_go (J_icmp2 rfl rfl rfl (B_ne h_2)) (S_run 4 (f' := (0, 0, 21, [(0, vR (some 126)), (1, vI v1)], [vI (q.1 126 17), vI (1 : Int)], hp q)) rfl (S_ite (fun h_4 => S_go (J_icmp2 rfl wl_1 rfl (B_eq h_4)) (S_run 1 (f' := (0, 0, 29, [(0, vR (some 126)), (1, vI v1)], [vI (0 : Int)], hp q)) rfl (S_ret rfl))) (fun h_4 => S_go (J_icmp2 rfl wl_1 rfl (B_eq' h_4)) (S_run 2 (f' := (0, 0, 29, [(0, vR (some 126)), (1, vI v1)], [vI (1 : Int)], hp q)) rfl (S_ret rfl)))))) (fun h_2 => S_go (J_icmp2 rfl rfl rfl (B_ne' h_2)) (S_run 3 (f' := (0, 0, 21, [(0, vR (some 126)), (1, vI v1)], [vI (q.1 126 17), vI (0 : Int)], hp q)) rfl (S_ite (fun h_3 => S_go (J_icmp2 rfl wl_0 rfl (B_eq h_3)) (S_run 1 (f' := (0, 0, 29, [(0, vR (some 126)), (1, vI v1)], [vI (0 : Int)], hp q)) rfl (S_ret rfl))) (fun h_3 => S_go (J_icmp2 rfl wl_0 rfl (B_eq' h_3)) (S_run 2 (f' := (0, 0, 29, [(0, vR (some 126)), (1, vI v1)], [vI (1 : Int)], hp q)) rfl (S_ret rfl))))))))))

def Mo_followsBy (q : zM) (v1 : Int) (v2 : Int) (v3 : Int) (v4 : Int) : Option Int :=
  (Mo_bendsAt q v1 v2).bind fun r_1 =>
    ck (wrap v1) 40 (
      if wrap (q.1 134 (wrap v1).toNat) = (0 : Int) then
        some (0 : Int)
      else
        if wrap r_1 < (0 : Int) then
          some (0 : Int)
        else
          if wrap v3 < wrap r_1 then
            some (0 : Int)
          else
            (Mo_syllables q v1).bind fun r_6 =>
              if wrap v4 = (1 : Int) then
                if wrap (v2 + r_6) = wrap (q.1 127 1) then
                  if wrap r_1 = wrap v3 then
                    (Mo_ends q v1).bind fun r_16 =>
                      if wrap r_16 = (0 : Int) then
                        some (0 : Int)
                      else
                        some (1 : Int)
                  else
                    some (0 : Int)
                else
                  some (0 : Int)
              else
                if wrap (v2 + r_6) < wrap (q.1 127 1) then
                  (Mo_place q (v2 + r_6) (v3 - r_1) (v4 - (1 : Int))).bind fun r_10 =>
                    ck (wrap r_10) 2197 (
                      if wrap (q.1 135 (wrap r_10).toNat) = (0 : Int) then
                        some (0 : Int)
                      else
                        some (1 : Int))
                else
                  some (0 : Int))
theorem T_Mo_followsBy {E : zE} (q : zM) (v1 : Int) (v2 : Int) (v3 : Int) (v4 : Int) : SimV E 155 (entF [vR (some 126), vI v1, vI v2, vI v3, vI v4] (hp q)) (eP q) (Mo_followsBy q v1 v2 v3 v4) := by
  unfold Mo_followsBy
  exact S_run 0 (f' := (0, 0, 0, [(0, vR (some 126)), (1, vI v1), (2, vI v2), (3, vI v3), (4, vI v4)], [], hp q)) rfl (S_run 3 (f' := (0, 0, 3, [(0, vR (some 126)), (1, vI v1), (2, vI v2), (3, vI v3), (4, vI v4)], [vI v2, vI v1, vR (some 126)], hp q)) rfl (S_call (m' := 150) (args := [vR (some 126), vI v1, vI v2]) (h := hp q) (k := fun r => (0, 0, 6, [(0, vR (some 126)), (1, vI v1), (2, vI v2), (3, vI v3), (4, vI v4)], r.1.toList ++ [], r.2)) rfl (T_Mo_bendsAt q v1 v2) (fun r_1 => S_run 4 (f' := (0, 0, 13, [(0, vR (some 126)), (1, vI v1), (2, vI v2), (3, vI v3), (4, vI v4), (5, vI r_1)], [vI v1, vR (some 134)], hp q)) rfl (S_ck (n := 40) (fun h_2 => S_go (H_bald rfl rfl rfl h_2) (S_run 0 (f' := (0, 0, 14, [(0, vR (some 126)), (1, vI v1), (2, vI v2), (3, vI v3), (4, vI v4), (5, vI r_1)], [vI (q.1 134 (wrap v1).toNat)], hp q)) rfl (S_ite (fun h_3 => S_go (J_if2 rfl rfl (B_eq h_3)) (S_run 1 (f' := (0, 0, 29, [(0, vR (some 126)), (1, vI v1), (2, vI v2), (3, vI v3), (4, vI v4), (5, vI r_1)], [vI (0 : Int)], hp q)) rfl (S_ret rfl))) (fun h_3 => S_go (J_if2 rfl rfl (B_eq' h_3)) (S_run 1 (f' := (0, 0, 19, [(0, vR (some 126)), (1, vI v1), (2, vI v2), (3, vI v3), (4, vI v4), (5, vI r_1)], [vI r_1], hp q)) rfl (S_ite (fun h_4 => S_go (J_if2 rfl rfl (B_lt h_4)) (S_run 1 (f' := (0, 0, 29, [(0, vR (some 126)), (1, vI v1), (2, vI v2), (3, vI v3), (4, vI v4), (5, vI r_1)], [vI (0 : Int)], hp q)) rfl (S_ret rfl))) (fun h_4 => S_go (J_if2 rfl rfl (B_lt' h_4)) (S_run 2 (f' := (0, 0, 25, [(0, vR (some 126)), (1, vI v1), (2, vI v2), (3, vI v3), (4, vI v4), (5, vI r_1)], [vI v3, vI r_1], hp q)) rfl (S_ite (fun h_5 => S_go (J_icmp2 rfl rfl rfl (B_le h_5)) (S_run 1 (f' := (0, 0, 29, [(0, vR (some 126)), (1, vI v1), (2, vI v2), (3, vI v3), (4, vI v4), (5, vI r_1)], [vI (0 : Int)], hp q)) rfl (S_ret rfl))) (fun h_5 => S_go (J_icmp2 rfl rfl rfl (B_le' h_5)) (S_run 3 (f' := (0, 0, 33, [(0, vR (some 126)), (1, vI v1), (2, vI v2), (3, vI v3), (4, vI v4), (5, vI r_1)], [vI v1, vR (some 126), vI v2], hp q)) rfl (S_call (m' := 124) (args := [vR (some 126), vI v1]) (h := hp q) (k := fun r => (0, 0, 36, [(0, vR (some 126)), (1, vI v1), (2, vI v2), (3, vI v3), (4, vI v4), (5, vI r_1)], r.1.toList ++ [vI v2], r.2)) rfl (T_Mo_syllables q v1) (fun r_6 => S_run 4 (f' := (0, 0, 42, [(0, vR (some 126)), (1, vI v1), (2, vI v2), (3, vI v3), (4, vI v4), (5, vI r_1), (6, vI (v2 + r_6))], [vI (1 : Int), vI v4], hp q)) rfl (S_ite (fun h_7 => S_go (J_icmp2 rfl rfl wl_1 (B_ne h_7)) (S_run 5 (f' := (0, 0, 53, [(0, vR (some 126)), (1, vI v1), (2, vI v2), (3, vI v3), (4, vI v4), (5, vI r_1), (6, vI (v2 + r_6))], [vI (q.1 127 1), vI (v2 + r_6)], hp q)) rfl (S_ite (fun h_14 => S_go (J_icmp2 rfl rfl rfl (B_ne h_14)) (S_run 2 (f' := (0, 0, 59, [(0, vR (some 126)), (1, vI v1), (2, vI v2), (3, vI v3), (4, vI v4), (5, vI r_1), (6, vI (v2 + r_6))], [vI v3, vI r_1], hp q)) rfl (S_ite (fun h_15 => S_go (J_icmp2 rfl rfl rfl (B_ne h_15)) (S_run 2 (f' := (0, 0, 64, [(0, vR (some 126)), (1, vI v1), (2, vI v2), (3, vI v3), (4, vI v4), (5, vI r_1), (6, vI (v2 + r_6))], [vI v1, vR (some 126)], hp q)) rfl (S_call (m' := 153) (args := [vR (some 126), vI v1]) (h := hp q) (k := fun r => (0, 0, 67, [(0, vR (some 126)), (1, vI v1), (2, vI v2), (3, vI v3), (4, vI v4), (5, vI r_1), (6, vI (v2 + r_6))], r.1.toList ++ [], r.2)) rfl (T_Mo_ends q v1) (fun r_16 => S_run 0 (f' := (0, 0, 67, [(0, vR (some 126)), (1, vI v1), (2, vI v2), (3, vI v3), (4, vI v4), (5, vI r_1), (6, vI (v2 + r_6))], [vI r_16], hp q)) rfl (S_ite (fun h_17 => S_go (J_if2 rfl rfl (B_eq h_17)) (S_run 1 (f' := (0, 0, 75, [(0, vR (some 126)), (1, vI v1), (2, vI v2), (3, vI v3), (4, vI v4), (5, vI r_1), (6, vI (v2 + r_6))], [vI (0 : Int)], hp q)) rfl (S_ret rfl))) (fun h_17 => S_go (J_if2 rfl rfl (B_eq' h_17)) (S_run 2 (f' := (0, 0, 75, [(0, vR (some 126)), (1, vI v1), (2, vI v2), (3, vI v3), (4, vI v4), (5, vI r_1), (6, vI (v2 + r_6))], [vI (1 : Int)], hp q)) rfl (S_ret rfl)))))))) (fun h_15 => S_go (J_icmp2 rfl rfl rfl (B_ne' h_15)) (S_run 1 (f' := (0, 0, 75, [(0, vR (some 126)), (1, vI v1), (2, vI v2), (3, vI v3), (4, vI v4), (5, vI r_1), (6, vI (v2 + r_6))], [vI (0 : Int)], hp q)) rfl (S_ret rfl)))))) (fun h_14 => S_go (J_icmp2 rfl rfl rfl (B_ne' h_14)) (S_run 1 (f' := (0, 0, 75, [(0, vR (some 126)), (1, vI v1), (2, vI v2), (3, vI v3), (4, vI v4), (5, vI r_1), (6, vI (v2 + r_6))], [vI (0 : Int)], hp q)) rfl (S_ret rfl)))))) (fun h_7 => S_go (J_icmp2 rfl rfl wl_1 (B_ne' h_7)) (S_run 5 (f' := (0, 0, 84, [(0, vR (some 126)), (1, vI v1), (2, vI v2), (3, vI v3), (4, vI v4), (5, vI r_1), (6, vI (v2 + r_6))], [vI (q.1 127 1), vI (v2 + r_6)], hp q)) rfl (S_ite (fun h_9 => S_go (J_icmp2 rfl rfl rfl (B_ge h_9)) (S_run 9 (f' := (0, 0, 101, [(0, vR (some 126)), (1, vI v1), (2, vI v2), (3, vI v3), (4, vI v4), (5, vI r_1), (6, vI (v2 + r_6))], [vI (v4 - (1 : Int)), vI (v3 - r_1), vI (v2 + r_6), vR (some 135)], hp q)) rfl (S_call (m' := 154) (args := [vI (v2 + r_6), vI (v3 - r_1), vI (v4 - (1 : Int))]) (h := hp q) (k := fun r => (0, 0, 104, [(0, vR (some 126)), (1, vI v1), (2, vI v2), (3, vI v3), (4, vI v4), (5, vI r_1), (6, vI (v2 + r_6))], r.1.toList ++ [vR (some 135)], r.2)) rfl (T_Mo_place q (v2 + r_6) (v3 - r_1) (v4 - (1 : Int))) (fun r_10 => S_run 0 (f' := (0, 0, 104, [(0, vR (some 126)), (1, vI v1), (2, vI v2), (3, vI v3), (4, vI v4), (5, vI r_1), (6, vI (v2 + r_6))], [vI r_10, vR (some 135)], hp q)) rfl (S_ck (n := 2197) (fun h_11 => S_go (H_bald rfl rfl rfl h_11) (S_run 0 (f' := (0, 0, 105, [(0, vR (some 126)), (1, vI v1), (2, vI v2), (3, vI v3), (4, vI v4), (5, vI r_1), (6, vI (v2 + r_6))], [vI (q.1 135 (wrap r_10).toNat)], hp q)) rfl (S_ite (fun h_12 => S_go (J_if2 rfl rfl (B_eq h_12)) (S_run 1 (f' := (0, 0, 113, [(0, vR (some 126)), (1, vI v1), (2, vI v2), (3, vI v3), (4, vI v4), (5, vI r_1), (6, vI (v2 + r_6))], [vI (0 : Int)], hp q)) rfl (S_ret rfl))) (fun h_12 => S_go (J_if2 rfl rfl (B_eq' h_12)) (S_run 2 (f' := (0, 0, 113, [(0, vR (some 126)), (1, vI v1), (2, vI v2), (3, vI v3), (4, vI v4), (5, vI r_1), (6, vI (v2 + r_6))], [vI (1 : Int)], hp q)) rfl (S_ret rfl))))))))))) (fun h_9 => S_go (J_icmp2 rfl rfl rfl (B_ge' h_9)) (S_run 1 (f' := (0, 0, 113, [(0, vR (some 126)), (1, vI v1), (2, vI v2), (3, vI v3), (4, vI v4), (5, vI r_1), (6, vI (v2 + r_6))], [vI (0 : Int)], hp q)) rfl (S_ret rfl))))))))))))))))))))))))

def Mo_fill_L2  (K : Int → zM → Option zM) : Nat → Int → zM → Option zM
  | 0, _, _ => none
  | n + 1, v1, q =>
    if wrap v1 < (2197 : Int) then
      ck (wrap v1) 2197 (
        Mo_fill_L2 K n (v1 + 1) (qs q 135 (wrap v1).toNat ((0 : Int) % 2)))
    else
      K v1 q
theorem T_Mo_fill_L2 {E : zE}  {K : Int → zM → Option zM} (hK : ∀ (v1 : Int) (q : zM), SimV E 156 (0, 0, 22, [(0, vR (some 126)), (1, vI v1)], [], hp q) eV (K v1 q)) : ∀ (n : Nat) (v1 : Int) (q : zM), SimV E 156 (0, 0, 2, [(0, vR (some 126)), (1, vI v1)], [], hp q) eV (Mo_fill_L2 K n v1 q) := by
  intro n
  induction n with
  | zero => intro _ _; exact S_none
  | succ n ih =>
    intro v1 q
    rw [Mo_fill_L2]
    exact S_run 2 (f' := (0, 0, 6, [(0, vR (some 126)), (1, vI v1)], [vI (2197 : Int), vI v1], hp q)) rfl (S_ite (fun h_1 => S_go (J_icmp2 rfl rfl wl_2197 (B_ge h_1)) (S_run 4 (f' := (0, 0, 15, [(0, vR (some 126)), (1, vI v1)], [vI (0 : Int), vI v1, vR (some 135)], hp q)) rfl (S_ck (n := 2197) (fun h_2 => S_go (H_bast rfl rfl rfl h_2) (S_run 2 (f' := (0, 0, 2, [(0, vR (some 126)), (1, vI (v1 + 1))], [], hp (qs q 135 (wrap v1).toNat ((0 : Int) % 2)))) rfl (ih (v1 + 1) (qs q 135 (wrap v1).toNat ((0 : Int) % 2)))))))) (fun h_1 => S_go (J_icmp2 rfl rfl wl_2197 (B_ge' h_1)) (S_run 0 (f' := (0, 0, 22, [(0, vR (some 126)), (1, vI v1)], [], hp q)) rfl (hK v1 q))))

def Mo_fill_L66 (q : zM) (v1 : Int) (v2 : Int) (v3 : Int) (v4 : Int) (K : Int → Int → Option zM) : Nat → Int → Int → Option zM
  | 0, _, _ => none
  | n + 1, v5, v6 =>
    if wrap v6 < wrap (q.1 127 0) then
      if wrap v5 = (0 : Int) then
        (Mo_followsBy q v6 v1 v4 v3).bind fun r_13 =>
          Mo_fill_L66 q v1 v2 v3 v4 K n r_13 (v6 + 1)
      else
        K v5 v6
    else
      K v5 v6
theorem T_Mo_fill_L66 {E : zE} (q : zM) (v1 : Int) (v2 : Int) (v3 : Int) (v4 : Int) {K : Int → Int → Option zM} (hK : ∀ (v5 : Int) (v6 : Int), SimV E 156 (0, 0, 100, [(0, vR (some 126)), (1, vI v1), (2, vI v2), (3, vI v3), (4, vI v4), (5, vI v5), (6, vI v6)], [], hp q) eV (K v5 v6)) : ∀ (n : Nat) (v5 : Int) (v6 : Int), SimV E 156 (0, 0, 66, [(0, vR (some 126)), (1, vI v1), (2, vI v2), (3, vI v3), (4, vI v4), (5, vI v5), (6, vI v6)], [], hp q) eV (Mo_fill_L66 q v1 v2 v3 v4 K n v5 v6) := by
  intro n
  induction n with
  | zero => intro _ _; exact S_none
  | succ n ih =>
    intro v5 v6
    rw [Mo_fill_L66]
    exact S_run 5 (f' := (0, 0, 74, [(0, vR (some 126)), (1, vI v1), (2, vI v2), (3, vI v3), (4, vI v4), (5, vI v5), (6, vI v6)], [vI (q.1 127 0), vI v6], hp q)) rfl (S_ite (fun h_11 => S_go (J_icmp2 rfl rfl rfl (B_ge h_11)) (S_run 1 (f' := (0, 0, 79, [(0, vR (some 126)), (1, vI v1), (2, vI v2), (3, vI v3), (4, vI v4), (5, vI v5), (6, vI v6)], [vI v5], hp q)) rfl (S_ite (fun h_12 => S_go (J_if2 rfl rfl (B_ne h_12)) (S_run 5 (f' := (0, 0, 89, [(0, vR (some 126)), (1, vI v1), (2, vI v2), (3, vI v3), (4, vI v4), (5, vI v5), (6, vI v6)], [vI v3, vI v4, vI v1, vI v6, vR (some 126)], hp q)) rfl (S_call (m' := 155) (args := [vR (some 126), vI v6, vI v1, vI v4, vI v3]) (h := hp q) (k := fun r => (0, 0, 92, [(0, vR (some 126)), (1, vI v1), (2, vI v2), (3, vI v3), (4, vI v4), (5, vI v5), (6, vI v6)], r.1.toList ++ [], r.2)) rfl (T_Mo_followsBy q v6 v1 v4 v3) (fun r_13 => S_run 3 (f' := (0, 0, 66, [(0, vR (some 126)), (1, vI v1), (2, vI v2), (3, vI v3), (4, vI v4), (5, vI r_13), (6, vI (v6 + 1))], [], hp q)) rfl (ih r_13 (v6 + 1)))))) (fun h_12 => S_go (J_if2 rfl rfl (B_ne' h_12)) (S_run 0 (f' := (0, 0, 100, [(0, vR (some 126)), (1, vI v1), (2, vI v2), (3, vI v3), (4, vI v4), (5, vI v5), (6, vI v6)], [], hp q)) rfl (hK v5 v6)))))) (fun h_11 => S_go (J_icmp2 rfl rfl rfl (B_ge' h_11)) (S_run 0 (f' := (0, 0, 100, [(0, vR (some 126)), (1, vI v1), (2, vI v2), (3, vI v3), (4, vI v4), (5, vI v5), (6, vI v6)], [], hp q)) rfl (hK v5 v6))))

def Mo_fill_L54 (v1 : Int) (v2 : Int) (v3 : Int) (K : Int → zM → Option zM) : Nat → Int → zM → Option zM
  | 0, _, _ => none
  | n + 1, v4, q =>
    if wrap v3 < wrap v4 then
      K v4 q
    else
      Mo_fill_L66 q v1 v2 v3 v4 (fun v5_14 v6_15 => 
        (Mo_place q v1 v4 v3).bind fun r_16 =>
          ck (wrap r_16) 2197 (
            Mo_fill_L54 v1 v2 v3 K n (v4 + 1) (qs q 135 (wrap r_16).toNat (v5_14 % 2)))) 5000 (0 : Int) (0 : Int)
theorem T_Mo_fill_L54 {E : zE} (v1 : Int) (v2 : Int) (v3 : Int) {K : Int → zM → Option zM} (hK : ∀ (v4 : Int) (q : zM), SimV E 156 (0, 0, 120, [(0, vR (some 126)), (1, vI v1), (2, vI v2), (3, vI v3), (4, vI v4)], [], hp q) eV (K v4 q)) : ∀ (n : Nat) (v4 : Int) (q : zM), SimV E 156 (0, 0, 54, [(0, vR (some 126)), (1, vI v1), (2, vI v2), (3, vI v3), (4, vI v4)], [], hp q) eV (Mo_fill_L54 v1 v2 v3 K n v4 q) := by
  intro n
  induction n with
  | zero => intro _ _; exact S_none
  | succ n ih =>
    intro v4 q
    rw [Mo_fill_L54]
    exact S_run 2 (f' := (0, 0, 57, [(0, vR (some 126)), (1, vI v1), (2, vI v2), (3, vI v3), (4, vI v4)], [vI v3, vI v4], hp q)) rfl (S_ite (fun h_9 => S_go (J_icmp2 rfl rfl rfl (B_gt h_9)) (S_run 0 (f' := (0, 0, 120, [(0, vR (some 126)), (1, vI v1), (2, vI v2), (3, vI v3), (4, vI v4)], [], hp q)) rfl (hK v4 q))) (fun h_9 => S_go (J_icmp2 rfl rfl rfl (B_gt' h_9)) (S_run 4 (f' := (0, 0, 66, [(0, vR (some 126)), (1, vI v1), (2, vI v2), (3, vI v3), (4, vI v4), (5, vI (0 : Int)), (6, vI (0 : Int))], [], hp q)) rfl (T_Mo_fill_L66 q v1 v2 v3 v4 (fun v5_14 v6_15 => S_run 5 (f' := (0, 0, 108, [(0, vR (some 126)), (1, vI v1), (2, vI v2), (3, vI v3), (4, vI v4), (5, vI v5_14), (6, vI v6_15)], [vI v3, vI v4, vI v1, vR (some 135)], hp q)) rfl (S_call (m' := 154) (args := [vI v1, vI v4, vI v3]) (h := hp q) (k := fun r => (0, 0, 111, [(0, vR (some 126)), (1, vI v1), (2, vI v2), (3, vI v3), (4, vI v4), (5, vI v5_14), (6, vI v6_15)], r.1.toList ++ [vR (some 135)], r.2)) rfl (T_Mo_place q v1 v4 v3) (fun r_16 => S_run 1 (f' := (0, 0, 113, [(0, vR (some 126)), (1, vI v1), (2, vI v2), (3, vI v3), (4, vI v4), (5, vI v5_14), (6, vI v6_15)], [vI v5_14, vI r_16, vR (some 135)], hp q)) rfl (S_ck (n := 2197) (fun h_17 => S_go (H_bast rfl rfl rfl h_17) (S_run 2 (f' := (0, 0, 54, [(0, vR (some 126)), (1, vI v1), (2, vI v2), (3, vI v3), (4, vI (v4 + 1))], [], hp (qs q 135 (wrap r_16).toNat (v5_14 % 2)))) rfl (ih (v4 + 1) (qs q 135 (wrap r_16).toNat (v5_14 % 2))))))))) 5000 (0 : Int) (0 : Int)))))

def Mo_fill_L46 (v1 : Int) (v2 : Int) (K : Int → zM → Option zM) : Nat → Int → zM → Option zM
  | 0, _, _ => none
  | n + 1, v3, q =>
    if wrap v2 < wrap v3 then
      K v3 q
    else
      Mo_fill_L54 v1 v2 v3 (fun v4_18 q_19 => 
        Mo_fill_L46 v1 v2 K n (v3 + 1) q_19) 5000 (0 : Int) q
theorem T_Mo_fill_L46 {E : zE} (v1 : Int) (v2 : Int) {K : Int → zM → Option zM} (hK : ∀ (v3 : Int) (q : zM), SimV E 156 (0, 0, 126, [(0, vR (some 126)), (1, vI v1), (2, vI v2), (3, vI v3)], [], hp q) eV (K v3 q)) : ∀ (n : Nat) (v3 : Int) (q : zM), SimV E 156 (0, 0, 46, [(0, vR (some 126)), (1, vI v1), (2, vI v2), (3, vI v3)], [], hp q) eV (Mo_fill_L46 v1 v2 K n v3 q) := by
  intro n
  induction n with
  | zero => intro _ _; exact S_none
  | succ n ih =>
    intro v3 q
    rw [Mo_fill_L46]
    exact S_run 2 (f' := (0, 0, 48, [(0, vR (some 126)), (1, vI v1), (2, vI v2), (3, vI v3)], [vI v2, vI v3], hp q)) rfl (S_ite (fun h_8 => S_go (J_icmp2 rfl rfl rfl (B_gt h_8)) (S_run 0 (f' := (0, 0, 126, [(0, vR (some 126)), (1, vI v1), (2, vI v2), (3, vI v3)], [], hp q)) rfl (hK v3 q))) (fun h_8 => S_go (J_icmp2 rfl rfl rfl (B_gt' h_8)) (S_run 2 (f' := (0, 0, 54, [(0, vR (some 126)), (1, vI v1), (2, vI v2), (3, vI v3), (4, vI (0 : Int))], [], hp q)) rfl (T_Mo_fill_L54 v1 v2 v3 (fun v4_18 q_19 => S_run 2 (f' := (0, 0, 46, [(0, vR (some 126)), (1, vI v1), (2, vI v2), (3, vI (v3 + 1))], [], hp q_19)) rfl (ih (v3 + 1) q_19)) 5000 (0 : Int) q))))

def Mo_fill_L31  (K : Int → zM → Option zM) : Nat → Int → zM → Option zM
  | 0, _, _ => none
  | n + 1, v1, q =>
    if wrap v1 < (0 : Int) then
      K v1 q
    else
      Mo_fill_L46 v1 ((q.1 127 1) - v1) (fun v3_20 q_21 => 
        Mo_fill_L31 K n (v1 + (-1)) q_21) 5000 (1 : Int) q
theorem T_Mo_fill_L31 {E : zE}  {K : Int → zM → Option zM} (hK : ∀ (v1 : Int) (q : zM), SimV E 156 (0, 0, 132, [(0, vR (some 126)), (1, vI v1)], [], hp q) eV (K v1 q)) : ∀ (n : Nat) (v1 : Int) (q : zM), SimV E 156 (0, 0, 31, [(0, vR (some 126)), (1, vI v1)], [], hp q) eV (Mo_fill_L31 K n v1 q) := by
  intro n
  induction n with
  | zero => intro _ _; exact S_none
  | succ n ih =>
    intro v1 q
    rw [Mo_fill_L31]
    exact S_run 1 (f' := (0, 0, 32, [(0, vR (some 126)), (1, vI v1)], [vI v1], hp q)) rfl (S_ite (fun h_6 => S_go (J_if2 rfl rfl (B_lt h_6)) (S_run 0 (f' := (0, 0, 132, [(0, vR (some 126)), (1, vI v1)], [], hp q)) rfl (hK v1 q))) (fun h_6 => S_go (J_if2 rfl rfl (B_lt' h_6)) (S_run 9 (f' := (0, 0, 46, [(0, vR (some 126)), (1, vI v1), (2, vI ((q.1 127 1) - v1)), (3, vI (1 : Int))], [], hp q)) rfl (T_Mo_fill_L46 v1 ((q.1 127 1) - v1) (fun v3_20 q_21 => S_run 2 (f' := (0, 0, 31, [(0, vR (some 126)), (1, vI (v1 + (-1)))], [], hp q_21)) rfl (ih (v1 + (-1)) q_21)) 5000 (1 : Int) q))))

def Mo_fill (q : zM)  : Option zM :=
  Mo_fill_L2  (fun v1_3 q_4 => 
    Mo_fill_L31  (fun v1_22 q_23 => 
      some q_23) 5000 ((q_4.1 127 1) - (1 : Int)) q_4) 5000 (0 : Int) q
theorem T_Mo_fill {E : zE} (q : zM)  : SimV E 156 (entF [vR (some 126)] (hp q)) eV (Mo_fill q ) := by
  unfold Mo_fill
  exact S_run 0 (f' := (0, 0, 0, [(0, vR (some 126))], [], hp q)) rfl (S_run 2 (f' := (0, 0, 2, [(0, vR (some 126)), (1, vI (0 : Int))], [], hp q)) rfl (T_Mo_fill_L2  (fun v1_3 q_4 => S_run 7 (f' := (0, 0, 31, [(0, vR (some 126)), (1, vI ((q_4.1 127 1) - (1 : Int)))], [], hp q_4)) rfl (T_Mo_fill_L31  (fun v1_22 q_23 => S_run 0 (f' := (0, 0, 132, [(0, vR (some 126)), (1, vI v1_22)], [], hp q_23)) rfl (S_ret rfl)) 5000 ((q_4.1 127 1) - (1 : Int)) q_4)) 5000 (0 : Int) q))

def Mo_firstLetter (q : zM) (v1 : Int) : Option Int :=
  (Mo_letter q v1 (0 : Int)).bind fun r_1 =>
    some r_1
theorem T_Mo_firstLetter {E : zE} (q : zM) (v1 : Int) : SimV E 128 (entF [vR (some 126), vI v1] (hp q)) (eP q) (Mo_firstLetter q v1) := by
  unfold Mo_firstLetter
  exact S_run 0 (f' := (0, 0, 0, [(0, vR (some 126)), (1, vI v1)], [], hp q)) rfl (S_run 3 (f' := (0, 0, 3, [(0, vR (some 126)), (1, vI v1)], [vI (0 : Int), vI v1, vR (some 126)], hp q)) rfl (S_call (m' := 122) (args := [vR (some 126), vI v1, vI (0 : Int)]) (h := hp q) (k := fun r => (0, 0, 6, [(0, vR (some 126)), (1, vI v1)], r.1.toList ++ [], r.2)) rfl (T_Mo_letter q v1 (0 : Int)) (fun r_1 => S_run 0 (f' := (0, 0, 6, [(0, vR (some 126)), (1, vI v1)], [vI r_1], hp q)) rfl (S_ret rfl))))

def Mo_begins (q : zM) (v1 : Int) : Option Int :=
  (Mo_firstLetter q v1).bind fun r_1 =>
    if wrap r_1 = wrap (q.1 126 14) then
      if (1 : Int) = wrap (q.1 126 16) then
        some (0 : Int)
      else
        some (1 : Int)
    else
      if (0 : Int) = wrap (q.1 126 16) then
        some (0 : Int)
      else
        some (1 : Int)
theorem T_Mo_begins {E : zE} (q : zM) (v1 : Int) : SimV E 152 (entF [vR (some 126), vI v1] (hp q)) (eP q) (Mo_begins q v1) := by
  unfold Mo_begins
  exact S_run 0 (f' := (0, 0, 0, [(0, vR (some 126)), (1, vI v1)], [], hp q)) rfl (S_run 2 (f' := (0, 0, 2, [(0, vR (some 126)), (1, vI v1)], [vI v1, vR (some 126)], hp q)) rfl (S_call (m' := 128) (args := [vR (some 126), vI v1]) (h := hp q) (k := fun r => (0, 0, 5, [(0, vR (some 126)), (1, vI v1)], r.1.toList ++ [], r.2)) rfl (T_Mo_firstLetter q v1) (fun r_1 => S_run 2 (f' := (0, 0, 9, [(0, vR (some 126)), (1, vI v1)], [vI (q.1 126 14), vI r_1], hp q)) rfl (S_ite (fun h_2 => S_go (J_icmp2 rfl rfl rfl (B_ne h_2)) (S_run 4 (f' := (0, 0, 21, [(0, vR (some 126)), (1, vI v1)], [vI (q.1 126 16), vI (1 : Int)], hp q)) rfl (S_ite (fun h_4 => S_go (J_icmp2 rfl wl_1 rfl (B_eq h_4)) (S_run 1 (f' := (0, 0, 29, [(0, vR (some 126)), (1, vI v1)], [vI (0 : Int)], hp q)) rfl (S_ret rfl))) (fun h_4 => S_go (J_icmp2 rfl wl_1 rfl (B_eq' h_4)) (S_run 2 (f' := (0, 0, 29, [(0, vR (some 126)), (1, vI v1)], [vI (1 : Int)], hp q)) rfl (S_ret rfl)))))) (fun h_2 => S_go (J_icmp2 rfl rfl rfl (B_ne' h_2)) (S_run 3 (f' := (0, 0, 21, [(0, vR (some 126)), (1, vI v1)], [vI (q.1 126 16), vI (0 : Int)], hp q)) rfl (S_ite (fun h_3 => S_go (J_icmp2 rfl wl_0 rfl (B_eq h_3)) (S_run 1 (f' := (0, 0, 29, [(0, vR (some 126)), (1, vI v1)], [vI (0 : Int)], hp q)) rfl (S_ret rfl))) (fun h_3 => S_go (J_icmp2 rfl wl_0 rfl (B_eq' h_3)) (S_run 2 (f' := (0, 0, 29, [(0, vR (some 126)), (1, vI v1)], [vI (1 : Int)], hp q)) rfl (S_ret rfl))))))))))

def Mo_lowest_L3 (q : zM) (v1 : Int) (v2 : Int) (v3 : Int) (K : Int → Option Int) : Nat → Int → Option Int
  | 0, _ => none
  | n + 1, v4 =>
    if wrap v4 < wrap (q.1 127 0) then
      (Mo_followsBy q v4 v1 v2 v3).bind fun r_3 =>
        if wrap r_3 = (0 : Int) then
          Mo_lowest_L3 q v1 v2 v3 K n (v4 + 1)
        else
          if (0 : Int) < wrap v1 then
            some v4
          else
            (Mo_begins q v4).bind fun r_6 =>
              if wrap r_6 = (0 : Int) then
                Mo_lowest_L3 q v1 v2 v3 K n (v4 + 1)
              else
                some v4
    else
      K v4
theorem T_Mo_lowest_L3 {E : zE} (q : zM) (v1 : Int) (v2 : Int) (v3 : Int) {K : Int → Option Int} (hK : ∀ (v4 : Int), SimV E 157 (0, 0, 48, [(0, vR (some 126)), (1, vI v1), (2, vI v2), (3, vI v3), (4, vI v4)], [], hp q) (eP q) (K v4)) : ∀ (n : Nat) (v4 : Int), SimV E 157 (0, 0, 3, [(0, vR (some 126)), (1, vI v1), (2, vI v2), (3, vI v3), (4, vI v4)], [], hp q) (eP q) (Mo_lowest_L3 q v1 v2 v3 K n v4) := by
  intro n
  induction n with
  | zero => intro _; exact S_none
  | succ n ih =>
    intro v4
    rw [Mo_lowest_L3]
    exact S_run 5 (f' := (0, 0, 11, [(0, vR (some 126)), (1, vI v1), (2, vI v2), (3, vI v3), (4, vI v4)], [vI (q.1 127 0), vI v4], hp q)) rfl (S_ite (fun h_2 => S_go (J_icmp2 rfl rfl rfl (B_ge h_2)) (S_run 5 (f' := (0, 0, 20, [(0, vR (some 126)), (1, vI v1), (2, vI v2), (3, vI v3), (4, vI v4)], [vI v3, vI v2, vI v1, vI v4, vR (some 126)], hp q)) rfl (S_call (m' := 155) (args := [vR (some 126), vI v4, vI v1, vI v2, vI v3]) (h := hp q) (k := fun r => (0, 0, 23, [(0, vR (some 126)), (1, vI v1), (2, vI v2), (3, vI v3), (4, vI v4)], r.1.toList ++ [], r.2)) rfl (T_Mo_followsBy q v4 v1 v2 v3) (fun r_3 => S_run 0 (f' := (0, 0, 23, [(0, vR (some 126)), (1, vI v1), (2, vI v2), (3, vI v3), (4, vI v4)], [vI r_3], hp q)) rfl (S_ite (fun h_4 => S_go (J_if2 rfl rfl (B_eq h_4)) (S_run 2 (f' := (0, 0, 3, [(0, vR (some 126)), (1, vI v1), (2, vI v2), (3, vI v3), (4, vI (v4 + 1))], [], hp q)) rfl (ih (v4 + 1)))) (fun h_4 => S_go (J_if2 rfl rfl (B_eq' h_4)) (S_run 1 (f' := (0, 0, 27, [(0, vR (some 126)), (1, vI v1), (2, vI v2), (3, vI v3), (4, vI v4)], [vI v1], hp q)) rfl (S_ite (fun h_5 => S_go (J_if2 rfl rfl (B_gt h_5)) (S_run 1 (f' := (0, 0, 41, [(0, vR (some 126)), (1, vI v1), (2, vI v2), (3, vI v3), (4, vI v4)], [vI v4], hp q)) rfl (S_ret rfl))) (fun h_5 => S_go (J_if2 rfl rfl (B_gt' h_5)) (S_run 2 (f' := (0, 0, 33, [(0, vR (some 126)), (1, vI v1), (2, vI v2), (3, vI v3), (4, vI v4)], [vI v4, vR (some 126)], hp q)) rfl (S_call (m' := 152) (args := [vR (some 126), vI v4]) (h := hp q) (k := fun r => (0, 0, 36, [(0, vR (some 126)), (1, vI v1), (2, vI v2), (3, vI v3), (4, vI v4)], r.1.toList ++ [], r.2)) rfl (T_Mo_begins q v4) (fun r_6 => S_run 0 (f' := (0, 0, 36, [(0, vR (some 126)), (1, vI v1), (2, vI v2), (3, vI v3), (4, vI v4)], [vI r_6], hp q)) rfl (S_ite (fun h_7 => S_go (J_if2 rfl rfl (B_eq h_7)) (S_run 2 (f' := (0, 0, 3, [(0, vR (some 126)), (1, vI v1), (2, vI v2), (3, vI v3), (4, vI (v4 + 1))], [], hp q)) rfl (ih (v4 + 1)))) (fun h_7 => S_go (J_if2 rfl rfl (B_eq' h_7)) (S_run 1 (f' := (0, 0, 41, [(0, vR (some 126)), (1, vI v1), (2, vI v2), (3, vI v3), (4, vI v4)], [vI v4], hp q)) rfl (S_ret rfl)))))))))))))))) (fun h_2 => S_go (J_icmp2 rfl rfl rfl (B_ge' h_2)) (S_run 0 (f' := (0, 0, 48, [(0, vR (some 126)), (1, vI v1), (2, vI v2), (3, vI v3), (4, vI v4)], [], hp q)) rfl (hK v4))))

def Mo_lowest (q : zM) (v1 : Int) (v2 : Int) (v3 : Int) : Option Int :=
  Mo_lowest_L3 q v1 v2 v3 (fun v4_8 => 
    some (-5 : Int)) 5000 (0 : Int)
theorem T_Mo_lowest {E : zE} (q : zM) (v1 : Int) (v2 : Int) (v3 : Int) : SimV E 157 (entF [vR (some 126), vI v1, vI v2, vI v3] (hp q)) (eP q) (Mo_lowest q v1 v2 v3) := by
  unfold Mo_lowest
  exact S_run 0 (f' := (0, 0, 0, [(0, vR (some 126)), (1, vI v1), (2, vI v2), (3, vI v3)], [], hp q)) rfl (S_run 2 (f' := (0, 0, 3, [(0, vR (some 126)), (1, vI v1), (2, vI v2), (3, vI v3), (4, vI (0 : Int))], [], hp q)) rfl (T_Mo_lowest_L3 q v1 v2 v3 (fun v4_8 => S_run 1 (f' := (0, 0, 50, [(0, vR (some 126)), (1, vI v1), (2, vI v2), (3, vI v3), (4, vI v4_8)], [vI (-5 : Int)], hp q)) rfl (S_ret rfl)) 5000 (0 : Int)))

def Mo_search_L30 (v1 : Int) (K : Int → zM → Option (Int × zM)) : Nat → Int → zM → Option (Int × zM)
  | 0, _, _ => none
  | n + 1, v2, q =>
    if wrap (q.1 127 1) < wrap v2 then
      K v2 q
    else
      if wrap (q.1 126 20) = (0 : Int) then
        (Mo_lowest q (0 : Int) v1 v2).bind fun r_8 =>
          if wrap r_8 < (0 : Int) then
            Mo_search_L30 v1 K n (v2 + 1) q
          else
            Mo_search_L30 v1 K n (v2 + 1) (qs (qs q 126 19 v1) 126 20 v2)
      else
        K v2 q
theorem T_Mo_search_L30 {E : zE} (v1 : Int) {K : Int → zM → Option (Int × zM)} (hK : ∀ (v2 : Int) (q : zM), SimV E 158 (0, 0, 73, [(0, vR (some 126)), (1, vI v1), (2, vI v2)], [], hp q) eI (K v2 q)) : ∀ (n : Nat) (v2 : Int) (q : zM), SimV E 158 (0, 0, 30, [(0, vR (some 126)), (1, vI v1), (2, vI v2)], [], hp q) eI (Mo_search_L30 v1 K n v2 q) := by
  intro n
  induction n with
  | zero => intro _ _; exact S_none
  | succ n ih =>
    intro v2 q
    rw [Mo_search_L30]
    exact S_run 5 (f' := (0, 0, 37, [(0, vR (some 126)), (1, vI v1), (2, vI v2)], [vI (q.1 127 1), vI v2], hp q)) rfl (S_ite (fun h_6 => S_go (J_icmp2 rfl rfl rfl (B_gt h_6)) (S_run 0 (f' := (0, 0, 73, [(0, vR (some 126)), (1, vI v1), (2, vI v2)], [], hp q)) rfl (hK v2 q))) (fun h_6 => S_go (J_icmp2 rfl rfl rfl (B_gt' h_6)) (S_run 2 (f' := (0, 0, 44, [(0, vR (some 126)), (1, vI v1), (2, vI v2)], [vI (q.1 126 20)], hp q)) rfl (S_ite (fun h_7 => S_go (J_if2 rfl rfl (B_ne h_7)) (S_run 4 (f' := (0, 0, 51, [(0, vR (some 126)), (1, vI v1), (2, vI v2)], [vI v2, vI v1, vI (0 : Int), vR (some 126)], hp q)) rfl (S_call (m' := 157) (args := [vR (some 126), vI (0 : Int), vI v1, vI v2]) (h := hp q) (k := fun r => (0, 0, 54, [(0, vR (some 126)), (1, vI v1), (2, vI v2)], r.1.toList ++ [], r.2)) rfl (T_Mo_lowest q (0 : Int) v1 v2) (fun r_8 => S_run 0 (f' := (0, 0, 54, [(0, vR (some 126)), (1, vI v1), (2, vI v2)], [vI r_8], hp q)) rfl (S_ite (fun h_9 => S_go (J_if2 rfl rfl (B_lt h_9)) (S_run 2 (f' := (0, 0, 30, [(0, vR (some 126)), (1, vI v1), (2, vI (v2 + 1))], [], hp q)) rfl (ih (v2 + 1) q))) (fun h_9 => S_go (J_if2 rfl rfl (B_lt' h_9)) (S_run 8 (f' := (0, 0, 30, [(0, vR (some 126)), (1, vI v1), (2, vI (v2 + 1))], [], hp (qs (qs q 126 19 v1) 126 20 v2))) rfl (ih (v2 + 1) (qs (qs q 126 19 v1) 126 20 v2))))))))) (fun h_7 => S_go (J_if2 rfl rfl (B_ne' h_7)) (S_run 0 (f' := (0, 0, 73, [(0, vR (some 126)), (1, vI v1), (2, vI v2)], [], hp q)) rfl (hK v2 q)))))))

def Mo_search_L11  (K : Int → zM → Option (Int × zM)) : Nat → Int → zM → Option (Int × zM)
  | 0, _, _ => none
  | n + 1, v1, q =>
    if wrap (q.1 127 1) < wrap v1 then
      K v1 q
    else
      if wrap (q.1 126 20) = (0 : Int) then
        Mo_search_L30 v1 (fun v2_10 q_11 => 
          Mo_search_L11 K n (v1 + 1) q_11) 5000 (1 : Int) q
      else
        K v1 q
theorem T_Mo_search_L11 {E : zE}  {K : Int → zM → Option (Int × zM)} (hK : ∀ (v1 : Int) (q : zM), SimV E 158 (0, 0, 79, [(0, vR (some 126)), (1, vI v1)], [], hp q) eI (K v1 q)) : ∀ (n : Nat) (v1 : Int) (q : zM), SimV E 158 (0, 0, 11, [(0, vR (some 126)), (1, vI v1)], [], hp q) eI (Mo_search_L11 K n v1 q) := by
  intro n
  induction n with
  | zero => intro _ _; exact S_none
  | succ n ih =>
    intro v1 q
    rw [Mo_search_L11]
    exact S_run 5 (f' := (0, 0, 18, [(0, vR (some 126)), (1, vI v1)], [vI (q.1 127 1), vI v1], hp q)) rfl (S_ite (fun h_3 => S_go (J_icmp2 rfl rfl rfl (B_gt h_3)) (S_run 0 (f' := (0, 0, 79, [(0, vR (some 126)), (1, vI v1)], [], hp q)) rfl (hK v1 q))) (fun h_3 => S_go (J_icmp2 rfl rfl rfl (B_gt' h_3)) (S_run 2 (f' := (0, 0, 25, [(0, vR (some 126)), (1, vI v1)], [vI (q.1 126 20)], hp q)) rfl (S_ite (fun h_4 => S_go (J_if2 rfl rfl (B_ne h_4)) (S_run 2 (f' := (0, 0, 30, [(0, vR (some 126)), (1, vI v1), (2, vI (1 : Int))], [], hp q)) rfl (T_Mo_search_L30 v1 (fun v2_10 q_11 => S_run 2 (f' := (0, 0, 11, [(0, vR (some 126)), (1, vI (v1 + 1))], [], hp q_11)) rfl (ih (v1 + 1) q_11)) 5000 (1 : Int) q))) (fun h_4 => S_go (J_if2 rfl rfl (B_ne' h_4)) (S_run 0 (f' := (0, 0, 79, [(0, vR (some 126)), (1, vI v1)], [], hp q)) rfl (hK v1 q)))))))

def Mo_search_L88  (K : Int → Int → Int → zM → Option (Int × zM)) : Nat → Int → Int → Int → zM → Option (Int × zM)
  | 0, _, _, _, _ => none
  | n + 1, v1, v2, v3, q =>
    if wrap v3 < wrap (q.1 126 20) then
      (Mo_lowest q v1 v2 ((q.1 126 20) - v3)).bind fun r_15 =>
        ck (wrap v3) 12 (
          ck (wrap v3) 12 (
            (Mo_bendsAt (qs q 136 (wrap v3).toNat r_15) ((qs q 136 (wrap v3).toNat r_15).1 136 (wrap v3).toNat) v1).bind fun r_18 =>
              ck (wrap v3) 12 (
                (Mo_syllables (qs q 136 (wrap v3).toNat r_15) ((qs q 136 (wrap v3).toNat r_15).1 136 (wrap v3).toNat)).bind fun r_20 =>
                  Mo_search_L88 K n (v1 + r_20) (v2 - r_18) (v3 + 1) (qs q 136 (wrap v3).toNat r_15))))
    else
      K v1 v2 v3 q
theorem T_Mo_search_L88 {E : zE}  {K : Int → Int → Int → zM → Option (Int × zM)} (hK : ∀ (v1 : Int) (v2 : Int) (v3 : Int) (q : zM), SimV E 158 (0, 0, 147, [(0, vR (some 126)), (1, vI v1), (2, vI v2), (3, vI v3)], [], hp q) eI (K v1 v2 v3 q)) : ∀ (n : Nat) (v1 : Int) (v2 : Int) (v3 : Int) (q : zM), SimV E 158 (0, 0, 88, [(0, vR (some 126)), (1, vI v1), (2, vI v2), (3, vI v3)], [], hp q) eI (Mo_search_L88 K n v1 v2 v3 q) := by
  intro n
  induction n with
  | zero => intro _ _ _ _; exact S_none
  | succ n ih =>
    intro v1 v2 v3 q
    rw [Mo_search_L88]
    exact S_run 3 (f' := (0, 0, 93, [(0, vR (some 126)), (1, vI v1), (2, vI v2), (3, vI v3)], [vI (q.1 126 20), vI v3], hp q)) rfl (S_ite (fun h_14 => S_go (J_icmp2 rfl rfl rfl (B_ge h_14)) (S_run 10 (f' := (0, 0, 110, [(0, vR (some 126)), (1, vI v1), (2, vI v2), (3, vI v3)], [vI ((q.1 126 20) - v3), vI v2, vI v1, vR (some 126), vI v3, vR (some 136)], hp q)) rfl (S_call (m' := 157) (args := [vR (some 126), vI v1, vI v2, vI ((q.1 126 20) - v3)]) (h := hp q) (k := fun r => (0, 0, 113, [(0, vR (some 126)), (1, vI v1), (2, vI v2), (3, vI v3)], r.1.toList ++ [vI v3, vR (some 136)], r.2)) rfl (T_Mo_lowest q v1 v2 ((q.1 126 20) - v3)) (fun r_15 => S_run 0 (f' := (0, 0, 113, [(0, vR (some 126)), (1, vI v1), (2, vI v2), (3, vI v3)], [vI r_15, vI v3, vR (some 136)], hp q)) rfl (S_ck (n := 12) (fun h_16 => S_go (H_iast rfl rfl rfl h_16) (S_run 5 (f' := (0, 0, 121, [(0, vR (some 126)), (1, vI v1), (2, vI v2), (3, vI v3)], [vI v3, vR (some 136), vR (some 126), vI v2], hp (qs q 136 (wrap v3).toNat r_15))) rfl (S_ck (n := 12) (fun h_17 => S_go (H_iald rfl rfl rfl h_17) (S_run 1 (f' := (0, 0, 123, [(0, vR (some 126)), (1, vI v1), (2, vI v2), (3, vI v3)], [vI v1, vI ((qs q 136 (wrap v3).toNat r_15).1 136 (wrap v3).toNat), vR (some 126), vI v2], hp (qs q 136 (wrap v3).toNat r_15))) rfl (S_call (m' := 150) (args := [vR (some 126), vI ((qs q 136 (wrap v3).toNat r_15).1 136 (wrap v3).toNat), vI v1]) (h := hp (qs q 136 (wrap v3).toNat r_15)) (k := fun r => (0, 0, 126, [(0, vR (some 126)), (1, vI v1), (2, vI v2), (3, vI v3)], r.1.toList ++ [vI v2], r.2)) rfl (T_Mo_bendsAt (qs q 136 (wrap v3).toNat r_15) ((qs q 136 (wrap v3).toNat r_15).1 136 (wrap v3).toNat) v1) (fun r_18 => S_run 7 (f' := (0, 0, 135, [(0, vR (some 126)), (1, vI v1), (2, vI (v2 - r_18)), (3, vI v3)], [vI v3, vR (some 136), vR (some 126), vI v1], hp (qs q 136 (wrap v3).toNat r_15))) rfl (S_ck (n := 12) (fun h_19 => S_go (H_iald rfl rfl rfl h_19) (S_run 0 (f' := (0, 0, 136, [(0, vR (some 126)), (1, vI v1), (2, vI (v2 - r_18)), (3, vI v3)], [vI ((qs q 136 (wrap v3).toNat r_15).1 136 (wrap v3).toNat), vR (some 126), vI v1], hp (qs q 136 (wrap v3).toNat r_15))) rfl (S_call (m' := 124) (args := [vR (some 126), vI ((qs q 136 (wrap v3).toNat r_15).1 136 (wrap v3).toNat)]) (h := hp (qs q 136 (wrap v3).toNat r_15)) (k := fun r => (0, 0, 139, [(0, vR (some 126)), (1, vI v1), (2, vI (v2 - r_18)), (3, vI v3)], r.1.toList ++ [vI v1], r.2)) rfl (T_Mo_syllables (qs q 136 (wrap v3).toNat r_15) ((qs q 136 (wrap v3).toNat r_15).1 136 (wrap v3).toNat)) (fun r_20 => S_run 4 (f' := (0, 0, 88, [(0, vR (some 126)), (1, vI (v1 + r_20)), (2, vI (v2 - r_18)), (3, vI (v3 + 1))], [], hp (qs q 136 (wrap v3).toNat r_15))) rfl (ih (v1 + r_20) (v2 - r_18) (v3 + 1) (qs q 136 (wrap v3).toNat r_15))))))))))))))))))) (fun h_14 => S_go (J_icmp2 rfl rfl rfl (B_ge' h_14)) (S_run 0 (f' := (0, 0, 147, [(0, vR (some 126)), (1, vI v1), (2, vI v2), (3, vI v3)], [], hp q)) rfl (hK v1 v2 v3 q))))

def Mo_search_b9 (q : zM)  : Option (Int × zM) :=
  Mo_search_L11  (fun v1_12 q_13 => 
    Mo_search_L88  (fun v1_21 v2_22 v3_23 q_24 => 
      some (q_24.1 126 20, q_24)) 5000 (0 : Int) (q_13.1 126 19) (0 : Int) q_13) 5000 (0 : Int) q
theorem T_Mo_search_b9 {E : zE} (q : zM)  : SimV E 158 (0, 0, 9, [(0, vR (some 126))], [], hp q) eI (Mo_search_b9 q ) := by
  unfold Mo_search_b9
  exact S_run 2 (f' := (0, 0, 11, [(0, vR (some 126)), (1, vI (0 : Int))], [], hp q)) rfl (T_Mo_search_L11  (fun v1_12 q_13 => S_run 7 (f' := (0, 0, 88, [(0, vR (some 126)), (1, vI (0 : Int)), (2, vI (q_13.1 126 19)), (3, vI (0 : Int))], [], hp q_13)) rfl (T_Mo_search_L88  (fun v1_21 v2_22 v3_23 q_24 => S_run 2 (f' := (0, 0, 151, [(0, vR (some 126)), (1, vI v1_21), (2, vI v2_22), (3, vI v3_23)], [vI (q_24.1 126 20)], hp q_24)) rfl (S_ret rfl)) 5000 (0 : Int) (q_13.1 126 19) (0 : Int) q_13)) 5000 (0 : Int) q)

def Mo_search (q : zM)  : Option (Int × zM) :=
  (Mo_fill q ).bind fun r_1 =>
    Mo_search_b9 (qs r_1 126 20 (0 : Int))
theorem T_Mo_search {E : zE} (q : zM)  : SimV E 158 (entF [vR (some 126)] (hp q)) eI (Mo_search q ) := by
  unfold Mo_search
  exact S_run 0 (f' := (0, 0, 0, [(0, vR (some 126))], [], hp q)) rfl (S_run 1 (f' := (0, 0, 1, [(0, vR (some 126))], [vR (some 126)], hp q)) rfl (S_call (m' := 156) (args := [vR (some 126)]) (h := hp q) (k := fun r => (0, 0, 4, [(0, vR (some 126))], r.1.toList ++ [], r.2)) rfl (T_Mo_fill q ) (fun r_1 => S_run 3 (f' := (0, 0, 9, [(0, vR (some 126))], [], hp (qs r_1 126 20 (0 : Int)))) rfl (T_Mo_search_b9 (qs r_1 126 20 (0 : Int))))))

def Mo_makes_L40 (v1 : Int) (v2 : Int) (K : Int → zM → Option (Int × zM)) : Nat → Int → zM → Option (Int × zM)
  | 0, _, _ => none
  | n + 1, v3, q =>
    if wrap v3 < wrap v2 then
      ck (wrap v3) 12 (
        ck (wrap ((((140 : Int) + ((13 : Int) * v1)) + (1 : Int)) + v3)) 244 (
          Mo_makes_L40 v1 v2 K n (v3 + 1) (qs q 127 (wrap ((((140 : Int) + ((13 : Int) * v1)) + (1 : Int)) + v3)).toNat (q.1 136 (wrap v3).toNat))))
    else
      K v3 q
theorem T_Mo_makes_L40 {E : zE} (v1 : Int) (v2 : Int) {K : Int → zM → Option (Int × zM)} (hK : ∀ (v3 : Int) (q : zM), SimV E 159 (0, 0, 74, [(0, vR (some 126)), (1, vI v1), (2, vI v2), (3, vI v3)], [], hp q) eI (K v3 q)) : ∀ (n : Nat) (v3 : Int) (q : zM), SimV E 159 (0, 0, 40, [(0, vR (some 126)), (1, vI v1), (2, vI v2), (3, vI v3)], [], hp q) eI (Mo_makes_L40 v1 v2 K n v3 q) := by
  intro n
  induction n with
  | zero => intro _ _; exact S_none
  | succ n ih =>
    intro v3 q
    rw [Mo_makes_L40]
    exact S_run 2 (f' := (0, 0, 42, [(0, vR (some 126)), (1, vI v1), (2, vI v2), (3, vI v3)], [vI v2, vI v3], hp q)) rfl (S_ite (fun h_6 => S_go (J_icmp2 rfl rfl rfl (B_ge h_6)) (S_run 14 (f' := (0, 0, 66, [(0, vR (some 126)), (1, vI v1), (2, vI v2), (3, vI v3)], [vI v3, vR (some 136), vI ((((140 : Int) + ((13 : Int) * v1)) + (1 : Int)) + v3), vR (some 127)], hp q)) rfl (S_ck (n := 12) (fun h_7 => S_go (H_iald rfl rfl rfl h_7) (S_run 0 (f' := (0, 0, 67, [(0, vR (some 126)), (1, vI v1), (2, vI v2), (3, vI v3)], [vI (q.1 136 (wrap v3).toNat), vI ((((140 : Int) + ((13 : Int) * v1)) + (1 : Int)) + v3), vR (some 127)], hp q)) rfl (S_ck (n := 244) (fun h_8 => S_go (H_iast rfl rfl rfl h_8) (S_run 2 (f' := (0, 0, 40, [(0, vR (some 126)), (1, vI v1), (2, vI v2), (3, vI (v3 + 1))], [], hp (qs q 127 (wrap ((((140 : Int) + ((13 : Int) * v1)) + (1 : Int)) + v3)).toNat (q.1 136 (wrap v3).toNat)))) rfl (ih (v3 + 1) (qs q 127 (wrap ((((140 : Int) + ((13 : Int) * v1)) + (1 : Int)) + v3)).toNat (q.1 136 (wrap v3).toNat))))))))))) (fun h_6 => S_go (J_icmp2 rfl rfl rfl (B_ge' h_6)) (S_run 0 (f' := (0, 0, 74, [(0, vR (some 126)), (1, vI v1), (2, vI v2), (3, vI v3)], [], hp q)) rfl (hK v3 q))))

def Mo_makes_b38 (q : zM) (v1 : Int) (v2 : Int) : Option (Int × zM) :=
  Mo_makes_L40 v1 v2 (fun v3_9 q_10 => 
    some (v2, q_10)) 5000 (0 : Int) q
theorem T_Mo_makes_b38 {E : zE} (q : zM) (v1 : Int) (v2 : Int) : SimV E 159 (0, 0, 38, [(0, vR (some 126)), (1, vI v1), (2, vI v2)], [], hp q) eI (Mo_makes_b38 q v1 v2) := by
  unfold Mo_makes_b38
  exact S_run 2 (f' := (0, 0, 40, [(0, vR (some 126)), (1, vI v1), (2, vI v2), (3, vI (0 : Int))], [], hp q)) rfl (T_Mo_makes_L40 v1 v2 (fun v3_9 q_10 => S_run 1 (f' := (0, 0, 75, [(0, vR (some 126)), (1, vI v1), (2, vI v2), (3, vI v3_9)], [vI v2], hp q_10)) rfl (S_ret rfl)) 5000 (0 : Int) q)

def Mo_makes (q : zM) (v1 : Int) : Option (Int × zM) :=
  (Mo_look q v1 (0 : Int) (0 : Int)).bind fun r_1 =>
    (Mo_search r_1 ).bind fun r_2 =>
      if wrap r_2.1 = (0 : Int) then
        some ((-5 : Int), r_2.2)
      else
        (Mo_empty r_2.2 v1).bind fun r_4 =>
          ck (wrap ((140 : Int) + ((13 : Int) * v1))) 244 (
            Mo_makes_b38 (qs r_4 127 (wrap ((140 : Int) + ((13 : Int) * v1))).toNat r_2.1) v1 r_2.1)
theorem T_Mo_makes {E : zE} (q : zM) (v1 : Int) : SimV E 159 (entF [vR (some 126), vI v1] (hp q)) eI (Mo_makes q v1) := by
  unfold Mo_makes
  exact S_run 0 (f' := (0, 0, 0, [(0, vR (some 126)), (1, vI v1)], [], hp q)) rfl (S_run 4 (f' := (0, 0, 4, [(0, vR (some 126)), (1, vI v1)], [vI (0 : Int), vI (0 : Int), vI v1, vR (some 126)], hp q)) rfl (S_call (m' := 151) (args := [vR (some 126), vI v1, vI (0 : Int), vI (0 : Int)]) (h := hp q) (k := fun r => (0, 0, 7, [(0, vR (some 126)), (1, vI v1)], r.1.toList ++ [], r.2)) rfl (T_Mo_look q v1 (0 : Int) (0 : Int)) (fun r_1 => S_run 1 (f' := (0, 0, 8, [(0, vR (some 126)), (1, vI v1)], [vR (some 126)], hp r_1)) rfl (S_call (m' := 158) (args := [vR (some 126)]) (h := hp r_1) (k := fun r => (0, 0, 11, [(0, vR (some 126)), (1, vI v1)], r.1.toList ++ [], r.2)) rfl (T_Mo_search r_1 ) (fun r_2 => S_run 2 (f' := (0, 0, 13, [(0, vR (some 126)), (1, vI v1), (2, vI r_2.1)], [vI r_2.1], hp r_2.2)) rfl (S_ite (fun h_3 => S_go (J_if2 rfl rfl (B_ne h_3)) (S_run 1 (f' := (0, 0, 18, [(0, vR (some 126)), (1, vI v1), (2, vI r_2.1)], [vI (-5 : Int)], hp r_2.2)) rfl (S_ret rfl))) (fun h_3 => S_go (J_if2 rfl rfl (B_ne' h_3)) (S_run 2 (f' := (0, 0, 21, [(0, vR (some 126)), (1, vI v1), (2, vI r_2.1)], [vI v1, vR (some 126)], hp r_2.2)) rfl (S_call (m' := 144) (args := [vR (some 126), vI v1]) (h := hp r_2.2) (k := fun r => (0, 0, 24, [(0, vR (some 126)), (1, vI v1), (2, vI r_2.1)], r.1.toList ++ [], r.2)) rfl (T_Mo_empty r_2.2 v1) (fun r_4 => S_run 8 (f' := (0, 0, 37, [(0, vR (some 126)), (1, vI v1), (2, vI r_2.1)], [vI r_2.1, vI ((140 : Int) + ((13 : Int) * v1)), vR (some 127)], hp r_4)) rfl (S_ck (n := 244) (fun h_5 => S_go (H_iast rfl rfl rfl h_5) (S_run 0 (f' := (0, 0, 38, [(0, vR (some 126)), (1, vI v1), (2, vI r_2.1)], [], hp (qs r_4 127 (wrap ((140 : Int) + ((13 : Int) * v1))).toNat r_2.1))) rfl (T_Mo_makes_b38 (qs r_4 127 (wrap ((140 : Int) + ((13 : Int) * v1))).toNat r_2.1) v1 r_2.1))))))))))))))

def Mo_makeLine (q : zM) (v1 : Int) : Option (Int × zM) :=
  (Mo_noLine q v1).bind fun r_1 =>
    if wrap r_1 = (0 : Int) then
      (Mo_begin q ).bind fun r_3 =>
        (Mo_makes r_3 v1).bind fun r_4 =>
          (Mo_done r_4.2 r_4.1).bind fun r_5 =>
            some (r_5.1, r_5.2)
    else
      some ((-1 : Int), q)
theorem T_Mo_makeLine {E : zE} (q : zM) (v1 : Int) : SimV E 160 (entF [vR (some 126), vI v1] (hp q)) eI (Mo_makeLine q v1) := by
  unfold Mo_makeLine
  exact S_run 0 (f' := (0, 0, 0, [(0, vR (some 126)), (1, vI v1)], [], hp q)) rfl (S_run 2 (f' := (0, 0, 2, [(0, vR (some 126)), (1, vI v1)], [vI v1, vR (some 126)], hp q)) rfl (S_call (m' := 139) (args := [vR (some 126), vI v1]) (h := hp q) (k := fun r => (0, 0, 5, [(0, vR (some 126)), (1, vI v1)], r.1.toList ++ [], r.2)) rfl (T_Mo_noLine q v1) (fun r_1 => S_run 0 (f' := (0, 0, 5, [(0, vR (some 126)), (1, vI v1)], [vI r_1], hp q)) rfl (S_ite (fun h_2 => S_go (J_if2 rfl rfl (B_eq h_2)) (S_run 1 (f' := (0, 0, 11, [(0, vR (some 126)), (1, vI v1)], [vR (some 126)], hp q)) rfl (S_call (m' := 116) (args := [vR (some 126)]) (h := hp q) (k := fun r => (0, 0, 14, [(0, vR (some 126)), (1, vI v1)], r.1.toList ++ [], r.2)) rfl (T_Mo_begin q ) (fun r_3 => S_run 3 (f' := (0, 0, 17, [(0, vR (some 126)), (1, vI v1)], [vI v1, vR (some 126), vR (some 126)], hp r_3)) rfl (S_call (m' := 159) (args := [vR (some 126), vI v1]) (h := hp r_3) (k := fun r => (0, 0, 20, [(0, vR (some 126)), (1, vI v1)], r.1.toList ++ [vR (some 126)], r.2)) rfl (T_Mo_makes r_3 v1) (fun r_4 => S_run 0 (f' := (0, 0, 20, [(0, vR (some 126)), (1, vI v1)], [vI r_4.1, vR (some 126)], hp r_4.2)) rfl (S_call (m' := 117) (args := [vR (some 126), vI r_4.1]) (h := hp r_4.2) (k := fun r => (0, 0, 23, [(0, vR (some 126)), (1, vI v1)], r.1.toList ++ [], r.2)) rfl (T_Mo_done r_4.2 r_4.1) (fun r_5 => S_run 0 (f' := (0, 0, 23, [(0, vR (some 126)), (1, vI v1)], [vI r_5.1], hp r_5.2)) rfl (S_ret rfl))))))))) (fun h_2 => S_go (J_if2 rfl rfl (B_eq' h_2)) (S_run 1 (f' := (0, 0, 9, [(0, vR (some 126)), (1, vI v1)], [vI (-1 : Int)], hp q)) rfl (S_ret rfl)))))))

def Mo_make_L8  (K : Int → Int → zM → Option (Int × zM)) : Nat → Int → Int → zM → Option (Int × zM)
  | 0, _, _, _ => none
  | n + 1, v1, v2, q =>
    if wrap v2 < wrap (q.1 127 3) then
      (Mo_size q v2).bind fun r_4 =>
        if wrap r_4 = (0 : Int) then
          (Mo_makes q v2).bind fun r_6 =>
            if (0 : Int) < wrap r_6.1 then
              Mo_make_L8 K n (v1 + (1 : Int)) (v2 + 1) r_6.2
            else
              Mo_make_L8 K n (v1 + (0 : Int)) (v2 + 1) r_6.2
        else
          Mo_make_L8 K n (v1 + (0 : Int)) (v2 + 1) q
    else
      K v1 v2 q
theorem T_Mo_make_L8 {E : zE}  {K : Int → Int → zM → Option (Int × zM)} (hK : ∀ (v1 : Int) (v2 : Int) (q : zM), SimV E 161 (0, 0, 48, [(0, vR (some 126)), (1, vI v1), (2, vI v2)], [], hp q) eI (K v1 v2 q)) : ∀ (n : Nat) (v1 : Int) (v2 : Int) (q : zM), SimV E 161 (0, 0, 8, [(0, vR (some 126)), (1, vI v1), (2, vI v2)], [], hp q) eI (Mo_make_L8 K n v1 v2 q) := by
  intro n
  induction n with
  | zero => intro _ _ _; exact S_none
  | succ n ih =>
    intro v1 v2 q
    rw [Mo_make_L8]
    exact S_run 5 (f' := (0, 0, 15, [(0, vR (some 126)), (1, vI v1), (2, vI v2)], [vI (q.1 127 3), vI v2], hp q)) rfl (S_ite (fun h_3 => S_go (J_icmp2 rfl rfl rfl (B_ge h_3)) (S_run 3 (f' := (0, 0, 21, [(0, vR (some 126)), (1, vI v1), (2, vI v2)], [vI v2, vR (some 126), vI v1], hp q)) rfl (S_call (m' := 140) (args := [vR (some 126), vI v2]) (h := hp q) (k := fun r => (0, 0, 24, [(0, vR (some 126)), (1, vI v1), (2, vI v2)], r.1.toList ++ [vI v1], r.2)) rfl (T_Mo_size q v2) (fun r_4 => S_run 0 (f' := (0, 0, 24, [(0, vR (some 126)), (1, vI v1), (2, vI v2)], [vI r_4, vI v1], hp q)) rfl (S_ite (fun h_5 => S_go (J_if2 rfl rfl (B_ne h_5)) (S_run 2 (f' := (0, 0, 29, [(0, vR (some 126)), (1, vI v1), (2, vI v2)], [vI v2, vR (some 126), vI v1], hp q)) rfl (S_call (m' := 159) (args := [vR (some 126), vI v2]) (h := hp q) (k := fun r => (0, 0, 32, [(0, vR (some 126)), (1, vI v1), (2, vI v2)], r.1.toList ++ [vI v1], r.2)) rfl (T_Mo_makes q v2) (fun r_6 => S_run 0 (f' := (0, 0, 32, [(0, vR (some 126)), (1, vI v1), (2, vI v2)], [vI r_6.1, vI v1], hp r_6.2)) rfl (S_ite (fun h_7 => S_go (J_if2 rfl rfl (B_le h_7)) (S_run 6 (f' := (0, 0, 8, [(0, vR (some 126)), (1, vI (v1 + (1 : Int))), (2, vI (v2 + 1))], [], hp r_6.2)) rfl (ih (v1 + (1 : Int)) (v2 + 1) r_6.2))) (fun h_7 => S_go (J_if2 rfl rfl (B_le' h_7)) (S_run 5 (f' := (0, 0, 8, [(0, vR (some 126)), (1, vI (v1 + (0 : Int))), (2, vI (v2 + 1))], [], hp r_6.2)) rfl (ih (v1 + (0 : Int)) (v2 + 1) r_6.2)))))))) (fun h_5 => S_go (J_if2 rfl rfl (B_ne' h_5)) (S_run 5 (f' := (0, 0, 8, [(0, vR (some 126)), (1, vI (v1 + (0 : Int))), (2, vI (v2 + 1))], [], hp q)) rfl (ih (v1 + (0 : Int)) (v2 + 1) q)))))))) (fun h_3 => S_go (J_icmp2 rfl rfl rfl (B_ge' h_3)) (S_run 0 (f' := (0, 0, 48, [(0, vR (some 126)), (1, vI v1), (2, vI v2)], [], hp q)) rfl (hK v1 v2 q))))

def Mo_make (q : zM)  : Option (Int × zM) :=
  (Mo_begin q ).bind fun r_1 =>
    Mo_make_L8  (fun v1_8 v2_9 q_10 => 
      if wrap v1_8 = (0 : Int) then
        some ((-5 : Int), q_10)
      else
        (Mo_done q_10 v1_8).bind fun r_12 =>
          some (r_12.1, r_12.2)) 5000 (0 : Int) (0 : Int) r_1
theorem T_Mo_make {E : zE} (q : zM)  : SimV E 161 (entF [vR (some 126)] (hp q)) eI (Mo_make q ) := by
  unfold Mo_make
  exact S_run 0 (f' := (0, 0, 0, [(0, vR (some 126))], [], hp q)) rfl (S_run 1 (f' := (0, 0, 1, [(0, vR (some 126))], [vR (some 126)], hp q)) rfl (S_call (m' := 116) (args := [vR (some 126)]) (h := hp q) (k := fun r => (0, 0, 4, [(0, vR (some 126))], r.1.toList ++ [], r.2)) rfl (T_Mo_begin q ) (fun r_1 => S_run 4 (f' := (0, 0, 8, [(0, vR (some 126)), (1, vI (0 : Int)), (2, vI (0 : Int))], [], hp r_1)) rfl (T_Mo_make_L8  (fun v1_8 v2_9 q_10 => S_run 1 (f' := (0, 0, 49, [(0, vR (some 126)), (1, vI v1_8), (2, vI v2_9)], [vI v1_8], hp q_10)) rfl (S_ite (fun h_11 => S_go (J_if2 rfl rfl (B_ne h_11)) (S_run 2 (f' := (0, 0, 62, [(0, vR (some 126)), (1, vI v1_8), (2, vI v2_9)], [vI (-5 : Int)], hp q_10)) rfl (S_ret rfl))) (fun h_11 => S_go (J_if2 rfl rfl (B_ne' h_11)) (S_run 2 (f' := (0, 0, 59, [(0, vR (some 126)), (1, vI v1_8), (2, vI v2_9)], [vI v1_8, vR (some 126)], hp q_10)) rfl (S_call (m' := 117) (args := [vR (some 126), vI v1_8]) (h := hp q_10) (k := fun r => (0, 0, 62, [(0, vR (some 126)), (1, vI v1_8), (2, vI v2_9)], r.1.toList ++ [], r.2)) rfl (T_Mo_done q_10 v1_8) (fun r_12 => S_run 0 (f' := (0, 0, 62, [(0, vR (some 126)), (1, vI v1_8), (2, vI v2_9)], [vI r_12.1], hp r_12.2)) rfl (S_ret rfl))))))) 5000 (0 : Int) (0 : Int) r_1))))

def Mo_clearLine (q : zM) (v1 : Int) : Option (Int × zM) :=
  (Mo_noLine q v1).bind fun r_1 =>
    if wrap r_1 = (0 : Int) then
      (Mo_size q v1).bind fun r_3 =>
        if wrap r_3 = (0 : Int) then
          some ((-5 : Int), q)
        else
          (Mo_begin q ).bind fun r_5 =>
            (Mo_empty r_5 v1).bind fun r_6 =>
              (Mo_done r_6 r_3).bind fun r_7 =>
                some (r_7.1, r_7.2)
    else
      some ((-1 : Int), q)
theorem T_Mo_clearLine {E : zE} (q : zM) (v1 : Int) : SimV E 162 (entF [vR (some 126), vI v1] (hp q)) eI (Mo_clearLine q v1) := by
  unfold Mo_clearLine
  exact S_run 0 (f' := (0, 0, 0, [(0, vR (some 126)), (1, vI v1)], [], hp q)) rfl (S_run 2 (f' := (0, 0, 2, [(0, vR (some 126)), (1, vI v1)], [vI v1, vR (some 126)], hp q)) rfl (S_call (m' := 139) (args := [vR (some 126), vI v1]) (h := hp q) (k := fun r => (0, 0, 5, [(0, vR (some 126)), (1, vI v1)], r.1.toList ++ [], r.2)) rfl (T_Mo_noLine q v1) (fun r_1 => S_run 0 (f' := (0, 0, 5, [(0, vR (some 126)), (1, vI v1)], [vI r_1], hp q)) rfl (S_ite (fun h_2 => S_go (J_if2 rfl rfl (B_eq h_2)) (S_run 2 (f' := (0, 0, 12, [(0, vR (some 126)), (1, vI v1)], [vI v1, vR (some 126)], hp q)) rfl (S_call (m' := 140) (args := [vR (some 126), vI v1]) (h := hp q) (k := fun r => (0, 0, 15, [(0, vR (some 126)), (1, vI v1)], r.1.toList ++ [], r.2)) rfl (T_Mo_size q v1) (fun r_3 => S_run 2 (f' := (0, 0, 17, [(0, vR (some 126)), (1, vI v1), (2, vI r_3)], [vI r_3], hp q)) rfl (S_ite (fun h_4 => S_go (J_if2 rfl rfl (B_ne h_4)) (S_run 1 (f' := (0, 0, 22, [(0, vR (some 126)), (1, vI v1), (2, vI r_3)], [vI (-5 : Int)], hp q)) rfl (S_ret rfl))) (fun h_4 => S_go (J_if2 rfl rfl (B_ne' h_4)) (S_run 1 (f' := (0, 0, 24, [(0, vR (some 126)), (1, vI v1), (2, vI r_3)], [vR (some 126)], hp q)) rfl (S_call (m' := 116) (args := [vR (some 126)]) (h := hp q) (k := fun r => (0, 0, 27, [(0, vR (some 126)), (1, vI v1), (2, vI r_3)], r.1.toList ++ [], r.2)) rfl (T_Mo_begin q ) (fun r_5 => S_run 2 (f' := (0, 0, 29, [(0, vR (some 126)), (1, vI v1), (2, vI r_3)], [vI v1, vR (some 126)], hp r_5)) rfl (S_call (m' := 144) (args := [vR (some 126), vI v1]) (h := hp r_5) (k := fun r => (0, 0, 32, [(0, vR (some 126)), (1, vI v1), (2, vI r_3)], r.1.toList ++ [], r.2)) rfl (T_Mo_empty r_5 v1) (fun r_6 => S_run 2 (f' := (0, 0, 34, [(0, vR (some 126)), (1, vI v1), (2, vI r_3)], [vI r_3, vR (some 126)], hp r_6)) rfl (S_call (m' := 117) (args := [vR (some 126), vI r_3]) (h := hp r_6) (k := fun r => (0, 0, 37, [(0, vR (some 126)), (1, vI v1), (2, vI r_3)], r.1.toList ++ [], r.2)) rfl (T_Mo_done r_6 r_3) (fun r_7 => S_run 0 (f' := (0, 0, 37, [(0, vR (some 126)), (1, vI v1), (2, vI r_3)], [vI r_7.1], hp r_7.2)) rfl (S_ret rfl)))))))))))))) (fun h_2 => S_go (J_if2 rfl rfl (B_eq' h_2)) (S_run 1 (f' := (0, 0, 9, [(0, vR (some 126)), (1, vI v1)], [vI (-1 : Int)], hp q)) rfl (S_ret rfl)))))))

def Mo_isAhead_L54 (q : zM) (v1 : Int) (v2 : Int) (K : Int → Option Int) : Nat → Int → Option Int
  | 0, _ => none
  | n + 1, v3 =>
    if wrap v3 < wrap v1 then
      ck (wrap v3) 12 (
        ck (wrap v3) 12 (
          if wrap (q.1 136 (wrap v3).toNat) = wrap (q.1 137 (wrap v3).toNat) then
            Mo_isAhead_L54 q v1 v2 K n (v3 + 1)
          else
            ck (wrap v3) 12 (
              ck (wrap v3) 12 (
                if wrap (q.1 136 (wrap v3).toNat) < wrap (q.1 137 (wrap v3).toNat) then
                  some (1 : Int)
                else
                  some (0 : Int)))))
    else
      K v3
theorem T_Mo_isAhead_L54 {E : zE} (q : zM) (v1 : Int) (v2 : Int) {K : Int → Option Int} (hK : ∀ (v3 : Int), SimV E 163 (0, 0, 101, [(0, vR (some 126)), (1, vI v1), (2, vI v2), (3, vI v3)], [], hp q) (eP q) (K v3)) : ∀ (n : Nat) (v3 : Int), SimV E 163 (0, 0, 54, [(0, vR (some 126)), (1, vI v1), (2, vI v2), (3, vI v3)], [], hp q) (eP q) (Mo_isAhead_L54 q v1 v2 K n v3) := by
  intro n
  induction n with
  | zero => intro _; exact S_none
  | succ n ih =>
    intro v3
    rw [Mo_isAhead_L54]
    exact S_run 2 (f' := (0, 0, 56, [(0, vR (some 126)), (1, vI v1), (2, vI v2), (3, vI v3)], [vI v1, vI v3], hp q)) rfl (S_ite (fun h_6 => S_go (J_icmp2 rfl rfl rfl (B_ge h_6)) (S_run 3 (f' := (0, 0, 64, [(0, vR (some 126)), (1, vI v1), (2, vI v2), (3, vI v3)], [vI v3, vR (some 136)], hp q)) rfl (S_ck (n := 12) (fun h_7 => S_go (H_iald rfl rfl rfl h_7) (S_run 3 (f' := (0, 0, 70, [(0, vR (some 126)), (1, vI v1), (2, vI v2), (3, vI v3)], [vI v3, vR (some 137), vI (q.1 136 (wrap v3).toNat)], hp q)) rfl (S_ck (n := 12) (fun h_8 => S_go (H_iald rfl rfl rfl h_8) (S_run 0 (f' := (0, 0, 71, [(0, vR (some 126)), (1, vI v1), (2, vI v2), (3, vI v3)], [vI (q.1 137 (wrap v3).toNat), vI (q.1 136 (wrap v3).toNat)], hp q)) rfl (S_ite (fun h_9 => S_go (J_icmp2 rfl rfl rfl (B_eq h_9)) (S_run 2 (f' := (0, 0, 54, [(0, vR (some 126)), (1, vI v1), (2, vI v2), (3, vI (v3 + 1))], [], hp q)) rfl (ih (v3 + 1)))) (fun h_9 => S_go (J_icmp2 rfl rfl rfl (B_eq' h_9)) (S_run 3 (f' := (0, 0, 79, [(0, vR (some 126)), (1, vI v1), (2, vI v2), (3, vI v3)], [vI v3, vR (some 136)], hp q)) rfl (S_ck (n := 12) (fun h_10 => S_go (H_iald rfl rfl rfl h_10) (S_run 3 (f' := (0, 0, 85, [(0, vR (some 126)), (1, vI v1), (2, vI v2), (3, vI v3)], [vI v3, vR (some 137), vI (q.1 136 (wrap v3).toNat)], hp q)) rfl (S_ck (n := 12) (fun h_11 => S_go (H_iald rfl rfl rfl h_11) (S_run 0 (f' := (0, 0, 86, [(0, vR (some 126)), (1, vI v1), (2, vI v2), (3, vI v3)], [vI (q.1 137 (wrap v3).toNat), vI (q.1 136 (wrap v3).toNat)], hp q)) rfl (S_ite (fun h_12 => S_go (J_icmp2 rfl rfl rfl (B_ge h_12)) (S_run 2 (f' := (0, 0, 94, [(0, vR (some 126)), (1, vI v1), (2, vI v2), (3, vI v3)], [vI (1 : Int)], hp q)) rfl (S_ret rfl))) (fun h_12 => S_go (J_icmp2 rfl rfl rfl (B_ge' h_12)) (S_run 1 (f' := (0, 0, 94, [(0, vR (some 126)), (1, vI v1), (2, vI v2), (3, vI v3)], [vI (0 : Int)], hp q)) rfl (S_ret rfl))))))))))))))))))))) (fun h_6 => S_go (J_icmp2 rfl rfl rfl (B_ge' h_6)) (S_run 0 (f' := (0, 0, 101, [(0, vR (some 126)), (1, vI v1), (2, vI v2), (3, vI v3)], [], hp q)) rfl (hK v3))))

def Mo_isAhead (q : zM) (v1 : Int) (v2 : Int) : Option Int :=
  if wrap v1 = (0 : Int) then
    if wrap v1 = (0 : Int) then
      some (1 : Int)
    else
      if wrap (q.1 126 19) < wrap v2 then
        some (1 : Int)
      else
        some (0 : Int)
  else
    if wrap (q.1 126 19) = wrap v2 then
      if wrap (q.1 126 20) = wrap v1 then
        Mo_isAhead_L54 q v1 v2 (fun v3_13 => 
          some (0 : Int)) 5000 (0 : Int)
      else
        if wrap (q.1 126 20) < wrap v1 then
          some (1 : Int)
        else
          some (0 : Int)
    else
      if wrap v1 = (0 : Int) then
        some (1 : Int)
      else
        if wrap (q.1 126 19) < wrap v2 then
          some (1 : Int)
        else
          some (0 : Int)
theorem T_Mo_isAhead {E : zE} (q : zM) (v1 : Int) (v2 : Int) : SimV E 163 (entF [vR (some 126), vI v1, vI v2] (hp q)) (eP q) (Mo_isAhead q v1 v2) := by
  unfold Mo_isAhead
  exact S_run 0 (f' := (0, 0, 0, [(0, vR (some 126)), (1, vI v1), (2, vI v2)], [], hp q)) rfl (S_run 1 (f' := (0, 0, 1, [(0, vR (some 126)), (1, vI v1), (2, vI v2)], [vI v1], hp q)) rfl (S_ite (fun h_1 => S_go (J_if2 rfl rfl (B_eq h_1)) (S_run 1 (f' := (0, 0, 13, [(0, vR (some 126)), (1, vI v1), (2, vI v2)], [vI v1], hp q)) rfl (S_ite (fun h_2 => S_go (J_if2 rfl rfl (B_eq h_2)) (S_run 2 (f' := (0, 0, 29, [(0, vR (some 126)), (1, vI v1), (2, vI v2)], [vI (1 : Int)], hp q)) rfl (S_ret rfl))) (fun h_2 => S_go (J_if2 rfl rfl (B_eq' h_2)) (S_run 3 (f' := (0, 0, 21, [(0, vR (some 126)), (1, vI v1), (2, vI v2)], [vI v2, vI (q.1 126 19)], hp q)) rfl (S_ite (fun h_3 => S_go (J_icmp2 rfl rfl rfl (B_ge h_3)) (S_run 2 (f' := (0, 0, 29, [(0, vR (some 126)), (1, vI v1), (2, vI v2)], [vI (1 : Int)], hp q)) rfl (S_ret rfl))) (fun h_3 => S_go (J_icmp2 rfl rfl rfl (B_ge' h_3)) (S_run 1 (f' := (0, 0, 29, [(0, vR (some 126)), (1, vI v1), (2, vI v2)], [vI (0 : Int)], hp q)) rfl (S_ret rfl))))))))) (fun h_1 => S_go (J_if2 rfl rfl (B_eq' h_1)) (S_run 3 (f' := (0, 0, 9, [(0, vR (some 126)), (1, vI v1), (2, vI v2)], [vI v2, vI (q.1 126 19)], hp q)) rfl (S_ite (fun h_4 => S_go (J_icmp2 rfl rfl rfl (B_eq h_4)) (S_run 3 (f' := (0, 0, 35, [(0, vR (some 126)), (1, vI v1), (2, vI v2)], [vI v1, vI (q.1 126 20)], hp q)) rfl (S_ite (fun h_5 => S_go (J_icmp2 rfl rfl rfl (B_eq h_5)) (S_run 2 (f' := (0, 0, 54, [(0, vR (some 126)), (1, vI v1), (2, vI v2), (3, vI (0 : Int))], [], hp q)) rfl (T_Mo_isAhead_L54 q v1 v2 (fun v3_13 => S_run 1 (f' := (0, 0, 102, [(0, vR (some 126)), (1, vI v1), (2, vI v2), (3, vI v3_13)], [vI (0 : Int)], hp q)) rfl (S_ret rfl)) 5000 (0 : Int)))) (fun h_5 => S_go (J_icmp2 rfl rfl rfl (B_eq' h_5)) (S_run 3 (f' := (0, 0, 43, [(0, vR (some 126)), (1, vI v1), (2, vI v2)], [vI v1, vI (q.1 126 20)], hp q)) rfl (S_ite (fun h_14 => S_go (J_icmp2 rfl rfl rfl (B_ge h_14)) (S_run 2 (f' := (0, 0, 51, [(0, vR (some 126)), (1, vI v1), (2, vI v2)], [vI (1 : Int)], hp q)) rfl (S_ret rfl))) (fun h_14 => S_go (J_icmp2 rfl rfl rfl (B_ge' h_14)) (S_run 1 (f' := (0, 0, 51, [(0, vR (some 126)), (1, vI v1), (2, vI v2)], [vI (0 : Int)], hp q)) rfl (S_ret rfl))))))))) (fun h_4 => S_go (J_icmp2 rfl rfl rfl (B_eq' h_4)) (S_run 1 (f' := (0, 0, 13, [(0, vR (some 126)), (1, vI v1), (2, vI v2)], [vI v1], hp q)) rfl (S_ite (fun h_15 => S_go (J_if2 rfl rfl (B_eq h_15)) (S_run 2 (f' := (0, 0, 29, [(0, vR (some 126)), (1, vI v1), (2, vI v2)], [vI (1 : Int)], hp q)) rfl (S_ret rfl))) (fun h_15 => S_go (J_if2 rfl rfl (B_eq' h_15)) (S_run 3 (f' := (0, 0, 21, [(0, vR (some 126)), (1, vI v1), (2, vI v2)], [vI v2, vI (q.1 126 19)], hp q)) rfl (S_ite (fun h_16 => S_go (J_icmp2 rfl rfl rfl (B_ge h_16)) (S_run 2 (f' := (0, 0, 29, [(0, vR (some 126)), (1, vI v1), (2, vI v2)], [vI (1 : Int)], hp q)) rfl (S_ret rfl))) (fun h_16 => S_go (J_icmp2 rfl rfl rfl (B_ge' h_16)) (S_run 1 (f' := (0, 0, 29, [(0, vR (some 126)), (1, vI v1), (2, vI v2)], [vI (0 : Int)], hp q)) rfl (S_ret rfl))))))))))))))

def Mo_nearMiss_L38 (v1 : Int) (v2 : Int) (v3 : Int) (v4 : Int) (K : Int → zM → Option (Int × zM)) : Nat → Int → zM → Option (Int × zM)
  | 0, _, _ => none
  | n + 1, v5, q =>
    if wrap v5 < wrap v3 then
      ck (wrap v5) 12 (
        ck (wrap v5) 12 (
          Mo_nearMiss_L38 v1 v2 v3 v4 K n (v5 + 1) (qs q 137 (wrap v5).toNat (q.1 136 (wrap v5).toNat))))
    else
      K v5 q
theorem T_Mo_nearMiss_L38 {E : zE} (v1 : Int) (v2 : Int) (v3 : Int) (v4 : Int) {K : Int → zM → Option (Int × zM)} (hK : ∀ (v5 : Int) (q : zM), SimV E 164 (0, 0, 64, [(0, vR (some 126)), (1, vI v1), (2, vI v2), (3, vI v3), (4, vI v4), (5, vI v5)], [], hp q) eI (K v5 q)) : ∀ (n : Nat) (v5 : Int) (q : zM), SimV E 164 (0, 0, 38, [(0, vR (some 126)), (1, vI v1), (2, vI v2), (3, vI v3), (4, vI v4), (5, vI v5)], [], hp q) eI (Mo_nearMiss_L38 v1 v2 v3 v4 K n v5 q) := by
  intro n
  induction n with
  | zero => intro _ _; exact S_none
  | succ n ih =>
    intro v5 q
    rw [Mo_nearMiss_L38]
    exact S_run 2 (f' := (0, 0, 41, [(0, vR (some 126)), (1, vI v1), (2, vI v2), (3, vI v3), (4, vI v4), (5, vI v5)], [vI v3, vI v5], hp q)) rfl (S_ite (fun h_6 => S_go (J_icmp2 rfl rfl rfl (B_ge h_6)) (S_run 6 (f' := (0, 0, 56, [(0, vR (some 126)), (1, vI v1), (2, vI v2), (3, vI v3), (4, vI v4), (5, vI v5)], [vI v5, vR (some 136), vI v5, vR (some 137)], hp q)) rfl (S_ck (n := 12) (fun h_7 => S_go (H_iald rfl rfl rfl h_7) (S_run 0 (f' := (0, 0, 57, [(0, vR (some 126)), (1, vI v1), (2, vI v2), (3, vI v3), (4, vI v4), (5, vI v5)], [vI (q.1 136 (wrap v5).toNat), vI v5, vR (some 137)], hp q)) rfl (S_ck (n := 12) (fun h_8 => S_go (H_iast rfl rfl rfl h_8) (S_run 2 (f' := (0, 0, 38, [(0, vR (some 126)), (1, vI v1), (2, vI v2), (3, vI v3), (4, vI v4), (5, vI (v5 + 1))], [], hp (qs q 137 (wrap v5).toNat (q.1 136 (wrap v5).toNat)))) rfl (ih (v5 + 1) (qs q 137 (wrap v5).toNat (q.1 136 (wrap v5).toNat))))))))))) (fun h_6 => S_go (J_icmp2 rfl rfl rfl (B_ge' h_6)) (S_run 0 (f' := (0, 0, 64, [(0, vR (some 126)), (1, vI v1), (2, vI v2), (3, vI v3), (4, vI v4), (5, vI v5)], [], hp q)) rfl (hK v5 q))))

def Mo_nearMiss_L96 (v1 : Int) (v2 : Int) (v3 : Int) (v4 : Int) (K : Int → zM → Option (Int × zM)) : Nat → Int → zM → Option (Int × zM)
  | 0, _, _ => none
  | n + 1, v5, q =>
    if wrap v5 < wrap v3 then
      ck (wrap v5) 12 (
        ck (wrap v5) 12 (
          Mo_nearMiss_L96 v1 v2 v3 v4 K n (v5 + 1) (qs q 137 (wrap v5).toNat (q.1 136 (wrap v5).toNat))))
    else
      K v5 q
theorem T_Mo_nearMiss_L96 {E : zE} (v1 : Int) (v2 : Int) (v3 : Int) (v4 : Int) {K : Int → zM → Option (Int × zM)} (hK : ∀ (v5 : Int) (q : zM), SimV E 164 (0, 0, 122, [(0, vR (some 126)), (1, vI v1), (2, vI v2), (3, vI v3), (4, vI v4), (5, vI v5)], [], hp q) eI (K v5 q)) : ∀ (n : Nat) (v5 : Int) (q : zM), SimV E 164 (0, 0, 96, [(0, vR (some 126)), (1, vI v1), (2, vI v2), (3, vI v3), (4, vI v4), (5, vI v5)], [], hp q) eI (Mo_nearMiss_L96 v1 v2 v3 v4 K n v5 q) := by
  intro n
  induction n with
  | zero => intro _ _; exact S_none
  | succ n ih =>
    intro v5 q
    rw [Mo_nearMiss_L96]
    exact S_run 2 (f' := (0, 0, 99, [(0, vR (some 126)), (1, vI v1), (2, vI v2), (3, vI v3), (4, vI v4), (5, vI v5)], [vI v3, vI v5], hp q)) rfl (S_ite (fun h_20 => S_go (J_icmp2 rfl rfl rfl (B_ge h_20)) (S_run 6 (f' := (0, 0, 114, [(0, vR (some 126)), (1, vI v1), (2, vI v2), (3, vI v3), (4, vI v4), (5, vI v5)], [vI v5, vR (some 136), vI v5, vR (some 137)], hp q)) rfl (S_ck (n := 12) (fun h_21 => S_go (H_iald rfl rfl rfl h_21) (S_run 0 (f' := (0, 0, 115, [(0, vR (some 126)), (1, vI v1), (2, vI v2), (3, vI v3), (4, vI v4), (5, vI v5)], [vI (q.1 136 (wrap v5).toNat), vI v5, vR (some 137)], hp q)) rfl (S_ck (n := 12) (fun h_22 => S_go (H_iast rfl rfl rfl h_22) (S_run 2 (f' := (0, 0, 96, [(0, vR (some 126)), (1, vI v1), (2, vI v2), (3, vI v3), (4, vI v4), (5, vI (v5 + 1))], [], hp (qs q 137 (wrap v5).toNat (q.1 136 (wrap v5).toNat)))) rfl (ih (v5 + 1) (qs q 137 (wrap v5).toNat (q.1 136 (wrap v5).toNat))))))))))) (fun h_20 => S_go (J_icmp2 rfl rfl rfl (B_ge' h_20)) (S_run 0 (f' := (0, 0, 122, [(0, vR (some 126)), (1, vI v1), (2, vI v2), (3, vI v3), (4, vI v4), (5, vI v5)], [], hp q)) rfl (hK v5 q))))

def Mo_nearMiss (q : zM) (v1 : Int) (v2 : Int) : Option (Int × zM) :=
  (Mo_noLine q v1).bind fun r_1 =>
    if wrap r_1 = (0 : Int) then
      if wrap v2 < (0 : Int) then
        some ((-2 : Int), q)
      else
        (Mo_look q v1 (1 : Int) (0 : Int)).bind fun r_4 =>
          (Mo_search r_4 ).bind fun r_5 =>
            Mo_nearMiss_L38 v1 v2 r_5.1 (r_5.2.1 126 19) (fun v5_9 q_10 => 
              (Mo_look q_10 v1 (0 : Int) (1 : Int)).bind fun r_11 =>
                (Mo_search r_11 ).bind fun r_12 =>
                  if (0 : Int) < wrap r_12.1 then
                    (Mo_isAhead r_12.2 r_5.1 (r_5.2.1 126 19)).bind fun r_16 =>
                      if wrap r_16 = (0 : Int) then
                        if wrap v2 < wrap r_5.1 then
                          ck (wrap v2) 12 (
                            some (r_12.2.1 137 (wrap v2).toNat, r_12.2))
                        else
                          some ((-5 : Int), r_12.2)
                      else
                        Mo_nearMiss_L96 v1 v2 (r_12.2.1 126 20) (r_5.2.1 126 19) (fun v5_23 q_24 => 
                          if wrap v2 < wrap (r_12.2.1 126 20) then
                            ck (wrap v2) 12 (
                              some (q_24.1 137 (wrap v2).toNat, q_24))
                          else
                            some ((-5 : Int), q_24)) 5000 (0 : Int) r_12.2
                  else
                    if wrap v2 < wrap r_5.1 then
                      ck (wrap v2) 12 (
                        some (r_12.2.1 137 (wrap v2).toNat, r_12.2))
                    else
                      some ((-5 : Int), r_12.2)) 5000 (0 : Int) r_5.2
    else
      some ((-1 : Int), q)
theorem T_Mo_nearMiss {E : zE} (q : zM) (v1 : Int) (v2 : Int) : SimV E 164 (entF [vR (some 126), vI v1, vI v2] (hp q)) eI (Mo_nearMiss q v1 v2) := by
  unfold Mo_nearMiss
  exact S_run 0 (f' := (0, 0, 0, [(0, vR (some 126)), (1, vI v1), (2, vI v2)], [], hp q)) rfl (S_run 2 (f' := (0, 0, 2, [(0, vR (some 126)), (1, vI v1), (2, vI v2)], [vI v1, vR (some 126)], hp q)) rfl (S_call (m' := 139) (args := [vR (some 126), vI v1]) (h := hp q) (k := fun r => (0, 0, 5, [(0, vR (some 126)), (1, vI v1), (2, vI v2)], r.1.toList ++ [], r.2)) rfl (T_Mo_noLine q v1) (fun r_1 => S_run 0 (f' := (0, 0, 5, [(0, vR (some 126)), (1, vI v1), (2, vI v2)], [vI r_1], hp q)) rfl (S_ite (fun h_2 => S_go (J_if2 rfl rfl (B_eq h_2)) (S_run 1 (f' := (0, 0, 11, [(0, vR (some 126)), (1, vI v1), (2, vI v2)], [vI v2], hp q)) rfl (S_ite (fun h_3 => S_go (J_if2 rfl rfl (B_ge h_3)) (S_run 1 (f' := (0, 0, 16, [(0, vR (some 126)), (1, vI v1), (2, vI v2)], [vI (-2 : Int)], hp q)) rfl (S_ret rfl))) (fun h_3 => S_go (J_if2 rfl rfl (B_ge' h_3)) (S_run 4 (f' := (0, 0, 21, [(0, vR (some 126)), (1, vI v1), (2, vI v2)], [vI (0 : Int), vI (1 : Int), vI v1, vR (some 126)], hp q)) rfl (S_call (m' := 151) (args := [vR (some 126), vI v1, vI (1 : Int), vI (0 : Int)]) (h := hp q) (k := fun r => (0, 0, 24, [(0, vR (some 126)), (1, vI v1), (2, vI v2)], r.1.toList ++ [], r.2)) rfl (T_Mo_look q v1 (1 : Int) (0 : Int)) (fun r_4 => S_run 1 (f' := (0, 0, 25, [(0, vR (some 126)), (1, vI v1), (2, vI v2)], [vR (some 126)], hp r_4)) rfl (S_call (m' := 158) (args := [vR (some 126)]) (h := hp r_4) (k := fun r => (0, 0, 28, [(0, vR (some 126)), (1, vI v1), (2, vI v2)], r.1.toList ++ [], r.2)) rfl (T_Mo_search r_4 ) (fun r_5 => S_run 6 (f' := (0, 0, 38, [(0, vR (some 126)), (1, vI v1), (2, vI v2), (3, vI r_5.1), (4, vI (r_5.2.1 126 19)), (5, vI (0 : Int))], [], hp r_5.2)) rfl (T_Mo_nearMiss_L38 v1 v2 r_5.1 (r_5.2.1 126 19) (fun v5_9 q_10 => S_run 4 (f' := (0, 0, 68, [(0, vR (some 126)), (1, vI v1), (2, vI v2), (3, vI r_5.1), (4, vI (r_5.2.1 126 19)), (5, vI v5_9)], [vI (1 : Int), vI (0 : Int), vI v1, vR (some 126)], hp q_10)) rfl (S_call (m' := 151) (args := [vR (some 126), vI v1, vI (0 : Int), vI (1 : Int)]) (h := hp q_10) (k := fun r => (0, 0, 71, [(0, vR (some 126)), (1, vI v1), (2, vI v2), (3, vI r_5.1), (4, vI (r_5.2.1 126 19)), (5, vI v5_9)], r.1.toList ++ [], r.2)) rfl (T_Mo_look q_10 v1 (0 : Int) (1 : Int)) (fun r_11 => S_run 1 (f' := (0, 0, 72, [(0, vR (some 126)), (1, vI v1), (2, vI v2), (3, vI r_5.1), (4, vI (r_5.2.1 126 19)), (5, vI v5_9)], [vR (some 126)], hp r_11)) rfl (S_call (m' := 158) (args := [vR (some 126)]) (h := hp r_11) (k := fun r => (0, 0, 75, [(0, vR (some 126)), (1, vI v1), (2, vI v2), (3, vI r_5.1), (4, vI (r_5.2.1 126 19)), (5, vI v5_9)], r.1.toList ++ [], r.2)) rfl (T_Mo_search r_11 ) (fun r_12 => S_run 0 (f' := (0, 0, 75, [(0, vR (some 126)), (1, vI v1), (2, vI v2), (3, vI r_5.1), (4, vI (r_5.2.1 126 19)), (5, vI v5_9)], [vI r_12.1], hp r_12.2)) rfl (S_ite (fun h_13 => S_go (J_if2 rfl rfl (B_le h_13)) (S_run 3 (f' := (0, 0, 82, [(0, vR (some 126)), (1, vI v1), (2, vI v2), (3, vI r_5.1), (4, vI (r_5.2.1 126 19)), (5, vI v5_9)], [vI (r_5.2.1 126 19), vI r_5.1, vR (some 126)], hp r_12.2)) rfl (S_call (m' := 163) (args := [vR (some 126), vI r_5.1, vI (r_5.2.1 126 19)]) (h := hp r_12.2) (k := fun r => (0, 0, 85, [(0, vR (some 126)), (1, vI v1), (2, vI v2), (3, vI r_5.1), (4, vI (r_5.2.1 126 19)), (5, vI v5_9)], r.1.toList ++ [], r.2)) rfl (T_Mo_isAhead r_12.2 r_5.1 (r_5.2.1 126 19)) (fun r_16 => S_run 0 (f' := (0, 0, 85, [(0, vR (some 126)), (1, vI v1), (2, vI v2), (3, vI r_5.1), (4, vI (r_5.2.1 126 19)), (5, vI v5_9)], [vI r_16], hp r_12.2)) rfl (S_ite (fun h_17 => S_go (J_if2 rfl rfl (B_eq h_17)) (S_run 2 (f' := (0, 0, 124, [(0, vR (some 126)), (1, vI v1), (2, vI v2), (3, vI r_5.1), (4, vI (r_5.2.1 126 19)), (5, vI v5_9)], [vI r_5.1, vI v2], hp r_12.2)) rfl (S_ite (fun h_18 => S_go (J_icmp2 rfl rfl rfl (B_ge h_18)) (S_run 3 (f' := (0, 0, 132, [(0, vR (some 126)), (1, vI v1), (2, vI v2), (3, vI r_5.1), (4, vI (r_5.2.1 126 19)), (5, vI v5_9)], [vI v2, vR (some 137)], hp r_12.2)) rfl (S_ck (n := 12) (fun h_19 => S_go (H_iald rfl rfl rfl h_19) (S_run 1 (f' := (0, 0, 138, [(0, vR (some 126)), (1, vI v1), (2, vI v2), (3, vI r_5.1), (4, vI (r_5.2.1 126 19)), (5, vI v5_9)], [vI (r_12.2.1 137 (wrap v2).toNat)], hp r_12.2)) rfl (S_ret rfl)))))) (fun h_18 => S_go (J_icmp2 rfl rfl rfl (B_ge' h_18)) (S_run 1 (f' := (0, 0, 138, [(0, vR (some 126)), (1, vI v1), (2, vI v2), (3, vI r_5.1), (4, vI (r_5.2.1 126 19)), (5, vI v5_9)], [vI (-5 : Int)], hp r_12.2)) rfl (S_ret rfl)))))) (fun h_17 => S_go (J_if2 rfl rfl (B_eq' h_17)) (S_run 5 (f' := (0, 0, 96, [(0, vR (some 126)), (1, vI v1), (2, vI v2), (3, vI (r_12.2.1 126 20)), (4, vI (r_5.2.1 126 19)), (5, vI (0 : Int))], [], hp r_12.2)) rfl (T_Mo_nearMiss_L96 v1 v2 (r_12.2.1 126 20) (r_5.2.1 126 19) (fun v5_23 q_24 => S_run 2 (f' := (0, 0, 124, [(0, vR (some 126)), (1, vI v1), (2, vI v2), (3, vI (r_12.2.1 126 20)), (4, vI (r_5.2.1 126 19)), (5, vI v5_23)], [vI (r_12.2.1 126 20), vI v2], hp q_24)) rfl (S_ite (fun h_25 => S_go (J_icmp2 rfl rfl rfl (B_ge h_25)) (S_run 3 (f' := (0, 0, 132, [(0, vR (some 126)), (1, vI v1), (2, vI v2), (3, vI (r_12.2.1 126 20)), (4, vI (r_5.2.1 126 19)), (5, vI v5_23)], [vI v2, vR (some 137)], hp q_24)) rfl (S_ck (n := 12) (fun h_26 => S_go (H_iald rfl rfl rfl h_26) (S_run 1 (f' := (0, 0, 138, [(0, vR (some 126)), (1, vI v1), (2, vI v2), (3, vI (r_12.2.1 126 20)), (4, vI (r_5.2.1 126 19)), (5, vI v5_23)], [vI (q_24.1 137 (wrap v2).toNat)], hp q_24)) rfl (S_ret rfl)))))) (fun h_25 => S_go (J_icmp2 rfl rfl rfl (B_ge' h_25)) (S_run 1 (f' := (0, 0, 138, [(0, vR (some 126)), (1, vI v1), (2, vI v2), (3, vI (r_12.2.1 126 20)), (4, vI (r_5.2.1 126 19)), (5, vI v5_23)], [vI (-5 : Int)], hp q_24)) rfl (S_ret rfl))))) 5000 (0 : Int) r_12.2)))))))) (fun h_13 => S_go (J_if2 rfl rfl (B_le' h_13)) (S_run 2 (f' := (0, 0, 124, [(0, vR (some 126)), (1, vI v1), (2, vI v2), (3, vI r_5.1), (4, vI (r_5.2.1 126 19)), (5, vI v5_9)], [vI r_5.1, vI v2], hp r_12.2)) rfl (S_ite (fun h_14 => S_go (J_icmp2 rfl rfl rfl (B_ge h_14)) (S_run 3 (f' := (0, 0, 132, [(0, vR (some 126)), (1, vI v1), (2, vI v2), (3, vI r_5.1), (4, vI (r_5.2.1 126 19)), (5, vI v5_9)], [vI v2, vR (some 137)], hp r_12.2)) rfl (S_ck (n := 12) (fun h_15 => S_go (H_iald rfl rfl rfl h_15) (S_run 1 (f' := (0, 0, 138, [(0, vR (some 126)), (1, vI v1), (2, vI v2), (3, vI r_5.1), (4, vI (r_5.2.1 126 19)), (5, vI v5_9)], [vI (r_12.2.1 137 (wrap v2).toNat)], hp r_12.2)) rfl (S_ret rfl)))))) (fun h_14 => S_go (J_icmp2 rfl rfl rfl (B_ge' h_14)) (S_run 1 (f' := (0, 0, 138, [(0, vR (some 126)), (1, vI v1), (2, vI v2), (3, vI r_5.1), (4, vI (r_5.2.1 126 19)), (5, vI v5_9)], [vI (-5 : Int)], hp r_12.2)) rfl (S_ret rfl)))))))))))) 5000 (0 : Int) r_5.2)))))))))) (fun h_2 => S_go (J_if2 rfl rfl (B_eq' h_2)) (S_run 1 (f' := (0, 0, 9, [(0, vR (some 126)), (1, vI v1), (2, vI v2)], [vI (-1 : Int)], hp q)) rfl (S_ret rfl)))))))

def Mo_beatsFor_L4 (q : zM) (v1 : Int) (K : Int → Int → Option Int) : Nat → Int → Int → Option Int
  | 0, _, _ => none
  | n + 1, v2, v3 =>
    if wrap v3 < wrap (q.1 127 1) then
      (Mo_bendsAt q v1 v3).bind fun r_3 =>
        if wrap r_3 < (0 : Int) then
          Mo_beatsFor_L4 q v1 K n (v2 + (0 : Int)) (v3 + 1)
        else
          Mo_beatsFor_L4 q v1 K n (v2 + (1 : Int)) (v3 + 1)
    else
      K v2 v3
theorem T_Mo_beatsFor_L4 {E : zE} (q : zM) (v1 : Int) {K : Int → Int → Option Int} (hK : ∀ (v2 : Int) (v3 : Int), SimV E 168 (0, 0, 37, [(0, vR (some 126)), (1, vI v1), (2, vI v2), (3, vI v3)], [], hp q) (eP q) (K v2 v3)) : ∀ (n : Nat) (v2 : Int) (v3 : Int), SimV E 168 (0, 0, 4, [(0, vR (some 126)), (1, vI v1), (2, vI v2), (3, vI v3)], [], hp q) (eP q) (Mo_beatsFor_L4 q v1 K n v2 v3) := by
  intro n
  induction n with
  | zero => intro _ _; exact S_none
  | succ n ih =>
    intro v2 v3
    rw [Mo_beatsFor_L4]
    exact S_run 5 (f' := (0, 0, 11, [(0, vR (some 126)), (1, vI v1), (2, vI v2), (3, vI v3)], [vI (q.1 127 1), vI v3], hp q)) rfl (S_ite (fun h_2 => S_go (J_icmp2 rfl rfl rfl (B_ge h_2)) (S_run 4 (f' := (0, 0, 18, [(0, vR (some 126)), (1, vI v1), (2, vI v2), (3, vI v3)], [vI v3, vI v1, vR (some 126), vI v2], hp q)) rfl (S_call (m' := 150) (args := [vR (some 126), vI v1, vI v3]) (h := hp q) (k := fun r => (0, 0, 21, [(0, vR (some 126)), (1, vI v1), (2, vI v2), (3, vI v3)], r.1.toList ++ [vI v2], r.2)) rfl (T_Mo_bendsAt q v1 v3) (fun r_3 => S_run 0 (f' := (0, 0, 21, [(0, vR (some 126)), (1, vI v1), (2, vI v2), (3, vI v3)], [vI r_3, vI v2], hp q)) rfl (S_ite (fun h_4 => S_go (J_if2 rfl rfl (B_lt h_4)) (S_run 5 (f' := (0, 0, 4, [(0, vR (some 126)), (1, vI v1), (2, vI (v2 + (0 : Int))), (3, vI (v3 + 1))], [], hp q)) rfl (ih (v2 + (0 : Int)) (v3 + 1)))) (fun h_4 => S_go (J_if2 rfl rfl (B_lt' h_4)) (S_run 6 (f' := (0, 0, 4, [(0, vR (some 126)), (1, vI v1), (2, vI (v2 + (1 : Int))), (3, vI (v3 + 1))], [], hp q)) rfl (ih (v2 + (1 : Int)) (v3 + 1))))))))) (fun h_2 => S_go (J_icmp2 rfl rfl rfl (B_ge' h_2)) (S_run 0 (f' := (0, 0, 37, [(0, vR (some 126)), (1, vI v1), (2, vI v2), (3, vI v3)], [], hp q)) rfl (hK v2 v3))))

def Mo_beatsFor (q : zM) (v1 : Int) : Option Int :=
  Mo_beatsFor_L4 q v1 (fun v2_5 v3_6 => 
    some v2_5) 5000 (0 : Int) (0 : Int)
theorem T_Mo_beatsFor {E : zE} (q : zM) (v1 : Int) : SimV E 168 (entF [vR (some 126), vI v1] (hp q)) (eP q) (Mo_beatsFor q v1) := by
  unfold Mo_beatsFor
  exact S_run 0 (f' := (0, 0, 0, [(0, vR (some 126)), (1, vI v1)], [], hp q)) rfl (S_run 4 (f' := (0, 0, 4, [(0, vR (some 126)), (1, vI v1), (2, vI (0 : Int)), (3, vI (0 : Int))], [], hp q)) rfl (T_Mo_beatsFor_L4 q v1 (fun v2_5 v3_6 => S_run 1 (f' := (0, 0, 38, [(0, vR (some 126)), (1, vI v1), (2, vI v2_5), (3, vI v3_6)], [vI v2_5], hp q)) rfl (S_ret rfl)) 5000 (0 : Int) (0 : Int)))

def Mo_word (q : zM) (v1 : Int) (v2 : Int) : Option Int :=
  (Mo_noWord q v1).bind fun r_1 =>
    if wrap r_1 = (0 : Int) then
      if wrap v2 = 0 then
        (Mo_letters q v1).bind fun r_11 =>
          some r_11
      else
        if wrap v2 = 1 then
          (Mo_syllables q v1).bind fun r_10 =>
            some r_10
        else
          if wrap v2 = 2 then
            (Mo_stresses q v1).bind fun r_9 =>
              some r_9
          else
            if wrap v2 = 3 then
              (Mo_limit q v1).bind fun r_8 =>
                some r_8
            else
              if wrap v2 = 4 then
                (Mo_usedBut q v1 (-5 : Int)).bind fun r_7 =>
                  some r_7
              else
                if wrap v2 = 5 then
                  (Mo_firstLetter q v1).bind fun r_6 =>
                    some r_6
                else
                  if wrap v2 = 6 then
                    (Mo_lastLetter q v1).bind fun r_5 =>
                      some r_5
                  else
                    if wrap v2 = 7 then
                      (Mo_beatsFor q v1).bind fun r_4 =>
                        some r_4
                    else
                      some (-2 : Int)
    else
      some (-1 : Int)
theorem T_Mo_word {E : zE} (q : zM) (v1 : Int) (v2 : Int) : SimV E 169 (entF [vR (some 126), vI v1, vI v2] (hp q)) (eP q) (Mo_word q v1 v2) := by
  unfold Mo_word
  exact S_run 0 (f' := (0, 0, 0, [(0, vR (some 126)), (1, vI v1), (2, vI v2)], [], hp q)) rfl (S_run 2 (f' := (0, 0, 2, [(0, vR (some 126)), (1, vI v1), (2, vI v2)], [vI v1, vR (some 126)], hp q)) rfl (S_call (m' := 121) (args := [vR (some 126), vI v1]) (h := hp q) (k := fun r => (0, 0, 5, [(0, vR (some 126)), (1, vI v1), (2, vI v2)], r.1.toList ++ [], r.2)) rfl (T_Mo_noWord q v1) (fun r_1 => S_run 0 (f' := (0, 0, 5, [(0, vR (some 126)), (1, vI v1), (2, vI v2)], [vI r_1], hp q)) rfl (S_ite (fun h_2 => S_go (J_if2 rfl rfl (B_eq h_2)) (S_run 1 (f' := (0, 0, 11, [(0, vR (some 126)), (1, vI v1), (2, vI v2)], [vI v2], hp q)) rfl (S_ite (fun h_3_0 => S_go (J_tin rfl h_3_0 (by decide) rfl) (S_run 2 (f' := (0, 0, 58, [(0, vR (some 126)), (1, vI v1), (2, vI v2)], [vI v1, vR (some 126)], hp q)) rfl (S_call (m' := 123) (args := [vR (some 126), vI v1]) (h := hp q) (k := fun r => (0, 0, 61, [(0, vR (some 126)), (1, vI v1), (2, vI v2)], r.1.toList ++ [], r.2)) rfl (T_Mo_letters q v1) (fun r_11 => S_run 0 (f' := (0, 0, 61, [(0, vR (some 126)), (1, vI v1), (2, vI v2)], [vI r_11], hp q)) rfl (S_ret rfl))))) (fun h_3_0 => S_ite (fun h_3_1 => S_go (J_tin rfl h_3_1 (by decide) rfl) (S_run 2 (f' := (0, 0, 64, [(0, vR (some 126)), (1, vI v1), (2, vI v2)], [vI v1, vR (some 126)], hp q)) rfl (S_call (m' := 124) (args := [vR (some 126), vI v1]) (h := hp q) (k := fun r => (0, 0, 67, [(0, vR (some 126)), (1, vI v1), (2, vI v2)], r.1.toList ++ [], r.2)) rfl (T_Mo_syllables q v1) (fun r_10 => S_run 0 (f' := (0, 0, 67, [(0, vR (some 126)), (1, vI v1), (2, vI v2)], [vI r_10], hp q)) rfl (S_ret rfl))))) (fun h_3_1 => S_ite (fun h_3_2 => S_go (J_tin rfl h_3_2 (by decide) rfl) (S_run 2 (f' := (0, 0, 70, [(0, vR (some 126)), (1, vI v1), (2, vI v2)], [vI v1, vR (some 126)], hp q)) rfl (S_call (m' := 125) (args := [vR (some 126), vI v1]) (h := hp q) (k := fun r => (0, 0, 73, [(0, vR (some 126)), (1, vI v1), (2, vI v2)], r.1.toList ++ [], r.2)) rfl (T_Mo_stresses q v1) (fun r_9 => S_run 0 (f' := (0, 0, 73, [(0, vR (some 126)), (1, vI v1), (2, vI v2)], [vI r_9], hp q)) rfl (S_ret rfl))))) (fun h_3_2 => S_ite (fun h_3_3 => S_go (J_tin rfl h_3_3 (by decide) rfl) (S_run 2 (f' := (0, 0, 76, [(0, vR (some 126)), (1, vI v1), (2, vI v2)], [vI v1, vR (some 126)], hp q)) rfl (S_call (m' := 126) (args := [vR (some 126), vI v1]) (h := hp q) (k := fun r => (0, 0, 79, [(0, vR (some 126)), (1, vI v1), (2, vI v2)], r.1.toList ++ [], r.2)) rfl (T_Mo_limit q v1) (fun r_8 => S_run 0 (f' := (0, 0, 79, [(0, vR (some 126)), (1, vI v1), (2, vI v2)], [vI r_8], hp q)) rfl (S_ret rfl))))) (fun h_3_3 => S_ite (fun h_3_4 => S_go (J_tin rfl h_3_4 (by decide) rfl) (S_run 3 (f' := (0, 0, 84, [(0, vR (some 126)), (1, vI v1), (2, vI v2)], [vI (-5 : Int), vI v1, vR (some 126)], hp q)) rfl (S_call (m' := 143) (args := [vR (some 126), vI v1, vI (-5 : Int)]) (h := hp q) (k := fun r => (0, 0, 87, [(0, vR (some 126)), (1, vI v1), (2, vI v2)], r.1.toList ++ [], r.2)) rfl (T_Mo_usedBut q v1 (-5 : Int)) (fun r_7 => S_run 0 (f' := (0, 0, 87, [(0, vR (some 126)), (1, vI v1), (2, vI v2)], [vI r_7], hp q)) rfl (S_ret rfl))))) (fun h_3_4 => S_ite (fun h_3_5 => S_go (J_tin rfl h_3_5 (by decide) rfl) (S_run 2 (f' := (0, 0, 90, [(0, vR (some 126)), (1, vI v1), (2, vI v2)], [vI v1, vR (some 126)], hp q)) rfl (S_call (m' := 128) (args := [vR (some 126), vI v1]) (h := hp q) (k := fun r => (0, 0, 93, [(0, vR (some 126)), (1, vI v1), (2, vI v2)], r.1.toList ++ [], r.2)) rfl (T_Mo_firstLetter q v1) (fun r_6 => S_run 0 (f' := (0, 0, 93, [(0, vR (some 126)), (1, vI v1), (2, vI v2)], [vI r_6], hp q)) rfl (S_ret rfl))))) (fun h_3_5 => S_ite (fun h_3_6 => S_go (J_tin rfl h_3_6 (by decide) rfl) (S_run 2 (f' := (0, 0, 96, [(0, vR (some 126)), (1, vI v1), (2, vI v2)], [vI v1, vR (some 126)], hp q)) rfl (S_call (m' := 129) (args := [vR (some 126), vI v1]) (h := hp q) (k := fun r => (0, 0, 99, [(0, vR (some 126)), (1, vI v1), (2, vI v2)], r.1.toList ++ [], r.2)) rfl (T_Mo_lastLetter q v1) (fun r_5 => S_run 0 (f' := (0, 0, 99, [(0, vR (some 126)), (1, vI v1), (2, vI v2)], [vI r_5], hp q)) rfl (S_ret rfl))))) (fun h_3_6 => S_ite (fun h_3_7 => S_go (J_tin rfl h_3_7 (by decide) rfl) (S_run 2 (f' := (0, 0, 102, [(0, vR (some 126)), (1, vI v1), (2, vI v2)], [vI v1, vR (some 126)], hp q)) rfl (S_call (m' := 168) (args := [vR (some 126), vI v1]) (h := hp q) (k := fun r => (0, 0, 105, [(0, vR (some 126)), (1, vI v1), (2, vI v2)], r.1.toList ++ [], r.2)) rfl (T_Mo_beatsFor q v1) (fun r_4 => S_run 0 (f' := (0, 0, 105, [(0, vR (some 126)), (1, vI v1), (2, vI v2)], [vI r_4], hp q)) rfl (S_ret rfl))))) (fun h_3_7 => S_go (J_tout rfl (by omega)) (S_run 1 (f' := (0, 0, 108, [(0, vR (some 126)), (1, vI v1), (2, vI v2)], [vI (-2 : Int)], hp q)) rfl (S_ret rfl))))))))))))) (fun h_2 => S_go (J_if2 rfl rfl (B_eq' h_2)) (S_run 1 (f' := (0, 0, 9, [(0, vR (some 126)), (1, vI v1), (2, vI v2)], [vI (-1 : Int)], hp q)) rfl (S_ret rfl)))))))
