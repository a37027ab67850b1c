/-! the methods as functions, printed by wip/p24/dec.py -/
def Ev_removeWord (q : zM) (v1 : Int) : Option (Int × zM) :=
  (Ws_has q v1).bind fun r_1 =>
    if wrap r_1 = (0 : Int) then
      some ((-1 : Int), q)
    else
      (Hi_record q ).bind fun r_3 =>
        (Ws_drop r_3 v1).bind fun r_4 =>
          (Po_forgetWord r_4 v1).bind fun r_5 =>
            some (r_5.1, r_5.2)
theorem T_Ev_removeWord {E : zE} (q : zM) (v1 : Int) : SimV E 93 (entF [vR (some 1), vI v1] (hp q)) eI (Ev_removeWord q v1) := by
  unfold Ev_removeWord
  exact S_run 0 (f' := (0, 0, 0, [(0, vR (some 1)), (1, vI v1)], [], hp q)) rfl (S_run 4 (f' := (0, 0, 8, [(0, vR (some 1)), (1, vI v1)], [vI v1, vR (some 6)], hp q)) rfl (S_call (m' := 76) (args := [vR (some 6), vI v1]) (h := hp q) (k := fun r => (0, 0, 11, [(0, vR (some 1)), (1, vI v1)], r.1.toList ++ [], r.2)) rfl (T_Ws_has q v1) (fun r_1 => S_run 0 (f' := (0, 0, 11, [(0, vR (some 1)), (1, vI v1)], [vI r_1], hp q)) rfl (S_ite (fun h_2 => S_go (J_if2 rfl rfl (B_ne h_2)) (S_run 1 (f' := (0, 0, 15, [(0, vR (some 1)), (1, vI v1)], [vI (-1 : Int)], hp q)) rfl (S_ret rfl))) (fun h_2 => S_go (J_if2 rfl rfl (B_ne' h_2)) (S_run 4 (f' := (0, 0, 24, [(0, vR (some 1)), (1, vI v1)], [vR (some 5), vR (some 18)], hp q)) rfl (S_call (m' := 3) (args := [vR (some 18), vR (some 5)]) (h := hp q) (k := fun r => (0, 0, 27, [(0, vR (some 1)), (1, vI v1)], r.1.toList ++ [], r.2)) rfl (T_Hi_record q ) (fun r_3 => S_run 4 (f' := (0, 0, 35, [(0, vR (some 1)), (1, vI v1)], [vI v1, vR (some 6)], hp r_3)) rfl (S_call (m' := 86) (args := [vR (some 6), vI v1]) (h := hp r_3) (k := fun r => (0, 0, 38, [(0, vR (some 1)), (1, vI v1)], r.1.toList ++ [], r.2)) rfl (T_Ws_drop r_3 v1) (fun r_4 => S_run 4 (f' := (0, 0, 46, [(0, vR (some 1)), (1, vI v1)], [vI v1, vR (some 13)], hp r_4)) rfl (S_call (m' := 37) (args := [vR (some 13), vI v1]) (h := hp r_4) (k := fun r => (0, 0, 49, [(0, vR (some 1)), (1, vI v1)], r.1.toList ++ [], r.2)) rfl (T_Po_forgetWord r_4 v1) (fun r_5 => S_run 0 (f' := (0, 0, 49, [(0, vR (some 1)), (1, vI v1)], [vI r_5.1], hp r_5.2)) rfl (S_ret rfl)))))))))))))

def Po_linesUsingBesides_L5 (q : zM) (v1 : Int) (v2 : Int) (K : Int → Int → Option Int) : Nat → Int → Int → Option Int
  | 0, _, _ => none
  | n + 1, v3, v4 =>
    if wrap v4 < wrap (q.1 13 0) then
      if wrap v4 = wrap v1 then
        Po_linesUsingBesides_L5 q v1 v2 K n v3 (v4 + 1)
      else
        (Po_uses q v4 v2).bind fun r_3 =>
          if wrap r_3 = (0 : Int) then
            Po_linesUsingBesides_L5 q v1 v2 K n v3 (v4 + 1)
          else
            Po_linesUsingBesides_L5 q v1 v2 K n (v3 + 1) (v4 + 1)
    else
      K v3 v4
theorem T_Po_linesUsingBesides_L5 {E : zE} (q : zM) (v1 : Int) (v2 : Int) {K : Int → Int → Option Int} (hK : ∀ (v3 : Int) (v4 : Int), SimV E 31 (0, 0, 39, [(0, vR (some 13)), (1, vI v1), (2, vI v2), (3, vI v3), (4, vI v4)], [], hp q) (eP q) (K v3 v4)) : ∀ (n : Nat) (v3 : Int) (v4 : Int), SimV E 31 (0, 0, 5, [(0, vR (some 13)), (1, vI v1), (2, vI v2), (3, vI v3), (4, vI v4)], [], hp q) (eP q) (Po_linesUsingBesides_L5 q v1 v2 K n v3 v4) := by
  intro n
  induction n with
  | zero => intro _ _; exact S_none
  | succ n ih =>
    intro v3 v4
    rw [Po_linesUsingBesides_L5]
    exact S_run 3 (f' := (0, 0, 11, [(0, vR (some 13)), (1, vI v1), (2, vI v2), (3, vI v3), (4, vI v4)], [vI (q.1 13 0), vI v4], hp q)) rfl (S_ite (fun h_1 => S_go (J_icmp2 rfl rfl rfl (B_ge h_1)) (S_run 2 (f' := (0, 0, 17, [(0, vR (some 13)), (1, vI v1), (2, vI v2), (3, vI v3), (4, vI v4)], [vI v1, vI v4], hp q)) rfl (S_ite (fun h_2 => S_go (J_icmp2 rfl rfl rfl (B_eq h_2)) (S_run 2 (f' := (0, 0, 5, [(0, vR (some 13)), (1, vI v1), (2, vI v2), (3, vI v3), (4, vI (v4 + 1))], [], hp q)) rfl (ih v3 (v4 + 1)))) (fun h_2 => S_go (J_icmp2 rfl rfl rfl (B_eq' h_2)) (S_run 3 (f' := (0, 0, 24, [(0, vR (some 13)), (1, vI v1), (2, vI v2), (3, vI v3), (4, vI v4)], [vI v2, vI v4, vR (some 13)], hp q)) rfl (S_call (m' := 29) (args := [vR (some 13), vI v4, vI v2]) (h := hp q) (k := fun r => (0, 0, 27, [(0, vR (some 13)), (1, vI v1), (2, vI v2), (3, vI v3), (4, vI v4)], r.1.toList ++ [], r.2)) rfl (T_Po_uses q v4 v2) (fun r_3 => S_run 0 (f' := (0, 0, 27, [(0, vR (some 13)), (1, vI v1), (2, vI v2), (3, vI v3), (4, vI v4)], [vI r_3], hp q)) rfl (S_ite (fun h_4 => S_go (J_if2 rfl rfl (B_eq h_4)) (S_run 2 (f' := (0, 0, 5, [(0, vR (some 13)), (1, vI v1), (2, vI v2), (3, vI v3), (4, vI (v4 + 1))], [], hp q)) rfl (ih v3 (v4 + 1)))) (fun h_4 => S_go (J_if2 rfl rfl (B_eq' h_4)) (S_run 3 (f' := (0, 0, 5, [(0, vR (some 13)), (1, vI v1), (2, vI v2), (3, vI (v3 + 1)), (4, vI (v4 + 1))], [], hp q)) rfl (ih (v3 + 1) (v4 + 1)))))))))))) (fun h_1 => S_go (J_icmp2 rfl rfl rfl (B_ge' h_1)) (S_run 0 (f' := (0, 0, 39, [(0, vR (some 13)), (1, vI v1), (2, vI v2), (3, vI v3), (4, vI v4)], [], hp q)) rfl (hK v3 v4))))

def Po_linesUsingBesides (q : zM) (v1 : Int) (v2 : Int) : Option Int :=
  Po_linesUsingBesides_L5 q v1 v2 (fun v3_5 v4_6 => 
    some v3_5) 5000 (0 : Int) (0 : Int)
theorem T_Po_linesUsingBesides {E : zE} (q : zM) (v1 : Int) (v2 : Int) : SimV E 31 (entF [vR (some 13), vI v1, vI v2] (hp q)) (eP q) (Po_linesUsingBesides q v1 v2) := by
  unfold Po_linesUsingBesides
  exact S_run 0 (f' := (0, 0, 0, [(0, vR (some 13)), (1, vI v1), (2, vI v2)], [], hp q)) rfl (S_run 4 (f' := (0, 0, 5, [(0, vR (some 13)), (1, vI v1), (2, vI v2), (3, vI (0 : Int)), (4, vI (0 : Int))], [], hp q)) rfl (T_Po_linesUsingBesides_L5 q v1 v2 (fun v3_5 v4_6 => S_run 1 (f' := (0, 0, 40, [(0, vR (some 13)), (1, vI v1), (2, vI v2), (3, vI v3_5), (4, vI v4_6)], [vI v3_5], hp q)) rfl (S_ret rfl)) 5000 (0 : Int) (0 : Int)))

def Po_linesUsing (q : zM) (v1 : Int) : Option Int :=
  (Po_linesUsingBesides q (-1 : Int) v1).bind fun r_1 =>
    some r_1
theorem T_Po_linesUsing {E : zE} (q : zM) (v1 : Int) : SimV E 30 (entF [vR (some 13), vI v1] (hp q)) (eP q) (Po_linesUsing q v1) := by
  unfold Po_linesUsing
  exact S_run 0 (f' := (0, 0, 0, [(0, vR (some 13)), (1, vI v1)], [], hp q)) rfl (S_run 3 (f' := (0, 0, 3, [(0, vR (some 13)), (1, vI v1)], [vI v1, vI (-1 : Int), vR (some 13)], hp q)) rfl (S_call (m' := 31) (args := [vR (some 13), vI (-1 : Int), vI v1]) (h := hp q) (k := fun r => (0, 0, 6, [(0, vR (some 13)), (1, vI v1)], r.1.toList ++ [], r.2)) rfl (T_Po_linesUsingBesides q (-1 : Int) v1) (fun r_1 => S_run 0 (f' := (0, 0, 6, [(0, vR (some 13)), (1, vI v1)], [vI r_1], hp q)) rfl (S_ret rfl))))

def Ws_limitOf (q : zM) (v1 : Int) : Option Int :=
  (Ws_has q v1).bind fun r_1 =>
    if wrap r_1 = (0 : Int) then
      some (0 : Int)
    else
      ck (wrap v1) 40 (
        some (q.1 11 (wrap v1).toNat))
theorem T_Ws_limitOf {E : zE} (q : zM) (v1 : Int) : SimV E 80 (entF [vR (some 6), vI v1] (hp q)) (eP q) (Ws_limitOf q v1) := by
  unfold Ws_limitOf
  exact S_run 0 (f' := (0, 0, 0, [(0, vR (some 6)), (1, vI v1)], [], hp q)) rfl (S_run 2 (f' := (0, 0, 2, [(0, vR (some 6)), (1, vI v1)], [vI v1, vR (some 6)], hp q)) rfl (S_call (m' := 76) (args := [vR (some 6), vI v1]) (h := hp q) (k := fun r => (0, 0, 5, [(0, vR (some 6)), (1, vI v1)], r.1.toList ++ [], r.2)) rfl (T_Ws_has q v1) (fun r_1 => S_run 0 (f' := (0, 0, 5, [(0, vR (some 6)), (1, vI v1)], [vI r_1], hp q)) rfl (S_ite (fun h_2 => S_go (J_if2 rfl rfl (B_eq h_2)) (S_run 1 (f' := (0, 0, 18, [(0, vR (some 6)), (1, vI v1)], [vI (0 : Int)], hp q)) rfl (S_ret rfl))) (fun h_2 => S_go (J_if2 rfl rfl (B_eq' h_2)) (S_run 3 (f' := (0, 0, 13, [(0, vR (some 6)), (1, vI v1)], [vI v1, vR (some 11)], hp q)) rfl (S_ck (n := 40) (fun h_3 => S_go (H_iald rfl rfl rfl h_3) (S_run 1 (f' := (0, 0, 18, [(0, vR (some 6)), (1, vI v1)], [vI (q.1 11 (wrap v1).toNat)], hp q)) rfl (S_ret rfl))))))))))

def Ws_changeLimit (q : zM) (v1 : Int) (v2 : Int) : Option zM :=
  (Ws_has q v1).bind fun r_1 =>
    if wrap r_1 = (0 : Int) then
      some q
    else
      ck (wrap v1) 40 (
        some (qs q 11 (wrap v1).toNat v2))
theorem T_Ws_changeLimit {E : zE} (q : zM) (v1 : Int) (v2 : Int) : SimV E 87 (entF [vR (some 6), vI v1, vI v2] (hp q)) eV (Ws_changeLimit q v1 v2) := by
  unfold Ws_changeLimit
  exact S_run 0 (f' := (0, 0, 0, [(0, vR (some 6)), (1, vI v1), (2, vI v2)], [], hp q)) rfl (S_run 2 (f' := (0, 0, 2, [(0, vR (some 6)), (1, vI v1), (2, vI v2)], [vI v1, vR (some 6)], hp q)) rfl (S_call (m' := 76) (args := [vR (some 6), vI v1]) (h := hp q) (k := fun r => (0, 0, 5, [(0, vR (some 6)), (1, vI v1), (2, vI v2)], r.1.toList ++ [], r.2)) rfl (T_Ws_has q v1) (fun r_1 => S_run 0 (f' := (0, 0, 5, [(0, vR (some 6)), (1, vI v1), (2, vI v2)], [vI r_1], hp q)) rfl (S_ite (fun h_2 => S_go (J_if2 rfl rfl (B_eq h_2)) (S_run 0 (f' := (0, 0, 15, [(0, vR (some 6)), (1, vI v1), (2, vI v2)], [], hp q)) rfl (S_ret rfl))) (fun h_2 => S_go (J_if2 rfl rfl (B_eq' h_2)) (S_run 4 (f' := (0, 0, 14, [(0, vR (some 6)), (1, vI v1), (2, vI v2)], [vI v2, vI v1, vR (some 11)], hp q)) rfl (S_ck (n := 40) (fun h_3 => S_go (H_iast rfl rfl rfl h_3) (S_run 0 (f' := (0, 0, 15, [(0, vR (some 6)), (1, vI v1), (2, vI v2)], [], hp (qs q 11 (wrap v1).toNat v2))) rfl (S_ret rfl))))))))))

def Ev_setLimit (q : zM) (v1 : Int) (v2 : Int) : Option (Int × zM) :=
  (Ws_has q v1).bind fun r_1 =>
    if wrap r_1 = (0 : Int) then
      some ((-1 : Int), q)
    else
      if wrap v2 < (1 : Int) then
        some ((-2 : Int), q)
      else
        if (9 : Int) < wrap v2 then
          some ((-2 : Int), q)
        else
          (Po_linesUsing q v1).bind fun r_5 =>
            if wrap v2 < wrap r_5 then
              some ((-4 : Int), q)
            else
              (Ws_limitOf q v1).bind fun r_7 =>
                if wrap r_7 = wrap v2 then
                  some ((-5 : Int), q)
                else
                  (Hi_record q ).bind fun r_9 =>
                    (Ws_changeLimit r_9 v1 v2).bind fun r_10 =>
                      some (r_7, r_10)
theorem T_Ev_setLimit {E : zE} (q : zM) (v1 : Int) (v2 : Int) : SimV E 94 (entF [vR (some 1), vI v1, vI v2] (hp q)) eI (Ev_setLimit q v1 v2) := by
  unfold Ev_setLimit
  exact S_run 0 (f' := (0, 0, 0, [(0, vR (some 1)), (1, vI v1), (2, vI v2)], [], hp q)) rfl (S_run 4 (f' := (0, 0, 8, [(0, vR (some 1)), (1, vI v1), (2, vI v2)], [vI v1, vR (some 6)], hp q)) rfl (S_call (m' := 76) (args := [vR (some 6), vI v1]) (h := hp q) (k := fun r => (0, 0, 11, [(0, vR (some 1)), (1, vI v1), (2, vI v2)], r.1.toList ++ [], r.2)) rfl (T_Ws_has q v1) (fun r_1 => S_run 0 (f' := (0, 0, 11, [(0, vR (some 1)), (1, vI v1), (2, vI v2)], [vI r_1], hp q)) rfl (S_ite (fun h_2 => S_go (J_if2 rfl rfl (B_ne h_2)) (S_run 1 (f' := (0, 0, 15, [(0, vR (some 1)), (1, vI v1), (2, vI v2)], [vI (-1 : Int)], hp q)) rfl (S_ret rfl))) (fun h_2 => S_go (J_if2 rfl rfl (B_ne' h_2)) (S_run 2 (f' := (0, 0, 18, [(0, vR (some 1)), (1, vI v1), (2, vI v2)], [vI (1 : Int), vI v2], hp q)) rfl (S_ite (fun h_3 => S_go (J_icmp2 rfl rfl wl_1 (B_lt h_3)) (S_run 1 (f' := (0, 0, 29, [(0, vR (some 1)), (1, vI v1), (2, vI v2)], [vI (-2 : Int)], hp q)) rfl (S_ret rfl))) (fun h_3 => S_go (J_icmp2 rfl rfl wl_1 (B_lt' h_3)) (S_run 2 (f' := (0, 0, 24, [(0, vR (some 1)), (1, vI v1), (2, vI v2)], [vI (9 : Int), vI v2], hp q)) rfl (S_ite (fun h_4 => S_go (J_icmp2 rfl rfl wl_9 (B_le h_4)) (S_run 1 (f' := (0, 0, 29, [(0, vR (some 1)), (1, vI v1), (2, vI v2)], [vI (-2 : Int)], hp q)) rfl (S_ret rfl))) (fun h_4 => S_go (J_icmp2 rfl rfl wl_9 (B_le' h_4)) (S_run 4 (f' := (0, 0, 38, [(0, vR (some 1)), (1, vI v1), (2, vI v2)], [vI v1, vR (some 13)], hp q)) rfl (S_call (m' := 30) (args := [vR (some 13), vI v1]) (h := hp q) (k := fun r => (0, 0, 41, [(0, vR (some 1)), (1, vI v1), (2, vI v2)], r.1.toList ++ [], r.2)) rfl (T_Po_linesUsing q v1) (fun r_5 => S_run 1 (f' := (0, 0, 42, [(0, vR (some 1)), (1, vI v1), (2, vI v2)], [vI v2, vI r_5], hp q)) rfl (S_ite (fun h_6 => S_go (J_icmp2 rfl rfl rfl (B_le h_6)) (S_run 1 (f' := (0, 0, 47, [(0, vR (some 1)), (1, vI v1), (2, vI v2)], [vI (-4 : Int)], hp q)) rfl (S_ret rfl))) (fun h_6 => S_go (J_icmp2 rfl rfl rfl (B_le' h_6)) (S_run 4 (f' := (0, 0, 56, [(0, vR (some 1)), (1, vI v1), (2, vI v2)], [vI v1, vR (some 6)], hp q)) rfl (S_call (m' := 80) (args := [vR (some 6), vI v1]) (h := hp q) (k := fun r => (0, 0, 59, [(0, vR (some 1)), (1, vI v1), (2, vI v2)], r.1.toList ++ [], r.2)) rfl (T_Ws_limitOf q v1) (fun r_7 => S_run 3 (f' := (0, 0, 62, [(0, vR (some 1)), (1, vI v1), (2, vI v2), (3, vI r_7)], [vI v2, vI r_7], hp q)) rfl (S_ite (fun h_8 => S_go (J_icmp2 rfl rfl rfl (B_ne h_8)) (S_run 1 (f' := (0, 0, 67, [(0, vR (some 1)), (1, vI v1), (2, vI v2), (3, vI r_7)], [vI (-5 : Int)], hp q)) rfl (S_ret rfl))) (fun h_8 => S_go (J_icmp2 rfl rfl rfl (B_ne' h_8)) (S_run 4 (f' := (0, 0, 76, [(0, vR (some 1)), (1, vI v1), (2, vI v2), (3, vI r_7)], [vR (some 5), vR (some 18)], hp q)) rfl (S_call (m' := 3) (args := [vR (some 18), vR (some 5)]) (h := hp q) (k := fun r => (0, 0, 79, [(0, vR (some 1)), (1, vI v1), (2, vI v2), (3, vI r_7)], r.1.toList ++ [], r.2)) rfl (T_Hi_record q ) (fun r_9 => S_run 5 (f' := (0, 0, 88, [(0, vR (some 1)), (1, vI v1), (2, vI v2), (3, vI r_7)], [vI v2, vI v1, vR (some 6)], hp r_9)) rfl (S_call (m' := 87) (args := [vR (some 6), vI v1, vI v2]) (h := hp r_9) (k := fun r => (0, 0, 91, [(0, vR (some 1)), (1, vI v1), (2, vI v2), (3, vI r_7)], r.1.toList ++ [], r.2)) rfl (T_Ws_changeLimit r_9 v1 v2) (fun r_10 => S_run 1 (f' := (0, 0, 92, [(0, vR (some 1)), (1, vI v1), (2, vI v2), (3, vI r_7)], [vI r_7], hp r_10)) rfl (S_ret rfl)))))))))))))))))))))))))))

def Me_change_12_b5 (q : zM) (v1 : Int) (v2 : Int) : Option zM :=
  some (qs q 12 1 v2)
theorem T_Me_change_12_b5 {E : zE} (q : zM) (v1 : Int) (v2 : Int) : SimV E 17 (0, 0, 5, [(0, vR (some 12)), (1, vI v1), (2, vI v2)], [], hp q) eV (Me_change_12_b5 q v1 v2) := by
  unfold Me_change_12_b5
  exact S_run 3 (f' := (0, 0, 10, [(0, vR (some 12)), (1, vI v1), (2, vI v2)], [], hp (qs q 12 1 v2))) rfl (S_ret rfl)

def Me_change_12 (q : zM) (v1 : Int) (v2 : Int) : Option zM :=
  Me_change_12_b5 (qs q 12 0 v1) v1 v2
theorem T_Me_change_12 {E : zE} (q : zM) (v1 : Int) (v2 : Int) : SimV E 17 (entF [vR (some 12), vI v1, vI v2] (hp q)) eV (Me_change_12 q v1 v2) := by
  unfold Me_change_12
  exact S_run 0 (f' := (0, 0, 0, [(0, vR (some 12)), (1, vI v1), (2, vI v2)], [], hp q)) rfl (S_run 3 (f' := (0, 0, 5, [(0, vR (some 12)), (1, vI v1), (2, vI v2)], [], hp (qs q 12 0 v1))) rfl (T_Me_change_12_b5 (qs q 12 0 v1) v1 v2))

def Po_madeLines_L4 (q : zM)  (K : Int → Int → Option Int) : Nat → Int → Int → Option Int
  | 0, _, _ => none
  | n + 1, v1, v2 =>
    if wrap v2 < wrap (q.1 13 0) then
      (Po_wordsIn q v2).bind fun r_2 =>
        if (0 : Int) < wrap r_2 then
          Po_madeLines_L4 q K n (v1 + 1) (v2 + 1)
        else
          Po_madeLines_L4 q K n v1 (v2 + 1)
    else
      K v1 v2
theorem T_Po_madeLines_L4 {E : zE} (q : zM)  {K : Int → Int → Option Int} (hK : ∀ (v1 : Int) (v2 : Int), SimV E 32 (0, 0, 29, [(0, vR (some 13)), (1, vI v1), (2, vI v2)], [], hp q) (eP q) (K v1 v2)) : ∀ (n : Nat) (v1 : Int) (v2 : Int), SimV E 32 (0, 0, 4, [(0, vR (some 13)), (1, vI v1), (2, vI v2)], [], hp q) (eP q) (Po_madeLines_L4 q K n v1 v2) := by
  intro n
  induction n with
  | zero => intro _ _; exact S_none
  | succ n ih =>
    intro v1 v2
    rw [Po_madeLines_L4]
    exact S_run 3 (f' := (0, 0, 9, [(0, vR (some 13)), (1, vI v1), (2, vI v2)], [vI (q.1 13 0), vI v2], hp q)) rfl (S_ite (fun h_1 => S_go (J_icmp2 rfl rfl rfl (B_ge h_1)) (S_run 2 (f' := (0, 0, 14, [(0, vR (some 13)), (1, vI v1), (2, vI v2)], [vI v2, vR (some 13)], hp q)) rfl (S_call (m' := 27) (args := [vR (some 13), vI v2]) (h := hp q) (k := fun r => (0, 0, 17, [(0, vR (some 13)), (1, vI v1), (2, vI v2)], r.1.toList ++ [], r.2)) rfl (T_Po_wordsIn q v2) (fun r_2 => S_run 0 (f' := (0, 0, 17, [(0, vR (some 13)), (1, vI v1), (2, vI v2)], [vI r_2], hp q)) rfl (S_ite (fun h_3 => S_go (J_if2 rfl rfl (B_le h_3)) (S_run 3 (f' := (0, 0, 4, [(0, vR (some 13)), (1, vI (v1 + 1)), (2, vI (v2 + 1))], [], hp q)) rfl (ih (v1 + 1) (v2 + 1)))) (fun h_3 => S_go (J_if2 rfl rfl (B_le' h_3)) (S_run 2 (f' := (0, 0, 4, [(0, vR (some 13)), (1, vI v1), (2, vI (v2 + 1))], [], hp q)) rfl (ih v1 (v2 + 1))))))))) (fun h_1 => S_go (J_icmp2 rfl rfl rfl (B_ge' h_1)) (S_run 0 (f' := (0, 0, 29, [(0, vR (some 13)), (1, vI v1), (2, vI v2)], [], hp q)) rfl (hK v1 v2))))

def Po_madeLines (q : zM)  : Option Int :=
  Po_madeLines_L4 q (fun v1_4 v2_5 => 
    some v1_4) 5000 (0 : Int) (0 : Int)
theorem T_Po_madeLines {E : zE} (q : zM)  : SimV E 32 (entF [vR (some 13)] (hp q)) (eP q) (Po_madeLines q ) := by
  unfold Po_madeLines
  exact S_run 0 (f' := (0, 0, 0, [(0, vR (some 13))], [], hp q)) rfl (S_run 4 (f' := (0, 0, 4, [(0, vR (some 13)), (1, vI (0 : Int)), (2, vI (0 : Int))], [], hp q)) rfl (T_Po_madeLines_L4 q (fun v1_4 v2_5 => S_run 1 (f' := (0, 0, 30, [(0, vR (some 13)), (1, vI v1_4), (2, vI v2_5)], [vI v1_4], hp q)) rfl (S_ret rfl)) 5000 (0 : Int) (0 : Int)))

def Po_emptyAllLines_L7 (v1 : Int) (K : Int → zM → Option (Int × zM)) : Nat → Int → zM → Option (Int × zM)
  | 0, _, _ => none
  | n + 1, v2, q =>
    if wrap v2 < wrap (q.1 13 0) then
      (Po_emptyLine q v2).bind fun r_3 =>
        Po_emptyAllLines_L7 v1 K n (v2 + 1) r_3
    else
      K v2 q
theorem T_Po_emptyAllLines_L7 {E : zE} (v1 : Int) {K : Int → zM → Option (Int × zM)} (hK : ∀ (v2 : Int) (q : zM), SimV E 35 (0, 0, 26, [(0, vR (some 13)), (1, vI v1), (2, vI v2)], [], hp q) eI (K v2 q)) : ∀ (n : Nat) (v2 : Int) (q : zM), SimV E 35 (0, 0, 7, [(0, vR (some 13)), (1, vI v1), (2, vI v2)], [], hp q) eI (Po_emptyAllLines_L7 v1 K n v2 q) := by
  intro n
  induction n with
  | zero => intro _ _; exact S_none
  | succ n ih =>
    intro v2 q
    rw [Po_emptyAllLines_L7]
    exact S_run 3 (f' := (0, 0, 12, [(0, vR (some 13)), (1, vI v1), (2, vI v2)], [vI (q.1 13 0), vI v2], hp q)) rfl (S_ite (fun h_2 => S_go (J_icmp2 rfl rfl rfl (B_ge h_2)) (S_run 2 (f' := (0, 0, 17, [(0, vR (some 13)), (1, vI v1), (2, vI v2)], [vI v2, vR (some 13)], hp q)) rfl (S_call (m' := 34) (args := [vR (some 13), vI v2]) (h := hp q) (k := fun r => (0, 0, 20, [(0, vR (some 13)), (1, vI v1), (2, vI v2)], r.1.toList ++ [], r.2)) rfl (T_Po_emptyLine q v2) (fun r_3 => S_run 2 (f' := (0, 0, 7, [(0, vR (some 13)), (1, vI v1), (2, vI (v2 + 1))], [], hp r_3)) rfl (ih (v2 + 1) r_3))))) (fun h_2 => S_go (J_icmp2 rfl rfl rfl (B_ge' h_2)) (S_run 0 (f' := (0, 0, 26, [(0, vR (some 13)), (1, vI v1), (2, vI v2)], [], hp q)) rfl (hK v2 q))))

def Po_emptyAllLines (q : zM)  : Option (Int × zM) :=
  (Po_madeLines q ).bind fun r_1 =>
    Po_emptyAllLines_L7 r_1 (fun v2_4 q_5 => 
      some (r_1, q_5)) 5000 (0 : Int) q
theorem T_Po_emptyAllLines {E : zE} (q : zM)  : SimV E 35 (entF [vR (some 13)] (hp q)) eI (Po_emptyAllLines q ) := by
  unfold Po_emptyAllLines
  exact S_run 0 (f' := (0, 0, 0, [(0, vR (some 13))], [], hp q)) rfl (S_run 1 (f' := (0, 0, 1, [(0, vR (some 13))], [vR (some 13)], hp q)) rfl (S_call (m' := 32) (args := [vR (some 13)]) (h := hp q) (k := fun r => (0, 0, 4, [(0, vR (some 13))], r.1.toList ++ [], r.2)) rfl (T_Po_madeLines q ) (fun r_1 => S_run 3 (f' := (0, 0, 7, [(0, vR (some 13)), (1, vI r_1), (2, vI (0 : Int))], [], hp q)) rfl (T_Po_emptyAllLines_L7 r_1 (fun v2_4 q_5 => S_run 1 (f' := (0, 0, 27, [(0, vR (some 13)), (1, vI r_1), (2, vI v2_4)], [vI r_1], hp q_5)) rfl (S_ret rfl)) 5000 (0 : Int) q))))

def Ev_setMetre (q : zM) (v1 : Int) (v2 : Int) : Option (Int × zM) :=
  if wrap v1 < (2 : Int) then
    some ((-2 : Int), q)
  else
    if (12 : Int) < wrap v1 then
      some ((-2 : Int), q)
    else
      if wrap v2 < (0 : Int) then
        some ((-2 : Int), q)
      else
        if wrap v2 < wrap (wshl (1 : Int) v1) then
          (Hi_record q ).bind fun r_5 =>
            (Me_change_12 r_5 v1 v2).bind fun r_6 =>
              (Po_emptyAllLines r_6 ).bind fun r_7 =>
                some (r_7.1, r_7.2)
        else
          some ((-2 : Int), q)
theorem T_Ev_setMetre {E : zE} (q : zM) (v1 : Int) (v2 : Int) : SimV E 95 (entF [vR (some 1), vI v1, vI v2] (hp q)) eI (Ev_setMetre q v1 v2) := by
  unfold Ev_setMetre
  exact S_run 0 (f' := (0, 0, 0, [(0, vR (some 1)), (1, vI v1), (2, vI v2)], [], hp q)) rfl (S_run 2 (f' := (0, 0, 2, [(0, vR (some 1)), (1, vI v1), (2, vI v2)], [vI (2 : Int), vI v1], hp q)) rfl (S_ite (fun h_1 => S_go (J_icmp2 rfl rfl wl_2 (B_lt h_1)) (S_run 1 (f' := (0, 0, 24, [(0, vR (some 1)), (1, vI v1), (2, vI v2)], [vI (-2 : Int)], hp q)) rfl (S_ret rfl))) (fun h_1 => S_go (J_icmp2 rfl rfl wl_2 (B_lt' h_1)) (S_run 2 (f' := (0, 0, 8, [(0, vR (some 1)), (1, vI v1), (2, vI v2)], [vI (12 : Int), vI v1], hp q)) rfl (S_ite (fun h_2 => S_go (J_icmp2 rfl rfl wl_12 (B_gt h_2)) (S_run 1 (f' := (0, 0, 24, [(0, vR (some 1)), (1, vI v1), (2, vI v2)], [vI (-2 : Int)], hp q)) rfl (S_ret rfl))) (fun h_2 => S_go (J_icmp2 rfl rfl wl_12 (B_gt' h_2)) (S_run 1 (f' := (0, 0, 12, [(0, vR (some 1)), (1, vI v1), (2, vI v2)], [vI v2], hp q)) rfl (S_ite (fun h_3 => S_go (J_if2 rfl rfl (B_lt h_3)) (S_run 1 (f' := (0, 0, 24, [(0, vR (some 1)), (1, vI v1), (2, vI v2)], [vI (-2 : Int)], hp q)) rfl (S_ret rfl))) (fun h_3 => S_go (J_if2 rfl rfl (B_lt' h_3)) (S_run 4 (f' := (0, 0, 19, [(0, vR (some 1)), (1, vI v1), (2, vI v2)], [vI (wshl (1 : Int) v1), vI v2], hp q)) rfl (S_ite (fun h_4 => S_go (J_icmp2 rfl rfl rfl (B_lt h_4)) (S_run 4 (f' := (0, 0, 33, [(0, vR (some 1)), (1, vI v1), (2, vI v2)], [vR (some 5), vR (some 18)], hp q)) rfl (S_call (m' := 3) (args := [vR (some 18), vR (some 5)]) (h := hp q) (k := fun r => (0, 0, 36, [(0, vR (some 1)), (1, vI v1), (2, vI v2)], r.1.toList ++ [], r.2)) rfl (T_Hi_record q ) (fun r_5 => S_run 5 (f' := (0, 0, 45, [(0, vR (some 1)), (1, vI v1), (2, vI v2)], [vI v2, vI v1, vR (some 12)], hp r_5)) rfl (S_call (m' := 17) (args := [vR (some 12), vI v1, vI v2]) (h := hp r_5) (k := fun r => (0, 0, 48, [(0, vR (some 1)), (1, vI v1), (2, vI v2)], r.1.toList ++ [], r.2)) rfl (T_Me_change_12 r_5 v1 v2) (fun r_6 => S_run 3 (f' := (0, 0, 55, [(0, vR (some 1)), (1, vI v1), (2, vI v2)], [vR (some 13)], hp r_6)) rfl (S_call (m' := 35) (args := [vR (some 13)]) (h := hp r_6) (k := fun r => (0, 0, 58, [(0, vR (some 1)), (1, vI v1), (2, vI v2)], r.1.toList ++ [], r.2)) rfl (T_Po_emptyAllLines r_6 ) (fun r_7 => S_run 0 (f' := (0, 0, 58, [(0, vR (some 1)), (1, vI v1), (2, vI v2)], [vI r_7.1], hp r_7.2)) rfl (S_ret rfl))))))))) (fun h_4 => S_go (J_icmp2 rfl rfl rfl (B_lt' h_4)) (S_run 1 (f' := (0, 0, 24, [(0, vR (some 1)), (1, vI v1), (2, vI v2)], [vI (-2 : Int)], hp q)) rfl (S_ret rfl))))))))))))))

def Te_hasLetters_L2 (q : zM) (v1 : Int) (v2 : Int) (K : Int → Option Int) : Nat → Int → Option Int
  | 0, _ => none
  | n + 1, v3 =>
    if wrap v3 < wrap v2 then
      (Te_codeAt q v3).bind fun r_2 =>
        (Ev_isLetter q r_2).bind fun r_3 =>
          if wrap r_3 = (0 : Int) then
            some (0 : Int)
          else
            Te_hasLetters_L2 q v1 v2 K n (v3 + 1)
    else
      K v3
theorem T_Te_hasLetters_L2 {E : zE} (q : zM) (v1 : Int) (v2 : Int) {K : Int → Option Int} (hK : ∀ (v3 : Int), SimV E 62 (0, 0, 26, [(0, vR (some 2)), (1, vI v1), (2, vI v2), (3, vI v3)], [], hp q) (eP q) (K v3)) : ∀ (n : Nat) (v3 : Int), SimV E 62 (0, 0, 2, [(0, vR (some 2)), (1, vI v1), (2, vI v2), (3, vI v3)], [], hp q) (eP q) (Te_hasLetters_L2 q v1 v2 K n v3) := by
  intro n
  induction n with
  | zero => intro _; exact S_none
  | succ n ih =>
    intro v3
    rw [Te_hasLetters_L2]
    exact S_run 2 (f' := (0, 0, 4, [(0, vR (some 2)), (1, vI v1), (2, vI v2), (3, vI v3)], [vI v2, vI v3], hp q)) rfl (S_ite (fun h_1 => S_go (J_icmp2 rfl rfl rfl (B_ge h_1)) (S_run 2 (f' := (0, 0, 9, [(0, vR (some 2)), (1, vI v1), (2, vI v2), (3, vI v3)], [vI v3, vR (some 2)], hp q)) rfl (S_call (m' := 59) (args := [vR (some 2), vI v3]) (h := hp q) (k := fun r => (0, 0, 12, [(0, vR (some 2)), (1, vI v1), (2, vI v2), (3, vI v3)], r.1.toList ++ [], r.2)) rfl (T_Te_codeAt q v3) (fun r_2 => S_run 0 (f' := (0, 0, 12, [(0, vR (some 2)), (1, vI v1), (2, vI v2), (3, vI v3)], [vI r_2], hp q)) rfl (S_call (m' := 110) (args := [vI r_2]) (h := hp q) (k := fun r => (0, 0, 15, [(0, vR (some 2)), (1, vI v1), (2, vI v2), (3, vI v3)], r.1.toList ++ [], r.2)) rfl (T_Ev_isLetter q r_2) (fun r_3 => S_run 0 (f' := (0, 0, 15, [(0, vR (some 2)), (1, vI v1), (2, vI v2), (3, vI v3)], [vI r_3], hp q)) rfl (S_ite (fun h_4 => S_go (J_if2 rfl rfl (B_ne h_4)) (S_run 1 (f' := (0, 0, 19, [(0, vR (some 2)), (1, vI v1), (2, vI v2), (3, vI v3)], [vI (0 : Int)], hp q)) rfl (S_ret rfl))) (fun h_4 => S_go (J_if2 rfl rfl (B_ne' h_4)) (S_run 2 (f' := (0, 0, 2, [(0, vR (some 2)), (1, vI v1), (2, vI v2), (3, vI (v3 + 1))], [], hp q)) rfl (ih (v3 + 1))))))))))) (fun h_1 => S_go (J_icmp2 rfl rfl rfl (B_ge' h_1)) (S_run 0 (f' := (0, 0, 26, [(0, vR (some 2)), (1, vI v1), (2, vI v2), (3, vI v3)], [], hp q)) rfl (hK v3))))

def Te_hasLetters (q : zM) (v1 : Int) (v2 : Int) : Option Int :=
  Te_hasLetters_L2 q v1 v2 (fun v3_5 => 
    some (1 : Int)) 5000 v1
theorem T_Te_hasLetters {E : zE} (q : zM) (v1 : Int) (v2 : Int) : SimV E 62 (entF [vR (some 2), vI v1, vI v2] (hp q)) (eP q) (Te_hasLetters q v1 v2) := by
  unfold Te_hasLetters
  exact S_run 0 (f' := (0, 0, 0, [(0, vR (some 2)), (1, vI v1), (2, vI v2)], [], hp q)) rfl (S_run 2 (f' := (0, 0, 2, [(0, vR (some 2)), (1, vI v1), (2, vI v2), (3, vI v1)], [], hp q)) rfl (T_Te_hasLetters_L2 q v1 v2 (fun v3_5 => S_run 1 (f' := (0, 0, 27, [(0, vR (some 2)), (1, vI v1), (2, vI v2), (3, vI v3_5)], [vI (1 : Int)], hp q)) rfl (S_ret rfl)) 5000 v1))

def Te_edgeLength (q : zM)  : Option Int :=
  if wrap (wrem (q.1 2 1) (2 : Int)) = (1 : Int) then
    if wrap (wdiv (q.1 2 1) (2 : Int)) < (1 : Int) then
      if (0 : Int) = (0 : Int) then
        some (-1 : Int)
      else
        some (wdiv (q.1 2 1) (2 : Int))
    else
      if (8 : Int) < wrap (wdiv (q.1 2 1) (2 : Int)) then
        if (0 : Int) = (0 : Int) then
          some (-1 : Int)
        else
          some (wdiv (q.1 2 1) (2 : Int))
      else
        (Te_hasLetters q (0 : Int) (wdiv (q.1 2 1) (2 : Int))).bind fun r_7 =>
          if wrap r_7 = (0 : Int) then
            if (0 : Int) = (0 : Int) then
              some (-1 : Int)
            else
              some (wdiv (q.1 2 1) (2 : Int))
          else
            (Te_codeAt q (wdiv (q.1 2 1) (2 : Int))).bind fun r_10 =>
              if wrap r_10 = (47 : Int) then
                (Te_hasLetters q ((wdiv (q.1 2 1) (2 : Int)) + (1 : Int)) (q.1 2 1)).bind fun r_13 =>
                  if wrap r_13 = (0 : Int) then
                    if (0 : Int) = (0 : Int) then
                      some (-1 : Int)
                    else
                      some (wdiv (q.1 2 1) (2 : Int))
                  else
                    if (1 : Int) = (0 : Int) then
                      some (-1 : Int)
                    else
                      some (wdiv (q.1 2 1) (2 : Int))
              else
                if (0 : Int) = (0 : Int) then
                  some (-1 : Int)
                else
                  some (wdiv (q.1 2 1) (2 : Int))
  else
    if (0 : Int) = (0 : Int) then
      some (-1 : Int)
    else
      some (wdiv (q.1 2 1) (2 : Int))
theorem T_Te_edgeLength {E : zE} (q : zM)  : SimV E 64 (entF [vR (some 2)] (hp q)) (eP q) (Te_edgeLength q ) := by
  unfold Te_edgeLength
  exact S_run 0 (f' := (0, 0, 0, [(0, vR (some 2))], [], hp q)) rfl (S_run 10 (f' := (0, 0, 14, [(0, vR (some 2)), (1, vI (wdiv (q.1 2 1) (2 : Int)))], [vI (1 : Int), vI (wrem (q.1 2 1) (2 : Int))], hp q)) rfl (S_ite (fun h_1 => S_go (J_icmp2 rfl rfl wl_1 (B_ne h_1)) (S_run 2 (f' := (0, 0, 19, [(0, vR (some 2)), (1, vI (wdiv (q.1 2 1) (2 : Int)))], [vI (1 : Int), vI (wdiv (q.1 2 1) (2 : Int))], hp q)) rfl (S_ite (fun h_3 => S_go (J_icmp2 rfl rfl wl_1 (B_lt h_3)) (S_run 3 (f' := (0, 0, 68, [(0, vR (some 2)), (1, vI (wdiv (q.1 2 1) (2 : Int))), (2, vI (0 : Int))], [vI (0 : Int)], hp q)) rfl (S_ite (fun h_4 => S_go (J_if2 rfl wl_0 (B_eq h_4)) (S_run 1 (f' := (0, 0, 76, [(0, vR (some 2)), (1, vI (wdiv (q.1 2 1) (2 : Int))), (2, vI (0 : Int))], [vI (-1 : Int)], hp q)) rfl (S_ret rfl))) (fun h_4 => S_go (J_if2 rfl wl_0 (B_eq' h_4)) (S_run 2 (f' := (0, 0, 76, [(0, vR (some 2)), (1, vI (wdiv (q.1 2 1) (2 : Int))), (2, vI (0 : Int))], [vI (wdiv (q.1 2 1) (2 : Int))], hp q)) rfl (S_ret rfl)))))) (fun h_3 => S_go (J_icmp2 rfl rfl wl_1 (B_lt' h_3)) (S_run 2 (f' := (0, 0, 25, [(0, vR (some 2)), (1, vI (wdiv (q.1 2 1) (2 : Int)))], [vI (8 : Int), vI (wdiv (q.1 2 1) (2 : Int))], hp q)) rfl (S_ite (fun h_5 => S_go (J_icmp2 rfl rfl wl_8 (B_gt h_5)) (S_run 3 (f' := (0, 0, 68, [(0, vR (some 2)), (1, vI (wdiv (q.1 2 1) (2 : Int))), (2, vI (0 : Int))], [vI (0 : Int)], hp q)) rfl (S_ite (fun h_6 => S_go (J_if2 rfl wl_0 (B_eq h_6)) (S_run 1 (f' := (0, 0, 76, [(0, vR (some 2)), (1, vI (wdiv (q.1 2 1) (2 : Int))), (2, vI (0 : Int))], [vI (-1 : Int)], hp q)) rfl (S_ret rfl))) (fun h_6 => S_go (J_if2 rfl wl_0 (B_eq' h_6)) (S_run 2 (f' := (0, 0, 76, [(0, vR (some 2)), (1, vI (wdiv (q.1 2 1) (2 : Int))), (2, vI (0 : Int))], [vI (wdiv (q.1 2 1) (2 : Int))], hp q)) rfl (S_ret rfl)))))) (fun h_5 => S_go (J_icmp2 rfl rfl wl_8 (B_gt' h_5)) (S_run 3 (f' := (0, 0, 31, [(0, vR (some 2)), (1, vI (wdiv (q.1 2 1) (2 : Int)))], [vI (wdiv (q.1 2 1) (2 : Int)), vI (0 : Int), vR (some 2)], hp q)) rfl (S_call (m' := 62) (args := [vR (some 2), vI (0 : Int), vI (wdiv (q.1 2 1) (2 : Int))]) (h := hp q) (k := fun r => (0, 0, 34, [(0, vR (some 2)), (1, vI (wdiv (q.1 2 1) (2 : Int)))], r.1.toList ++ [], r.2)) rfl (T_Te_hasLetters q (0 : Int) (wdiv (q.1 2 1) (2 : Int))) (fun r_7 => S_run 0 (f' := (0, 0, 34, [(0, vR (some 2)), (1, vI (wdiv (q.1 2 1) (2 : Int)))], [vI r_7], hp q)) rfl (S_ite (fun h_8 => S_go (J_if2 rfl rfl (B_eq h_8)) (S_run 3 (f' := (0, 0, 68, [(0, vR (some 2)), (1, vI (wdiv (q.1 2 1) (2 : Int))), (2, vI (0 : Int))], [vI (0 : Int)], hp q)) rfl (S_ite (fun h_9 => S_go (J_if2 rfl wl_0 (B_eq h_9)) (S_run 1 (f' := (0, 0, 76, [(0, vR (some 2)), (1, vI (wdiv (q.1 2 1) (2 : Int))), (2, vI (0 : Int))], [vI (-1 : Int)], hp q)) rfl (S_ret rfl))) (fun h_9 => S_go (J_if2 rfl wl_0 (B_eq' h_9)) (S_run 2 (f' := (0, 0, 76, [(0, vR (some 2)), (1, vI (wdiv (q.1 2 1) (2 : Int))), (2, vI (0 : Int))], [vI (wdiv (q.1 2 1) (2 : Int))], hp q)) rfl (S_ret rfl)))))) (fun h_8 => S_go (J_if2 rfl rfl (B_eq' h_8)) (S_run 2 (f' := (0, 0, 39, [(0, vR (some 2)), (1, vI (wdiv (q.1 2 1) (2 : Int)))], [vI (wdiv (q.1 2 1) (2 : Int)), vR (some 2)], hp q)) rfl (S_call (m' := 59) (args := [vR (some 2), vI (wdiv (q.1 2 1) (2 : Int))]) (h := hp q) (k := fun r => (0, 0, 42, [(0, vR (some 2)), (1, vI (wdiv (q.1 2 1) (2 : Int)))], r.1.toList ++ [], r.2)) rfl (T_Te_codeAt q (wdiv (q.1 2 1) (2 : Int))) (fun r_10 => S_run 1 (f' := (0, 0, 44, [(0, vR (some 2)), (1, vI (wdiv (q.1 2 1) (2 : Int)))], [vI (47 : Int), vI r_10], hp q)) rfl (S_ite (fun h_11 => S_go (J_icmp2 rfl rfl wl_47 (B_ne h_11)) (S_run 6 (f' := (0, 0, 55, [(0, vR (some 2)), (1, vI (wdiv (q.1 2 1) (2 : Int)))], [vI (q.1 2 1), vI ((wdiv (q.1 2 1) (2 : Int)) + (1 : Int)), vR (some 2)], hp q)) rfl (S_call (m' := 62) (args := [vR (some 2), vI ((wdiv (q.1 2 1) (2 : Int)) + (1 : Int)), vI (q.1 2 1)]) (h := hp q) (k := fun r => (0, 0, 58, [(0, vR (some 2)), (1, vI (wdiv (q.1 2 1) (2 : Int)))], r.1.toList ++ [], r.2)) rfl (T_Te_hasLetters q ((wdiv (q.1 2 1) (2 : Int)) + (1 : Int)) (q.1 2 1)) (fun r_13 => S_run 0 (f' := (0, 0, 58, [(0, vR (some 2)), (1, vI (wdiv (q.1 2 1) (2 : Int)))], [vI r_13], hp q)) rfl (S_ite (fun h_14 => S_go (J_if2 rfl rfl (B_eq h_14)) (S_run 3 (f' := (0, 0, 68, [(0, vR (some 2)), (1, vI (wdiv (q.1 2 1) (2 : Int))), (2, vI (0 : Int))], [vI (0 : Int)], hp q)) rfl (S_ite (fun h_15 => S_go (J_if2 rfl wl_0 (B_eq h_15)) (S_run 1 (f' := (0, 0, 76, [(0, vR (some 2)), (1, vI (wdiv (q.1 2 1) (2 : Int))), (2, vI (0 : Int))], [vI (-1 : Int)], hp q)) rfl (S_ret rfl))) (fun h_15 => S_go (J_if2 rfl wl_0 (B_eq' h_15)) (S_run 2 (f' := (0, 0, 76, [(0, vR (some 2)), (1, vI (wdiv (q.1 2 1) (2 : Int))), (2, vI (0 : Int))], [vI (wdiv (q.1 2 1) (2 : Int))], hp q)) rfl (S_ret rfl)))))) (fun h_14 => S_go (J_if2 rfl rfl (B_eq' h_14)) (S_run 4 (f' := (0, 0, 68, [(0, vR (some 2)), (1, vI (wdiv (q.1 2 1) (2 : Int))), (2, vI (1 : Int))], [vI (1 : Int)], hp q)) rfl (S_ite (fun h_16 => S_go (J_if2 rfl wl_1 (B_eq h_16)) (S_run 1 (f' := (0, 0, 76, [(0, vR (some 2)), (1, vI (wdiv (q.1 2 1) (2 : Int))), (2, vI (1 : Int))], [vI (-1 : Int)], hp q)) rfl (S_ret rfl))) (fun h_16 => S_go (J_if2 rfl wl_1 (B_eq' h_16)) (S_run 2 (f' := (0, 0, 76, [(0, vR (some 2)), (1, vI (wdiv (q.1 2 1) (2 : Int))), (2, vI (1 : Int))], [vI (wdiv (q.1 2 1) (2 : Int))], hp q)) rfl (S_ret rfl))))))))))) (fun h_11 => S_go (J_icmp2 rfl rfl wl_47 (B_ne' h_11)) (S_run 3 (f' := (0, 0, 68, [(0, vR (some 2)), (1, vI (wdiv (q.1 2 1) (2 : Int))), (2, vI (0 : Int))], [vI (0 : Int)], hp q)) rfl (S_ite (fun h_12 => S_go (J_if2 rfl wl_0 (B_eq h_12)) (S_run 1 (f' := (0, 0, 76, [(0, vR (some 2)), (1, vI (wdiv (q.1 2 1) (2 : Int))), (2, vI (0 : Int))], [vI (-1 : Int)], hp q)) rfl (S_ret rfl))) (fun h_12 => S_go (J_if2 rfl wl_0 (B_eq' h_12)) (S_run 2 (f' := (0, 0, 76, [(0, vR (some 2)), (1, vI (wdiv (q.1 2 1) (2 : Int))), (2, vI (0 : Int))], [vI (wdiv (q.1 2 1) (2 : Int))], hp q)) rfl (S_ret rfl)))))))))))))))))))))) (fun h_1 => S_go (J_icmp2 rfl rfl wl_1 (B_ne' h_1)) (S_run 3 (f' := (0, 0, 68, [(0, vR (some 2)), (1, vI (wdiv (q.1 2 1) (2 : Int))), (2, vI (0 : Int))], [vI (0 : Int)], hp q)) rfl (S_ite (fun h_2 => S_go (J_if2 rfl wl_0 (B_eq h_2)) (S_run 1 (f' := (0, 0, 76, [(0, vR (some 2)), (1, vI (wdiv (q.1 2 1) (2 : Int))), (2, vI (0 : Int))], [vI (-1 : Int)], hp q)) rfl (S_ret rfl))) (fun h_2 => S_go (J_if2 rfl wl_0 (B_eq' h_2)) (S_run 2 (f' := (0, 0, 76, [(0, vR (some 2)), (1, vI (wdiv (q.1 2 1) (2 : Int))), (2, vI (0 : Int))], [vI (wdiv (q.1 2 1) (2 : Int))], hp q)) rfl (S_ret rfl))))))))

def Po_changeEdges_L19 (v2 : Int) (K : Int → zM → Option zM) : Nat → Int → zM → Option zM
  | 0, _, _ => none
  | n + 1, v3, q =>
    if wrap v3 < wrap v2 then
      (Te_codeAt q v3).bind fun r_4 =>
        ck (wrap v3) 8 (
          (Te_codeAt (qs q 14 (wrap v3).toNat r_4) ((v2 + (1 : Int)) + v3)).bind fun r_6 =>
            ck (wrap v3) 8 (
              Po_changeEdges_L19 v2 K n (v3 + 1) (qs (qs q 14 (wrap v3).toNat r_4) 15 (wrap v3).toNat r_6)))
    else
      K v3 q
theorem T_Po_changeEdges_L19 {E : zE} (v2 : Int) {K : Int → zM → Option zM} (hK : ∀ (v3 : Int) (q : zM), SimV E 36 (0, 0, 56, [(0, vR (some 13)), (1, vR (some 2)), (2, vI v2), (3, vI v3)], [], hp q) eV (K v3 q)) : ∀ (n : Nat) (v3 : Int) (q : zM), SimV E 36 (0, 0, 19, [(0, vR (some 13)), (1, vR (some 2)), (2, vI v2), (3, vI v3)], [], hp q) eV (Po_changeEdges_L19 v2 K n v3 q) := by
  intro n
  induction n with
  | zero => intro _ _; exact S_none
  | succ n ih =>
    intro v3 q
    rw [Po_changeEdges_L19]
    exact S_run 2 (f' := (0, 0, 21, [(0, vR (some 13)), (1, vR (some 2)), (2, vI v2), (3, vI v3)], [vI v2, vI v3], hp q)) rfl (S_ite (fun h_3 => S_go (J_icmp2 rfl rfl rfl (B_ge h_3)) (S_run 5 (f' := (0, 0, 31, [(0, vR (some 13)), (1, vR (some 2)), (2, vI v2), (3, vI v3)], [vI v3, vR (some 2), vI v3, vR (some 14)], hp q)) rfl (S_call (m' := 59) (args := [vR (some 2), vI v3]) (h := hp q) (k := fun r => (0, 0, 34, [(0, vR (some 13)), (1, vR (some 2)), (2, vI v2), (3, vI v3)], r.1.toList ++ [vI v3, vR (some 14)], r.2)) rfl (T_Te_codeAt q v3) (fun r_4 => S_run 0 (f' := (0, 0, 34, [(0, vR (some 13)), (1, vR (some 2)), (2, vI v2), (3, vI v3)], [vI r_4, vI v3, vR (some 14)], hp q)) rfl (S_ck (n := 8) (fun h_5 => S_go (H_iast rfl rfl rfl h_5) (S_run 9 (f' := (0, 0, 46, [(0, vR (some 13)), (1, vR (some 2)), (2, vI v2), (3, vI v3)], [vI ((v2 + (1 : Int)) + v3), vR (some 2), vI v3, vR (some 15)], hp (qs q 14 (wrap v3).toNat r_4))) rfl (S_call (m' := 59) (args := [vR (some 2), vI ((v2 + (1 : Int)) + v3)]) (h := hp (qs q 14 (wrap v3).toNat r_4)) (k := fun r => (0, 0, 49, [(0, vR (some 13)), (1, vR (some 2)), (2, vI v2), (3, vI v3)], r.1.toList ++ [vI v3, vR (some 15)], r.2)) rfl (T_Te_codeAt (qs q 14 (wrap v3).toNat r_4) ((v2 + (1 : Int)) + v3)) (fun r_6 => S_run 0 (f' := (0, 0, 49, [(0, vR (some 13)), (1, vR (some 2)), (2, vI v2), (3, vI v3)], [vI r_6, vI v3, vR (some 15)], hp (qs q 14 (wrap v3).toNat r_4))) rfl (S_ck (n := 8) (fun h_7 => S_go (H_iast rfl rfl rfl h_7) (S_run 2 (f' := (0, 0, 19, [(0, vR (some 13)), (1, vR (some 2)), (2, vI v2), (3, vI (v3 + 1))], [], hp (qs (qs q 14 (wrap v3).toNat r_4) 15 (wrap v3).toNat r_6))) rfl (ih (v3 + 1) (qs (qs q 14 (wrap v3).toNat r_4) 15 (wrap v3).toNat r_6)))))))))))))) (fun h_3 => S_go (J_icmp2 rfl rfl rfl (B_ge' h_3)) (S_run 0 (f' := (0, 0, 56, [(0, vR (some 13)), (1, vR (some 2)), (2, vI v2), (3, vI v3)], [], hp q)) rfl (hK v3 q))))

def Po_changeEdges_b17 (q : zM) (v2 : Int) : Option zM :=
  Po_changeEdges_L19 v2 (fun v3_8 q_9 => 
    (Po_emptyAllLines q_9 ).bind fun r_10 =>
      some r_10.2) 5000 (0 : Int) q
theorem T_Po_changeEdges_b17 {E : zE} (q : zM) (v2 : Int) : SimV E 36 (0, 0, 17, [(0, vR (some 13)), (1, vR (some 2)), (2, vI v2)], [], hp q) eV (Po_changeEdges_b17 q v2) := by
  unfold Po_changeEdges_b17
  exact S_run 2 (f' := (0, 0, 19, [(0, vR (some 13)), (1, vR (some 2)), (2, vI v2), (3, vI (0 : Int))], [], hp q)) rfl (T_Po_changeEdges_L19 v2 (fun v3_8 q_9 => S_run 1 (f' := (0, 0, 57, [(0, vR (some 13)), (1, vR (some 2)), (2, vI v2), (3, vI v3_8)], [vR (some 13)], hp q_9)) rfl (S_call (m' := 35) (args := [vR (some 13)]) (h := hp q_9) (k := fun r => (0, 0, 60, [(0, vR (some 13)), (1, vR (some 2)), (2, vI v2), (3, vI v3_8)], r.1.toList ++ [], r.2)) rfl (T_Po_emptyAllLines q_9 ) (fun r_10 => S_run 1 (f' := (0, 0, 61, [(0, vR (some 13)), (1, vR (some 2)), (2, vI v2), (3, vI v3_8)], [], hp r_10.2)) rfl (S_ret rfl)))) 5000 (0 : Int) q)

def Po_changeEdges (q : zM) (v2 : Int) : Option zM :=
  if wrap v2 < (1 : Int) then
    some q
  else
    if (8 : Int) < wrap v2 then
      some q
    else
      Po_changeEdges_b17 (qs q 13 0 v2) v2
theorem T_Po_changeEdges {E : zE} (q : zM) (v2 : Int) : SimV E 36 (entF [vR (some 13), vR (some 2), vI v2] (hp q)) eV (Po_changeEdges q v2) := by
  unfold Po_changeEdges
  exact S_run 0 (f' := (0, 0, 0, [(0, vR (some 13)), (1, vR (some 2)), (2, vI v2)], [], hp q)) rfl (S_run 2 (f' := (0, 0, 2, [(0, vR (some 13)), (1, vR (some 2)), (2, vI v2)], [vI (1 : Int), vI v2], hp q)) rfl (S_ite (fun h_1 => S_go (J_icmp2 rfl rfl wl_1 (B_lt h_1)) (S_run 0 (f' := (0, 0, 11, [(0, vR (some 13)), (1, vR (some 2)), (2, vI v2)], [], hp q)) rfl (S_ret rfl))) (fun h_1 => S_go (J_icmp2 rfl rfl wl_1 (B_lt' h_1)) (S_run 2 (f' := (0, 0, 8, [(0, vR (some 13)), (1, vR (some 2)), (2, vI v2)], [vI (8 : Int), vI v2], hp q)) rfl (S_ite (fun h_2 => S_go (J_icmp2 rfl rfl wl_8 (B_le h_2)) (S_run 0 (f' := (0, 0, 11, [(0, vR (some 13)), (1, vR (some 2)), (2, vI v2)], [], hp q)) rfl (S_ret rfl))) (fun h_2 => S_go (J_icmp2 rfl rfl wl_8 (B_le' h_2)) (S_run 3 (f' := (0, 0, 17, [(0, vR (some 13)), (1, vR (some 2)), (2, vI v2)], [], hp (qs q 13 0 v2))) rfl (T_Po_changeEdges_b17 (qs q 13 0 v2) v2))))))))

def Ev_setEdges (q : zM)  : Option (Int × zM) :=
  (Te_edgeLength q ).bind fun r_1 =>
    if wrap r_1 = (-1 : Int) then
      some ((-4 : Int), q)
    else
      (Hi_record q ).bind fun r_3 =>
        (Po_changeEdges r_3 r_1).bind fun r_4 =>
          some (r_1, r_4)
theorem T_Ev_setEdges {E : zE} (q : zM)  : SimV E 96 (entF [vR (some 1)] (hp q)) eI (Ev_setEdges q ) := by
  unfold Ev_setEdges
  exact S_run 0 (f' := (0, 0, 0, [(0, vR (some 1))], [], hp q)) rfl (S_run 2 (f' := (0, 0, 4, [(0, vR (some 1))], [vR (some 2)], hp q)) rfl (S_call (m' := 64) (args := [vR (some 2)]) (h := hp q) (k := fun r => (0, 0, 7, [(0, vR (some 1))], r.1.toList ++ [], r.2)) rfl (T_Te_edgeLength q ) (fun r_1 => S_run 3 (f' := (0, 0, 10, [(0, vR (some 1)), (1, vI r_1)], [vI (-1 : Int), vI r_1], hp q)) rfl (S_ite (fun h_2 => S_go (J_icmp2 rfl rfl wl_m1 (B_ne h_2)) (S_run 1 (f' := (0, 0, 15, [(0, vR (some 1)), (1, vI r_1)], [vI (-4 : Int)], hp q)) rfl (S_ret rfl))) (fun h_2 => S_go (J_icmp2 rfl rfl wl_m1 (B_ne' h_2)) (S_run 4 (f' := (0, 0, 24, [(0, vR (some 1)), (1, vI r_1)], [vR (some 5), vR (some 18)], hp q)) rfl (S_call (m' := 3) (args := [vR (some 18), vR (some 5)]) (h := hp q) (k := fun r => (0, 0, 27, [(0, vR (some 1)), (1, vI r_1)], r.1.toList ++ [], r.2)) rfl (T_Hi_record q ) (fun r_3 => S_run 6 (f' := (0, 0, 39, [(0, vR (some 1)), (1, vI r_1)], [vI r_1, vR (some 2), vR (some 13)], hp r_3)) rfl (S_call (m' := 36) (args := [vR (some 13), vR (some 2), vI r_1]) (h := hp r_3) (k := fun r => (0, 0, 42, [(0, vR (some 1)), (1, vI r_1)], r.1.toList ++ [], r.2)) rfl (T_Po_changeEdges r_3 r_1) (fun r_4 => S_run 1 (f' := (0, 0, 43, [(0, vR (some 1)), (1, vI r_1)], [vI r_1], hp r_4)) rfl (S_ret rfl)))))))))))

def Po_firstLetterOf (q : zM) (v1 : Int) : Option Int :=
  (Po_has q v1).bind fun r_1 =>
    if wrap r_1 = (0 : Int) then
      some (-1 : Int)
    else
      ck (wrap v1) 8 (
        some (q.1 14 (wrap v1).toNat))
theorem T_Po_firstLetterOf {E : zE} (q : zM) (v1 : Int) : SimV E 25 (entF [vR (some 13), vI v1] (hp q)) (eP q) (Po_firstLetterOf q v1) := by
  unfold Po_firstLetterOf
  exact S_run 0 (f' := (0, 0, 0, [(0, vR (some 13)), (1, vI v1)], [], hp q)) rfl (S_run 2 (f' := (0, 0, 2, [(0, vR (some 13)), (1, vI v1)], [vI v1, vR (some 13)], hp q)) rfl (S_call (m' := 24) (args := [vR (some 13), vI v1]) (h := hp q) (k := fun r => (0, 0, 5, [(0, vR (some 13)), (1, vI v1)], r.1.toList ++ [], r.2)) rfl (T_Po_has q v1) (fun r_1 => S_run 0 (f' := (0, 0, 5, [(0, vR (some 13)), (1, vI v1)], [vI r_1], hp q)) rfl (S_ite (fun h_2 => S_go (J_if2 rfl rfl (B_eq h_2)) (S_run 1 (f' := (0, 0, 18, [(0, vR (some 13)), (1, vI v1)], [vI (-1 : Int)], hp q)) rfl (S_ret rfl))) (fun h_2 => S_go (J_if2 rfl rfl (B_eq' h_2)) (S_run 3 (f' := (0, 0, 13, [(0, vR (some 13)), (1, vI v1)], [vI v1, vR (some 14)], hp q)) rfl (S_ck (n := 8) (fun h_3 => S_go (H_iald rfl rfl rfl h_3) (S_run 1 (f' := (0, 0, 18, [(0, vR (some 13)), (1, vI v1)], [vI (q.1 14 (wrap v1).toNat)], hp q)) rfl (S_ret rfl))))))))))

def Po_lastLetterOf (q : zM) (v1 : Int) : Option Int :=
  (Po_has q v1).bind fun r_1 =>
    if wrap r_1 = (0 : Int) then
      some (-1 : Int)
    else
      ck (wrap v1) 8 (
        some (q.1 15 (wrap v1).toNat))
theorem T_Po_lastLetterOf {E : zE} (q : zM) (v1 : Int) : SimV E 26 (entF [vR (some 13), vI v1] (hp q)) (eP q) (Po_lastLetterOf q v1) := by
  unfold Po_lastLetterOf
  exact S_run 0 (f' := (0, 0, 0, [(0, vR (some 13)), (1, vI v1)], [], hp q)) rfl (S_run 2 (f' := (0, 0, 2, [(0, vR (some 13)), (1, vI v1)], [vI v1, vR (some 13)], hp q)) rfl (S_call (m' := 24) (args := [vR (some 13), vI v1]) (h := hp q) (k := fun r => (0, 0, 5, [(0, vR (some 13)), (1, vI v1)], r.1.toList ++ [], r.2)) rfl (T_Po_has q v1) (fun r_1 => S_run 0 (f' := (0, 0, 5, [(0, vR (some 13)), (1, vI v1)], [vI r_1], hp q)) rfl (S_ite (fun h_2 => S_go (J_if2 rfl rfl (B_eq h_2)) (S_run 1 (f' := (0, 0, 18, [(0, vR (some 13)), (1, vI v1)], [vI (-1 : Int)], hp q)) rfl (S_ret rfl))) (fun h_2 => S_go (J_if2 rfl rfl (B_eq' h_2)) (S_run 3 (f' := (0, 0, 13, [(0, vR (some 13)), (1, vI v1)], [vI v1, vR (some 15)], hp q)) rfl (S_ck (n := 8) (fun h_3 => S_go (H_iald rfl rfl rfl h_3) (S_run 1 (f' := (0, 0, 18, [(0, vR (some 13)), (1, vI v1)], [vI (q.1 15 (wrap v1).toNat)], hp q)) rfl (S_ret rfl))))))))))

def Ls_prepare_114_5_L38 (v2 : Int) (v3 : Int) (v4 : Int) (K : Int → zM → Option zM) : Nat → Int → zM → Option zM
  | 0, _, _ => none
  | n + 1, v5, q =>
    (Ws_size q ).bind fun r_3 =>
      if wrap v5 < wrap r_3 then
        (Po_linesUsingBesides q v2 v5).bind fun r_5 =>
          (Ws_limitOf q v5).bind fun r_6 =>
            if wrap r_5 < wrap r_6 then
              ck (wrap v5) 40 (
                Ls_prepare_114_5_L38 v2 v3 v4 K n (v5 + 1) (qs q 115 (wrap v5).toNat ((1 : Int) % 2)))
            else
              ck (wrap v5) 40 (
                Ls_prepare_114_5_L38 v2 v3 v4 K n (v5 + 1) (qs q 115 (wrap v5).toNat ((0 : Int) % 2)))
      else
        K v5 q
theorem T_Ls_prepare_114_5_L38 {E : zE} (v2 : Int) (v3 : Int) (v4 : Int) {K : Int → zM → Option zM} (hK : ∀ (v5 : Int) (q : zM), SimV E 11 (0, 0, 94, [(0, vR (some 114)), (1, vR (some 5)), (2, vI v2), (3, vI v3), (4, vI v4), (5, vI v5)], [], hp q) eV (K v5 q)) : ∀ (n : Nat) (v5 : Int) (q : zM), SimV E 11 (0, 0, 38, [(0, vR (some 114)), (1, vR (some 5)), (2, vI v2), (3, vI v3), (4, vI v4), (5, vI v5)], [], hp q) eV (Ls_prepare_114_5_L38 v2 v3 v4 K n v5 q) := by
  intro n
  induction n with
  | zero => intro _ _; exact S_none
  | succ n ih =>
    intro v5 q
    rw [Ls_prepare_114_5_L38]
    exact S_run 3 (f' := (0, 0, 44, [(0, vR (some 114)), (1, vR (some 5)), (2, vI v2), (3, vI v3), (4, vI v4), (5, vI v5)], [vR (some 6), vI v5], hp q)) rfl (S_call (m' := 74) (args := [vR (some 6)]) (h := hp q) (k := fun r => (0, 0, 47, [(0, vR (some 114)), (1, vR (some 5)), (2, vI v2), (3, vI v3), (4, vI v4), (5, vI v5)], r.1.toList ++ [vI v5], r.2)) rfl (T_Ws_size q ) (fun r_3 => S_run 0 (f' := (0, 0, 47, [(0, vR (some 114)), (1, vR (some 5)), (2, vI v2), (3, vI v3), (4, vI v4), (5, vI v5)], [vI r_3, vI v5], hp q)) rfl (S_ite (fun h_4 => S_go (J_icmp2 rfl rfl rfl (B_ge h_4)) (S_run 4 (f' := (0, 0, 57, [(0, vR (some 114)), (1, vR (some 5)), (2, vI v2), (3, vI v3), (4, vI v4), (5, vI v5)], [vI v5, vI v2, vR (some 13)], hp q)) rfl (S_call (m' := 31) (args := [vR (some 13), vI v2, vI v5]) (h := hp q) (k := fun r => (0, 0, 60, [(0, vR (some 114)), (1, vR (some 5)), (2, vI v2), (3, vI v3), (4, vI v4), (5, vI v5)], r.1.toList ++ [], r.2)) rfl (T_Po_linesUsingBesides q v2 v5) (fun r_5 => S_run 8 (f' := (0, 0, 76, [(0, vR (some 114)), (1, vR (some 5)), (2, vI v2), (3, vI v3), (4, vI v4), (5, vI v5), (6, vI r_5)], [vI v5, vR (some 6), vI r_5, vI v5, vR (some 115)], hp q)) rfl (S_call (m' := 80) (args := [vR (some 6), vI v5]) (h := hp q) (k := fun r => (0, 0, 79, [(0, vR (some 114)), (1, vR (some 5)), (2, vI v2), (3, vI v3), (4, vI v4), (5, vI v5), (6, vI r_5)], r.1.toList ++ [vI r_5, vI v5, vR (some 115)], r.2)) rfl (T_Ws_limitOf q v5) (fun r_6 => S_run 0 (f' := (0, 0, 79, [(0, vR (some 114)), (1, vR (some 5)), (2, vI v2), (3, vI v3), (4, vI v4), (5, vI v5), (6, vI r_5)], [vI r_6, vI r_5, vI v5, vR (some 115)], hp q)) rfl (S_ite (fun h_7 => S_go (J_icmp2 rfl rfl rfl (B_ge h_7)) (S_run 2 (f' := (0, 0, 87, [(0, vR (some 114)), (1, vR (some 5)), (2, vI v2), (3, vI v3), (4, vI v4), (5, vI v5), (6, vI r_5)], [vI (1 : Int), vI v5, vR (some 115)], hp q)) rfl (S_ck (n := 40) (fun h_9 => S_go (H_bast rfl rfl rfl h_9) (S_run 2 (f' := (0, 0, 38, [(0, vR (some 114)), (1, vR (some 5)), (2, vI v2), (3, vI v3), (4, vI v4), (5, vI (v5 + 1))], [], hp (qs q 115 (wrap v5).toNat ((1 : Int) % 2)))) rfl (ih (v5 + 1) (qs q 115 (wrap v5).toNat ((1 : Int) % 2)))))))) (fun h_7 => S_go (J_icmp2 rfl rfl rfl (B_ge' h_7)) (S_run 1 (f' := (0, 0, 87, [(0, vR (some 114)), (1, vR (some 5)), (2, vI v2), (3, vI v3), (4, vI v4), (5, vI v5), (6, vI r_5)], [vI (0 : Int), vI v5, vR (some 115)], hp q)) rfl (S_ck (n := 40) (fun h_8 => S_go (H_bast rfl rfl rfl h_8) (S_run 2 (f' := (0, 0, 38, [(0, vR (some 114)), (1, vR (some 5)), (2, vI v2), (3, vI v3), (4, vI v4), (5, vI (v5 + 1))], [], hp (qs q 115 (wrap v5).toNat ((0 : Int) % 2)))) rfl (ih (v5 + 1) (qs q 115 (wrap v5).toNat ((0 : Int) % 2))))))))))))))) (fun h_4 => S_go (J_icmp2 rfl rfl rfl (B_ge' h_4)) (S_run 0 (f' := (0, 0, 94, [(0, vR (some 114)), (1, vR (some 5)), (2, vI v2), (3, vI v3), (4, vI v4), (5, vI v5)], [], hp q)) rfl (hK v5 q))))))

def Ls_prepare_114_5_b35 (q : zM) (v2 : Int) (v3 : Int) (v4 : Int) : Option zM :=
  Ls_prepare_114_5_L38 v2 v3 v4 (fun v5_10 q_11 => 
    some q_11) 5000 (0 : Int) q
theorem T_Ls_prepare_114_5_b35 {E : zE} (q : zM) (v2 : Int) (v3 : Int) (v4 : Int) : SimV E 11 (0, 0, 35, [(0, vR (some 114)), (1, vR (some 5)), (2, vI v2), (3, vI v3), (4, vI v4)], [], hp q) eV (Ls_prepare_114_5_b35 q v2 v3 v4) := by
  unfold Ls_prepare_114_5_b35
  exact S_run 2 (f' := (0, 0, 38, [(0, vR (some 114)), (1, vR (some 5)), (2, vI v2), (3, vI v3), (4, vI v4), (5, vI (0 : Int))], [], hp q)) rfl (T_Ls_prepare_114_5_L38 v2 v3 v4 (fun v5_10 q_11 => S_run 0 (f' := (0, 0, 94, [(0, vR (some 114)), (1, vR (some 5)), (2, vI v2), (3, vI v3), (4, vI v4), (5, vI v5_10)], [], hp q_11)) rfl (S_ret rfl)) 5000 (0 : Int) q)

def Ls_prepare_114_5_b29 (q : zM) (v2 : Int) (v3 : Int) (v4 : Int) : Option zM :=
  if wrap v4 = 0 ∨ wrap v4 = 1 then
    Ls_prepare_114_5_b35 (qs q 114 9 v4) v2 v3 v4
  else none
theorem T_Ls_prepare_114_5_b29 {E : zE} (q : zM) (v2 : Int) (v3 : Int) (v4 : Int) : SimV E 11 (0, 0, 29, [(0, vR (some 114)), (1, vR (some 5)), (2, vI v2), (3, vI v3), (4, vI v4)], [], hp q) eV (Ls_prepare_114_5_b29 q v2 v3 v4) := by
  unfold Ls_prepare_114_5_b29
  exact S_run 2 (f' := (0, 0, 32, [(0, vR (some 114)), (1, vR (some 5)), (2, vI v2), (3, vI v3), (4, vI v4)], [vI v4, vR (some 114)], hp q)) rfl (S_ite (fun h_12 => S_go (H_putz rfl rfl rfl rfl h_12) (S_run 0 (f' := (0, 0, 35, [(0, vR (some 114)), (1, vR (some 5)), (2, vI v2), (3, vI v3), (4, vI v4)], [], hp (qs q 114 9 v4))) rfl (T_Ls_prepare_114_5_b35 (qs q 114 9 v4) v2 v3 v4))) (fun _ => S_none))

def Ls_prepare_114_5_b24 (q : zM) (v2 : Int) (v3 : Int) (v4 : Int) : Option zM :=
  if wrap v3 = 0 ∨ wrap v3 = 1 then
    Ls_prepare_114_5_b29 (qs q 114 8 v3) v2 v3 v4
  else none
theorem T_Ls_prepare_114_5_b24 {E : zE} (q : zM) (v2 : Int) (v3 : Int) (v4 : Int) : SimV E 11 (0, 0, 24, [(0, vR (some 114)), (1, vR (some 5)), (2, vI v2), (3, vI v3), (4, vI v4)], [], hp q) eV (Ls_prepare_114_5_b24 q v2 v3 v4) := by
  unfold Ls_prepare_114_5_b24
  exact S_run 2 (f' := (0, 0, 26, [(0, vR (some 114)), (1, vR (some 5)), (2, vI v2), (3, vI v3), (4, vI v4)], [vI v3, vR (some 114)], hp q)) rfl (S_ite (fun h_13 => S_go (H_putz rfl rfl rfl rfl h_13) (S_run 0 (f' := (0, 0, 29, [(0, vR (some 114)), (1, vR (some 5)), (2, vI v2), (3, vI v3), (4, vI v4)], [], hp (qs q 114 8 v3))) rfl (T_Ls_prepare_114_5_b29 (qs q 114 8 v3) v2 v3 v4))) (fun _ => S_none))

def Ls_prepare_114_5_b12 (q : zM) (v2 : Int) (v3 : Int) (v4 : Int) : Option zM :=
  (Po_lastLetterOf q v2).bind fun r_2 =>
    Ls_prepare_114_5_b24 (qs q 114 7 r_2) v2 v3 v4
theorem T_Ls_prepare_114_5_b12 {E : zE} (q : zM) (v2 : Int) (v3 : Int) (v4 : Int) : SimV E 11 (0, 0, 12, [(0, vR (some 114)), (1, vR (some 5)), (2, vI v2), (3, vI v3), (4, vI v4)], [], hp q) eV (Ls_prepare_114_5_b12 q v2 v3 v4) := by
  unfold Ls_prepare_114_5_b12
  exact S_run 4 (f' := (0, 0, 18, [(0, vR (some 114)), (1, vR (some 5)), (2, vI v2), (3, vI v3), (4, vI v4)], [vI v2, vR (some 13), vR (some 114)], hp q)) rfl (S_call (m' := 26) (args := [vR (some 13), vI v2]) (h := hp q) (k := fun r => (0, 0, 21, [(0, vR (some 114)), (1, vR (some 5)), (2, vI v2), (3, vI v3), (4, vI v4)], r.1.toList ++ [vR (some 114)], r.2)) rfl (T_Po_lastLetterOf q v2) (fun r_2 => S_run 1 (f' := (0, 0, 24, [(0, vR (some 114)), (1, vR (some 5)), (2, vI v2), (3, vI v3), (4, vI v4)], [], hp (qs q 114 7 r_2))) rfl (T_Ls_prepare_114_5_b24 (qs q 114 7 r_2) v2 v3 v4)))

def Ls_prepare_114_5 (q : zM) (v2 : Int) (v3 : Int) (v4 : Int) : Option zM :=
  (Po_firstLetterOf q v2).bind fun r_1 =>
    Ls_prepare_114_5_b12 (qs q 114 6 r_1) v2 v3 v4
theorem T_Ls_prepare_114_5 {E : zE} (q : zM) (v2 : Int) (v3 : Int) (v4 : Int) : SimV E 11 (entF [vR (some 114), vR (some 5), vI v2, vI v3, vI v4] (hp q)) eV (Ls_prepare_114_5 q v2 v3 v4) := by
  unfold Ls_prepare_114_5
  exact S_run 0 (f' := (0, 0, 0, [(0, vR (some 114)), (1, vR (some 5)), (2, vI v2), (3, vI v3), (4, vI v4)], [], hp q)) rfl (S_run 4 (f' := (0, 0, 6, [(0, vR (some 114)), (1, vR (some 5)), (2, vI v2), (3, vI v3), (4, vI v4)], [vI v2, vR (some 13), vR (some 114)], hp q)) rfl (S_call (m' := 25) (args := [vR (some 13), vI v2]) (h := hp q) (k := fun r => (0, 0, 9, [(0, vR (some 114)), (1, vR (some 5)), (2, vI v2), (3, vI v3), (4, vI v4)], r.1.toList ++ [vR (some 114)], r.2)) rfl (T_Po_firstLetterOf q v2) (fun r_1 => S_run 1 (f' := (0, 0, 12, [(0, vR (some 114)), (1, vR (some 5)), (2, vI v2), (3, vI v3), (4, vI v4)], [], hp (qs q 114 6 r_1))) rfl (T_Ls_prepare_114_5_b12 (qs q 114 6 r_1) v2 v3 v4))))

def Ws_syllablesOf (q : zM) (v1 : Int) : Option Int :=
  (Ws_has q v1).bind fun r_1 =>
    if wrap r_1 = (0 : Int) then
      some (0 : Int)
    else
      ck (wrap v1) 40 (
        some (q.1 9 (wrap v1).toNat))
theorem T_Ws_syllablesOf {E : zE} (q : zM) (v1 : Int) : SimV E 78 (entF [vR (some 6), vI v1] (hp q)) (eP q) (Ws_syllablesOf q v1) := by
  unfold Ws_syllablesOf
  exact S_run 0 (f' := (0, 0, 0, [(0, vR (some 6)), (1, vI v1)], [], hp q)) rfl (S_run 2 (f' := (0, 0, 2, [(0, vR (some 6)), (1, vI v1)], [vI v1, vR (some 6)], hp q)) rfl (S_call (m' := 76) (args := [vR (some 6), vI v1]) (h := hp q) (k := fun r => (0, 0, 5, [(0, vR (some 6)), (1, vI v1)], r.1.toList ++ [], r.2)) rfl (T_Ws_has q v1) (fun r_1 => S_run 0 (f' := (0, 0, 5, [(0, vR (some 6)), (1, vI v1)], [vI r_1], hp q)) rfl (S_ite (fun h_2 => S_go (J_if2 rfl rfl (B_eq h_2)) (S_run 1 (f' := (0, 0, 18, [(0, vR (some 6)), (1, vI v1)], [vI (0 : Int)], hp q)) rfl (S_ret rfl))) (fun h_2 => S_go (J_if2 rfl rfl (B_eq' h_2)) (S_run 3 (f' := (0, 0, 13, [(0, vR (some 6)), (1, vI v1)], [vI v1, vR (some 9)], hp q)) rfl (S_ck (n := 40) (fun h_3 => S_go (H_iald rfl rfl rfl h_3) (S_run 1 (f' := (0, 0, 18, [(0, vR (some 6)), (1, vI v1)], [vI (q.1 9 (wrap v1).toNat)], hp q)) rfl (S_ret rfl))))))))))

def Me_strongFrom (q : zM) (v1 : Int) (v2 : Int) : Option Int :=
  some (wand (wushr (q.1 12 1) v1) ((wshl (1 : Int) v2) - (1 : Int)))
theorem T_Me_strongFrom {E : zE} (q : zM) (v1 : Int) (v2 : Int) : SimV E 20 (entF [vR (some 12), vI v1, vI v2] (hp q)) (eP q) (Me_strongFrom q v1 v2) := by
  unfold Me_strongFrom
  exact S_run 0 (f' := (0, 0, 0, [(0, vR (some 12)), (1, vI v1), (2, vI v2)], [], hp q)) rfl (S_run 10 (f' := (0, 0, 12, [(0, vR (some 12)), (1, vI v1), (2, vI v2)], [vI (wand (wushr (q.1 12 1) v1) ((wshl (1 : Int) v2) - (1 : Int)))], hp q)) rfl (S_ret rfl))

def Ws_strongOf (q : zM) (v1 : Int) : Option Int :=
  (Ws_has q v1).bind fun r_1 =>
    if wrap r_1 = (0 : Int) then
      some (0 : Int)
    else
      ck (wrap v1) 40 (
        some (q.1 10 (wrap v1).toNat))
theorem T_Ws_strongOf {E : zE} (q : zM) (v1 : Int) : SimV E 79 (entF [vR (some 6), vI v1] (hp q)) (eP q) (Ws_strongOf q v1) := by
  unfold Ws_strongOf
  exact S_run 0 (f' := (0, 0, 0, [(0, vR (some 6)), (1, vI v1)], [], hp q)) rfl (S_run 2 (f' := (0, 0, 2, [(0, vR (some 6)), (1, vI v1)], [vI v1, vR (some 6)], hp q)) rfl (S_call (m' := 76) (args := [vR (some 6), vI v1]) (h := hp q) (k := fun r => (0, 0, 5, [(0, vR (some 6)), (1, vI v1)], r.1.toList ++ [], r.2)) rfl (T_Ws_has q v1) (fun r_1 => S_run 0 (f' := (0, 0, 5, [(0, vR (some 6)), (1, vI v1)], [vI r_1], hp q)) rfl (S_ite (fun h_2 => S_go (J_if2 rfl rfl (B_eq h_2)) (S_run 1 (f' := (0, 0, 18, [(0, vR (some 6)), (1, vI v1)], [vI (0 : Int)], hp q)) rfl (S_ret rfl))) (fun h_2 => S_go (J_if2 rfl rfl (B_eq' h_2)) (S_run 3 (f' := (0, 0, 13, [(0, vR (some 6)), (1, vI v1)], [vI v1, vR (some 10)], hp q)) rfl (S_ck (n := 40) (fun h_3 => S_go (H_iald rfl rfl rfl h_3) (S_run 1 (f' := (0, 0, 18, [(0, vR (some 6)), (1, vI v1)], [vI (q.1 10 (wrap v1).toNat)], hp q)) rfl (S_ret rfl))))))))))

def Me_fits (q : zM) (v2 : Int) (v3 : Int) : Option Int :=
  (Ws_syllablesOf q v2).bind fun r_1 =>
    if wrap (q.1 12 0) < wrap (v3 + r_1) then
      some (0 : Int)
    else
      if wrap r_1 = (1 : Int) then
        some (1 : Int)
      else
        (Me_strongFrom q v3 r_1).bind fun r_4 =>
          (Ws_strongOf q v2).bind fun r_5 =>
            if wrap r_4 = wrap r_5 then
              some (1 : Int)
            else
              some (0 : Int)
theorem T_Me_fits {E : zE} (q : zM) (v2 : Int) (v3 : Int) : SimV E 18 (entF [vR (some 12), vR (some 6), vI v2, vI v3] (hp q)) (eP q) (Me_fits q v2 v3) := by
  unfold Me_fits
  exact S_run 0 (f' := (0, 0, 0, [(0, vR (some 12)), (1, vR (some 6)), (2, vI v2), (3, vI v3)], [], hp q)) rfl (S_run 2 (f' := (0, 0, 2, [(0, vR (some 12)), (1, vR (some 6)), (2, vI v2), (3, vI v3)], [vI v2, vR (some 6)], hp q)) rfl (S_call (m' := 78) (args := [vR (some 6), vI v2]) (h := hp q) (k := fun r => (0, 0, 5, [(0, vR (some 12)), (1, vR (some 6)), (2, vI v2), (3, vI v3)], r.1.toList ++ [], r.2)) rfl (T_Ws_syllablesOf q v2) (fun r_1 => S_run 6 (f' := (0, 0, 15, [(0, vR (some 12)), (1, vR (some 6)), (2, vI v2), (3, vI v3), (4, vI r_1)], [vI (q.1 12 0), vI (v3 + r_1)], hp q)) rfl (S_ite (fun h_2 => S_go (J_icmp2 rfl rfl rfl (B_le h_2)) (S_run 1 (f' := (0, 0, 19, [(0, vR (some 12)), (1, vR (some 6)), (2, vI v2), (3, vI v3), (4, vI r_1)], [vI (0 : Int)], hp q)) rfl (S_ret rfl))) (fun h_2 => S_go (J_icmp2 rfl rfl rfl (B_le' h_2)) (S_run 2 (f' := (0, 0, 23, [(0, vR (some 12)), (1, vR (some 6)), (2, vI v2), (3, vI v3), (4, vI r_1)], [vI (1 : Int), vI r_1], hp q)) rfl (S_ite (fun h_3 => S_go (J_icmp2 rfl rfl wl_1 (B_eq h_3)) (S_run 2 (f' := (0, 0, 46, [(0, vR (some 12)), (1, vR (some 6)), (2, vI v2), (3, vI v3), (4, vI r_1)], [vI (1 : Int)], hp q)) rfl (S_ret rfl))) (fun h_3 => S_go (J_icmp2 rfl rfl wl_1 (B_eq' h_3)) (S_run 3 (f' := (0, 0, 30, [(0, vR (some 12)), (1, vR (some 6)), (2, vI v2), (3, vI v3), (4, vI r_1)], [vI r_1, vI v3, vR (some 12)], hp q)) rfl (S_call (m' := 20) (args := [vR (some 12), vI v3, vI r_1]) (h := hp q) (k := fun r => (0, 0, 33, [(0, vR (some 12)), (1, vR (some 6)), (2, vI v2), (3, vI v3), (4, vI r_1)], r.1.toList ++ [], r.2)) rfl (T_Me_strongFrom q v3 r_1) (fun r_4 => S_run 2 (f' := (0, 0, 35, [(0, vR (some 12)), (1, vR (some 6)), (2, vI v2), (3, vI v3), (4, vI r_1)], [vI v2, vR (some 6), vI r_4], hp q)) rfl (S_call (m' := 79) (args := [vR (some 6), vI v2]) (h := hp q) (k := fun r => (0, 0, 38, [(0, vR (some 12)), (1, vR (some 6)), (2, vI v2), (3, vI v3), (4, vI r_1)], r.1.toList ++ [vI r_4], r.2)) rfl (T_Ws_strongOf q v2) (fun r_5 => S_run 0 (f' := (0, 0, 38, [(0, vR (some 12)), (1, vR (some 6)), (2, vI v2), (3, vI v3), (4, vI r_1)], [vI r_5, vI r_4], hp q)) rfl (S_ite (fun h_6 => S_go (J_icmp2 rfl rfl rfl (B_ne h_6)) (S_run 2 (f' := (0, 0, 46, [(0, vR (some 12)), (1, vR (some 6)), (2, vI v2), (3, vI v3), (4, vI r_1)], [vI (1 : Int)], hp q)) rfl (S_ret rfl))) (fun h_6 => S_go (J_icmp2 rfl rfl rfl (B_ne' h_6)) (S_run 1 (f' := (0, 0, 46, [(0, vR (some 12)), (1, vR (some 6)), (2, vI v2), (3, vI v3), (4, vI r_1)], [vI (0 : Int)], hp q)) rfl (S_ret rfl)))))))))))))))))

def Ws_letterCountOf (q : zM) (v1 : Int) : Option Int :=
  (Ws_has q v1).bind fun r_1 =>
    if wrap r_1 = (0 : Int) then
      some (0 : Int)
    else
      ck (wrap v1) 40 (
        some (q.1 8 (wrap v1).toNat))
theorem T_Ws_letterCountOf {E : zE} (q : zM) (v1 : Int) : SimV E 77 (entF [vR (some 6), vI v1] (hp q)) (eP q) (Ws_letterCountOf q v1) := by
  unfold Ws_letterCountOf
  exact S_run 0 (f' := (0, 0, 0, [(0, vR (some 6)), (1, vI v1)], [], hp q)) rfl (S_run 2 (f' := (0, 0, 2, [(0, vR (some 6)), (1, vI v1)], [vI v1, vR (some 6)], hp q)) rfl (S_call (m' := 76) (args := [vR (some 6), vI v1]) (h := hp q) (k := fun r => (0, 0, 5, [(0, vR (some 6)), (1, vI v1)], r.1.toList ++ [], r.2)) rfl (T_Ws_has q v1) (fun r_1 => S_run 0 (f' := (0, 0, 5, [(0, vR (some 6)), (1, vI v1)], [vI r_1], hp q)) rfl (S_ite (fun h_2 => S_go (J_if2 rfl rfl (B_eq h_2)) (S_run 1 (f' := (0, 0, 18, [(0, vR (some 6)), (1, vI v1)], [vI (0 : Int)], hp q)) rfl (S_ret rfl))) (fun h_2 => S_go (J_if2 rfl rfl (B_eq' h_2)) (S_run 3 (f' := (0, 0, 13, [(0, vR (some 6)), (1, vI v1)], [vI v1, vR (some 8)], hp q)) rfl (S_ck (n := 40) (fun h_3 => S_go (H_iald rfl rfl rfl h_3) (S_run 1 (f' := (0, 0, 18, [(0, vR (some 6)), (1, vI v1)], [vI (q.1 8 (wrap v1).toNat)], hp q)) rfl (S_ret rfl))))))))))

def Ws_letterOf (q : zM) (v1 : Int) (v2 : Int) : Option Int :=
  (Ws_has q v1).bind fun r_1 =>
    if wrap r_1 = (0 : Int) then
      some (-1 : Int)
    else
      if wrap v2 < (0 : Int) then
        some (-1 : Int)
      else
        ck (wrap v1) 40 (
          if wrap v2 < wrap (q.1 8 (wrap v1).toNat) then
            ck (wrap v1) 40 (
              some (wand (wl2i (wlushr (q.2 7 (wrap v1).toNat) ((8 : Int) * v2))) (255 : Int)))
          else
            some (-1 : Int))
theorem T_Ws_letterOf {E : zE} (q : zM) (v1 : Int) (v2 : Int) : SimV E 81 (entF [vR (some 6), vI v1, vI v2] (hp q)) (eP q) (Ws_letterOf q v1 v2) := by
  unfold Ws_letterOf
  exact S_run 0 (f' := (0, 0, 0, [(0, vR (some 6)), (1, vI v1), (2, vI v2)], [], hp q)) rfl (S_run 2 (f' := (0, 0, 2, [(0, vR (some 6)), (1, vI v1), (2, vI v2)], [vI v1, vR (some 6)], hp q)) rfl (S_call (m' := 76) (args := [vR (some 6), vI v1]) (h := hp q) (k := fun r => (0, 0, 5, [(0, vR (some 6)), (1, vI v1), (2, vI v2)], r.1.toList ++ [], r.2)) rfl (T_Ws_has q v1) (fun r_1 => S_run 0 (f' := (0, 0, 5, [(0, vR (some 6)), (1, vI v1), (2, vI v2)], [vI r_1], hp q)) rfl (S_ite (fun h_2 => S_go (J_if2 rfl rfl (B_eq h_2)) (S_run 1 (f' := (0, 0, 23, [(0, vR (some 6)), (1, vI v1), (2, vI v2)], [vI (-1 : Int)], hp q)) rfl (S_ret rfl))) (fun h_2 => S_go (J_if2 rfl rfl (B_eq' h_2)) (S_run 1 (f' := (0, 0, 9, [(0, vR (some 6)), (1, vI v1), (2, vI v2)], [vI v2], hp q)) rfl (S_ite (fun h_3 => S_go (J_if2 rfl rfl (B_lt h_3)) (S_run 1 (f' := (0, 0, 23, [(0, vR (some 6)), (1, vI v1), (2, vI v2)], [vI (-1 : Int)], hp q)) rfl (S_ret rfl))) (fun h_3 => S_go (J_if2 rfl rfl (B_lt' h_3)) (S_run 4 (f' := (0, 0, 18, [(0, vR (some 6)), (1, vI v1), (2, vI v2)], [vI v1, vR (some 8), vI v2], hp q)) rfl (S_ck (n := 40) (fun h_4 => S_go (H_iald rfl rfl rfl h_4) (S_run 0 (f' := (0, 0, 19, [(0, vR (some 6)), (1, vI v1), (2, vI v2)], [vI (q.1 8 (wrap v1).toNat), vI v2], hp q)) rfl (S_ite (fun h_5 => S_go (J_icmp2 rfl rfl rfl (B_lt h_5)) (S_run 5 (f' := (0, 0, 33, [(0, vR (some 6)), (1, vI v1), (2, vI v2), (3, vI (255 : Int))], [vI v1, vR (some 7)], hp q)) rfl (S_ck (n := 40) (fun h_6 => S_go (H_lald rfl rfl rfl h_6) (S_run 7 (f' := (0, 0, 42, [(0, vR (some 6)), (1, vI v1), (2, vI v2), (3, vI (255 : Int))], [vI (wand (wl2i (wlushr (q.2 7 (wrap v1).toNat) ((8 : Int) * v2))) (255 : Int))], hp q)) rfl (S_ret rfl)))))) (fun h_5 => S_go (J_icmp2 rfl rfl rfl (B_lt' h_5)) (S_run 1 (f' := (0, 0, 23, [(0, vR (some 6)), (1, vI v1), (2, vI v2)], [vI (-1 : Int)], hp q)) rfl (S_ret rfl))))))))))))))))

def Ws_lastLetterOf (q : zM) (v1 : Int) : Option Int :=
  (Ws_letterCountOf q v1).bind fun r_1 =>
    (Ws_letterOf q v1 (r_1 - (1 : Int))).bind fun r_2 =>
      some r_2
theorem T_Ws_lastLetterOf {E : zE} (q : zM) (v1 : Int) : SimV E 83 (entF [vR (some 6), vI v1] (hp q)) (eP q) (Ws_lastLetterOf q v1) := by
  unfold Ws_lastLetterOf
  exact S_run 0 (f' := (0, 0, 0, [(0, vR (some 6)), (1, vI v1)], [], hp q)) rfl (S_run 4 (f' := (0, 0, 4, [(0, vR (some 6)), (1, vI v1)], [vI v1, vR (some 6), vI v1, vR (some 6)], hp q)) rfl (S_call (m' := 77) (args := [vR (some 6), vI v1]) (h := hp q) (k := fun r => (0, 0, 7, [(0, vR (some 6)), (1, vI v1)], r.1.toList ++ [vI v1, vR (some 6)], r.2)) rfl (T_Ws_letterCountOf q v1) (fun r_1 => S_run 2 (f' := (0, 0, 9, [(0, vR (some 6)), (1, vI v1)], [vI (r_1 - (1 : Int)), vI v1, vR (some 6)], hp q)) rfl (S_call (m' := 81) (args := [vR (some 6), vI v1, vI (r_1 - (1 : Int))]) (h := hp q) (k := fun r => (0, 0, 12, [(0, vR (some 6)), (1, vI v1)], r.1.toList ++ [], r.2)) rfl (T_Ws_letterOf q v1 (r_1 - (1 : Int))) (fun r_2 => S_run 0 (f' := (0, 0, 12, [(0, vR (some 6)), (1, vI v1)], [vI r_2], hp q)) rfl (S_ret rfl))))))

def Ws_firstLetterOf (q : zM) (v1 : Int) : Option Int :=
  (Ws_letterOf q v1 (0 : Int)).bind fun r_1 =>
    some r_1
theorem T_Ws_firstLetterOf {E : zE} (q : zM) (v1 : Int) : SimV E 82 (entF [vR (some 6), vI v1] (hp q)) (eP q) (Ws_firstLetterOf q v1) := by
  unfold Ws_firstLetterOf
  exact S_run 0 (f' := (0, 0, 0, [(0, vR (some 6)), (1, vI v1)], [], hp q)) rfl (S_run 3 (f' := (0, 0, 3, [(0, vR (some 6)), (1, vI v1)], [vI (0 : Int), vI v1, vR (some 6)], hp q)) rfl (S_call (m' := 81) (args := [vR (some 6), vI v1, vI (0 : Int)]) (h := hp q) (k := fun r => (0, 0, 6, [(0, vR (some 6)), (1, vI v1)], r.1.toList ++ [], r.2)) rfl (T_Ws_letterOf q v1 (0 : Int)) (fun r_1 => S_run 0 (f' := (0, 0, 6, [(0, vR (some 6)), (1, vI v1)], [vI r_1], hp q)) rfl (S_ret rfl))))

def Ls_canStand_114_5 (q : zM) (v2 : Int) (v3 : Int) : Option Int :=
  ck (wrap v2) 40 (
    if wrap (q.1 115 (wrap v2).toNat) = (0 : Int) then
      some (0 : Int)
    else
      (Me_fits q v2 v3).bind fun r_3 =>
        if wrap r_3 = (0 : Int) then
          some (0 : Int)
        else
          if wrap v3 = (0 : Int) then
            (Ws_firstLetterOf q v2).bind fun r_18 =>
              if wrap r_18 = wrap (q.1 114 6) then
                if (1 : Int) = wrap (q.1 114 8) then
                  (Ws_syllablesOf q v2).bind fun r_34 =>
                    if wrap (v3 + r_34) = wrap (q.1 12 0) then
                      if (1 : Int) = (0 : Int) then
                        some (1 : Int)
                      else
                        (Ws_lastLetterOf q v2).bind fun r_42 =>
                          if wrap r_42 = wrap (q.1 114 7) then
                            if (1 : Int) = wrap (q.1 114 9) then
                              some (1 : Int)
                            else
                              some (0 : Int)
                          else
                            if (0 : Int) = wrap (q.1 114 9) then
                              some (1 : Int)
                            else
                              some (0 : Int)
                    else
                      if (0 : Int) = (0 : Int) then
                        some (1 : Int)
                      else
                        (Ws_lastLetterOf q v2).bind fun r_37 =>
                          if wrap r_37 = wrap (q.1 114 7) then
                            if (1 : Int) = wrap (q.1 114 9) then
                              some (1 : Int)
                            else
                              some (0 : Int)
                          else
                            if (0 : Int) = wrap (q.1 114 9) then
                              some (1 : Int)
                            else
                              some (0 : Int)
                else
                  some (0 : Int)
              else
                if (0 : Int) = wrap (q.1 114 8) then
                  (Ws_syllablesOf q v2).bind fun r_21 =>
                    if wrap (v3 + r_21) = wrap (q.1 12 0) then
                      if (1 : Int) = (0 : Int) then
                        some (1 : Int)
                      else
                        (Ws_lastLetterOf q v2).bind fun r_29 =>
                          if wrap r_29 = wrap (q.1 114 7) then
                            if (1 : Int) = wrap (q.1 114 9) then
                              some (1 : Int)
                            else
                              some (0 : Int)
                          else
                            if (0 : Int) = wrap (q.1 114 9) then
                              some (1 : Int)
                            else
                              some (0 : Int)
                    else
                      if (0 : Int) = (0 : Int) then
                        some (1 : Int)
                      else
                        (Ws_lastLetterOf q v2).bind fun r_24 =>
                          if wrap r_24 = wrap (q.1 114 7) then
                            if (1 : Int) = wrap (q.1 114 9) then
                              some (1 : Int)
                            else
                              some (0 : Int)
                          else
                            if (0 : Int) = wrap (q.1 114 9) then
                              some (1 : Int)
                            else
                              some (0 : Int)
                else
                  some (0 : Int)
          else
            (Ws_syllablesOf q v2).bind fun r_6 =>
              if wrap (v3 + r_6) = wrap (q.1 12 0) then
                if (1 : Int) = (0 : Int) then
                  some (1 : Int)
                else
                  (Ws_lastLetterOf q v2).bind fun r_14 =>
                    if wrap r_14 = wrap (q.1 114 7) then
                      if (1 : Int) = wrap (q.1 114 9) then
                        some (1 : Int)
                      else
                        some (0 : Int)
                    else
                      if (0 : Int) = wrap (q.1 114 9) then
                        some (1 : Int)
                      else
                        some (0 : Int)
              else
                if (0 : Int) = (0 : Int) then
                  some (1 : Int)
                else
                  (Ws_lastLetterOf q v2).bind fun r_9 =>
                    if wrap r_9 = wrap (q.1 114 7) then
                      if (1 : Int) = wrap (q.1 114 9) then
                        some (1 : Int)
                      else
                        some (0 : Int)
                    else
                      if (0 : Int) = wrap (q.1 114 9) then
                        some (1 : Int)
                      else
                        some (0 : Int))
theorem T_Ls_canStand_114_5 {E : zE} (q : zM) (v2 : Int) (v3 : Int) : SimV E 12 (entF [vR (some 114), vR (some 5), vI v2, vI v3] (hp q)) (eP q) (Ls_canStand_114_5 q v2 v3) := by
  unfold Ls_canStand_114_5
  exact S_run 0 (f' := (0, 0, 0, [(0, vR (some 114)), (1, vR (some 5)), (2, vI v2), (3, vI v3)], [], hp q)) rfl (S_run 3 (f' := (0, 0, 5, [(0, vR (some 114)), (1, vR (some 5)), (2, vI v2), (3, vI v3)], [vI v2, vR (some 115)], hp q)) rfl (S_ck (n := 40) (fun h_1 => S_go (H_bald rfl rfl rfl h_1) (S_run 0 (f' := (0, 0, 6, [(0, vR (some 114)), (1, vR (some 5)), (2, vI v2), (3, vI v3)], [vI (q.1 115 (wrap v2).toNat)], hp q)) rfl (S_ite (fun h_2 => S_go (J_if2 rfl rfl (B_eq h_2)) (S_run 1 (f' := (0, 0, 26, [(0, vR (some 114)), (1, vR (some 5)), (2, vI v2), (3, vI v3)], [vI (0 : Int)], hp q)) rfl (S_ret rfl))) (fun h_2 => S_go (J_if2 rfl rfl (B_eq' h_2)) (S_run 6 (f' := (0, 0, 19, [(0, vR (some 114)), (1, vR (some 5)), (2, vI v2), (3, vI v3)], [vI v3, vI v2, vR (some 6), vR (some 12)], hp q)) rfl (S_call (m' := 18) (args := [vR (some 12), vR (some 6), vI v2, vI v3]) (h := hp q) (k := fun r => (0, 0, 22, [(0, vR (some 114)), (1, vR (some 5)), (2, vI v2), (3, vI v3)], r.1.toList ++ [], r.2)) rfl (T_Me_fits q v2 v3) (fun r_3 => S_run 0 (f' := (0, 0, 22, [(0, vR (some 114)), (1, vR (some 5)), (2, vI v2), (3, vI v3)], [vI r_3], hp q)) rfl (S_ite (fun h_4 => S_go (J_if2 rfl rfl (B_ne h_4)) (S_run 1 (f' := (0, 0, 26, [(0, vR (some 114)), (1, vR (some 5)), (2, vI v2), (3, vI v3)], [vI (0 : Int)], hp q)) rfl (S_ret rfl))) (fun h_4 => S_go (J_if2 rfl rfl (B_ne' h_4)) (S_run 1 (f' := (0, 0, 28, [(0, vR (some 114)), (1, vR (some 5)), (2, vI v2), (3, vI v3)], [vI v3], hp q)) rfl (S_ite (fun h_5 => S_go (J_if2 rfl rfl (B_ne h_5)) (S_run 3 (f' := (0, 0, 36, [(0, vR (some 114)), (1, vR (some 5)), (2, vI v2), (3, vI v3)], [vI v2, vR (some 6)], hp q)) rfl (S_call (m' := 82) (args := [vR (some 6), vI v2]) (h := hp q) (k := fun r => (0, 0, 39, [(0, vR (some 114)), (1, vR (some 5)), (2, vI v2), (3, vI v3)], r.1.toList ++ [], r.2)) rfl (T_Ws_firstLetterOf q v2) (fun r_18 => S_run 2 (f' := (0, 0, 43, [(0, vR (some 114)), (1, vR (some 5)), (2, vI v2), (3, vI v3)], [vI (q.1 114 6), vI r_18], hp q)) rfl (S_ite (fun h_19 => S_go (J_icmp2 rfl rfl rfl (B_ne h_19)) (S_run 4 (f' := (0, 0, 55, [(0, vR (some 114)), (1, vR (some 5)), (2, vI v2), (3, vI v3)], [vI (q.1 114 8), vI (1 : Int)], hp q)) rfl (S_ite (fun h_33 => S_go (J_icmp2 rfl wl_1 rfl (B_eq h_33)) (S_run 4 (f' := (0, 0, 66, [(0, vR (some 114)), (1, vR (some 5)), (2, vI v2), (3, vI v3)], [vI v2, vR (some 6), vI v3], hp q)) rfl (S_call (m' := 78) (args := [vR (some 6), vI v2]) (h := hp q) (k := fun r => (0, 0, 69, [(0, vR (some 114)), (1, vR (some 5)), (2, vI v2), (3, vI v3)], r.1.toList ++ [vI v3], r.2)) rfl (T_Ws_syllablesOf q v2) (fun r_34 => S_run 4 (f' := (0, 0, 77, [(0, vR (some 114)), (1, vR (some 5)), (2, vI v2), (3, vI v3)], [vI (q.1 12 0), vI (v3 + r_34)], hp q)) rfl (S_ite (fun h_35 => S_go (J_icmp2 rfl rfl rfl (B_ne h_35)) (S_run 4 (f' := (0, 0, 89, [(0, vR (some 114)), (1, vR (some 5)), (2, vI v2), (3, vI v3), (4, vI (1 : Int))], [vI (1 : Int)], hp q)) rfl (S_ite (fun h_41 => S_go (J_if2 rfl wl_1 (B_eq h_41)) (S_run 2 (f' := (0, 0, 124, [(0, vR (some 114)), (1, vR (some 5)), (2, vI v2), (3, vI v3), (4, vI (1 : Int))], [vI (1 : Int)], hp q)) rfl (S_ret rfl))) (fun h_41 => S_go (J_if2 rfl wl_1 (B_eq' h_41)) (S_run 3 (f' := (0, 0, 97, [(0, vR (some 114)), (1, vR (some 5)), (2, vI v2), (3, vI v3), (4, vI (1 : Int))], [vI v2, vR (some 6)], hp q)) rfl (S_call (m' := 83) (args := [vR (some 6), vI v2]) (h := hp q) (k := fun r => (0, 0, 100, [(0, vR (some 114)), (1, vR (some 5)), (2, vI v2), (3, vI v3), (4, vI (1 : Int))], r.1.toList ++ [], r.2)) rfl (T_Ws_lastLetterOf q v2) (fun r_42 => S_run 2 (f' := (0, 0, 104, [(0, vR (some 114)), (1, vR (some 5)), (2, vI v2), (3, vI v3), (4, vI (1 : Int))], [vI (q.1 114 7), vI r_42], hp q)) rfl (S_ite (fun h_43 => S_go (J_icmp2 rfl rfl rfl (B_ne h_43)) (S_run 4 (f' := (0, 0, 116, [(0, vR (some 114)), (1, vR (some 5)), (2, vI v2), (3, vI v3), (4, vI (1 : Int))], [vI (q.1 114 9), vI (1 : Int)], hp q)) rfl (S_ite (fun h_45 => S_go (J_icmp2 rfl wl_1 rfl (B_ne h_45)) (S_run 2 (f' := (0, 0, 124, [(0, vR (some 114)), (1, vR (some 5)), (2, vI v2), (3, vI v3), (4, vI (1 : Int))], [vI (1 : Int)], hp q)) rfl (S_ret rfl))) (fun h_45 => S_go (J_icmp2 rfl wl_1 rfl (B_ne' h_45)) (S_run 1 (f' := (0, 0, 124, [(0, vR (some 114)), (1, vR (some 5)), (2, vI v2), (3, vI v3), (4, vI (1 : Int))], [vI (0 : Int)], hp q)) rfl (S_ret rfl)))))) (fun h_43 => S_go (J_icmp2 rfl rfl rfl (B_ne' h_43)) (S_run 3 (f' := (0, 0, 116, [(0, vR (some 114)), (1, vR (some 5)), (2, vI v2), (3, vI v3), (4, vI (1 : Int))], [vI (q.1 114 9), vI (0 : Int)], hp q)) rfl (S_ite (fun h_44 => S_go (J_icmp2 rfl wl_0 rfl (B_ne h_44)) (S_run 2 (f' := (0, 0, 124, [(0, vR (some 114)), (1, vR (some 5)), (2, vI v2), (3, vI v3), (4, vI (1 : Int))], [vI (1 : Int)], hp q)) rfl (S_ret rfl))) (fun h_44 => S_go (J_icmp2 rfl wl_0 rfl (B_ne' h_44)) (S_run 1 (f' := (0, 0, 124, [(0, vR (some 114)), (1, vR (some 5)), (2, vI v2), (3, vI v3), (4, vI (1 : Int))], [vI (0 : Int)], hp q)) rfl (S_ret rfl)))))))))))))) (fun h_35 => S_go (J_icmp2 rfl rfl rfl (B_ne' h_35)) (S_run 3 (f' := (0, 0, 89, [(0, vR (some 114)), (1, vR (some 5)), (2, vI v2), (3, vI v3), (4, vI (0 : Int))], [vI (0 : Int)], hp q)) rfl (S_ite (fun h_36 => S_go (J_if2 rfl wl_0 (B_eq h_36)) (S_run 2 (f' := (0, 0, 124, [(0, vR (some 114)), (1, vR (some 5)), (2, vI v2), (3, vI v3), (4, vI (0 : Int))], [vI (1 : Int)], hp q)) rfl (S_ret rfl))) (fun h_36 => S_go (J_if2 rfl wl_0 (B_eq' h_36)) (S_run 3 (f' := (0, 0, 97, [(0, vR (some 114)), (1, vR (some 5)), (2, vI v2), (3, vI v3), (4, vI (0 : Int))], [vI v2, vR (some 6)], hp q)) rfl (S_call (m' := 83) (args := [vR (some 6), vI v2]) (h := hp q) (k := fun r => (0, 0, 100, [(0, vR (some 114)), (1, vR (some 5)), (2, vI v2), (3, vI v3), (4, vI (0 : Int))], r.1.toList ++ [], r.2)) rfl (T_Ws_lastLetterOf q v2) (fun r_37 => S_run 2 (f' := (0, 0, 104, [(0, vR (some 114)), (1, vR (some 5)), (2, vI v2), (3, vI v3), (4, vI (0 : Int))], [vI (q.1 114 7), vI r_37], hp q)) rfl (S_ite (fun h_38 => S_go (J_icmp2 rfl rfl rfl (B_ne h_38)) (S_run 4 (f' := (0, 0, 116, [(0, vR (some 114)), (1, vR (some 5)), (2, vI v2), (3, vI v3), (4, vI (0 : Int))], [vI (q.1 114 9), vI (1 : Int)], hp q)) rfl (S_ite (fun h_40 => S_go (J_icmp2 rfl wl_1 rfl (B_ne h_40)) (S_run 2 (f' := (0, 0, 124, [(0, vR (some 114)), (1, vR (some 5)), (2, vI v2), (3, vI v3), (4, vI (0 : Int))], [vI (1 : Int)], hp q)) rfl (S_ret rfl))) (fun h_40 => S_go (J_icmp2 rfl wl_1 rfl (B_ne' h_40)) (S_run 1 (f' := (0, 0, 124, [(0, vR (some 114)), (1, vR (some 5)), (2, vI v2), (3, vI v3), (4, vI (0 : Int))], [vI (0 : Int)], hp q)) rfl (S_ret rfl)))))) (fun h_38 => S_go (J_icmp2 rfl rfl rfl (B_ne' h_38)) (S_run 3 (f' := (0, 0, 116, [(0, vR (some 114)), (1, vR (some 5)), (2, vI v2), (3, vI v3), (4, vI (0 : Int))], [vI (q.1 114 9), vI (0 : Int)], hp q)) rfl (S_ite (fun h_39 => S_go (J_icmp2 rfl wl_0 rfl (B_ne h_39)) (S_run 2 (f' := (0, 0, 124, [(0, vR (some 114)), (1, vR (some 5)), (2, vI v2), (3, vI v3), (4, vI (0 : Int))], [vI (1 : Int)], hp q)) rfl (S_ret rfl))) (fun h_39 => S_go (J_icmp2 rfl wl_0 rfl (B_ne' h_39)) (S_run 1 (f' := (0, 0, 124, [(0, vR (some 114)), (1, vR (some 5)), (2, vI v2), (3, vI v3), (4, vI (0 : Int))], [vI (0 : Int)], hp q)) rfl (S_ret rfl))))))))))))))))))) (fun h_33 => S_go (J_icmp2 rfl wl_1 rfl (B_eq' h_33)) (S_run 1 (f' := (0, 0, 59, [(0, vR (some 114)), (1, vR (some 5)), (2, vI v2), (3, vI v3)], [vI (0 : Int)], hp q)) rfl (S_ret rfl)))))) (fun h_19 => S_go (J_icmp2 rfl rfl rfl (B_ne' h_19)) (S_run 3 (f' := (0, 0, 55, [(0, vR (some 114)), (1, vR (some 5)), (2, vI v2), (3, vI v3)], [vI (q.1 114 8), vI (0 : Int)], hp q)) rfl (S_ite (fun h_20 => S_go (J_icmp2 rfl wl_0 rfl (B_eq h_20)) (S_run 4 (f' := (0, 0, 66, [(0, vR (some 114)), (1, vR (some 5)), (2, vI v2), (3, vI v3)], [vI v2, vR (some 6), vI v3], hp q)) rfl (S_call (m' := 78) (args := [vR (some 6), vI v2]) (h := hp q) (k := fun r => (0, 0, 69, [(0, vR (some 114)), (1, vR (some 5)), (2, vI v2), (3, vI v3)], r.1.toList ++ [vI v3], r.2)) rfl (T_Ws_syllablesOf q v2) (fun r_21 => S_run 4 (f' := (0, 0, 77, [(0, vR (some 114)), (1, vR (some 5)), (2, vI v2), (3, vI v3)], [vI (q.1 12 0), vI (v3 + r_21)], hp q)) rfl (S_ite (fun h_22 => S_go (J_icmp2 rfl rfl rfl (B_ne h_22)) (S_run 4 (f' := (0, 0, 89, [(0, vR (some 114)), (1, vR (some 5)), (2, vI v2), (3, vI v3), (4, vI (1 : Int))], [vI (1 : Int)], hp q)) rfl (S_ite (fun h_28 => S_go (J_if2 rfl wl_1 (B_eq h_28)) (S_run 2 (f' := (0, 0, 124, [(0, vR (some 114)), (1, vR (some 5)), (2, vI v2), (3, vI v3), (4, vI (1 : Int))], [vI (1 : Int)], hp q)) rfl (S_ret rfl))) (fun h_28 => S_go (J_if2 rfl wl_1 (B_eq' h_28)) (S_run 3 (f' := (0, 0, 97, [(0, vR (some 114)), (1, vR (some 5)), (2, vI v2), (3, vI v3), (4, vI (1 : Int))], [vI v2, vR (some 6)], hp q)) rfl (S_call (m' := 83) (args := [vR (some 6), vI v2]) (h := hp q) (k := fun r => (0, 0, 100, [(0, vR (some 114)), (1, vR (some 5)), (2, vI v2), (3, vI v3), (4, vI (1 : Int))], r.1.toList ++ [], r.2)) rfl (T_Ws_lastLetterOf q v2) (fun r_29 => S_run 2 (f' := (0, 0, 104, [(0, vR (some 114)), (1, vR (some 5)), (2, vI v2), (3, vI v3), (4, vI (1 : Int))], [vI (q.1 114 7), vI r_29], hp q)) rfl (S_ite (fun h_30 => S_go (J_icmp2 rfl rfl rfl (B_ne h_30)) (S_run 4 (f' := (0, 0, 116, [(0, vR (some 114)), (1, vR (some 5)), (2, vI v2), (3, vI v3), (4, vI (1 : Int))], [vI (q.1 114 9), vI (1 : Int)], hp q)) rfl (S_ite (fun h_32 => S_go (J_icmp2 rfl wl_1 rfl (B_ne h_32)) (S_run 2 (f' := (0, 0, 124, [(0, vR (some 114)), (1, vR (some 5)), (2, vI v2), (3, vI v3), (4, vI (1 : Int))], [vI (1 : Int)], hp q)) rfl (S_ret rfl))) (fun h_32 => S_go (J_icmp2 rfl wl_1 rfl (B_ne' h_32)) (S_run 1 (f' := (0, 0, 124, [(0, vR (some 114)), (1, vR (some 5)), (2, vI v2), (3, vI v3), (4, vI (1 : Int))], [vI (0 : Int)], hp q)) rfl (S_ret rfl)))))) (fun h_30 => S_go (J_icmp2 rfl rfl rfl (B_ne' h_30)) (S_run 3 (f' := (0, 0, 116, [(0, vR (some 114)), (1, vR (some 5)), (2, vI v2), (3, vI v3), (4, vI (1 : Int))], [vI (q.1 114 9), vI (0 : Int)], hp q)) rfl (S_ite (fun h_31 => S_go (J_icmp2 rfl wl_0 rfl (B_ne h_31)) (S_run 2 (f' := (0, 0, 124, [(0, vR (some 114)), (1, vR (some 5)), (2, vI v2), (3, vI v3), (4, vI (1 : Int))], [vI (1 : Int)], hp q)) rfl (S_ret rfl))) (fun h_31 => S_go (J_icmp2 rfl wl_0 rfl (B_ne' h_31)) (S_run 1 (f' := (0, 0, 124, [(0, vR (some 114)), (1, vR (some 5)), (2, vI v2), (3, vI v3), (4, vI (1 : Int))], [vI (0 : Int)], hp q)) rfl (S_ret rfl)))))))))))))) (fun h_22 => S_go (J_icmp2 rfl rfl rfl (B_ne' h_22)) (S_run 3 (f' := (0, 0, 89, [(0, vR (some 114)), (1, vR (some 5)), (2, vI v2), (3, vI v3), (4, vI (0 : Int))], [vI (0 : Int)], hp q)) rfl (S_ite (fun h_23 => S_go (J_if2 rfl wl_0 (B_eq h_23)) (S_run 2 (f' := (0, 0, 124, [(0, vR (some 114)), (1, vR (some 5)), (2, vI v2), (3, vI v3), (4, vI (0 : Int))], [vI (1 : Int)], hp q)) rfl (S_ret rfl))) (fun h_23 => S_go (J_if2 rfl wl_0 (B_eq' h_23)) (S_run 3 (f' := (0, 0, 97, [(0, vR (some 114)), (1, vR (some 5)), (2, vI v2), (3, vI v3), (4, vI (0 : Int))], [vI v2, vR (some 6)], hp q)) rfl (S_call (m' := 83) (args := [vR (some 6), vI v2]) (h := hp q) (k := fun r => (0, 0, 100, [(0, vR (some 114)), (1, vR (some 5)), (2, vI v2), (3, vI v3), (4, vI (0 : Int))], r.1.toList ++ [], r.2)) rfl (T_Ws_lastLetterOf q v2) (fun r_24 => S_run 2 (f' := (0, 0, 104, [(0, vR (some 114)), (1, vR (some 5)), (2, vI v2), (3, vI v3), (4, vI (0 : Int))], [vI (q.1 114 7), vI r_24], hp q)) rfl (S_ite (fun h_25 => S_go (J_icmp2 rfl rfl rfl (B_ne h_25)) (S_run 4 (f' := (0, 0, 116, [(0, vR (some 114)), (1, vR (some 5)), (2, vI v2), (3, vI v3), (4, vI (0 : Int))], [vI (q.1 114 9), vI (1 : Int)], hp q)) rfl (S_ite (fun h_27 => S_go (J_icmp2 rfl wl_1 rfl (B_ne h_27)) (S_run 2 (f' := (0, 0, 124, [(0, vR (some 114)), (1, vR (some 5)), (2, vI v2), (3, vI v3), (4, vI (0 : Int))], [vI (1 : Int)], hp q)) rfl (S_ret rfl))) (fun h_27 => S_go (J_icmp2 rfl wl_1 rfl (B_ne' h_27)) (S_run 1 (f' := (0, 0, 124, [(0, vR (some 114)), (1, vR (some 5)), (2, vI v2), (3, vI v3), (4, vI (0 : Int))], [vI (0 : Int)], hp q)) rfl (S_ret rfl)))))) (fun h_25 => S_go (J_icmp2 rfl rfl rfl (B_ne' h_25)) (S_run 3 (f' := (0, 0, 116, [(0, vR (some 114)), (1, vR (some 5)), (2, vI v2), (3, vI v3), (4, vI (0 : Int))], [vI (q.1 114 9), vI (0 : Int)], hp q)) rfl (S_ite (fun h_26 => S_go (J_icmp2 rfl wl_0 rfl (B_ne h_26)) (S_run 2 (f' := (0, 0, 124, [(0, vR (some 114)), (1, vR (some 5)), (2, vI v2), (3, vI v3), (4, vI (0 : Int))], [vI (1 : Int)], hp q)) rfl (S_ret rfl))) (fun h_26 => S_go (J_icmp2 rfl wl_0 rfl (B_ne' h_26)) (S_run 1 (f' := (0, 0, 124, [(0, vR (some 114)), (1, vR (some 5)), (2, vI v2), (3, vI v3), (4, vI (0 : Int))], [vI (0 : Int)], hp q)) rfl (S_ret rfl))))))))))))))))))) (fun h_20 => S_go (J_icmp2 rfl wl_0 rfl (B_eq' h_20)) (S_run 1 (f' := (0, 0, 59, [(0, vR (some 114)), (1, vR (some 5)), (2, vI v2), (3, vI v3)], [vI (0 : Int)], hp q)) rfl (S_ret rfl))))))))))) (fun h_5 => S_go (J_if2 rfl rfl (B_ne' h_5)) (S_run 4 (f' := (0, 0, 66, [(0, vR (some 114)), (1, vR (some 5)), (2, vI v2), (3, vI v3)], [vI v2, vR (some 6), vI v3], hp q)) rfl (S_call (m' := 78) (args := [vR (some 6), vI v2]) (h := hp q) (k := fun r => (0, 0, 69, [(0, vR (some 114)), (1, vR (some 5)), (2, vI v2), (3, vI v3)], r.1.toList ++ [vI v3], r.2)) rfl (T_Ws_syllablesOf q v2) (fun r_6 => S_run 4 (f' := (0, 0, 77, [(0, vR (some 114)), (1, vR (some 5)), (2, vI v2), (3, vI v3)], [vI (q.1 12 0), vI (v3 + r_6)], hp q)) rfl (S_ite (fun h_7 => S_go (J_icmp2 rfl rfl rfl (B_ne h_7)) (S_run 4 (f' := (0, 0, 89, [(0, vR (some 114)), (1, vR (some 5)), (2, vI v2), (3, vI v3), (4, vI (1 : Int))], [vI (1 : Int)], hp q)) rfl (S_ite (fun h_13 => S_go (J_if2 rfl wl_1 (B_eq h_13)) (S_run 2 (f' := (0, 0, 124, [(0, vR (some 114)), (1, vR (some 5)), (2, vI v2), (3, vI v3), (4, vI (1 : Int))], [vI (1 : Int)], hp q)) rfl (S_ret rfl))) (fun h_13 => S_go (J_if2 rfl wl_1 (B_eq' h_13)) (S_run 3 (f' := (0, 0, 97, [(0, vR (some 114)), (1, vR (some 5)), (2, vI v2), (3, vI v3), (4, vI (1 : Int))], [vI v2, vR (some 6)], hp q)) rfl (S_call (m' := 83) (args := [vR (some 6), vI v2]) (h := hp q) (k := fun r => (0, 0, 100, [(0, vR (some 114)), (1, vR (some 5)), (2, vI v2), (3, vI v3), (4, vI (1 : Int))], r.1.toList ++ [], r.2)) rfl (T_Ws_lastLetterOf q v2) (fun r_14 => S_run 2 (f' := (0, 0, 104, [(0, vR (some 114)), (1, vR (some 5)), (2, vI v2), (3, vI v3), (4, vI (1 : Int))], [vI (q.1 114 7), vI r_14], hp q)) rfl (S_ite (fun h_15 => S_go (J_icmp2 rfl rfl rfl (B_ne h_15)) (S_run 4 (f' := (0, 0, 116, [(0, vR (some 114)), (1, vR (some 5)), (2, vI v2), (3, vI v3), (4, vI (1 : Int))], [vI (q.1 114 9), vI (1 : Int)], hp q)) rfl (S_ite (fun h_17 => S_go (J_icmp2 rfl wl_1 rfl (B_ne h_17)) (S_run 2 (f' := (0, 0, 124, [(0, vR (some 114)), (1, vR (some 5)), (2, vI v2), (3, vI v3), (4, vI (1 : Int))], [vI (1 : Int)], hp q)) rfl (S_ret rfl))) (fun h_17 => S_go (J_icmp2 rfl wl_1 rfl (B_ne' h_17)) (S_run 1 (f' := (0, 0, 124, [(0, vR (some 114)), (1, vR (some 5)), (2, vI v2), (3, vI v3), (4, vI (1 : Int))], [vI (0 : Int)], hp q)) rfl (S_ret rfl)))))) (fun h_15 => S_go (J_icmp2 rfl rfl rfl (B_ne' h_15)) (S_run 3 (f' := (0, 0, 116, [(0, vR (some 114)), (1, vR (some 5)), (2, vI v2), (3, vI v3), (4, vI (1 : Int))], [vI (q.1 114 9), vI (0 : Int)], hp q)) rfl (S_ite (fun h_16 => S_go (J_icmp2 rfl wl_0 rfl (B_ne h_16)) (S_run 2 (f' := (0, 0, 124, [(0, vR (some 114)), (1, vR (some 5)), (2, vI v2), (3, vI v3), (4, vI (1 : Int))], [vI (1 : Int)], hp q)) rfl (S_ret rfl))) (fun h_16 => S_go (J_icmp2 rfl wl_0 rfl (B_ne' h_16)) (S_run 1 (f' := (0, 0, 124, [(0, vR (some 114)), (1, vR (some 5)), (2, vI v2), (3, vI v3), (4, vI (1 : Int))], [vI (0 : Int)], hp q)) rfl (S_ret rfl)))))))))))))) (fun h_7 => S_go (J_icmp2 rfl rfl rfl (B_ne' h_7)) (S_run 3 (f' := (0, 0, 89, [(0, vR (some 114)), (1, vR (some 5)), (2, vI v2), (3, vI v3), (4, vI (0 : Int))], [vI (0 : Int)], hp q)) rfl (S_ite (fun h_8 => S_go (J_if2 rfl wl_0 (B_eq h_8)) (S_run 2 (f' := (0, 0, 124, [(0, vR (some 114)), (1, vR (some 5)), (2, vI v2), (3, vI v3), (4, vI (0 : Int))], [vI (1 : Int)], hp q)) rfl (S_ret rfl))) (fun h_8 => S_go (J_if2 rfl wl_0 (B_eq' h_8)) (S_run 3 (f' := (0, 0, 97, [(0, vR (some 114)), (1, vR (some 5)), (2, vI v2), (3, vI v3), (4, vI (0 : Int))], [vI v2, vR (some 6)], hp q)) rfl (S_call (m' := 83) (args := [vR (some 6), vI v2]) (h := hp q) (k := fun r => (0, 0, 100, [(0, vR (some 114)), (1, vR (some 5)), (2, vI v2), (3, vI v3), (4, vI (0 : Int))], r.1.toList ++ [], r.2)) rfl (T_Ws_lastLetterOf q v2) (fun r_9 => S_run 2 (f' := (0, 0, 104, [(0, vR (some 114)), (1, vR (some 5)), (2, vI v2), (3, vI v3), (4, vI (0 : Int))], [vI (q.1 114 7), vI r_9], hp q)) rfl (S_ite (fun h_10 => S_go (J_icmp2 rfl rfl rfl (B_ne h_10)) (S_run 4 (f' := (0, 0, 116, [(0, vR (some 114)), (1, vR (some 5)), (2, vI v2), (3, vI v3), (4, vI (0 : Int))], [vI (q.1 114 9), vI (1 : Int)], hp q)) rfl (S_ite (fun h_12 => S_go (J_icmp2 rfl wl_1 rfl (B_ne h_12)) (S_run 2 (f' := (0, 0, 124, [(0, vR (some 114)), (1, vR (some 5)), (2, vI v2), (3, vI v3), (4, vI (0 : Int))], [vI (1 : Int)], hp q)) rfl (S_ret rfl))) (fun h_12 => S_go (J_icmp2 rfl wl_1 rfl (B_ne' h_12)) (S_run 1 (f' := (0, 0, 124, [(0, vR (some 114)), (1, vR (some 5)), (2, vI v2), (3, vI v3), (4, vI (0 : Int))], [vI (0 : Int)], hp q)) rfl (S_ret rfl)))))) (fun h_10 => S_go (J_icmp2 rfl rfl rfl (B_ne' h_10)) (S_run 3 (f' := (0, 0, 116, [(0, vR (some 114)), (1, vR (some 5)), (2, vI v2), (3, vI v3), (4, vI (0 : Int))], [vI (q.1 114 9), vI (0 : Int)], hp q)) rfl (S_ite (fun h_11 => S_go (J_icmp2 rfl wl_0 rfl (B_ne h_11)) (S_run 2 (f' := (0, 0, 124, [(0, vR (some 114)), (1, vR (some 5)), (2, vI v2), (3, vI v3), (4, vI (0 : Int))], [vI (1 : Int)], hp q)) rfl (S_ret rfl))) (fun h_11 => S_go (J_icmp2 rfl wl_0 rfl (B_ne' h_11)) (S_run 1 (f' := (0, 0, 124, [(0, vR (some 114)), (1, vR (some 5)), (2, vI v2), (3, vI v3), (4, vI (0 : Int))], [vI (0 : Int)], hp q)) rfl (S_ret rfl))))))))))))))))))))))))))))))))

def Me_bends (q : zM) (v2 : Int) (v3 : Int) : Option Int :=
  (Ws_syllablesOf q v2).bind fun r_1 =>
    (Me_strongFrom q v3 r_1).bind fun r_2 =>
      (Ws_strongOf q v2).bind fun r_3 =>
        if wrap r_2 = wrap r_3 then
          some (0 : Int)
        else
          some (1 : Int)
theorem T_Me_bends {E : zE} (q : zM) (v2 : Int) (v3 : Int) : SimV E 19 (entF [vR (some 12), vR (some 6), vI v2, vI v3] (hp q)) (eP q) (Me_bends q v2 v3) := by
  unfold Me_bends
  exact S_run 0 (f' := (0, 0, 0, [(0, vR (some 12)), (1, vR (some 6)), (2, vI v2), (3, vI v3)], [], hp q)) rfl (S_run 4 (f' := (0, 0, 4, [(0, vR (some 12)), (1, vR (some 6)), (2, vI v2), (3, vI v3)], [vI v2, vR (some 6), vI v3, vR (some 12)], hp q)) rfl (S_call (m' := 78) (args := [vR (some 6), vI v2]) (h := hp q) (k := fun r => (0, 0, 7, [(0, vR (some 12)), (1, vR (some 6)), (2, vI v2), (3, vI v3)], r.1.toList ++ [vI v3, vR (some 12)], r.2)) rfl (T_Ws_syllablesOf q v2) (fun r_1 => S_run 0 (f' := (0, 0, 7, [(0, vR (some 12)), (1, vR (some 6)), (2, vI v2), (3, vI v3)], [vI r_1, vI v3, vR (some 12)], hp q)) rfl (S_call (m' := 20) (args := [vR (some 12), vI v3, vI r_1]) (h := hp q) (k := fun r => (0, 0, 10, [(0, vR (some 12)), (1, vR (some 6)), (2, vI v2), (3, vI v3)], r.1.toList ++ [], r.2)) rfl (T_Me_strongFrom q v3 r_1) (fun r_2 => S_run 2 (f' := (0, 0, 12, [(0, vR (some 12)), (1, vR (some 6)), (2, vI v2), (3, vI v3)], [vI v2, vR (some 6), vI r_2], hp q)) rfl (S_call (m' := 79) (args := [vR (some 6), vI v2]) (h := hp q) (k := fun r => (0, 0, 15, [(0, vR (some 12)), (1, vR (some 6)), (2, vI v2), (3, vI v3)], r.1.toList ++ [vI r_2], r.2)) rfl (T_Ws_strongOf q v2) (fun r_3 => S_run 0 (f' := (0, 0, 15, [(0, vR (some 12)), (1, vR (some 6)), (2, vI v2), (3, vI v3)], [vI r_3, vI r_2], hp q)) rfl (S_ite (fun h_4 => S_go (J_icmp2 rfl rfl rfl (B_ne h_4)) (S_run 2 (f' := (0, 0, 23, [(0, vR (some 12)), (1, vR (some 6)), (2, vI v2), (3, vI v3)], [vI (0 : Int)], hp q)) rfl (S_ret rfl))) (fun h_4 => S_go (J_icmp2 rfl rfl rfl (B_ne' h_4)) (S_run 1 (f' := (0, 0, 23, [(0, vR (some 12)), (1, vR (some 6)), (2, vI v2), (3, vI v3)], [vI (1 : Int)], hp q)) rfl (S_ret rfl)))))))))))

def Ls_costFrom_114_5 (q : zM) (v2 : Int) (v3 : Int) : Option Int :=
  (Ws_syllablesOf q v2).bind fun r_1 =>
    ck (wrap (v3 + r_1)) 13 (
      if wrap (q.1 116 (wrap (v3 + r_1)).toNat) = (1000000 : Int) then
        some (1000000 : Int)
      else
        (Me_bends q v2 v3).bind fun r_4 =>
          some (((q.1 116 (wrap (v3 + r_1)).toNat) + (1 : Int)) + ((13 : Int) * r_4)))
theorem T_Ls_costFrom_114_5 {E : zE} (q : zM) (v2 : Int) (v3 : Int) : SimV E 14 (entF [vR (some 114), vR (some 5), vI v2, vI v3] (hp q)) (eP q) (Ls_costFrom_114_5 q v2 v3) := by
  unfold Ls_costFrom_114_5
  exact S_run 0 (f' := (0, 0, 0, [(0, vR (some 114)), (1, vR (some 5)), (2, vI v2), (3, vI v3)], [], hp q)) rfl (S_run 6 (f' := (0, 0, 10, [(0, vR (some 114)), (1, vR (some 5)), (2, vI v2), (3, vI v3)], [vI v2, vR (some 6), vI v3, vR (some 116)], hp q)) rfl (S_call (m' := 78) (args := [vR (some 6), vI v2]) (h := hp q) (k := fun r => (0, 0, 13, [(0, vR (some 114)), (1, vR (some 5)), (2, vI v2), (3, vI v3)], r.1.toList ++ [vI v3, vR (some 116)], r.2)) rfl (T_Ws_syllablesOf q v2) (fun r_1 => S_run 1 (f' := (0, 0, 14, [(0, vR (some 114)), (1, vR (some 5)), (2, vI v2), (3, vI v3)], [vI (v3 + r_1), vR (some 116)], hp q)) rfl (S_ck (n := 13) (fun h_2 => S_go (H_iald rfl rfl rfl h_2) (S_run 3 (f' := (0, 0, 21, [(0, vR (some 114)), (1, vR (some 5)), (2, vI v2), (3, vI v3), (4, vI (q.1 116 (wrap (v3 + r_1)).toNat))], [vI (1000000 : Int), vI (q.1 116 (wrap (v3 + r_1)).toNat)], hp q)) rfl (S_ite (fun h_3 => S_go (J_icmp2 rfl rfl wl_1000000 (B_ne h_3)) (S_run 1 (f' := (0, 0, 26, [(0, vR (some 114)), (1, vR (some 5)), (2, vI v2), (3, vI v3), (4, vI (q.1 116 (wrap (v3 + r_1)).toNat))], [vI (1000000 : Int)], hp q)) rfl (S_ret rfl))) (fun h_3 => S_go (J_icmp2 rfl rfl wl_1000000 (B_ne' h_3)) (S_run 10 (f' := (0, 0, 43, [(0, vR (some 114)), (1, vR (some 5)), (2, vI v2), (3, vI v3), (4, vI (q.1 116 (wrap (v3 + r_1)).toNat))], [vI v3, vI v2, vR (some 6), vR (some 12), vI (13 : Int), vI ((q.1 116 (wrap (v3 + r_1)).toNat) + (1 : Int))], hp q)) rfl (S_call (m' := 19) (args := [vR (some 12), vR (some 6), vI v2, vI v3]) (h := hp q) (k := fun r => (0, 0, 46, [(0, vR (some 114)), (1, vR (some 5)), (2, vI v2), (3, vI v3), (4, vI (q.1 116 (wrap (v3 + r_1)).toNat))], r.1.toList ++ [vI (13 : Int), vI ((q.1 116 (wrap (v3 + r_1)).toNat) + (1 : Int))], r.2)) rfl (T_Me_bends q v2 v3) (fun r_4 => S_run 2 (f' := (0, 0, 48, [(0, vR (some 114)), (1, vR (some 5)), (2, vI v2), (3, vI v3), (4, vI (q.1 116 (wrap (v3 + r_1)).toNat))], [vI (((q.1 116 (wrap (v3 + r_1)).toNat) + (1 : Int)) + ((13 : Int) * r_4))], hp q)) rfl (S_ret rfl))))))))))))

def Ls_chooseAt_114_5_L10 (v2 : Int) (K : Int → zM → Option zM) : Nat → Int → zM → Option zM
  | 0, _, _ => none
  | n + 1, v3, q =>
    (Ws_size q ).bind fun r_2 =>
      if wrap v3 < wrap r_2 then
        (Ls_canStand_114_5 q v3 v2).bind fun r_4 =>
          if wrap r_4 = (0 : Int) then
            Ls_chooseAt_114_5_L10 v2 K n (v3 + 1) q
          else
            (Ls_costFrom_114_5 q v3 v2).bind fun r_6 =>
              ck (wrap v2) 13 (
                if wrap r_6 < wrap (q.1 116 (wrap v2).toNat) then
                  ck (wrap v2) 13 (
                    ck (wrap v2) 12 (
                      Ls_chooseAt_114_5_L10 v2 K n (v3 + 1) (qs (qs q 116 (wrap v2).toNat r_6) 117 (wrap v2).toNat v3)))
                else
                  Ls_chooseAt_114_5_L10 v2 K n (v3 + 1) q)
      else
        K v3 q
theorem T_Ls_chooseAt_114_5_L10 {E : zE} (v2 : Int) {K : Int → zM → Option zM} (hK : ∀ (v3 : Int) (q : zM), SimV E 13 (0, 0, 72, [(0, vR (some 114)), (1, vR (some 5)), (2, vI v2), (3, vI v3)], [], hp q) eV (K v3 q)) : ∀ (n : Nat) (v3 : Int) (q : zM), SimV E 13 (0, 0, 10, [(0, vR (some 114)), (1, vR (some 5)), (2, vI v2), (3, vI v3)], [], hp q) eV (Ls_chooseAt_114_5_L10 v2 K n v3 q) := by
  intro n
  induction n with
  | zero => intro _ _; exact S_none
  | succ n ih =>
    intro v3 q
    rw [Ls_chooseAt_114_5_L10]
    exact S_run 3 (f' := (0, 0, 15, [(0, vR (some 114)), (1, vR (some 5)), (2, vI v2), (3, vI v3)], [vR (some 6), vI v3], hp q)) rfl (S_call (m' := 74) (args := [vR (some 6)]) (h := hp q) (k := fun r => (0, 0, 18, [(0, vR (some 114)), (1, vR (some 5)), (2, vI v2), (3, vI v3)], r.1.toList ++ [vI v3], r.2)) rfl (T_Ws_size q ) (fun r_2 => S_run 0 (f' := (0, 0, 18, [(0, vR (some 114)), (1, vR (some 5)), (2, vI v2), (3, vI v3)], [vI r_2, vI v3], hp q)) rfl (S_ite (fun h_3 => S_go (J_icmp2 rfl rfl rfl (B_ge h_3)) (S_run 4 (f' := (0, 0, 25, [(0, vR (some 114)), (1, vR (some 5)), (2, vI v2), (3, vI v3)], [vI v2, vI v3, vR (some 5), vR (some 114)], hp q)) rfl (S_call (m' := 12) (args := [vR (some 114), vR (some 5), vI v3, vI v2]) (h := hp q) (k := fun r => (0, 0, 28, [(0, vR (some 114)), (1, vR (some 5)), (2, vI v2), (3, vI v3)], r.1.toList ++ [], r.2)) rfl (T_Ls_canStand_114_5 q v3 v2) (fun r_4 => S_run 0 (f' := (0, 0, 28, [(0, vR (some 114)), (1, vR (some 5)), (2, vI v2), (3, vI v3)], [vI r_4], hp q)) rfl (S_ite (fun h_5 => S_go (J_if2 rfl rfl (B_eq h_5)) (S_run 2 (f' := (0, 0, 10, [(0, vR (some 114)), (1, vR (some 5)), (2, vI v2), (3, vI (v3 + 1))], [], hp q)) rfl (ih (v3 + 1) q))) (fun h_5 => S_go (J_if2 rfl rfl (B_eq' h_5)) (S_run 4 (f' := (0, 0, 35, [(0, vR (some 114)), (1, vR (some 5)), (2, vI v2), (3, vI v3)], [vI v2, vI v3, vR (some 5), vR (some 114)], hp q)) rfl (S_call (m' := 14) (args := [vR (some 114), vR (some 5), vI v3, vI v2]) (h := hp q) (k := fun r => (0, 0, 38, [(0, vR (some 114)), (1, vR (some 5)), (2, vI v2), (3, vI v3)], r.1.toList ++ [], r.2)) rfl (T_Ls_costFrom_114_5 q v3 v2) (fun r_6 => S_run 5 (f' := (0, 0, 47, [(0, vR (some 114)), (1, vR (some 5)), (2, vI v2), (3, vI v3), (4, vI r_6)], [vI v2, vR (some 116), vI r_6], hp q)) rfl (S_ck (n := 13) (fun h_7 => S_go (H_iald rfl rfl rfl h_7) (S_run 0 (f' := (0, 0, 48, [(0, vR (some 114)), (1, vR (some 5)), (2, vI v2), (3, vI v3), (4, vI r_6)], [vI (q.1 116 (wrap v2).toNat), vI r_6], hp q)) rfl (S_ite (fun h_8 => S_go (J_icmp2 rfl rfl rfl (B_ge h_8)) (S_run 4 (f' := (0, 0, 58, [(0, vR (some 114)), (1, vR (some 5)), (2, vI v2), (3, vI v3), (4, vI r_6)], [vI r_6, vI v2, vR (some 116)], hp q)) rfl (S_ck (n := 13) (fun h_9 => S_go (H_iast rfl rfl rfl h_9) (S_run 4 (f' := (0, 0, 65, [(0, vR (some 114)), (1, vR (some 5)), (2, vI v2), (3, vI v3), (4, vI r_6)], [vI v3, vI v2, vR (some 117)], hp (qs q 116 (wrap v2).toNat r_6))) rfl (S_ck (n := 12) (fun h_10 => S_go (H_iast rfl rfl rfl h_10) (S_run 2 (f' := (0, 0, 10, [(0, vR (some 114)), (1, vR (some 5)), (2, vI v2), (3, vI (v3 + 1))], [], hp (qs (qs q 116 (wrap v2).toNat r_6) 117 (wrap v2).toNat v3))) rfl (ih (v3 + 1) (qs (qs q 116 (wrap v2).toNat r_6) 117 (wrap v2).toNat v3)))))))))) (fun h_8 => S_go (J_icmp2 rfl rfl rfl (B_ge' h_8)) (S_run 2 (f' := (0, 0, 10, [(0, vR (some 114)), (1, vR (some 5)), (2, vI v2), (3, vI (v3 + 1))], [], hp q)) rfl (ih (v3 + 1) q)))))))))))))))) (fun h_3 => S_go (J_icmp2 rfl rfl rfl (B_ge' h_3)) (S_run 0 (f' := (0, 0, 72, [(0, vR (some 114)), (1, vR (some 5)), (2, vI v2), (3, vI v3)], [], hp q)) rfl (hK v3 q))))))

def Ls_chooseAt_114_5_b8 (q : zM) (v2 : Int) : Option zM :=
  Ls_chooseAt_114_5_L10 v2 (fun v3_11 q_12 => 
    some q_12) 5000 (0 : Int) q
theorem T_Ls_chooseAt_114_5_b8 {E : zE} (q : zM) (v2 : Int) : SimV E 13 (0, 0, 8, [(0, vR (some 114)), (1, vR (some 5)), (2, vI v2)], [], hp q) eV (Ls_chooseAt_114_5_b8 q v2) := by
  unfold Ls_chooseAt_114_5_b8
  exact S_run 2 (f' := (0, 0, 10, [(0, vR (some 114)), (1, vR (some 5)), (2, vI v2), (3, vI (0 : Int))], [], hp q)) rfl (T_Ls_chooseAt_114_5_L10 v2 (fun v3_11 q_12 => S_run 0 (f' := (0, 0, 72, [(0, vR (some 114)), (1, vR (some 5)), (2, vI v2), (3, vI v3_11)], [], hp q_12)) rfl (S_ret rfl)) 5000 (0 : Int) q)

def Ls_chooseAt_114_5 (q : zM) (v2 : Int) : Option zM :=
  ck (wrap v2) 13 (
    Ls_chooseAt_114_5_b8 (qs q 116 (wrap v2).toNat (1000000 : Int)) v2)
theorem T_Ls_chooseAt_114_5 {E : zE} (q : zM) (v2 : Int) : SimV E 13 (entF [vR (some 114), vR (some 5), vI v2] (hp q)) eV (Ls_chooseAt_114_5 q v2) := by
  unfold Ls_chooseAt_114_5
  exact S_run 0 (f' := (0, 0, 0, [(0, vR (some 114)), (1, vR (some 5)), (2, vI v2)], [], hp q)) rfl (S_run 4 (f' := (0, 0, 7, [(0, vR (some 114)), (1, vR (some 5)), (2, vI v2)], [vI (1000000 : Int), vI v2, vR (some 116)], hp q)) rfl (S_ck (n := 13) (fun h_1 => S_go (H_iast rfl rfl rfl h_1) (S_run 0 (f' := (0, 0, 8, [(0, vR (some 114)), (1, vR (some 5)), (2, vI v2)], [], hp (qs q 116 (wrap v2).toNat (1000000 : Int)))) rfl (T_Ls_chooseAt_114_5_b8 (qs q 116 (wrap v2).toNat (1000000 : Int)) v2)))))

def Ls_readRow_114_5_L19  (K : Int → zM → Option zM) : Nat → Int → zM → Option zM
  | 0, _, _ => none
  | n + 1, v2, q =>
    if wrap v2 < wrap (q.1 12 0) then
      if wrap (q.1 114 5) < (12 : Int) then
        ck (wrap v2) 12 (
          ck (wrap (q.1 114 5)) 12 (
            ck (wrap v2) 12 (
              (Ws_syllablesOf (qs q 119 (wrap (q.1 114 5)).toNat (q.1 117 (wrap v2).toNat)) ((qs q 119 (wrap (q.1 114 5)).toNat (q.1 117 (wrap v2).toNat)).1 117 (wrap v2).toNat)).bind fun r_8 =>
                Ls_readRow_114_5_L19 K n (v2 + r_8) (qs (qs q 119 (wrap (q.1 114 5)).toNat (q.1 117 (wrap v2).toNat)) 114 5 (((qs q 119 (wrap (q.1 114 5)).toNat (q.1 117 (wrap v2).toNat)).1 114 5) + (1 : Int))))))
      else
        K v2 q
    else
      K v2 q
theorem T_Ls_readRow_114_5_L19 {E : zE}  {K : Int → zM → Option zM} (hK : ∀ (v2 : Int) (q : zM), SimV E 15 (0, 0, 83, [(0, vR (some 114)), (1, vR (some 5)), (2, vI v2)], [], hp q) eV (K v2 q)) : ∀ (n : Nat) (v2 : Int) (q : zM), SimV E 15 (0, 0, 19, [(0, vR (some 114)), (1, vR (some 5)), (2, vI v2)], [], hp q) eV (Ls_readRow_114_5_L19 K n v2 q) := by
  intro n
  induction n with
  | zero => intro _ _; exact S_none
  | succ n ih =>
    intro v2 q
    rw [Ls_readRow_114_5_L19]
    exact S_run 4 (f' := (0, 0, 27, [(0, vR (some 114)), (1, vR (some 5)), (2, vI v2)], [vI (q.1 12 0), vI v2], hp q)) rfl (S_ite (fun h_3 => S_go (J_icmp2 rfl rfl rfl (B_ge h_3)) (S_run 3 (f' := (0, 0, 36, [(0, vR (some 114)), (1, vR (some 5)), (2, vI v2)], [vI (12 : Int), vI (q.1 114 5)], hp q)) rfl (S_ite (fun h_4 => S_go (J_icmp2 rfl rfl wl_12 (B_ge h_4)) (S_run 7 (f' := (0, 0, 52, [(0, vR (some 114)), (1, vR (some 5)), (2, vI v2)], [vI v2, vR (some 117), vI (q.1 114 5), vR (some 119)], hp q)) rfl (S_ck (n := 12) (fun h_5 => S_go (H_iald rfl rfl rfl h_5) (S_run 0 (f' := (0, 0, 53, [(0, vR (some 114)), (1, vR (some 5)), (2, vI v2)], [vI (q.1 117 (wrap v2).toNat), vI (q.1 114 5), vR (some 119)], hp q)) rfl (S_ck (n := 12) (fun h_6 => S_go (H_iast rfl rfl rfl h_6) (S_run 6 (f' := (0, 0, 64, [(0, vR (some 114)), (1, vR (some 5)), (2, vI v2)], [vI v2, vR (some 117), vR (some 6), vI v2], hp (qs q 119 (wrap (q.1 114 5)).toNat (q.1 117 (wrap v2).toNat)))) rfl (S_ck (n := 12) (fun h_7 => S_go (H_iald rfl rfl rfl h_7) (S_run 0 (f' := (0, 0, 65, [(0, vR (some 114)), (1, vR (some 5)), (2, vI v2)], [vI ((qs q 119 (wrap (q.1 114 5)).toNat (q.1 117 (wrap v2).toNat)).1 117 (wrap v2).toNat), vR (some 6), vI v2], hp (qs q 119 (wrap (q.1 114 5)).toNat (q.1 117 (wrap v2).toNat)))) rfl (S_call (m' := 78) (args := [vR (some 6), vI ((qs q 119 (wrap (q.1 114 5)).toNat (q.1 117 (wrap v2).toNat)).1 117 (wrap v2).toNat)]) (h := hp (qs q 119 (wrap (q.1 114 5)).toNat (q.1 117 (wrap v2).toNat))) (k := fun r => (0, 0, 68, [(0, vR (some 114)), (1, vR (some 5)), (2, vI v2)], r.1.toList ++ [vI v2], r.2)) rfl (T_Ws_syllablesOf (qs q 119 (wrap (q.1 114 5)).toNat (q.1 117 (wrap v2).toNat)) ((qs q 119 (wrap (q.1 114 5)).toNat (q.1 117 (wrap v2).toNat)).1 117 (wrap v2).toNat)) (fun r_8 => S_run 9 (f' := (0, 0, 19, [(0, vR (some 114)), (1, vR (some 5)), (2, vI (v2 + r_8))], [], hp (qs (qs q 119 (wrap (q.1 114 5)).toNat (q.1 117 (wrap v2).toNat)) 114 5 (((qs q 119 (wrap (q.1 114 5)).toNat (q.1 117 (wrap v2).toNat)).1 114 5) + (1 : Int))))) rfl (ih (v2 + r_8) (qs (qs q 119 (wrap (q.1 114 5)).toNat (q.1 117 (wrap v2).toNat)) 114 5 (((qs q 119 (wrap (q.1 114 5)).toNat (q.1 117 (wrap v2).toNat)).1 114 5) + (1 : Int))))))))))))))))) (fun h_4 => S_go (J_icmp2 rfl rfl wl_12 (B_ge' h_4)) (S_run 0 (f' := (0, 0, 83, [(0, vR (some 114)), (1, vR (some 5)), (2, vI v2)], [], hp q)) rfl (hK v2 q)))))) (fun h_3 => S_go (J_icmp2 rfl rfl rfl (B_ge' h_3)) (S_run 0 (f' := (0, 0, 83, [(0, vR (some 114)), (1, vR (some 5)), (2, vI v2)], [], hp q)) rfl (hK v2 q))))

def Ls_readRow_114_5_b5 (q : zM)  : Option zM :=
  if wrap (q.1 116 0) = (1000000 : Int) then
    some q
  else
    Ls_readRow_114_5_L19  (fun v2_9 q_10 => 
      some q_10) 5000 (0 : Int) q
theorem T_Ls_readRow_114_5_b5 {E : zE} (q : zM)  : SimV E 15 (0, 0, 5, [(0, vR (some 114)), (1, vR (some 5))], [], hp q) eV (Ls_readRow_114_5_b5 q ) := by
  unfold Ls_readRow_114_5_b5
  exact S_run 5 (f' := (0, 0, 13, [(0, vR (some 114)), (1, vR (some 5))], [vI (1000000 : Int), vI (q.1 116 0)], hp q)) rfl (S_ite (fun h_2 => S_go (J_icmp2 rfl rfl wl_1000000 (B_ne h_2)) (S_run 0 (f' := (0, 0, 16, [(0, vR (some 114)), (1, vR (some 5))], [], hp q)) rfl (S_ret rfl))) (fun h_2 => S_go (J_icmp2 rfl rfl wl_1000000 (B_ne' h_2)) (S_run 2 (f' := (0, 0, 19, [(0, vR (some 114)), (1, vR (some 5)), (2, vI (0 : Int))], [], hp q)) rfl (T_Ls_readRow_114_5_L19  (fun v2_9 q_10 => S_run 0 (f' := (0, 0, 83, [(0, vR (some 114)), (1, vR (some 5)), (2, vI v2_9)], [], hp q_10)) rfl (S_ret rfl)) 5000 (0 : Int) q))))

def Ls_readRow_114_5 (q : zM)  : Option zM :=
  Ls_readRow_114_5_b5 (qs q 114 5 (0 : Int))
theorem T_Ls_readRow_114_5 {E : zE} (q : zM)  : SimV E 15 (entF [vR (some 114), vR (some 5)] (hp q)) eV (Ls_readRow_114_5 q ) := by
  unfold Ls_readRow_114_5
  exact S_run 0 (f' := (0, 0, 0, [(0, vR (some 114)), (1, vR (some 5))], [], hp q)) rfl (S_run 3 (f' := (0, 0, 5, [(0, vR (some 114)), (1, vR (some 5))], [], hp (qs q 114 5 (0 : Int)))) rfl (T_Ls_readRow_114_5_b5 (qs q 114 5 (0 : Int))))

def Ls_seek_114_5_L32 (v2 : Int) (v3 : Int) (v4 : Int) (v5 : Int) (K : Int → zM → Option (Int × zM)) : Nat → Int → zM → Option (Int × zM)
  | 0, _, _ => none
  | n + 1, v6, q =>
    if wrap v6 < (0 : Int) then
      K v6 q
    else
      (Ls_chooseAt_114_5 q v6).bind fun r_4 =>
        Ls_seek_114_5_L32 v2 v3 v4 v5 K n (v6 + (-1)) r_4
theorem T_Ls_seek_114_5_L32 {E : zE} (v2 : Int) (v3 : Int) (v4 : Int) (v5 : Int) {K : Int → zM → Option (Int × zM)} (hK : ∀ (v6 : Int) (q : zM), SimV E 7 (0, 0, 50, [(0, vR (some 114)), (1, vR (some 5)), (2, vI v2), (3, vI v3), (4, vI v4), (5, vI v5), (6, vI v6)], [], hp q) eI (K v6 q)) : ∀ (n : Nat) (v6 : Int) (q : zM), SimV E 7 (0, 0, 32, [(0, vR (some 114)), (1, vR (some 5)), (2, vI v2), (3, vI v3), (4, vI v4), (5, vI v5), (6, vI v6)], [], hp q) eI (Ls_seek_114_5_L32 v2 v3 v4 v5 K n v6 q) := by
  intro n
  induction n with
  | zero => intro _ _; exact S_none
  | succ n ih =>
    intro v6 q
    rw [Ls_seek_114_5_L32]
    exact S_run 1 (f' := (0, 0, 34, [(0, vR (some 114)), (1, vR (some 5)), (2, vI v2), (3, vI v3), (4, vI v4), (5, vI v5), (6, vI v6)], [vI v6], hp q)) rfl (S_ite (fun h_3 => S_go (J_if2 rfl rfl (B_lt h_3)) (S_run 0 (f' := (0, 0, 50, [(0, vR (some 114)), (1, vR (some 5)), (2, vI v2), (3, vI v3), (4, vI v4), (5, vI v5), (6, vI v6)], [], hp q)) rfl (hK v6 q))) (fun h_3 => S_go (J_if2 rfl rfl (B_lt' h_3)) (S_run 3 (f' := (0, 0, 41, [(0, vR (some 114)), (1, vR (some 5)), (2, vI v2), (3, vI v3), (4, vI v4), (5, vI v5), (6, vI v6)], [vI v6, vR (some 5), vR (some 114)], hp q)) rfl (S_call (m' := 13) (args := [vR (some 114), vR (some 5), vI v6]) (h := hp q) (k := fun r => (0, 0, 44, [(0, vR (some 114)), (1, vR (some 5)), (2, vI v2), (3, vI v3), (4, vI v4), (5, vI v5), (6, vI v6)], r.1.toList ++ [], r.2)) rfl (T_Ls_chooseAt_114_5 q v6) (fun r_4 => S_run 2 (f' := (0, 0, 32, [(0, vR (some 114)), (1, vR (some 5)), (2, vI v2), (3, vI v3), (4, vI v4), (5, vI v5), (6, vI (v6 + (-1)))], [], hp r_4)) rfl (ih (v6 + (-1)) r_4))))))

def Ls_seek_114_5_b26 (q : zM) (v2 : Int) (v3 : Int) (v4 : Int) (v5 : Int) : Option (Int × zM) :=
  Ls_seek_114_5_L32 v2 v3 v4 v5 (fun v6_5 q_6 => 
    (Ls_readRow_114_5 q_6 ).bind fun r_7 =>
      if (0 : Int) < wrap (r_7.1 114 5) then
        some ((1 : Int), r_7)
      else
        some ((0 : Int), r_7)) 5000 (v5 - (1 : Int)) q
theorem T_Ls_seek_114_5_b26 {E : zE} (q : zM) (v2 : Int) (v3 : Int) (v4 : Int) (v5 : Int) : SimV E 7 (0, 0, 26, [(0, vR (some 114)), (1, vR (some 5)), (2, vI v2), (3, vI v3), (4, vI v4), (5, vI v5)], [], hp q) eI (Ls_seek_114_5_b26 q v2 v3 v4 v5) := by
  unfold Ls_seek_114_5_b26
  exact S_run 4 (f' := (0, 0, 32, [(0, vR (some 114)), (1, vR (some 5)), (2, vI v2), (3, vI v3), (4, vI v4), (5, vI v5), (6, vI (v5 - (1 : Int)))], [], hp q)) rfl (T_Ls_seek_114_5_L32 v2 v3 v4 v5 (fun v6_5 q_6 => S_run 2 (f' := (0, 0, 52, [(0, vR (some 114)), (1, vR (some 5)), (2, vI v2), (3, vI v3), (4, vI v4), (5, vI v5), (6, vI v6_5)], [vR (some 5), vR (some 114)], hp q_6)) rfl (S_call (m' := 15) (args := [vR (some 114), vR (some 5)]) (h := hp q_6) (k := fun r => (0, 0, 55, [(0, vR (some 114)), (1, vR (some 5)), (2, vI v2), (3, vI v3), (4, vI v4), (5, vI v5), (6, vI v6_5)], r.1.toList ++ [], r.2)) rfl (T_Ls_readRow_114_5 q_6 ) (fun r_7 => S_run 2 (f' := (0, 0, 59, [(0, vR (some 114)), (1, vR (some 5)), (2, vI v2), (3, vI v3), (4, vI v4), (5, vI v5), (6, vI v6_5)], [vI (r_7.1 114 5)], hp r_7)) rfl (S_ite (fun h_8 => S_go (J_if2 rfl rfl (B_le h_8)) (S_run 2 (f' := (0, 0, 67, [(0, vR (some 114)), (1, vR (some 5)), (2, vI v2), (3, vI v3), (4, vI v4), (5, vI v5), (6, vI v6_5)], [vI (1 : Int)], hp r_7)) rfl (S_ret rfl))) (fun h_8 => S_go (J_if2 rfl rfl (B_le' h_8)) (S_run 1 (f' := (0, 0, 67, [(0, vR (some 114)), (1, vR (some 5)), (2, vI v2), (3, vI v3), (4, vI v4), (5, vI v5), (6, vI v6_5)], [vI (0 : Int)], hp r_7)) rfl (S_ret rfl))))))) 5000 (v5 - (1 : Int)) q)

def Ls_seek_114_5 (q : zM) (v2 : Int) (v3 : Int) (v4 : Int) : Option (Int × zM) :=
  (Ls_prepare_114_5 q v2 v3 v4).bind fun r_1 =>
    ck (wrap (r_1.1 12 0)) 13 (
      Ls_seek_114_5_b26 (qs r_1 116 (wrap (r_1.1 12 0)).toNat (0 : Int)) v2 v3 v4 (r_1.1 12 0))
theorem T_Ls_seek_114_5 {E : zE} (q : zM) (v2 : Int) (v3 : Int) (v4 : Int) : SimV E 7 (entF [vR (some 114), vR (some 5), vI v2, vI v3, vI v4] (hp q)) eI (Ls_seek_114_5 q v2 v3 v4) := by
  unfold Ls_seek_114_5
  exact S_run 0 (f' := (0, 0, 0, [(0, vR (some 114)), (1, vR (some 5)), (2, vI v2), (3, vI v3), (4, vI v4)], [], hp q)) rfl (S_run 5 (f' := (0, 0, 6, [(0, vR (some 114)), (1, vR (some 5)), (2, vI v2), (3, vI v3), (4, vI v4)], [vI v4, vI v3, vI v2, vR (some 5), vR (some 114)], hp q)) rfl (S_call (m' := 11) (args := [vR (some 114), vR (some 5), vI v2, vI v3, vI v4]) (h := hp q) (k := fun r => (0, 0, 9, [(0, vR (some 114)), (1, vR (some 5)), (2, vI v2), (3, vI v3), (4, vI v4)], r.1.toList ++ [], r.2)) rfl (T_Ls_prepare_114_5 q v2 v3 v4) (fun r_1 => S_run 8 (f' := (0, 0, 25, [(0, vR (some 114)), (1, vR (some 5)), (2, vI v2), (3, vI v3), (4, vI v4), (5, vI (r_1.1 12 0))], [vI (0 : Int), vI (r_1.1 12 0), vR (some 116)], hp r_1)) rfl (S_ck (n := 13) (fun h_2 => S_go (H_iast rfl rfl rfl h_2) (S_run 0 (f' := (0, 0, 26, [(0, vR (some 114)), (1, vR (some 5)), (2, vI v2), (3, vI v3), (4, vI v4), (5, vI (r_1.1 12 0))], [], hp (qs r_1 116 (wrap (r_1.1 12 0)).toNat (0 : Int)))) rfl (T_Ls_seek_114_5_b26 (qs r_1 116 (wrap (r_1.1 12 0)).toNat (0 : Int)) v2 v3 v4 (r_1.1 12 0))))))))

def Po_putLine_b39 (q : zM) (v1 : Int) (v3 : Int) : Option zM :=
  ck (wrap v1) 8 (
    some (qs q 16 (wrap v1).toNat v3))
theorem T_Po_putLine_b39 {E : zE} (q : zM) (v1 : Int) (v3 : Int) : SimV E 33 (0, 0, 39, [(0, vR (some 13)), (1, vI v1), (2, vR (some 119)), (3, vI v3)], [], hp q) eV (Po_putLine_b39 q v1 v3) := by
  unfold Po_putLine_b39
  exact S_run 4 (f' := (0, 0, 45, [(0, vR (some 13)), (1, vI v1), (2, vR (some 119)), (3, vI v3)], [vI v3, vI v1, vR (some 16)], hp q)) rfl (S_ck (n := 8) (fun h_7 => S_go (H_iast rfl rfl rfl h_7) (S_run 0 (f' := (0, 0, 46, [(0, vR (some 13)), (1, vI v1), (2, vR (some 119)), (3, vI v3)], [], hp (qs q 16 (wrap v1).toNat v3))) rfl (S_ret rfl))))

def Po_putLine (q : zM) (v1 : Int) (v3 : Int) : Option zM :=
  (Po_has q v1).bind fun r_1 =>
    if wrap r_1 = (0 : Int) then
      some q
    else
      if wrap v3 < (0 : Int) then
        some q
      else
        if (12 : Int) < wrap v3 then
          some q
        else
          if (12 : Int) < wrap v3 then
            some q
          else
            if 0 ≤ wrap (0 : Int) ∧ 0 ≤ wrap (v1 * (12 : Int)) ∧ 0 ≤ wrap v3 ∧ wrap (0 : Int) + wrap v3 ≤ 12 ∧ wrap (v1 * (12 : Int)) + wrap v3 ≤ 96 then
              Po_putLine_b39 (qc q 119 (wrap (0 : Int)).toNat 17 (wrap (v1 * (12 : Int))).toNat (wrap v3).toNat) v1 v3
            else none
theorem T_Po_putLine {E : zE} (q : zM) (v1 : Int) (v3 : Int) : SimV E 33 (entF [vR (some 13), vI v1, vR (some 119), vI v3] (hp q)) eV (Po_putLine q v1 v3) := by
  unfold Po_putLine
  exact S_run 0 (f' := (0, 0, 0, [(0, vR (some 13)), (1, vI v1), (2, vR (some 119)), (3, vI v3)], [], hp q)) rfl (S_run 2 (f' := (0, 0, 2, [(0, vR (some 13)), (1, vI v1), (2, vR (some 119)), (3, vI v3)], [vI v1, vR (some 13)], hp q)) rfl (S_call (m' := 24) (args := [vR (some 13), vI v1]) (h := hp q) (k := fun r => (0, 0, 5, [(0, vR (some 13)), (1, vI v1), (2, vR (some 119)), (3, vI v3)], r.1.toList ++ [], r.2)) rfl (T_Po_has q v1) (fun r_1 => S_run 0 (f' := (0, 0, 5, [(0, vR (some 13)), (1, vI v1), (2, vR (some 119)), (3, vI v3)], [vI r_1], hp q)) rfl (S_ite (fun h_2 => S_go (J_if2 rfl rfl (B_eq h_2)) (S_run 0 (f' := (0, 0, 24, [(0, vR (some 13)), (1, vI v1), (2, vR (some 119)), (3, vI v3)], [], hp q)) rfl (S_ret rfl))) (fun h_2 => S_go (J_if2 rfl rfl (B_eq' h_2)) (S_run 1 (f' := (0, 0, 9, [(0, vR (some 13)), (1, vI v1), (2, vR (some 119)), (3, vI v3)], [vI v3], hp q)) rfl (S_ite (fun h_3 => S_go (J_if2 rfl rfl (B_lt h_3)) (S_run 0 (f' := (0, 0, 24, [(0, vR (some 13)), (1, vI v1), (2, vR (some 119)), (3, vI v3)], [], hp q)) rfl (S_ret rfl))) (fun h_3 => S_go (J_if2 rfl rfl (B_lt' h_3)) (S_run 2 (f' := (0, 0, 15, [(0, vR (some 13)), (1, vI v1), (2, vR (some 119)), (3, vI v3)], [vI (12 : Int), vI v3], hp q)) rfl (S_ite (fun h_4 => S_go (J_icmp2 rfl rfl wl_12 (B_gt h_4)) (S_run 0 (f' := (0, 0, 24, [(0, vR (some 13)), (1, vI v1), (2, vR (some 119)), (3, vI v3)], [], hp q)) rfl (S_ret rfl))) (fun h_4 => S_go (J_icmp2 rfl rfl wl_12 (B_gt' h_4)) (S_run 3 (f' := (0, 0, 21, [(0, vR (some 13)), (1, vI v1), (2, vR (some 119)), (3, vI v3)], [vI (12 : Int), vI v3], hp q)) rfl (S_ite (fun h_5 => S_go (J_icmp2 rfl rfl wl_12 (B_le h_5)) (S_run 0 (f' := (0, 0, 24, [(0, vR (some 13)), (1, vI v1), (2, vR (some 119)), (3, vI v3)], [], hp q)) rfl (S_ret rfl))) (fun h_5 => S_go (J_icmp2 rfl rfl wl_12 (B_le' h_5)) (S_run 8 (f' := (0, 0, 36, [(0, vR (some 13)), (1, vI v1), (2, vR (some 119)), (3, vI v3)], [vI v3, vI (v1 * (12 : Int)), vR (some 17), vI (0 : Int), vR (some 119)], hp q)) rfl (S_ite (fun h_6 => S_go (H_acI rfl rfl rfl rfl h_6) (S_run 0 (f' := (0, 0, 39, [(0, vR (some 13)), (1, vI v1), (2, vR (some 119)), (3, vI v3)], [], hp (qc q 119 (wrap (0 : Int)).toNat 17 (wrap (v1 * (12 : Int))).toNat (wrap v3).toNat))) rfl (T_Po_putLine_b39 (qc q 119 (wrap (0 : Int)).toNat 17 (wrap (v1 * (12 : Int))).toNat (wrap v3).toNat) v1 v3))) (fun _ => S_none)))))))))))))))))

def Ls_putInto (q : zM) (v2 : Int) : Option zM :=
  (Po_putLine q v2 (q.1 114 5)).bind fun r_1 =>
    some r_1
theorem T_Ls_putInto {E : zE} (q : zM) (v2 : Int) : SimV E 9 (entF [vR (some 114), vR (some 13), vI v2] (hp q)) eV (Ls_putInto q v2) := by
  unfold Ls_putInto
  exact S_run 0 (f' := (0, 0, 0, [(0, vR (some 114)), (1, vR (some 13)), (2, vI v2)], [], hp q)) rfl (S_run 6 (f' := (0, 0, 10, [(0, vR (some 114)), (1, vR (some 13)), (2, vI v2)], [vI (q.1 114 5), vR (some 119), vI v2, vR (some 13)], hp q)) rfl (S_call (m' := 33) (args := [vR (some 13), vI v2, vR (some 119), vI (q.1 114 5)]) (h := hp q) (k := fun r => (0, 0, 13, [(0, vR (some 114)), (1, vR (some 13)), (2, vI v2)], r.1.toList ++ [], r.2)) rfl (T_Po_putLine q v2 (q.1 114 5)) (fun r_1 => S_run 0 (f' := (0, 0, 13, [(0, vR (some 114)), (1, vR (some 13)), (2, vI v2)], [], hp r_1)) rfl (S_ret rfl))))

def Ev_makeLine (q : zM) (v1 : Int) : Option (Int × zM) :=
  (Po_has q v1).bind fun r_1 =>
    if wrap r_1 = (0 : Int) then
      some ((-1 : Int), q)
    else
      (Ls_seek_114_5 q v1 (1 : Int) (1 : Int)).bind fun r_3 =>
        if wrap r_3.1 = (0 : Int) then
          some ((-5 : Int), r_3.2)
        else
          (Hi_record r_3.2 ).bind fun r_5 =>
            (Ls_putInto r_5 v1).bind fun r_6 =>
              (Po_wordsIn r_6 v1).bind fun r_7 =>
                some (r_7, r_6)
theorem T_Ev_makeLine {E : zE} (q : zM) (v1 : Int) : SimV E 97 (entF [vR (some 1), vI v1] (hp q)) eI (Ev_makeLine q v1) := by
  unfold Ev_makeLine
  exact S_run 0 (f' := (0, 0, 0, [(0, vR (some 1)), (1, vI v1)], [], hp q)) rfl (S_run 4 (f' := (0, 0, 8, [(0, vR (some 1)), (1, vI v1)], [vI v1, vR (some 13)], hp q)) rfl (S_call (m' := 24) (args := [vR (some 13), vI v1]) (h := hp q) (k := fun r => (0, 0, 11, [(0, vR (some 1)), (1, vI v1)], r.1.toList ++ [], r.2)) rfl (T_Po_has q v1) (fun r_1 => S_run 0 (f' := (0, 0, 11, [(0, vR (some 1)), (1, vI v1)], [vI r_1], hp q)) rfl (S_ite (fun h_2 => S_go (J_if2 rfl rfl (B_ne h_2)) (S_run 1 (f' := (0, 0, 15, [(0, vR (some 1)), (1, vI v1)], [vI (-1 : Int)], hp q)) rfl (S_ret rfl))) (fun h_2 => S_go (J_if2 rfl rfl (B_ne' h_2)) (S_run 7 (f' := (0, 0, 27, [(0, vR (some 1)), (1, vI v1)], [vI (1 : Int), vI (1 : Int), vI v1, vR (some 5), vR (some 114)], hp q)) rfl (S_call (m' := 7) (args := [vR (some 114), vR (some 5), vI v1, vI (1 : Int), vI (1 : Int)]) (h := hp q) (k := fun r => (0, 0, 30, [(0, vR (some 1)), (1, vI v1)], r.1.toList ++ [], r.2)) rfl (T_Ls_seek_114_5 q v1 (1 : Int) (1 : Int)) (fun r_3 => S_run 0 (f' := (0, 0, 30, [(0, vR (some 1)), (1, vI v1)], [vI r_3.1], hp r_3.2)) rfl (S_ite (fun h_4 => S_go (J_if2 rfl rfl (B_ne h_4)) (S_run 1 (f' := (0, 0, 35, [(0, vR (some 1)), (1, vI v1)], [vI (-5 : Int)], hp r_3.2)) rfl (S_ret rfl))) (fun h_4 => S_go (J_if2 rfl rfl (B_ne' h_4)) (S_run 4 (f' := (0, 0, 44, [(0, vR (some 1)), (1, vI v1)], [vR (some 5), vR (some 18)], hp r_3.2)) rfl (S_call (m' := 3) (args := [vR (some 18), vR (some 5)]) (h := hp r_3.2) (k := fun r => (0, 0, 47, [(0, vR (some 1)), (1, vI v1)], r.1.toList ++ [], r.2)) rfl (T_Hi_record r_3.2 ) (fun r_5 => S_run 6 (f' := (0, 0, 59, [(0, vR (some 1)), (1, vI v1)], [vI v1, vR (some 13), vR (some 114)], hp r_5)) rfl (S_call (m' := 9) (args := [vR (some 114), vR (some 13), vI v1]) (h := hp r_5) (k := fun r => (0, 0, 62, [(0, vR (some 1)), (1, vI v1)], r.1.toList ++ [], r.2)) rfl (T_Ls_putInto r_5 v1) (fun r_6 => S_run 4 (f' := (0, 0, 70, [(0, vR (some 1)), (1, vI v1)], [vI v1, vR (some 13)], hp r_6)) rfl (S_call (m' := 27) (args := [vR (some 13), vI v1]) (h := hp r_6) (k := fun r => (0, 0, 73, [(0, vR (some 1)), (1, vI v1)], r.1.toList ++ [], r.2)) rfl (T_Po_wordsIn r_6 v1) (fun r_7 => S_run 0 (f' := (0, 0, 73, [(0, vR (some 1)), (1, vI v1)], [vI r_7], hp r_6)) rfl (S_ret rfl))))))))))))))))))

def Po_size (q : zM)  : Option Int :=
  some (q.1 13 0)
theorem T_Po_size {E : zE} (q : zM)  : SimV E 23 (entF [vR (some 13)] (hp q)) (eP q) (Po_size q ) := by
  unfold Po_size
  exact S_run 0 (f' := (0, 0, 0, [(0, vR (some 13))], [], hp q)) rfl (S_run 2 (f' := (0, 0, 4, [(0, vR (some 13))], [vI (q.1 13 0)], hp q)) rfl (S_ret rfl))
