/-! the methods as functions, printed by wip/whole/dec.py -/
def Mo_keep_L20 (v1 : Int) (K : Int → zM → Option (Int × zM)) : Nat → Int → zM → Option (Int × zM)
  | 0, _, _ => none
  | n + 1, v2, q =>
    if wrap v2 < (244 : Int) then
      ck (wrap v2) 244 (
        ck (wrap (((244 : Int) * v1) + v2)) 488 (
          Mo_keep_L20 v1 K n (v2 + 1) (qs q 130 (wrap (((244 : Int) * v1) + v2)).toNat (q.1 127 (wrap v2).toNat))))
    else
      K v2 q
theorem T_Mo_keep_L20 {E : zE} (v1 : Int) {K : Int → zM → Option (Int × zM)} (hK : ∀ (v2 : Int) (q : zM), SimV E 119 (0, 0, 51, [(0, vR (some 126)), (1, vI v1), (2, vI v2)], [], hp q) eI (K v2 q)) : ∀ (n : Nat) (v2 : Int) (q : zM), SimV E 119 (0, 0, 20, [(0, vR (some 126)), (1, vI v1), (2, vI v2)], [], hp q) eI (Mo_keep_L20 v1 K n v2 q) := by
  intro n
  induction n with
  | zero => intro _ _; exact S_none
  | succ n ih =>
    intro v2 q
    rw [Mo_keep_L20]
    exact S_run 2 (f' := (0, 0, 24, [(0, vR (some 126)), (1, vI v1), (2, vI v2)], [vI (244 : Int), vI v2], hp q)) rfl (S_ite (fun h_4 => S_go (J_icmp2 rfl rfl wl_244 (B_ge h_4)) (S_run 10 (f' := (0, 0, 43, [(0, vR (some 126)), (1, vI v1), (2, vI v2)], [vI v2, vR (some 127), vI (((244 : Int) * v1) + v2), vR (some 130)], hp q)) rfl (S_ck (n := 244) (fun h_5 => S_go (H_iald rfl rfl rfl h_5) (S_run 0 (f' := (0, 0, 44, [(0, vR (some 126)), (1, vI v1), (2, vI v2)], [vI (q.1 127 (wrap v2).toNat), vI (((244 : Int) * v1) + v2), vR (some 130)], hp q)) rfl (S_ck (n := 488) (fun h_6 => S_go (H_iast rfl rfl rfl h_6) (S_run 2 (f' := (0, 0, 20, [(0, vR (some 126)), (1, vI v1), (2, vI (v2 + 1))], [], hp (qs q 130 (wrap (((244 : Int) * v1) + v2)).toNat (q.1 127 (wrap v2).toNat)))) rfl (ih (v2 + 1) (qs q 130 (wrap (((244 : Int) * v1) + v2)).toNat (q.1 127 (wrap v2).toNat))))))))))) (fun h_4 => S_go (J_icmp2 rfl rfl wl_244 (B_ge' h_4)) (S_run 0 (f' := (0, 0, 51, [(0, vR (some 126)), (1, vI v1), (2, vI v2)], [], hp q)) rfl (hK v2 q))))

def Mo_keep_b18 (q : zM) (v1 : Int) : Option (Int × zM) :=
  Mo_keep_L20 v1 (fun v2_7 q_8 => 
    some (q_8.1 127 0, q_8)) 5000 (0 : Int) q
theorem T_Mo_keep_b18 {E : zE} (q : zM) (v1 : Int) : SimV E 119 (0, 0, 18, [(0, vR (some 126)), (1, vI v1)], [], hp q) eI (Mo_keep_b18 q v1) := by
  unfold Mo_keep_b18
  exact S_run 2 (f' := (0, 0, 20, [(0, vR (some 126)), (1, vI v1), (2, vI (0 : Int))], [], hp q)) rfl (T_Mo_keep_L20 v1 (fun v2_7 q_8 => S_run 4 (f' := (0, 0, 57, [(0, vR (some 126)), (1, vI v1), (2, vI v2_7)], [vI (q_8.1 127 0)], hp q_8)) rfl (S_ret rfl)) 5000 (0 : Int) q)

def Mo_keep (q : zM) (v1 : Int) : Option (Int × zM) :=
  (Mo_in q v1 (0 : Int) (1 : Int)).bind fun r_1 =>
    if wrap r_1 = (0 : Int) then
      some ((-1 : Int), q)
    else
      ck (wrap v1) 2 (
        Mo_keep_b18 (qs q 131 (wrap v1).toNat ((1 : Int) % 2)) v1)
theorem T_Mo_keep {E : zE} (q : zM) (v1 : Int) : SimV E 119 (entF [vR (some 126), vI v1] (hp q)) eI (Mo_keep q v1) := by
  unfold Mo_keep
  exact S_run 0 (f' := (0, 0, 0, [(0, vR (some 126)), (1, vI v1)], [], hp q)) rfl (S_run 3 (f' := (0, 0, 3, [(0, vR (some 126)), (1, vI v1)], [vI (1 : Int), vI (0 : Int), vI v1], hp q)) rfl (S_call (m' := 115) (args := [vI v1, vI (0 : Int), vI (1 : Int)]) (h := hp q) (k := fun r => (0, 0, 6, [(0, vR (some 126)), (1, vI v1)], r.1.toList ++ [], r.2)) rfl (T_Mo_in q v1 (0 : Int) (1 : Int)) (fun r_1 => S_run 0 (f' := (0, 0, 6, [(0, vR (some 126)), (1, vI v1)], [vI r_1], hp q)) rfl (S_ite (fun h_2 => S_go (J_if2 rfl rfl (B_ne h_2)) (S_run 1 (f' := (0, 0, 10, [(0, vR (some 126)), (1, vI v1)], [vI (-1 : Int)], hp q)) rfl (S_ret rfl))) (fun h_2 => S_go (J_if2 rfl rfl (B_ne' h_2)) (S_run 4 (f' := (0, 0, 17, [(0, vR (some 126)), (1, vI v1)], [vI (1 : Int), vI v1, vR (some 131)], hp q)) rfl (S_ck (n := 2) (fun h_3 => S_go (H_bast rfl rfl rfl h_3) (S_run 0 (f' := (0, 0, 18, [(0, vR (some 126)), (1, vI v1)], [], hp (qs q 131 (wrap v1).toNat ((1 : Int) % 2)))) rfl (T_Mo_keep_b18 (qs q 131 (wrap v1).toNat ((1 : Int) % 2)) v1))))))))))

def Mo_begin_L2  (K : Int → zM → Option zM) : Nat → Int → zM → Option zM
  | 0, _, _ => none
  | n + 1, v1, q =>
    if wrap v1 < (244 : Int) then
      ck (wrap v1) 244 (
        ck (wrap v1) 244 (
          Mo_begin_L2 K n (v1 + 1) (qs q 128 (wrap v1).toNat (q.1 127 (wrap v1).toNat))))
    else
      K v1 q
theorem T_Mo_begin_L2 {E : zE}  {K : Int → zM → Option zM} (hK : ∀ (v1 : Int) (q : zM), SimV E 116 (0, 0, 27, [(0, vR (some 126)), (1, vI v1)], [], hp q) eV (K v1 q)) : ∀ (n : Nat) (v1 : Int) (q : zM), SimV E 116 (0, 0, 2, [(0, vR (some 126)), (1, vI v1)], [], hp q) eV (Mo_begin_L2 K n v1 q) := by
  intro n
  induction n with
  | zero => intro _ _; exact S_none
  | succ n ih =>
    intro v1 q
    rw [Mo_begin_L2]
    exact S_run 2 (f' := (0, 0, 6, [(0, vR (some 126)), (1, vI v1)], [vI (244 : Int), vI v1], hp q)) rfl (S_ite (fun h_1 => S_go (J_icmp2 rfl rfl wl_244 (B_ge h_1)) (S_run 6 (f' := (0, 0, 19, [(0, vR (some 126)), (1, vI v1)], [vI v1, vR (some 127), vI v1, vR (some 128)], hp q)) rfl (S_ck (n := 244) (fun h_2 => S_go (H_iald rfl rfl rfl h_2) (S_run 0 (f' := (0, 0, 20, [(0, vR (some 126)), (1, vI v1)], [vI (q.1 127 (wrap v1).toNat), vI v1, vR (some 128)], hp q)) rfl (S_ck (n := 244) (fun h_3 => S_go (H_iast rfl rfl rfl h_3) (S_run 2 (f' := (0, 0, 2, [(0, vR (some 126)), (1, vI (v1 + 1))], [], hp (qs q 128 (wrap v1).toNat (q.1 127 (wrap v1).toNat)))) rfl (ih (v1 + 1) (qs q 128 (wrap v1).toNat (q.1 127 (wrap v1).toNat))))))))))) (fun h_1 => S_go (J_icmp2 rfl rfl wl_244 (B_ge' h_1)) (S_run 0 (f' := (0, 0, 27, [(0, vR (some 126)), (1, vI v1)], [], hp q)) rfl (hK v1 q))))

def Mo_begin (q : zM)  : Option zM :=
  Mo_begin_L2  (fun v1_4 q_5 => 
    some q_5) 5000 (0 : Int) q
theorem T_Mo_begin {E : zE} (q : zM)  : SimV E 116 (entF [vR (some 126)] (hp q)) eV (Mo_begin q ) := by
  unfold Mo_begin
  exact S_run 0 (f' := (0, 0, 0, [(0, vR (some 126))], [], hp q)) rfl (S_run 2 (f' := (0, 0, 2, [(0, vR (some 126)), (1, vI (0 : Int))], [], hp q)) rfl (T_Mo_begin_L2  (fun v1_4 q_5 => S_run 0 (f' := (0, 0, 27, [(0, vR (some 126)), (1, vI v1_4)], [], hp q_5)) rfl (S_ret rfl)) 5000 (0 : Int) q))

def Mo_done_L62 (v1 : Int) (K : Int → zM → Option (Int × zM)) : Nat → Int → zM → Option (Int × zM)
  | 0, _, _ => none
  | n + 1, v2, q =>
    if wrap v2 < (244 : Int) then
      ck (wrap v2) 244 (
        ck (wrap (((244 : Int) * (q.1 126 3)) + v2)) 1220 (
          Mo_done_L62 v1 K n (v2 + 1) (qs q 129 (wrap (((244 : Int) * (q.1 126 3)) + v2)).toNat (q.1 128 (wrap v2).toNat))))
    else
      K v2 q
theorem T_Mo_done_L62 {E : zE} (v1 : Int) {K : Int → zM → Option (Int × zM)} (hK : ∀ (v2 : Int) (q : zM), SimV E 117 (0, 0, 96, [(0, vR (some 126)), (1, vI v1), (2, vI v2)], [], hp q) eI (K v2 q)) : ∀ (n : Nat) (v2 : Int) (q : zM), SimV E 117 (0, 0, 62, [(0, vR (some 126)), (1, vI v1), (2, vI v2)], [], hp q) eI (Mo_done_L62 v1 K n v2 q) := by
  intro n
  induction n with
  | zero => intro _ _; exact S_none
  | succ n ih =>
    intro v2 q
    rw [Mo_done_L62]
    exact S_run 2 (f' := (0, 0, 66, [(0, vR (some 126)), (1, vI v1), (2, vI v2)], [vI (244 : Int), vI v2], hp q)) rfl (S_ite (fun h_3 => S_go (J_icmp2 rfl rfl wl_244 (B_ge h_3)) (S_run 11 (f' := (0, 0, 88, [(0, vR (some 126)), (1, vI v1), (2, vI v2)], [vI v2, vR (some 128), vI (((244 : Int) * (q.1 126 3)) + v2), vR (some 129)], hp q)) rfl (S_ck (n := 244) (fun h_4 => S_go (H_iald rfl rfl rfl h_4) (S_run 0 (f' := (0, 0, 89, [(0, vR (some 126)), (1, vI v1), (2, vI v2)], [vI (q.1 128 (wrap v2).toNat), vI (((244 : Int) * (q.1 126 3)) + v2), vR (some 129)], hp q)) rfl (S_ck (n := 1220) (fun h_5 => S_go (H_iast rfl rfl rfl h_5) (S_run 2 (f' := (0, 0, 62, [(0, vR (some 126)), (1, vI v1), (2, vI (v2 + 1))], [], hp (qs q 129 (wrap (((244 : Int) * (q.1 126 3)) + v2)).toNat (q.1 128 (wrap v2).toNat)))) rfl (ih (v2 + 1) (qs q 129 (wrap (((244 : Int) * (q.1 126 3)) + v2)).toNat (q.1 128 (wrap v2).toNat))))))))))) (fun h_3 => S_go (J_icmp2 rfl rfl wl_244 (B_ge' h_3)) (S_run 0 (f' := (0, 0, 96, [(0, vR (some 126)), (1, vI v1), (2, vI v2)], [], hp q)) rfl (hK v2 q))))

def Mo_done_L26 (v1 : Int) (K : Int → zM → Option (Int × zM)) : Nat → Int → zM → Option (Int × zM)
  | 0, _, _ => none
  | n + 1, v2, q =>
    if wrap v2 < wrap ((244 : Int) * (q.1 126 3)) then
      ck (wrap (v2 + (244 : Int))) 1220 (
        ck (wrap v2) 1220 (
          Mo_done_L26 v1 K n (v2 + 1) (qs q 129 (wrap v2).toNat (q.1 129 (wrap (v2 + (244 : Int))).toNat))))
    else
      K v2 q
theorem T_Mo_done_L26 {E : zE} (v1 : Int) {K : Int → zM → Option (Int × zM)} (hK : ∀ (v2 : Int) (q : zM), SimV E 117 (0, 0, 60, [(0, vR (some 126)), (1, vI v1), (2, vI v2)], [], hp q) eI (K v2 q)) : ∀ (n : Nat) (v2 : Int) (q : zM), SimV E 117 (0, 0, 26, [(0, vR (some 126)), (1, vI v1), (2, vI v2)], [], hp q) eI (Mo_done_L26 v1 K n v2 q) := by
  intro n
  induction n with
  | zero => intro _ _; exact S_none
  | succ n ih =>
    intro v2 q
    rw [Mo_done_L26]
    exact S_run 5 (f' := (0, 0, 35, [(0, vR (some 126)), (1, vI v1), (2, vI v2)], [vI ((244 : Int) * (q.1 126 3)), vI v2], hp q)) rfl (S_ite (fun h_8 => S_go (J_icmp2 rfl rfl rfl (B_ge h_8)) (S_run 8 (f' := (0, 0, 52, [(0, vR (some 126)), (1, vI v1), (2, vI v2)], [vI (v2 + (244 : Int)), vR (some 129), vI v2, vR (some 129)], hp q)) rfl (S_ck (n := 1220) (fun h_9 => S_go (H_iald rfl rfl rfl h_9) (S_run 0 (f' := (0, 0, 53, [(0, vR (some 126)), (1, vI v1), (2, vI v2)], [vI (q.1 129 (wrap (v2 + (244 : Int))).toNat), vI v2, vR (some 129)], hp q)) rfl (S_ck (n := 1220) (fun h_10 => S_go (H_iast rfl rfl rfl h_10) (S_run 2 (f' := (0, 0, 26, [(0, vR (some 126)), (1, vI v1), (2, vI (v2 + 1))], [], hp (qs q 129 (wrap v2).toNat (q.1 129 (wrap (v2 + (244 : Int))).toNat)))) rfl (ih (v2 + 1) (qs q 129 (wrap v2).toNat (q.1 129 (wrap (v2 + (244 : Int))).toNat))))))))))) (fun h_8 => S_go (J_icmp2 rfl rfl rfl (B_ge' h_8)) (S_run 0 (f' := (0, 0, 60, [(0, vR (some 126)), (1, vI v1), (2, vI v2)], [], hp q)) rfl (hK v2 q))))

def Mo_done_b24 (q : zM) (v1 : Int) : Option (Int × zM) :=
  Mo_done_L26 v1 (fun v2_11 q_12 => 
    Mo_done_L62 v1 (fun v2_13 q_14 => 
      some (v1, qs q_14 126 3 ((q_14.1 126 3) + (1 : Int)))) 5000 (0 : Int) q_12) 5000 (0 : Int) q
theorem T_Mo_done_b24 {E : zE} (q : zM) (v1 : Int) : SimV E 117 (0, 0, 24, [(0, vR (some 126)), (1, vI v1)], [], hp q) eI (Mo_done_b24 q v1) := by
  unfold Mo_done_b24
  exact S_run 2 (f' := (0, 0, 26, [(0, vR (some 126)), (1, vI v1), (2, vI (0 : Int))], [], hp q)) rfl (T_Mo_done_L26 v1 (fun v2_11 q_12 => S_run 2 (f' := (0, 0, 62, [(0, vR (some 126)), (1, vI v1), (2, vI (0 : Int))], [], hp q_12)) rfl (T_Mo_done_L62 v1 (fun v2_13 q_14 => S_run 7 (f' := (0, 0, 107, [(0, vR (some 126)), (1, vI v1), (2, vI v2_13)], [vI v1], hp (qs q_14 126 3 ((q_14.1 126 3) + (1 : Int))))) rfl (S_ret rfl)) 5000 (0 : Int) q_12)) 5000 (0 : Int) q)

def Mo_done (q : zM) (v1 : Int) : Option (Int × zM) :=
  if wrap v1 < (0 : Int) then
    some (v1, q)
  else
    if wrap (q.1 126 3) = (5 : Int) then
      Mo_done_b24 (qs q 126 3 ((q.1 126 3) - (1 : Int))) v1
    else
      Mo_done_L62 v1 (fun v2_6 q_7 => 
        some (v1, qs q_7 126 3 ((q_7.1 126 3) + (1 : Int)))) 5000 (0 : Int) q
theorem T_Mo_done {E : zE} (q : zM) (v1 : Int) : SimV E 117 (entF [vR (some 126), vI v1] (hp q)) eI (Mo_done q v1) := by
  unfold Mo_done
  exact S_run 0 (f' := (0, 0, 0, [(0, vR (some 126)), (1, vI v1)], [], hp q)) rfl (S_run 1 (f' := (0, 0, 1, [(0, vR (some 126)), (1, vI v1)], [vI v1], hp q)) rfl (S_ite (fun h_1 => S_go (J_if2 rfl rfl (B_ge h_1)) (S_run 1 (f' := (0, 0, 5, [(0, vR (some 126)), (1, vI v1)], [vI v1], hp q)) rfl (S_ret rfl))) (fun h_1 => S_go (J_if2 rfl rfl (B_ge' h_1)) (S_run 3 (f' := (0, 0, 11, [(0, vR (some 126)), (1, vI v1)], [vI (5 : Int), vI (q.1 126 3)], hp q)) rfl (S_ite (fun h_2 => S_go (J_icmp2 rfl rfl wl_5 (B_ne h_2)) (S_run 6 (f' := (0, 0, 24, [(0, vR (some 126)), (1, vI v1)], [], hp (qs q 126 3 ((q.1 126 3) - (1 : Int))))) rfl (T_Mo_done_b24 (qs q 126 3 ((q.1 126 3) - (1 : Int))) v1))) (fun h_2 => S_go (J_icmp2 rfl rfl wl_5 (B_ne' h_2)) (S_run 2 (f' := (0, 0, 62, [(0, vR (some 126)), (1, vI v1), (2, vI (0 : Int))], [], hp q)) rfl (T_Mo_done_L62 v1 (fun v2_6 q_7 => S_run 7 (f' := (0, 0, 107, [(0, vR (some 126)), (1, vI v1), (2, vI v2_6)], [vI v1], hp (qs q_7 126 3 ((q_7.1 126 3) + (1 : Int))))) rfl (S_ret rfl)) 5000 (0 : Int) q))))))))

def Mo_restore_L29 (v1 : Int) (K : Int → zM → Option (Int × zM)) : Nat → Int → zM → Option (Int × zM)
  | 0, _, _ => none
  | n + 1, v2, q =>
    if wrap v2 < (244 : Int) then
      ck (wrap (((244 : Int) * v1) + v2)) 488 (
        ck (wrap v2) 244 (
          Mo_restore_L29 v1 K n (v2 + 1) (qs q 127 (wrap v2).toNat (q.1 130 (wrap (((244 : Int) * v1) + v2)).toNat))))
    else
      K v2 q
theorem T_Mo_restore_L29 {E : zE} (v1 : Int) {K : Int → zM → Option (Int × zM)} (hK : ∀ (v2 : Int) (q : zM), SimV E 120 (0, 0, 60, [(0, vR (some 126)), (1, vI v1), (2, vI v2)], [], hp q) eI (K v2 q)) : ∀ (n : Nat) (v2 : Int) (q : zM), SimV E 120 (0, 0, 29, [(0, vR (some 126)), (1, vI v1), (2, vI v2)], [], hp q) eI (Mo_restore_L29 v1 K n v2 q) := by
  intro n
  induction n with
  | zero => intro _ _; exact S_none
  | succ n ih =>
    intro v2 q
    rw [Mo_restore_L29]
    exact S_run 2 (f' := (0, 0, 33, [(0, vR (some 126)), (1, vI v1), (2, vI v2)], [vI (244 : Int), vI v2], hp q)) rfl (S_ite (fun h_6 => S_go (J_icmp2 rfl rfl wl_244 (B_ge h_6)) (S_run 10 (f' := (0, 0, 52, [(0, vR (some 126)), (1, vI v1), (2, vI v2)], [vI (((244 : Int) * v1) + v2), vR (some 130), vI v2, vR (some 127)], hp q)) rfl (S_ck (n := 488) (fun h_7 => S_go (H_iald rfl rfl rfl h_7) (S_run 0 (f' := (0, 0, 53, [(0, vR (some 126)), (1, vI v1), (2, vI v2)], [vI (q.1 130 (wrap (((244 : Int) * v1) + v2)).toNat), vI v2, vR (some 127)], hp q)) rfl (S_ck (n := 244) (fun h_8 => S_go (H_iast rfl rfl rfl h_8) (S_run 2 (f' := (0, 0, 29, [(0, vR (some 126)), (1, vI v1), (2, vI (v2 + 1))], [], hp (qs q 127 (wrap v2).toNat (q.1 130 (wrap (((244 : Int) * v1) + v2)).toNat)))) rfl (ih (v2 + 1) (qs q 127 (wrap v2).toNat (q.1 130 (wrap (((244 : Int) * v1) + v2)).toNat))))))))))) (fun h_6 => S_go (J_icmp2 rfl rfl wl_244 (B_ge' h_6)) (S_run 0 (f' := (0, 0, 60, [(0, vR (some 126)), (1, vI v1), (2, vI v2)], [], hp q)) rfl (hK v2 q))))

def Mo_restore (q : zM) (v1 : Int) : Option (Int × zM) :=
  (Mo_in q v1 (0 : Int) (1 : Int)).bind fun r_1 =>
    if wrap r_1 = (0 : Int) then
      some ((-1 : Int), q)
    else
      ck (wrap v1) 2 (
        if wrap (q.1 131 (wrap v1).toNat) = (0 : Int) then
          some ((-5 : Int), q)
        else
          (Mo_begin q ).bind fun r_5 =>
            Mo_restore_L29 v1 (fun v2_9 q_10 => 
              (Mo_done q_10 (q_10.1 127 0)).bind fun r_12 =>
                some (r_12.1, r_12.2)) 5000 (0 : Int) r_5)
theorem T_Mo_restore {E : zE} (q : zM) (v1 : Int) : SimV E 120 (entF [vR (some 126), vI v1] (hp q)) eI (Mo_restore q v1) := by
  unfold Mo_restore
  exact S_run 0 (f' := (0, 0, 0, [(0, vR (some 126)), (1, vI v1)], [], hp q)) rfl (S_run 3 (f' := (0, 0, 3, [(0, vR (some 126)), (1, vI v1)], [vI (1 : Int), vI (0 : Int), vI v1], hp q)) rfl (S_call (m' := 115) (args := [vI v1, vI (0 : Int), vI (1 : Int)]) (h := hp q) (k := fun r => (0, 0, 6, [(0, vR (some 126)), (1, vI v1)], r.1.toList ++ [], r.2)) rfl (T_Mo_in q v1 (0 : Int) (1 : Int)) (fun r_1 => S_run 0 (f' := (0, 0, 6, [(0, vR (some 126)), (1, vI v1)], [vI r_1], hp q)) rfl (S_ite (fun h_2 => S_go (J_if2 rfl rfl (B_ne h_2)) (S_run 1 (f' := (0, 0, 10, [(0, vR (some 126)), (1, vI v1)], [vI (-1 : Int)], hp q)) rfl (S_ret rfl))) (fun h_2 => S_go (J_if2 rfl rfl (B_ne' h_2)) (S_run 3 (f' := (0, 0, 16, [(0, vR (some 126)), (1, vI v1)], [vI v1, vR (some 131)], hp q)) rfl (S_ck (n := 2) (fun h_3 => S_go (H_bald rfl rfl rfl h_3) (S_run 0 (f' := (0, 0, 17, [(0, vR (some 126)), (1, vI v1)], [vI (q.1 131 (wrap v1).toNat)], hp q)) rfl (S_ite (fun h_4 => S_go (J_if2 rfl rfl (B_ne h_4)) (S_run 1 (f' := (0, 0, 22, [(0, vR (some 126)), (1, vI v1)], [vI (-5 : Int)], hp q)) rfl (S_ret rfl))) (fun h_4 => S_go (J_if2 rfl rfl (B_ne' h_4)) (S_run 1 (f' := (0, 0, 24, [(0, vR (some 126)), (1, vI v1)], [vR (some 126)], hp q)) rfl (S_call (m' := 116) (args := [vR (some 126)]) (h := hp q) (k := fun r => (0, 0, 27, [(0, vR (some 126)), (1, vI v1)], r.1.toList ++ [], r.2)) rfl (T_Mo_begin q ) (fun r_5 => S_run 2 (f' := (0, 0, 29, [(0, vR (some 126)), (1, vI v1), (2, vI (0 : Int))], [], hp r_5)) rfl (T_Mo_restore_L29 v1 (fun v2_9 q_10 => S_run 5 (f' := (0, 0, 67, [(0, vR (some 126)), (1, vI v1), (2, vI v2_9)], [vI (q_10.1 127 0), vR (some 126)], hp q_10)) rfl (S_call (m' := 117) (args := [vR (some 126), vI (q_10.1 127 0)]) (h := hp q_10) (k := fun r => (0, 0, 70, [(0, vR (some 126)), (1, vI v1), (2, vI v2_9)], r.1.toList ++ [], r.2)) rfl (T_Mo_done q_10 (q_10.1 127 0)) (fun r_12 => S_run 0 (f' := (0, 0, 70, [(0, vR (some 126)), (1, vI v1), (2, vI v2_9)], [vI r_12.1], hp r_12.2)) rfl (S_ret rfl)))) 5000 (0 : Int) r_5)))))))))))))))

def Mo_type_b32 (q : zM) (v1 : Int) : Option (Int × zM) :=
  some (q.1 126 6, q)
theorem T_Mo_type_b32 {E : zE} (q : zM) (v1 : Int) : SimV E 130 (0, 0, 32, [(0, vR (some 126)), (1, vI v1)], [], hp q) eI (Mo_type_b32 q v1) := by
  unfold Mo_type_b32
  exact S_run 2 (f' := (0, 0, 36, [(0, vR (some 126)), (1, vI v1)], [vI (q.1 126 6)], hp q)) rfl (S_ret rfl)

def Mo_type_b22 (q : zM) (v1 : Int) : Option (Int × zM) :=
  Mo_type_b32 (qs q 126 6 ((q.1 126 6) + (1 : Int))) v1
theorem T_Mo_type_b22 {E : zE} (q : zM) (v1 : Int) : SimV E 130 (0, 0, 22, [(0, vR (some 126)), (1, vI v1)], [], hp q) eI (Mo_type_b22 q v1) := by
  unfold Mo_type_b22
  exact S_run 6 (f' := (0, 0, 32, [(0, vR (some 126)), (1, vI v1)], [], hp (qs q 126 6 ((q.1 126 6) + (1 : Int))))) rfl (T_Mo_type_b32 (qs q 126 6 ((q.1 126 6) + (1 : Int))) v1)

def Mo_type (q : zM) (v1 : Int) : Option (Int × zM) :=
  if wrap (q.1 126 6) = (40 : Int) then
    some ((-3 : Int), q)
  else
    ck (wrap (q.1 126 6)) 40 (
      Mo_type_b22 (qs q 132 (wrap (q.1 126 6)).toNat (v1 % 65536)) v1)
theorem T_Mo_type {E : zE} (q : zM) (v1 : Int) : SimV E 130 (entF [vR (some 126), vI v1] (hp q)) eI (Mo_type q v1) := by
  unfold Mo_type
  exact S_run 0 (f' := (0, 0, 0, [(0, vR (some 126)), (1, vI v1)], [], hp q)) rfl (S_run 3 (f' := (0, 0, 6, [(0, vR (some 126)), (1, vI v1)], [vI (40 : Int), vI (q.1 126 6)], hp q)) rfl (S_ite (fun h_1 => S_go (J_icmp2 rfl rfl wl_40 (B_ne h_1)) (S_run 1 (f' := (0, 0, 11, [(0, vR (some 126)), (1, vI v1)], [vI (-3 : Int)], hp q)) rfl (S_ret rfl))) (fun h_1 => S_go (J_icmp2 rfl rfl wl_40 (B_ne' h_1)) (S_run 5 (f' := (0, 0, 21, [(0, vR (some 126)), (1, vI v1)], [vI v1, vI (q.1 126 6), vR (some 132)], hp q)) rfl (S_ck (n := 40) (fun h_2 => S_go (H_cast rfl rfl rfl h_2) (S_run 0 (f' := (0, 0, 22, [(0, vR (some 126)), (1, vI v1)], [], hp (qs q 132 (wrap (q.1 126 6)).toNat (v1 % 65536)))) rfl (T_Mo_type_b22 (qs q 132 (wrap (q.1 126 6)).toNat (v1 % 65536)) v1))))))))

def Mo_clearText (q : zM)  : Option (Int × zM) :=
  some (q.1 126 6, qs q 126 6 (0 : Int))
theorem T_Mo_clearText {E : zE} (q : zM)  : SimV E 131 (entF [vR (some 126)] (hp q)) eI (Mo_clearText q ) := by
  unfold Mo_clearText
  exact S_run 0 (f' := (0, 0, 0, [(0, vR (some 126))], [], hp q)) rfl (S_run 7 (f' := (0, 0, 11, [(0, vR (some 126)), (1, vI (q.1 126 6))], [vI (q.1 126 6)], hp (qs q 126 6 (0 : Int)))) rfl (S_ret rfl))

def Mo_character (q : zM) (v1 : Int) : Option Int :=
  if wrap v1 < wrap (q.1 126 6) then
    ck (wrap v1) 40 (
      some (q.1 132 (wrap v1).toNat))
  else
    some (-5 : Int)
theorem T_Mo_character {E : zE} (q : zM) (v1 : Int) : SimV E 133 (entF [vR (some 126), vI v1] (hp q)) (eP q) (Mo_character q v1) := by
  unfold Mo_character
  exact S_run 0 (f' := (0, 0, 0, [(0, vR (some 126)), (1, vI v1)], [], hp q)) rfl (S_run 3 (f' := (0, 0, 5, [(0, vR (some 126)), (1, vI v1)], [vI (q.1 126 6), vI v1], hp q)) rfl (S_ite (fun h_1 => S_go (J_icmp2 rfl rfl rfl (B_ge h_1)) (S_run 3 (f' := (0, 0, 13, [(0, vR (some 126)), (1, vI v1)], [vI v1, vR (some 132)], hp q)) rfl (S_ck (n := 40) (fun h_2 => S_go (H_cald rfl rfl rfl h_2) (S_run 1 (f' := (0, 0, 19, [(0, vR (some 126)), (1, vI v1)], [vI (q.1 132 (wrap v1).toNat)], hp q)) rfl (S_ret rfl)))))) (fun h_1 => S_go (J_icmp2 rfl rfl rfl (B_ge' h_1)) (S_run 1 (f' := (0, 0, 19, [(0, vR (some 126)), (1, vI v1)], [vI (-5 : Int)], hp q)) rfl (S_ret rfl)))))

def Mo_isLetter (q : zM) (v0 : Int) : Option Int :=
  (Mo_in q v0 (97 : Int) (122 : Int)).bind fun r_1 =>
    if wrap r_1 = 0 ∨ wrap r_1 = 1 then some r_1 else none
theorem T_Mo_isLetter {E : zE} (q : zM) (v0 : Int) : SimV E 132 (entF [vI v0] (hp q)) (eP q) (Mo_isLetter q v0) := by
  unfold Mo_isLetter
  exact S_run 0 (f' := (0, 0, 0, [(0, vI v0)], [], hp q)) rfl (S_run 3 (f' := (0, 0, 5, [(0, vI v0)], [vI (122 : Int), vI (97 : Int), vI v0], hp q)) rfl (S_call (m' := 115) (args := [vI v0, vI (97 : Int), vI (122 : Int)]) (h := hp q) (k := fun r => (0, 0, 8, [(0, vI v0)], r.1.toList ++ [], r.2)) rfl (T_Mo_in q v0 (97 : Int) (122 : Int)) (fun r_1 => S_run 0 (f' := (0, 0, 8, [(0, vI v0)], [vI r_1], hp q)) rfl (S_ite (fun h_2 => S_ret (H_retb rfl rfl rfl h_2)) (fun _ => S_none)))))

def Mo_syllable_L32 (v1 : Int) (v3 : Int) (K : Int → zM → Option (Int × zM)) : Nat → Int → zM → Option (Int × zM)
  | 0, _, _ => none
  | n + 1, v2, q =>
    (Mo_character q v2).bind fun r_3 =>
      (Mo_isLetter q r_3).bind fun r_4 =>
        if wrap r_4 = (0 : Int) then
          K v2 q
        else
          if wrap (q.1 126 9) < (8 : Int) then
            (Mo_character q v2).bind fun r_7 =>
              ck (wrap (q.1 126 9)) 9 (
                Mo_syllable_L32 v1 v3 K n (v2 + 1) (qs (qs q 133 (wrap (q.1 126 9)).toNat r_7) 126 9 (((qs q 133 (wrap (q.1 126 9)).toNat r_7).1 126 9) + (1 : Int))))
          else
            K v2 q
theorem T_Mo_syllable_L32 {E : zE} (v1 : Int) (v3 : Int) {K : Int → zM → Option (Int × zM)} (hK : ∀ (v2 : Int) (q : zM), SimV E 134 (0, 0, 82, [(0, vR (some 126)), (1, vI v1), (2, vI v2), (3, vI v3)], [], hp q) eI (K v2 q)) : ∀ (n : Nat) (v2 : Int) (q : zM), SimV E 134 (0, 0, 32, [(0, vR (some 126)), (1, vI v1), (2, vI v2), (3, vI v3)], [], hp q) eI (Mo_syllable_L32 v1 v3 K n v2 q) := by
  intro n
  induction n with
  | zero => intro _ _; exact S_none
  | succ n ih =>
    intro v2 q
    rw [Mo_syllable_L32]
    exact S_run 2 (f' := (0, 0, 34, [(0, vR (some 126)), (1, vI v1), (2, vI v2), (3, vI v3)], [vI v2, vR (some 126)], hp q)) rfl (S_call (m' := 133) (args := [vR (some 126), vI v2]) (h := hp q) (k := fun r => (0, 0, 37, [(0, vR (some 126)), (1, vI v1), (2, vI v2), (3, vI v3)], r.1.toList ++ [], r.2)) rfl (T_Mo_character q v2) (fun r_3 => S_run 0 (f' := (0, 0, 37, [(0, vR (some 126)), (1, vI v1), (2, vI v2), (3, vI v3)], [vI r_3], hp q)) rfl (S_call (m' := 132) (args := [vI r_3]) (h := hp q) (k := fun r => (0, 0, 40, [(0, vR (some 126)), (1, vI v1), (2, vI v2), (3, vI v3)], r.1.toList ++ [], r.2)) rfl (T_Mo_isLetter q r_3) (fun r_4 => S_run 0 (f' := (0, 0, 40, [(0, vR (some 126)), (1, vI v1), (2, vI v2), (3, vI v3)], [vI r_4], hp q)) rfl (S_ite (fun h_5 => S_go (J_if2 rfl rfl (B_eq h_5)) (S_run 0 (f' := (0, 0, 82, [(0, vR (some 126)), (1, vI v1), (2, vI v2), (3, vI v3)], [], hp q)) rfl (hK v2 q))) (fun h_5 => S_go (J_if2 rfl rfl (B_eq' h_5)) (S_run 3 (f' := (0, 0, 49, [(0, vR (some 126)), (1, vI v1), (2, vI v2), (3, vI v3)], [vI (8 : Int), vI (q.1 126 9)], hp q)) rfl (S_ite (fun h_6 => S_go (J_icmp2 rfl rfl wl_8 (B_ge h_6)) (S_run 6 (f' := (0, 0, 62, [(0, vR (some 126)), (1, vI v1), (2, vI v2), (3, vI v3)], [vI v2, vR (some 126), vI (q.1 126 9), vR (some 133)], hp q)) rfl (S_call (m' := 133) (args := [vR (some 126), vI v2]) (h := hp q) (k := fun r => (0, 0, 65, [(0, vR (some 126)), (1, vI v1), (2, vI v2), (3, vI v3)], r.1.toList ++ [vI (q.1 126 9), vR (some 133)], r.2)) rfl (T_Mo_character q v2) (fun r_7 => S_run 0 (f' := (0, 0, 65, [(0, vR (some 126)), (1, vI v1), (2, vI v2), (3, vI v3)], [vI r_7, vI (q.1 126 9), vR (some 133)], hp q)) rfl (S_ck (n := 9) (fun h_8 => S_go (H_iast rfl rfl rfl h_8) (S_run 8 (f' := (0, 0, 32, [(0, vR (some 126)), (1, vI v1), (2, vI (v2 + 1)), (3, vI v3)], [], hp (qs (qs q 133 (wrap (q.1 126 9)).toNat r_7) 126 9 (((qs q 133 (wrap (q.1 126 9)).toNat r_7).1 126 9) + (1 : Int))))) rfl (ih (v2 + 1) (qs (qs q 133 (wrap (q.1 126 9)).toNat r_7) 126 9 (((qs q 133 (wrap (q.1 126 9)).toNat r_7).1 126 9) + (1 : Int))))))))))) (fun h_6 => S_go (J_icmp2 rfl rfl wl_8 (B_ge' h_6)) (S_run 0 (f' := (0, 0, 82, [(0, vR (some 126)), (1, vI v1), (2, vI v2), (3, vI v3)], [], hp q)) rfl (hK v2 q)))))))))))

def Mo_syllable_b92 (q : zM) (v1 : Int) (v2 : Int) (v3 : Int) : Option (Int × zM) :=
  if wrap v2 = wrap v3 then
    some ((-1 : Int) - v2, q)
  else
    some (v2, q)
theorem T_Mo_syllable_b92 {E : zE} (q : zM) (v1 : Int) (v2 : Int) (v3 : Int) : SimV E 134 (0, 0, 92, [(0, vR (some 126)), (1, vI v1), (2, vI v2), (3, vI v3)], [], hp q) eI (Mo_syllable_b92 q v1 v2 v3) := by
  unfold Mo_syllable_b92
  exact S_run 2 (f' := (0, 0, 94, [(0, vR (some 126)), (1, vI v1), (2, vI v2), (3, vI v3)], [vI v3, vI v2], hp q)) rfl (S_ite (fun h_11 => S_go (J_icmp2 rfl rfl rfl (B_ne h_11)) (S_run 4 (f' := (0, 0, 104, [(0, vR (some 126)), (1, vI v1), (2, vI v2), (3, vI v3)], [vI ((-1 : Int) - v2)], hp q)) rfl (S_ret rfl))) (fun h_11 => S_go (J_icmp2 rfl rfl rfl (B_ne' h_11)) (S_run 1 (f' := (0, 0, 104, [(0, vR (some 126)), (1, vI v1), (2, vI v2), (3, vI v3)], [vI v2], hp q)) rfl (S_ret rfl))))

def Mo_syllable_b27 (q : zM) (v1 : Int) (v2 : Int) : Option (Int × zM) :=
  Mo_syllable_L32 v1 (v2 + 1) (fun v2_12 q_13 => 
    Mo_syllable_b92 (qs q_13 126 10 ((q_13.1 126 10) + (1 : Int))) v1 v2_12 (v2 + 1)) 5000 (v2 + 1) q
theorem T_Mo_syllable_b27 {E : zE} (q : zM) (v1 : Int) (v2 : Int) : SimV E 134 (0, 0, 27, [(0, vR (some 126)), (1, vI v1), (2, vI v2)], [], hp q) eI (Mo_syllable_b27 q v1 v2) := by
  unfold Mo_syllable_b27
  exact S_run 3 (f' := (0, 0, 32, [(0, vR (some 126)), (1, vI v1), (2, vI (v2 + 1)), (3, vI (v2 + 1))], [], hp q)) rfl (T_Mo_syllable_L32 v1 (v2 + 1) (fun v2_12 q_13 => S_run 6 (f' := (0, 0, 92, [(0, vR (some 126)), (1, vI v1), (2, vI v2_12), (3, vI (v2 + 1))], [], hp (qs q_13 126 10 ((q_13.1 126 10) + (1 : Int))))) rfl (T_Mo_syllable_b92 (qs q_13 126 10 ((q_13.1 126 10) + (1 : Int))) v1 v2_12 (v2 + 1))) 5000 (v2 + 1) q)

def Mo_syllable (q : zM) (v1 : Int) : Option (Int × zM) :=
  (Mo_character q v1).bind fun r_1 =>
    if wrap r_1 = (39 : Int) then
      Mo_syllable_b27 (qs q 126 11 (wor (q.1 126 11) (wshl (1 : Int) (q.1 126 10)))) v1 v1
    else
      Mo_syllable_L32 v1 v1 (fun v2_9 q_10 => 
        Mo_syllable_b92 (qs q_10 126 10 ((q_10.1 126 10) + (1 : Int))) v1 v2_9 v1) 5000 v1 q
theorem T_Mo_syllable {E : zE} (q : zM) (v1 : Int) : SimV E 134 (entF [vR (some 126), vI v1] (hp q)) eI (Mo_syllable q v1) := by
  unfold Mo_syllable
  exact S_run 0 (f' := (0, 0, 0, [(0, vR (some 126)), (1, vI v1)], [], hp q)) rfl (S_run 4 (f' := (0, 0, 4, [(0, vR (some 126)), (1, vI v1), (2, vI v1)], [vI v1, vR (some 126)], hp q)) rfl (S_call (m' := 133) (args := [vR (some 126), vI v1]) (h := hp q) (k := fun r => (0, 0, 7, [(0, vR (some 126)), (1, vI v1), (2, vI v1)], r.1.toList ++ [], r.2)) rfl (T_Mo_character q v1) (fun r_1 => S_run 1 (f' := (0, 0, 9, [(0, vR (some 126)), (1, vI v1), (2, vI v1)], [vI (39 : Int), vI r_1], hp q)) rfl (S_ite (fun h_2 => S_go (J_icmp2 rfl rfl wl_39 (B_ne h_2)) (S_run 9 (f' := (0, 0, 27, [(0, vR (some 126)), (1, vI v1), (2, vI v1)], [], hp (qs q 126 11 (wor (q.1 126 11) (wshl (1 : Int) (q.1 126 10)))))) rfl (T_Mo_syllable_b27 (qs q 126 11 (wor (q.1 126 11) (wshl (1 : Int) (q.1 126 10)))) v1 v1))) (fun h_2 => S_go (J_icmp2 rfl rfl wl_39 (B_ne' h_2)) (S_run 2 (f' := (0, 0, 32, [(0, vR (some 126)), (1, vI v1), (2, vI v1), (3, vI v1)], [], hp q)) rfl (T_Mo_syllable_L32 v1 v1 (fun v2_9 q_10 => S_run 6 (f' := (0, 0, 92, [(0, vR (some 126)), (1, vI v1), (2, vI v2_9), (3, vI v1)], [], hp (qs q_10 126 10 ((q_10.1 126 10) + (1 : Int))))) rfl (T_Mo_syllable_b92 (qs q_10 126 10 ((q_10.1 126 10) + (1 : Int))) v1 v2_9 v1)) 5000 v1 q)))))))

def Mo_wordFault_L26  (K : Int → zM → Option (Int × zM)) : Nat → Int → zM → Option (Int × zM)
  | 0, _, _ => none
  | n + 1, v1, q =>
    if wrap v1 < (0 : Int) then
      K v1 q
    else
      (Mo_character q v1).bind fun r_3 =>
        if wrap r_3 = (45 : Int) then
          if wrap (q.1 126 10) < (4 : Int) then
            (Mo_syllable q (v1 + (1 : Int))).bind fun r_6 =>
              Mo_wordFault_L26 K n r_6.1 r_6.2
          else
            K v1 q
        else
          K v1 q
theorem T_Mo_wordFault_L26 {E : zE}  {K : Int → zM → Option (Int × zM)} (hK : ∀ (v1 : Int) (q : zM), SimV E 135 (0, 0, 59, [(0, vR (some 126)), (1, vI v1)], [], hp q) eI (K v1 q)) : ∀ (n : Nat) (v1 : Int) (q : zM), SimV E 135 (0, 0, 26, [(0, vR (some 126)), (1, vI v1)], [], hp q) eI (Mo_wordFault_L26 K n v1 q) := by
  intro n
  induction n with
  | zero => intro _ _; exact S_none
  | succ n ih =>
    intro v1 q
    rw [Mo_wordFault_L26]
    exact S_run 1 (f' := (0, 0, 27, [(0, vR (some 126)), (1, vI v1)], [vI v1], hp q)) rfl (S_ite (fun h_2 => S_go (J_if2 rfl rfl (B_lt h_2)) (S_run 0 (f' := (0, 0, 59, [(0, vR (some 126)), (1, vI v1)], [], hp q)) rfl (hK v1 q))) (fun h_2 => S_go (J_if2 rfl rfl (B_lt' h_2)) (S_run 2 (f' := (0, 0, 32, [(0, vR (some 126)), (1, vI v1)], [vI v1, vR (some 126)], hp q)) rfl (S_call (m' := 133) (args := [vR (some 126), vI v1]) (h := hp q) (k := fun r => (0, 0, 35, [(0, vR (some 126)), (1, vI v1)], r.1.toList ++ [], r.2)) rfl (T_Mo_character q v1) (fun r_3 => S_run 1 (f' := (0, 0, 37, [(0, vR (some 126)), (1, vI v1)], [vI (45 : Int), vI r_3], hp q)) rfl (S_ite (fun h_4 => S_go (J_icmp2 rfl rfl wl_45 (B_ne h_4)) (S_run 3 (f' := (0, 0, 45, [(0, vR (some 126)), (1, vI v1)], [vI (4 : Int), vI (q.1 126 10)], hp q)) rfl (S_ite (fun h_5 => S_go (J_icmp2 rfl rfl wl_4 (B_ge h_5)) (S_run 4 (f' := (0, 0, 52, [(0, vR (some 126)), (1, vI v1)], [vI (v1 + (1 : Int)), vR (some 126)], hp q)) rfl (S_call (m' := 134) (args := [vR (some 126), vI (v1 + (1 : Int))]) (h := hp q) (k := fun r => (0, 0, 55, [(0, vR (some 126)), (1, vI v1)], r.1.toList ++ [], r.2)) rfl (T_Mo_syllable q (v1 + (1 : Int))) (fun r_6 => S_run 2 (f' := (0, 0, 26, [(0, vR (some 126)), (1, vI r_6.1)], [], hp r_6.2)) rfl (ih r_6.1 r_6.2))))) (fun h_5 => S_go (J_icmp2 rfl rfl wl_4 (B_ge' h_5)) (S_run 0 (f' := (0, 0, 59, [(0, vR (some 126)), (1, vI v1)], [], hp q)) rfl (hK v1 q)))))) (fun h_4 => S_go (J_icmp2 rfl rfl wl_45 (B_ne' h_4)) (S_run 0 (f' := (0, 0, 59, [(0, vR (some 126)), (1, vI v1)], [], hp q)) rfl (hK v1 q)))))))))

def Mo_wordFault_b91 (q : zM) (v1 : Int) : Option (Int × zM) :=
  (Mo_in q (q.1 126 12) (1 : Int) (9 : Int)).bind fun r_14 =>
    if wrap r_14 = (0 : Int) then
      some (v1 + (1 : Int), q)
    else
      if wrap (v1 + 2) < wrap (q.1 126 6) then
        some (v1 + 2, q)
      else
        some ((-5 : Int), q)
theorem T_Mo_wordFault_b91 {E : zE} (q : zM) (v1 : Int) : SimV E 135 (0, 0, 91, [(0, vR (some 126)), (1, vI v1)], [], hp q) eI (Mo_wordFault_b91 q v1) := by
  unfold Mo_wordFault_b91
  exact S_run 4 (f' := (0, 0, 98, [(0, vR (some 126)), (1, vI v1)], [vI (9 : Int), vI (1 : Int), vI (q.1 126 12)], hp q)) rfl (S_call (m' := 115) (args := [vI (q.1 126 12), vI (1 : Int), vI (9 : Int)]) (h := hp q) (k := fun r => (0, 0, 101, [(0, vR (some 126)), (1, vI v1)], r.1.toList ++ [], r.2)) rfl (T_Mo_in q (q.1 126 12) (1 : Int) (9 : Int)) (fun r_14 => S_run 0 (f' := (0, 0, 101, [(0, vR (some 126)), (1, vI v1)], [vI r_14], hp q)) rfl (S_ite (fun h_15 => S_go (J_if2 rfl rfl (B_ne h_15)) (S_run 3 (f' := (0, 0, 107, [(0, vR (some 126)), (1, vI v1)], [vI (v1 + (1 : Int))], hp q)) rfl (S_ret rfl))) (fun h_15 => S_go (J_if2 rfl rfl (B_ne' h_15)) (S_run 4 (f' := (0, 0, 116, [(0, vR (some 126)), (1, vI (v1 + 2))], [vI (q.1 126 6), vI (v1 + 2)], hp q)) rfl (S_ite (fun h_16 => S_go (J_icmp2 rfl rfl rfl (B_ge h_16)) (S_run 2 (f' := (0, 0, 125, [(0, vR (some 126)), (1, vI (v1 + 2))], [vI (v1 + 2)], hp q)) rfl (S_ret rfl))) (fun h_16 => S_go (J_icmp2 rfl rfl rfl (B_ge' h_16)) (S_run 1 (f' := (0, 0, 125, [(0, vR (some 126)), (1, vI (v1 + 2))], [vI (-5 : Int)], hp q)) rfl (S_ret rfl)))))))))

def Mo_wordFault_b20 (q : zM)  : Option (Int × zM) :=
  (Mo_syllable q (0 : Int)).bind fun r_1 =>
    Mo_wordFault_L26  (fun v1_7 q_8 => 
      if wrap v1_7 < (0 : Int) then
        some ((-1 : Int) - v1_7, q_8)
      else
        (Mo_character q_8 v1_7).bind fun r_10 =>
          if wrap r_10 = (42 : Int) then
            (Mo_character q_8 (v1_7 + (1 : Int))).bind fun r_13 =>
              Mo_wordFault_b91 (qs q_8 126 12 (r_13 - (48 : Int))) v1_7
          else
            if wrap v1_7 < wrap (q_8.1 126 6) then
              some (v1_7, q_8)
            else
              some ((-5 : Int), q_8)) 5000 r_1.1 r_1.2
theorem T_Mo_wordFault_b20 {E : zE} (q : zM)  : SimV E 135 (0, 0, 20, [(0, vR (some 126))], [], hp q) eI (Mo_wordFault_b20 q ) := by
  unfold Mo_wordFault_b20
  exact S_run 2 (f' := (0, 0, 22, [(0, vR (some 126))], [vI (0 : Int), vR (some 126)], hp q)) rfl (S_call (m' := 134) (args := [vR (some 126), vI (0 : Int)]) (h := hp q) (k := fun r => (0, 0, 25, [(0, vR (some 126))], r.1.toList ++ [], r.2)) rfl (T_Mo_syllable q (0 : Int)) (fun r_1 => S_run 1 (f' := (0, 0, 26, [(0, vR (some 126)), (1, vI r_1.1)], [], hp r_1.2)) rfl (T_Mo_wordFault_L26  (fun v1_7 q_8 => S_run 1 (f' := (0, 0, 60, [(0, vR (some 126)), (1, vI v1_7)], [vI v1_7], hp q_8)) rfl (S_ite (fun h_9 => S_go (J_if2 rfl rfl (B_ge h_9)) (S_run 3 (f' := (0, 0, 66, [(0, vR (some 126)), (1, vI v1_7)], [vI ((-1 : Int) - v1_7)], hp q_8)) rfl (S_ret rfl))) (fun h_9 => S_go (J_if2 rfl rfl (B_ge' h_9)) (S_run 2 (f' := (0, 0, 69, [(0, vR (some 126)), (1, vI v1_7)], [vI v1_7, vR (some 126)], hp q_8)) rfl (S_call (m' := 133) (args := [vR (some 126), vI v1_7]) (h := hp q_8) (k := fun r => (0, 0, 72, [(0, vR (some 126)), (1, vI v1_7)], r.1.toList ++ [], r.2)) rfl (T_Mo_character q_8 v1_7) (fun r_10 => S_run 1 (f' := (0, 0, 74, [(0, vR (some 126)), (1, vI v1_7)], [vI (42 : Int), vI r_10], hp q_8)) rfl (S_ite (fun h_11 => S_go (J_icmp2 rfl rfl wl_42 (B_ne h_11)) (S_run 5 (f' := (0, 0, 82, [(0, vR (some 126)), (1, vI v1_7)], [vI (v1_7 + (1 : Int)), vR (some 126), vR (some 126)], hp q_8)) rfl (S_call (m' := 133) (args := [vR (some 126), vI (v1_7 + (1 : Int))]) (h := hp q_8) (k := fun r => (0, 0, 85, [(0, vR (some 126)), (1, vI v1_7)], r.1.toList ++ [vR (some 126)], r.2)) rfl (T_Mo_character q_8 (v1_7 + (1 : Int))) (fun r_13 => S_run 3 (f' := (0, 0, 91, [(0, vR (some 126)), (1, vI v1_7)], [], hp (qs q_8 126 12 (r_13 - (48 : Int))))) rfl (T_Mo_wordFault_b91 (qs q_8 126 12 (r_13 - (48 : Int))) v1_7))))) (fun h_11 => S_go (J_icmp2 rfl rfl wl_42 (B_ne' h_11)) (S_run 3 (f' := (0, 0, 116, [(0, vR (some 126)), (1, vI v1_7)], [vI (q_8.1 126 6), vI v1_7], hp q_8)) rfl (S_ite (fun h_12 => S_go (J_icmp2 rfl rfl rfl (B_ge h_12)) (S_run 2 (f' := (0, 0, 125, [(0, vR (some 126)), (1, vI v1_7)], [vI v1_7], hp q_8)) rfl (S_ret rfl))) (fun h_12 => S_go (J_icmp2 rfl rfl rfl (B_ge' h_12)) (S_run 1 (f' := (0, 0, 125, [(0, vR (some 126)), (1, vI v1_7)], [vI (-5 : Int)], hp q_8)) rfl (S_ret rfl))))))))))))) 5000 r_1.1 r_1.2)))

def Mo_wordFault_b15 (q : zM)  : Option (Int × zM) :=
  Mo_wordFault_b20 (qs q 126 12 (1 : Int))
theorem T_Mo_wordFault_b15 {E : zE} (q : zM)  : SimV E 135 (0, 0, 15, [(0, vR (some 126))], [], hp q) eI (Mo_wordFault_b15 q ) := by
  unfold Mo_wordFault_b15
  exact S_run 3 (f' := (0, 0, 20, [(0, vR (some 126))], [], hp (qs q 126 12 (1 : Int)))) rfl (T_Mo_wordFault_b20 (qs q 126 12 (1 : Int)))

def Mo_wordFault_b10 (q : zM)  : Option (Int × zM) :=
  Mo_wordFault_b15 (qs q 126 11 (0 : Int))
theorem T_Mo_wordFault_b10 {E : zE} (q : zM)  : SimV E 135 (0, 0, 10, [(0, vR (some 126))], [], hp q) eI (Mo_wordFault_b10 q ) := by
  unfold Mo_wordFault_b10
  exact S_run 3 (f' := (0, 0, 15, [(0, vR (some 126))], [], hp (qs q 126 11 (0 : Int)))) rfl (T_Mo_wordFault_b15 (qs q 126 11 (0 : Int)))

def Mo_wordFault_b5 (q : zM)  : Option (Int × zM) :=
  Mo_wordFault_b10 (qs q 126 10 (0 : Int))
theorem T_Mo_wordFault_b5 {E : zE} (q : zM)  : SimV E 135 (0, 0, 5, [(0, vR (some 126))], [], hp q) eI (Mo_wordFault_b5 q ) := by
  unfold Mo_wordFault_b5
  exact S_run 3 (f' := (0, 0, 10, [(0, vR (some 126))], [], hp (qs q 126 10 (0 : Int)))) rfl (T_Mo_wordFault_b10 (qs q 126 10 (0 : Int)))

def Mo_wordFault (q : zM)  : Option (Int × zM) :=
  Mo_wordFault_b5 (qs q 126 9 (0 : Int))
theorem T_Mo_wordFault {E : zE} (q : zM)  : SimV E 135 (entF [vR (some 126)] (hp q)) eI (Mo_wordFault q ) := by
  unfold Mo_wordFault
  exact S_run 0 (f' := (0, 0, 0, [(0, vR (some 126))], [], hp q)) rfl (S_run 3 (f' := (0, 0, 5, [(0, vR (some 126))], [], hp (qs q 126 9 (0 : Int)))) rfl (T_Mo_wordFault_b5 (qs q 126 9 (0 : Int))))

def Mo_letters (q : zM) (v1 : Int) : Option Int :=
  ck (wrap (((20 : Int) + ((3 : Int) * v1)) + (2 : Int))) 244 (
    some (wand (q.1 127 (wrap (((20 : Int) + ((3 : Int) * v1)) + (2 : Int))).toNat) (15 : Int)))
theorem T_Mo_letters {E : zE} (q : zM) (v1 : Int) : SimV E 123 (entF [vR (some 126), vI v1] (hp q)) (eP q) (Mo_letters q v1) := by
  unfold Mo_letters
  exact S_run 0 (f' := (0, 0, 0, [(0, vR (some 126)), (1, vI v1)], [], hp q)) rfl (S_run 9 (f' := (0, 0, 12, [(0, vR (some 126)), (1, vI v1)], [vI (((20 : Int) + ((3 : Int) * v1)) + (2 : Int)), vR (some 127)], hp q)) rfl (S_ck (n := 244) (fun h_1 => S_go (H_iald rfl rfl rfl h_1) (S_run 2 (f' := (0, 0, 16, [(0, vR (some 126)), (1, vI v1)], [vI (wand (q.1 127 (wrap (((20 : Int) + ((3 : Int) * v1)) + (2 : Int))).toNat) (15 : Int))], hp q)) rfl (S_ret rfl)))))

def Mo_letter (q : zM) (v1 : Int) (v2 : Int) : Option Int :=
  ck (wrap (((20 : Int) + ((3 : Int) * v1)) + (wdiv v2 (4 : Int)))) 244 (
    some (wand (wshr (q.1 127 (wrap (((20 : Int) + ((3 : Int) * v1)) + (wdiv v2 (4 : Int)))).toNat) ((8 : Int) * (wrem v2 (4 : Int)))) (255 : Int)))
theorem T_Mo_letter {E : zE} (q : zM) (v1 : Int) (v2 : Int) : SimV E 122 (entF [vR (some 126), vI v1, vI v2] (hp q)) (eP q) (Mo_letter q v1 v2) := by
  unfold Mo_letter
  exact S_run 0 (f' := (0, 0, 0, [(0, vR (some 126)), (1, vI v1), (2, vI v2)], [], hp q)) rfl (S_run 11 (f' := (0, 0, 14, [(0, vR (some 126)), (1, vI v1), (2, vI v2)], [vI (((20 : Int) + ((3 : Int) * v1)) + (wdiv v2 (4 : Int))), vR (some 127)], hp q)) rfl (S_ck (n := 244) (fun h_1 => S_go (H_iald rfl rfl rfl h_1) (S_run 8 (f' := (0, 0, 26, [(0, vR (some 126)), (1, vI v1), (2, vI v2)], [vI (wand (wshr (q.1 127 (wrap (((20 : Int) + ((3 : Int) * v1)) + (wdiv v2 (4 : Int)))).toNat) ((8 : Int) * (wrem v2 (4 : Int)))) (255 : Int))], hp q)) rfl (S_ret rfl)))))

def Mo_wordWith_L30 (q : zM) (v1 : Int) (v2 : Int) (K : Int → Int → Option Int) : Nat → Int → Int → Option Int
  | 0, _, _ => none
  | n + 1, v3, v4 =>
    if wrap v4 < wrap v1 then
      if wrap v3 = (0 : Int) then
        K v3 v4
      else
        (Mo_letter q v2 v4).bind fun r_7 =>
          ck (wrap v4) 9 (
            if wrap r_7 = wrap (q.1 133 (wrap v4).toNat) then
              Mo_wordWith_L30 q v1 v2 K n (1 : Int) (v4 + 1)
            else
              Mo_wordWith_L30 q v1 v2 K n (0 : Int) (v4 + 1))
    else
      K v3 v4
theorem T_Mo_wordWith_L30 {E : zE} (q : zM) (v1 : Int) (v2 : Int) {K : Int → Int → Option Int} (hK : ∀ (v3 : Int) (v4 : Int), SimV E 136 (0, 0, 69, [(0, vR (some 126)), (1, vI v1), (2, vI v2), (3, vI v3), (4, vI v4)], [], hp q) (eP q) (K v3 v4)) : ∀ (n : Nat) (v3 : Int) (v4 : Int), SimV E 136 (0, 0, 30, [(0, vR (some 126)), (1, vI v1), (2, vI v2), (3, vI v3), (4, vI v4)], [], hp q) (eP q) (Mo_wordWith_L30 q v1 v2 K n v3 v4) := by
  intro n
  induction n with
  | zero => intro _ _; exact S_none
  | succ n ih =>
    intro v3 v4
    rw [Mo_wordWith_L30]
    exact S_run 2 (f' := (0, 0, 33, [(0, vR (some 126)), (1, vI v1), (2, vI v2), (3, vI v3), (4, vI v4)], [vI v1, vI v4], hp q)) rfl (S_ite (fun h_5 => S_go (J_icmp2 rfl rfl rfl (B_ge h_5)) (S_run 1 (f' := (0, 0, 37, [(0, vR (some 126)), (1, vI v1), (2, vI v2), (3, vI v3), (4, vI v4)], [vI v3], hp q)) rfl (S_ite (fun h_6 => S_go (J_if2 rfl rfl (B_eq h_6)) (S_run 0 (f' := (0, 0, 69, [(0, vR (some 126)), (1, vI v1), (2, vI v2), (3, vI v3), (4, vI v4)], [], hp q)) rfl (hK v3 v4))) (fun h_6 => S_go (J_if2 rfl rfl (B_eq' h_6)) (S_run 3 (f' := (0, 0, 44, [(0, vR (some 126)), (1, vI v1), (2, vI v2), (3, vI v3), (4, vI v4)], [vI v4, vI v2, vR (some 126)], hp q)) rfl (S_call (m' := 122) (args := [vR (some 126), vI v2, vI v4]) (h := hp q) (k := fun r => (0, 0, 47, [(0, vR (some 126)), (1, vI v1), (2, vI v2), (3, vI v3), (4, vI v4)], r.1.toList ++ [], r.2)) rfl (T_Mo_letter q v2 v4) (fun r_7 => S_run 3 (f' := (0, 0, 53, [(0, vR (some 126)), (1, vI v1), (2, vI v2), (3, vI v3), (4, vI v4)], [vI v4, vR (some 133), vI r_7], hp q)) rfl (S_ck (n := 9) (fun h_8 => S_go (H_iald rfl rfl rfl h_8) (S_run 0 (f' := (0, 0, 54, [(0, vR (some 126)), (1, vI v1), (2, vI v2), (3, vI v3), (4, vI v4)], [vI (q.1 133 (wrap v4).toNat), vI r_7], hp q)) rfl (S_ite (fun h_9 => S_go (J_icmp2 rfl rfl rfl (B_ne h_9)) (S_run 5 (f' := (0, 0, 30, [(0, vR (some 126)), (1, vI v1), (2, vI v2), (3, vI (1 : Int)), (4, vI (v4 + 1))], [], hp q)) rfl (ih (1 : Int) (v4 + 1)))) (fun h_9 => S_go (J_icmp2 rfl rfl rfl (B_ne' h_9)) (S_run 4 (f' := (0, 0, 30, [(0, vR (some 126)), (1, vI v1), (2, vI v2), (3, vI (0 : Int)), (4, vI (v4 + 1))], [], hp q)) rfl (ih (0 : Int) (v4 + 1))))))))))))))) (fun h_5 => S_go (J_icmp2 rfl rfl rfl (B_ge' h_5)) (S_run 0 (f' := (0, 0, 69, [(0, vR (some 126)), (1, vI v1), (2, vI v2), (3, vI v3), (4, vI v4)], [], hp q)) rfl (hK v3 v4))))

def Mo_wordWith_L2 (q : zM) (v1 : Int) (K : Int → Option Int) : Nat → Int → Option Int
  | 0, _ => none
  | n + 1, v2 =>
    if wrap v2 < wrap (q.1 127 0) then
      (Mo_letters q v2).bind fun r_3 =>
        if wrap r_3 = wrap v1 then
          Mo_wordWith_L30 q v1 v2 (fun v3_13 v4_14 => 
            if wrap v3_13 = (0 : Int) then
              Mo_wordWith_L2 q v1 K n (v2 + 1)
            else
              some v2) 5000 (1 : Int) (0 : Int)
        else
          Mo_wordWith_L30 q v1 v2 (fun v3_10 v4_11 => 
            if wrap v3_10 = (0 : Int) then
              Mo_wordWith_L2 q v1 K n (v2 + 1)
            else
              some v2) 5000 (0 : Int) (0 : Int)
    else
      K v2
theorem T_Mo_wordWith_L2 {E : zE} (q : zM) (v1 : Int) {K : Int → Option Int} (hK : ∀ (v2 : Int), SimV E 136 (0, 0, 81, [(0, vR (some 126)), (1, vI v1), (2, vI v2)], [], hp q) (eP q) (K v2)) : ∀ (n : Nat) (v2 : Int), SimV E 136 (0, 0, 2, [(0, vR (some 126)), (1, vI v1), (2, vI v2)], [], hp q) (eP q) (Mo_wordWith_L2 q v1 K n v2) := by
  intro n
  induction n with
  | zero => intro _; exact S_none
  | succ n ih =>
    intro v2
    rw [Mo_wordWith_L2]
    exact S_run 5 (f' := (0, 0, 9, [(0, vR (some 126)), (1, vI v1), (2, vI v2)], [vI (q.1 127 0), vI v2], hp q)) rfl (S_ite (fun h_2 => S_go (J_icmp2 rfl rfl rfl (B_ge h_2)) (S_run 2 (f' := (0, 0, 14, [(0, vR (some 126)), (1, vI v1), (2, vI v2)], [vI v2, vR (some 126)], hp q)) rfl (S_call (m' := 123) (args := [vR (some 126), vI v2]) (h := hp q) (k := fun r => (0, 0, 17, [(0, vR (some 126)), (1, vI v1), (2, vI v2)], r.1.toList ++ [], r.2)) rfl (T_Mo_letters q v2) (fun r_3 => S_run 1 (f' := (0, 0, 18, [(0, vR (some 126)), (1, vI v1), (2, vI v2)], [vI v1, vI r_3], hp q)) rfl (S_ite (fun h_4 => S_go (J_icmp2 rfl rfl rfl (B_ne h_4)) (S_run 5 (f' := (0, 0, 30, [(0, vR (some 126)), (1, vI v1), (2, vI v2), (3, vI (1 : Int)), (4, vI (0 : Int))], [], hp q)) rfl (T_Mo_wordWith_L30 q v1 v2 (fun v3_13 v4_14 => S_run 1 (f' := (0, 0, 70, [(0, vR (some 126)), (1, vI v1), (2, vI v2), (3, vI v3_13), (4, vI v4_14)], [vI v3_13], hp q)) rfl (S_ite (fun h_15 => S_go (J_if2 rfl rfl (B_eq h_15)) (S_run 2 (f' := (0, 0, 2, [(0, vR (some 126)), (1, vI v1), (2, vI (v2 + 1))], [], hp q)) rfl (ih (v2 + 1)))) (fun h_15 => S_go (J_if2 rfl rfl (B_eq' h_15)) (S_run 1 (f' := (0, 0, 74, [(0, vR (some 126)), (1, vI v1), (2, vI v2), (3, vI v3_13), (4, vI v4_14)], [vI v2], hp q)) rfl (S_ret rfl))))) 5000 (1 : Int) (0 : Int)))) (fun h_4 => S_go (J_icmp2 rfl rfl rfl (B_ne' h_4)) (S_run 4 (f' := (0, 0, 30, [(0, vR (some 126)), (1, vI v1), (2, vI v2), (3, vI (0 : Int)), (4, vI (0 : Int))], [], hp q)) rfl (T_Mo_wordWith_L30 q v1 v2 (fun v3_10 v4_11 => S_run 1 (f' := (0, 0, 70, [(0, vR (some 126)), (1, vI v1), (2, vI v2), (3, vI v3_10), (4, vI v4_11)], [vI v3_10], hp q)) rfl (S_ite (fun h_12 => S_go (J_if2 rfl rfl (B_eq h_12)) (S_run 2 (f' := (0, 0, 2, [(0, vR (some 126)), (1, vI v1), (2, vI (v2 + 1))], [], hp q)) rfl (ih (v2 + 1)))) (fun h_12 => S_go (J_if2 rfl rfl (B_eq' h_12)) (S_run 1 (f' := (0, 0, 74, [(0, vR (some 126)), (1, vI v1), (2, vI v2), (3, vI v3_10), (4, vI v4_11)], [vI v2], hp q)) rfl (S_ret rfl))))) 5000 (0 : Int) (0 : Int))))))))) (fun h_2 => S_go (J_icmp2 rfl rfl rfl (B_ge' h_2)) (S_run 0 (f' := (0, 0, 81, [(0, vR (some 126)), (1, vI v1), (2, vI v2)], [], hp q)) rfl (hK v2))))

def Mo_wordWith (q : zM) (v1 : Int) : Option Int :=
  Mo_wordWith_L2 q v1 (fun v2_16 => 
    some (-5 : Int)) 5000 (0 : Int)
theorem T_Mo_wordWith {E : zE} (q : zM) (v1 : Int) : SimV E 136 (entF [vR (some 126), vI v1] (hp q)) (eP q) (Mo_wordWith q v1) := by
  unfold Mo_wordWith
  exact S_run 0 (f' := (0, 0, 0, [(0, vR (some 126)), (1, vI v1)], [], hp q)) rfl (S_run 2 (f' := (0, 0, 2, [(0, vR (some 126)), (1, vI v1), (2, vI (0 : Int))], [], hp q)) rfl (T_Mo_wordWith_L2 q v1 (fun v2_16 => S_run 1 (f' := (0, 0, 83, [(0, vR (some 126)), (1, vI v1), (2, vI v2_16)], [vI (-5 : Int)], hp q)) rfl (S_ret rfl)) 5000 (0 : Int)))

def Mo_addWord_L79 (v1 : Int) (v2 : Int) (v3 : Int) (K : Int → zM → Option (Int × zM)) : Nat → Int → zM → Option (Int × zM)
  | 0, _, _ => none
  | n + 1, v4, q =>
    if wrap v4 < wrap (q.1 126 9) then
      ck (wrap (v3 + (wdiv v4 (4 : Int)))) 244 (
        ck (wrap v4) 9 (
          ck (wrap (v3 + (wdiv v4 (4 : Int)))) 244 (
            Mo_addWord_L79 v1 v2 v3 K n (v4 + 1) (qs q 127 (wrap (v3 + (wdiv v4 (4 : Int)))).toNat (wor (q.1 127 (wrap (v3 + (wdiv v4 (4 : Int)))).toNat) (wshl (q.1 133 (wrap v4).toNat) ((8 : Int) * (wrem v4 (4 : Int)))))))))
    else
      K v4 q
theorem T_Mo_addWord_L79 {E : zE} (v1 : Int) (v2 : Int) (v3 : Int) {K : Int → zM → Option (Int × zM)} (hK : ∀ (v4 : Int) (q : zM), SimV E 137 (0, 0, 123, [(0, vR (some 126)), (1, vI v1), (2, vI v2), (3, vI v3), (4, vI v4)], [], hp q) eI (K v4 q)) : ∀ (n : Nat) (v4 : Int) (q : zM), SimV E 137 (0, 0, 79, [(0, vR (some 126)), (1, vI v1), (2, vI v2), (3, vI v3), (4, vI v4)], [], hp q) eI (Mo_addWord_L79 v1 v2 v3 K n v4 q) := by
  intro n
  induction n with
  | zero => intro _ _; exact S_none
  | succ n ih =>
    intro v4 q
    rw [Mo_addWord_L79]
    exact S_run 3 (f' := (0, 0, 85, [(0, vR (some 126)), (1, vI v1), (2, vI v2), (3, vI v3), (4, vI v4)], [vI (q.1 126 9), vI v4], hp q)) rfl (S_ite (fun h_11 => S_go (J_icmp2 rfl rfl rfl (B_ge h_11)) (S_run 8 (f' := (0, 0, 99, [(0, vR (some 126)), (1, vI v1), (2, vI v2), (3, vI v3), (4, vI v4)], [vI (v3 + (wdiv v4 (4 : Int))), vR (some 127), vI (v3 + (wdiv v4 (4 : Int))), vR (some 127)], hp q)) rfl (S_ck (n := 244) (fun h_12 => S_go (H_iald rfl rfl rfl h_12) (S_run 3 (f' := (0, 0, 106, [(0, vR (some 126)), (1, vI v1), (2, vI v2), (3, vI v3), (4, vI v4)], [vI v4, vR (some 133), vI (q.1 127 (wrap (v3 + (wdiv v4 (4 : Int)))).toNat), vI (v3 + (wdiv v4 (4 : Int))), vR (some 127)], hp q)) rfl (S_ck (n := 9) (fun h_13 => S_go (H_iald rfl rfl rfl h_13) (S_run 7 (f' := (0, 0, 116, [(0, vR (some 126)), (1, vI v1), (2, vI v2), (3, vI v3), (4, vI v4)], [vI (wor (q.1 127 (wrap (v3 + (wdiv v4 (4 : Int)))).toNat) (wshl (q.1 133 (wrap v4).toNat) ((8 : Int) * (wrem v4 (4 : Int))))), vI (v3 + (wdiv v4 (4 : Int))), vR (some 127)], hp q)) rfl (S_ck (n := 244) (fun h_14 => S_go (H_iast rfl rfl rfl h_14) (S_run 2 (f' := (0, 0, 79, [(0, vR (some 126)), (1, vI v1), (2, vI v2), (3, vI v3), (4, vI (v4 + 1))], [], hp (qs q 127 (wrap (v3 + (wdiv v4 (4 : Int)))).toNat (wor (q.1 127 (wrap (v3 + (wdiv v4 (4 : Int)))).toNat) (wshl (q.1 133 (wrap v4).toNat) ((8 : Int) * (wrem v4 (4 : Int)))))))) rfl (ih (v4 + 1) (qs q 127 (wrap (v3 + (wdiv v4 (4 : Int)))).toNat (wor (q.1 127 (wrap (v3 + (wdiv v4 (4 : Int)))).toNat) (wshl (q.1 133 (wrap v4).toNat) ((8 : Int) * (wrem v4 (4 : Int)))))))))))))))))) (fun h_11 => S_go (J_icmp2 rfl rfl rfl (B_ge' h_11)) (S_run 0 (f' := (0, 0, 123, [(0, vR (some 126)), (1, vI v1), (2, vI v2), (3, vI v3), (4, vI v4)], [], hp q)) rfl (hK v4 q))))

def Mo_addWord_b168 (q : zM) (v1 : Int) (v2 : Int) (v3 : Int) (v4 : Int) : Option (Int × zM) :=
  (Mo_done q v2).bind fun r_20 =>
    some (r_20.1, r_20.2)
theorem T_Mo_addWord_b168 {E : zE} (q : zM) (v1 : Int) (v2 : Int) (v3 : Int) (v4 : Int) : SimV E 137 (0, 0, 168, [(0, vR (some 126)), (1, vI v1), (2, vI v2), (3, vI v3), (4, vI v4)], [], hp q) eI (Mo_addWord_b168 q v1 v2 v3 v4) := by
  unfold Mo_addWord_b168
  exact S_run 2 (f' := (0, 0, 170, [(0, vR (some 126)), (1, vI v1), (2, vI v2), (3, vI v3), (4, vI v4)], [vI v2, vR (some 126)], hp q)) rfl (S_call (m' := 117) (args := [vR (some 126), vI v2]) (h := hp q) (k := fun r => (0, 0, 173, [(0, vR (some 126)), (1, vI v1), (2, vI v2), (3, vI v3), (4, vI v4)], r.1.toList ++ [], r.2)) rfl (T_Mo_done q v2) (fun r_20 => S_run 0 (f' := (0, 0, 173, [(0, vR (some 126)), (1, vI v1), (2, vI v2), (3, vI v3), (4, vI v4)], [vI r_20.1], hp r_20.2)) rfl (S_ret rfl)))

def Mo_addWord_b158 (q : zM) (v1 : Int) (v2 : Int) (v3 : Int) (v4 : Int) : Option (Int × zM) :=
  Mo_addWord_b168 (qs q 127 0 ((q.1 127 0) + (1 : Int))) v1 v2 v3 v4
theorem T_Mo_addWord_b158 {E : zE} (q : zM) (v1 : Int) (v2 : Int) (v3 : Int) (v4 : Int) : SimV E 137 (0, 0, 158, [(0, vR (some 126)), (1, vI v1), (2, vI v2), (3, vI v3), (4, vI v4)], [], hp q) eI (Mo_addWord_b158 q v1 v2 v3 v4) := by
  unfold Mo_addWord_b158
  exact S_run 8 (f' := (0, 0, 168, [(0, vR (some 126)), (1, vI v1), (2, vI v2), (3, vI v3), (4, vI v4)], [], hp (qs q 127 0 ((q.1 127 0) + (1 : Int))))) rfl (T_Mo_addWord_b168 (qs q 127 0 ((q.1 127 0) + (1 : Int))) v1 v2 v3 v4)

def Mo_addWord_b76 (q : zM) (v1 : Int) (v2 : Int) (v3 : Int) : Option (Int × zM) :=
  Mo_addWord_L79 v1 v2 v3 (fun v4_15 q_16 => 
    ck (wrap (v3 + (2 : Int))) 244 (
      Mo_addWord_b158 (qs q_16 127 (wrap (v3 + (2 : Int))).toNat (wor (wor (wor (q_16.1 126 9) (wshl (q_16.1 126 10) (4 : Int))) (wshl (q_16.1 126 11) (8 : Int))) (wshl (q_16.1 126 12) (12 : Int)))) v1 v2 v3 v4_15)) 5000 (0 : Int) q
theorem T_Mo_addWord_b76 {E : zE} (q : zM) (v1 : Int) (v2 : Int) (v3 : Int) : SimV E 137 (0, 0, 76, [(0, vR (some 126)), (1, vI v1), (2, vI v2), (3, vI v3)], [], hp q) eI (Mo_addWord_b76 q v1 v2 v3) := by
  unfold Mo_addWord_b76
  exact S_run 2 (f' := (0, 0, 79, [(0, vR (some 126)), (1, vI v1), (2, vI v2), (3, vI v3), (4, vI (0 : Int))], [], hp q)) rfl (T_Mo_addWord_L79 v1 v2 v3 (fun v4_15 q_16 => S_run 22 (f' := (0, 0, 157, [(0, vR (some 126)), (1, vI v1), (2, vI v2), (3, vI v3), (4, vI v4_15)], [vI (wor (wor (wor (q_16.1 126 9) (wshl (q_16.1 126 10) (4 : Int))) (wshl (q_16.1 126 11) (8 : Int))) (wshl (q_16.1 126 12) (12 : Int))), vI (v3 + (2 : Int)), vR (some 127)], hp q_16)) rfl (S_ck (n := 244) (fun h_17 => S_go (H_iast rfl rfl rfl h_17) (S_run 0 (f' := (0, 0, 158, [(0, vR (some 126)), (1, vI v1), (2, vI v2), (3, vI v3), (4, vI v4_15)], [], hp (qs q_16 127 (wrap (v3 + (2 : Int))).toNat (wor (wor (wor (q_16.1 126 9) (wshl (q_16.1 126 10) (4 : Int))) (wshl (q_16.1 126 11) (8 : Int))) (wshl (q_16.1 126 12) (12 : Int)))))) rfl (T_Mo_addWord_b158 (qs q_16 127 (wrap (v3 + (2 : Int))).toNat (wor (wor (wor (q_16.1 126 9) (wshl (q_16.1 126 10) (4 : Int))) (wshl (q_16.1 126 11) (8 : Int))) (wshl (q_16.1 126 12) (12 : Int)))) v1 v2 v3 v4_15))))) 5000 (0 : Int) q)

def Mo_addWord_b67 (q : zM) (v1 : Int) (v2 : Int) (v3 : Int) : Option (Int × zM) :=
  ck (wrap (v3 + (1 : Int))) 244 (
    Mo_addWord_b76 (qs q 127 (wrap (v3 + (1 : Int))).toNat (0 : Int)) v1 v2 v3)
theorem T_Mo_addWord_b67 {E : zE} (q : zM) (v1 : Int) (v2 : Int) (v3 : Int) : SimV E 137 (0, 0, 67, [(0, vR (some 126)), (1, vI v1), (2, vI v2), (3, vI v3)], [], hp q) eI (Mo_addWord_b67 q v1 v2 v3) := by
  unfold Mo_addWord_b67
  exact S_run 6 (f' := (0, 0, 75, [(0, vR (some 126)), (1, vI v1), (2, vI v2), (3, vI v3)], [vI (0 : Int), vI (v3 + (1 : Int)), vR (some 127)], hp q)) rfl (S_ck (n := 244) (fun h_10 => S_go (H_iast rfl rfl rfl h_10) (S_run 0 (f' := (0, 0, 76, [(0, vR (some 126)), (1, vI v1), (2, vI v2), (3, vI v3)], [], hp (qs q 127 (wrap (v3 + (1 : Int))).toNat (0 : Int)))) rfl (T_Mo_addWord_b76 (qs q 127 (wrap (v3 + (1 : Int))).toNat (0 : Int)) v1 v2 v3))))

def Mo_addWord (q : zM)  : Option (Int × zM) :=
  (Mo_wordFault q ).bind fun r_1 =>
    if wrap r_1.1 < (0 : Int) then
      (Mo_wordWith r_1.2 (r_1.2.1 126 9)).bind fun r_3 =>
        if wrap r_3 < (0 : Int) then
          if wrap (r_1.2.1 127 0) = (40 : Int) then
            some ((-3 : Int), r_1.2)
          else
            (Mo_begin r_1.2 ).bind fun r_7 =>
              ck (wrap ((20 : Int) + ((3 : Int) * (r_7.1 127 0)))) 244 (
                Mo_addWord_b67 (qs r_7 127 (wrap ((20 : Int) + ((3 : Int) * (r_7.1 127 0)))).toNat (0 : Int)) r_1.1 (r_7.1 127 0) ((20 : Int) + ((3 : Int) * (r_7.1 127 0))))
        else
          some ((-4 : Int), r_1.2)
    else
      some ((-100 : Int) - r_1.1, r_1.2)
theorem T_Mo_addWord {E : zE} (q : zM)  : SimV E 137 (entF [vR (some 126)] (hp q)) eI (Mo_addWord q ) := by
  unfold Mo_addWord
  exact S_run 0 (f' := (0, 0, 0, [(0, vR (some 126))], [], hp q)) rfl (S_run 1 (f' := (0, 0, 1, [(0, vR (some 126))], [vR (some 126)], hp q)) rfl (S_call (m' := 135) (args := [vR (some 126)]) (h := hp q) (k := fun r => (0, 0, 4, [(0, vR (some 126))], r.1.toList ++ [], r.2)) rfl (T_Mo_wordFault q ) (fun r_1 => S_run 2 (f' := (0, 0, 6, [(0, vR (some 126)), (1, vI r_1.1)], [vI r_1.1], hp r_1.2)) rfl (S_ite (fun h_2 => S_go (J_if2 rfl rfl (B_lt h_2)) (S_run 3 (f' := (0, 0, 19, [(0, vR (some 126)), (1, vI r_1.1)], [vI (r_1.2.1 126 9), vR (some 126)], hp r_1.2)) rfl (S_call (m' := 136) (args := [vR (some 126), vI (r_1.2.1 126 9)]) (h := hp r_1.2) (k := fun r => (0, 0, 22, [(0, vR (some 126)), (1, vI r_1.1)], r.1.toList ++ [], r.2)) rfl (T_Mo_wordWith r_1.2 (r_1.2.1 126 9)) (fun r_3 => S_run 0 (f' := (0, 0, 22, [(0, vR (some 126)), (1, vI r_1.1)], [vI r_3], hp r_1.2)) rfl (S_ite (fun h_4 => S_go (J_if2 rfl rfl (B_lt h_4)) (S_run 5 (f' := (0, 0, 36, [(0, vR (some 126)), (1, vI r_1.1)], [vI (40 : Int), vI (r_1.2.1 127 0)], hp r_1.2)) rfl (S_ite (fun h_6 => S_go (J_icmp2 rfl rfl wl_40 (B_ne h_6)) (S_run 1 (f' := (0, 0, 41, [(0, vR (some 126)), (1, vI r_1.1)], [vI (-3 : Int)], hp r_1.2)) rfl (S_ret rfl))) (fun h_6 => S_go (J_icmp2 rfl rfl wl_40 (B_ne' h_6)) (S_run 1 (f' := (0, 0, 43, [(0, vR (some 126)), (1, vI r_1.1)], [vR (some 126)], hp r_1.2)) rfl (S_call (m' := 116) (args := [vR (some 126)]) (h := hp r_1.2) (k := fun r => (0, 0, 46, [(0, vR (some 126)), (1, vI r_1.1)], r.1.toList ++ [], r.2)) rfl (T_Mo_begin r_1.2 ) (fun r_7 => S_run 15 (f' := (0, 0, 66, [(0, vR (some 126)), (1, vI r_1.1), (2, vI (r_7.1 127 0)), (3, vI ((20 : Int) + ((3 : Int) * (r_7.1 127 0))))], [vI (0 : Int), vI ((20 : Int) + ((3 : Int) * (r_7.1 127 0))), vR (some 127)], hp r_7)) rfl (S_ck (n := 244) (fun h_9 => S_go (H_iast rfl rfl rfl h_9) (S_run 0 (f' := (0, 0, 67, [(0, vR (some 126)), (1, vI r_1.1), (2, vI (r_7.1 127 0)), (3, vI ((20 : Int) + ((3 : Int) * (r_7.1 127 0))))], [], hp (qs r_7 127 (wrap ((20 : Int) + ((3 : Int) * (r_7.1 127 0)))).toNat (0 : Int)))) rfl (T_Mo_addWord_b67 (qs r_7 127 (wrap ((20 : Int) + ((3 : Int) * (r_7.1 127 0)))).toNat (0 : Int)) r_1.1 (r_7.1 127 0) ((20 : Int) + ((3 : Int) * (r_7.1 127 0)))))))))))))) (fun h_4 => S_go (J_if2 rfl rfl (B_lt' h_4)) (S_run 1 (f' := (0, 0, 27, [(0, vR (some 126)), (1, vI r_1.1)], [vI (-4 : Int)], hp r_1.2)) rfl (S_ret rfl)))))))) (fun h_2 => S_go (J_if2 rfl rfl (B_lt' h_2)) (S_run 3 (f' := (0, 0, 13, [(0, vR (some 126)), (1, vI r_1.1)], [vI ((-100 : Int) - r_1.1)], hp r_1.2)) rfl (S_ret rfl)))))))

def Mo_find_L18  (K : Int → Int → zM → Option (Int × zM)) : Nat → Int → Int → zM → Option (Int × zM)
  | 0, _, _, _ => none
  | n + 1, v1, v2, q =>
    if wrap v2 < wrap (q.1 126 6) then
      if wrap v1 = (0 : Int) then
        K v1 v2 q
      else
        ck (wrap v2) 40 (
          (Mo_isLetter q (q.1 132 (wrap v2).toNat)).bind fun r_5 =>
            ck (wrap v2) 40 (
              ck (wrap v2) 9 (
                Mo_find_L18 K n r_5 (v2 + 1) (qs q 133 (wrap v2).toNat (q.1 132 (wrap v2).toNat)))))
    else
      K v1 v2 q
theorem T_Mo_find_L18 {E : zE}  {K : Int → Int → zM → Option (Int × zM)} (hK : ∀ (v1 : Int) (v2 : Int) (q : zM), SimV E 138 (0, 0, 58, [(0, vR (some 126)), (1, vI v1), (2, vI v2)], [], hp q) eI (K v1 v2 q)) : ∀ (n : Nat) (v1 : Int) (v2 : Int) (q : zM), SimV E 138 (0, 0, 18, [(0, vR (some 126)), (1, vI v1), (2, vI v2)], [], hp q) eI (Mo_find_L18 K n v1 v2 q) := by
  intro n
  induction n with
  | zero => intro _ _ _; exact S_none
  | succ n ih =>
    intro v1 v2 q
    rw [Mo_find_L18]
    exact S_run 3 (f' := (0, 0, 23, [(0, vR (some 126)), (1, vI v1), (2, vI v2)], [vI (q.1 126 6), vI v2], hp q)) rfl (S_ite (fun h_2 => S_go (J_icmp2 rfl rfl rfl (B_ge h_2)) (S_run 1 (f' := (0, 0, 27, [(0, vR (some 126)), (1, vI v1), (2, vI v2)], [vI v1], hp q)) rfl (S_ite (fun h_3 => S_go (J_if2 rfl rfl (B_eq h_3)) (S_run 0 (f' := (0, 0, 58, [(0, vR (some 126)), (1, vI v1), (2, vI v2)], [], hp q)) rfl (hK v1 v2 q))) (fun h_3 => S_go (J_if2 rfl rfl (B_eq' h_3)) (S_run 3 (f' := (0, 0, 35, [(0, vR (some 126)), (1, vI v1), (2, vI v2)], [vI v2, vR (some 132)], hp q)) rfl (S_ck (n := 40) (fun h_4 => S_go (H_cald rfl rfl rfl h_4) (S_run 0 (f' := (0, 0, 36, [(0, vR (some 126)), (1, vI v1), (2, vI v2)], [vI (q.1 132 (wrap v2).toNat)], hp q)) rfl (S_call (m' := 132) (args := [vI (q.1 132 (wrap v2).toNat)]) (h := hp q) (k := fun r => (0, 0, 39, [(0, vR (some 126)), (1, vI v1), (2, vI v2)], r.1.toList ++ [], r.2)) rfl (T_Mo_isLetter q (q.1 132 (wrap v2).toNat)) (fun r_5 => S_run 7 (f' := (0, 0, 50, [(0, vR (some 126)), (1, vI r_5), (2, vI v2)], [vI v2, vR (some 132), vI v2, vR (some 133)], hp q)) rfl (S_ck (n := 40) (fun h_6 => S_go (H_cald rfl rfl rfl h_6) (S_run 0 (f' := (0, 0, 51, [(0, vR (some 126)), (1, vI r_5), (2, vI v2)], [vI (q.1 132 (wrap v2).toNat), vI v2, vR (some 133)], hp q)) rfl (S_ck (n := 9) (fun h_7 => S_go (H_iast rfl rfl rfl h_7) (S_run 2 (f' := (0, 0, 18, [(0, vR (some 126)), (1, vI r_5), (2, vI (v2 + 1))], [], hp (qs q 133 (wrap v2).toNat (q.1 132 (wrap v2).toNat)))) rfl (ih r_5 (v2 + 1) (qs q 133 (wrap v2).toNat (q.1 132 (wrap v2).toNat))))))))))))))))))) (fun h_2 => S_go (J_icmp2 rfl rfl rfl (B_ge' h_2)) (S_run 0 (f' := (0, 0, 58, [(0, vR (some 126)), (1, vI v1), (2, vI v2)], [], hp q)) rfl (hK v1 v2 q))))

def Mo_find_b5 (q : zM)  : Option (Int × zM) :=
  (Mo_in q (q.1 126 6) (1 : Int) (8 : Int)).bind fun r_1 =>
    Mo_find_L18  (fun v1_8 v2_9 q_10 => 
      if wrap v1_8 = (0 : Int) then
        some ((-5 : Int), q_10)
      else
        (Mo_wordWith q_10 (q_10.1 126 6)).bind fun r_12 =>
          some (r_12, q_10)) 5000 r_1 (0 : Int) q
theorem T_Mo_find_b5 {E : zE} (q : zM)  : SimV E 138 (0, 0, 5, [(0, vR (some 126))], [], hp q) eI (Mo_find_b5 q ) := by
  unfold Mo_find_b5
  exact S_run 4 (f' := (0, 0, 12, [(0, vR (some 126))], [vI (8 : Int), vI (1 : Int), vI (q.1 126 6)], hp q)) rfl (S_call (m' := 115) (args := [vI (q.1 126 6), vI (1 : Int), vI (8 : Int)]) (h := hp q) (k := fun r => (0, 0, 15, [(0, vR (some 126))], r.1.toList ++ [], r.2)) rfl (T_Mo_in q (q.1 126 6) (1 : Int) (8 : Int)) (fun r_1 => S_run 3 (f' := (0, 0, 18, [(0, vR (some 126)), (1, vI r_1), (2, vI (0 : Int))], [], hp q)) rfl (T_Mo_find_L18  (fun v1_8 v2_9 q_10 => S_run 1 (f' := (0, 0, 59, [(0, vR (some 126)), (1, vI v1_8), (2, vI v2_9)], [vI v1_8], hp q_10)) rfl (S_ite (fun h_11 => S_go (J_if2 rfl rfl (B_eq h_11)) (S_run 1 (f' := (0, 0, 75, [(0, vR (some 126)), (1, vI v1_8), (2, vI v2_9)], [vI (-5 : Int)], hp q_10)) rfl (S_ret rfl))) (fun h_11 => S_go (J_if2 rfl rfl (B_eq' h_11)) (S_run 3 (f' := (0, 0, 67, [(0, vR (some 126)), (1, vI v1_8), (2, vI v2_9)], [vI (q_10.1 126 6), vR (some 126)], hp q_10)) rfl (S_call (m' := 136) (args := [vR (some 126), vI (q_10.1 126 6)]) (h := hp q_10) (k := fun r => (0, 0, 70, [(0, vR (some 126)), (1, vI v1_8), (2, vI v2_9)], r.1.toList ++ [], r.2)) rfl (T_Mo_wordWith q_10 (q_10.1 126 6)) (fun r_12 => S_run 1 (f' := (0, 0, 75, [(0, vR (some 126)), (1, vI v1_8), (2, vI v2_9)], [vI r_12], hp q_10)) rfl (S_ret rfl))))))) 5000 r_1 (0 : Int) q)))

def Mo_find (q : zM)  : Option (Int × zM) :=
  Mo_find_b5 (qs q 126 9 (0 : Int))
theorem T_Mo_find {E : zE} (q : zM)  : SimV E 138 (entF [vR (some 126)] (hp q)) eI (Mo_find q ) := by
  unfold Mo_find
  exact S_run 0 (f' := (0, 0, 0, [(0, vR (some 126))], [], hp q)) rfl (S_run 3 (f' := (0, 0, 5, [(0, vR (some 126))], [], hp (qs q 126 9 (0 : Int)))) rfl (T_Mo_find_b5 (qs q 126 9 (0 : Int))))

def Mo_noWord (q : zM) (v1 : Int) : Option Int :=
  (Mo_in q v1 (0 : Int) ((q.1 127 0) - (1 : Int))).bind fun r_2 =>
    if wrap r_2 = (0 : Int) then
      some (1 : Int)
    else
      some (0 : Int)
theorem T_Mo_noWord {E : zE} (q : zM) (v1 : Int) : SimV E 121 (entF [vR (some 126), vI v1] (hp q)) (eP q) (Mo_noWord q v1) := by
  unfold Mo_noWord
  exact S_run 0 (f' := (0, 0, 0, [(0, vR (some 126)), (1, vI v1)], [], hp q)) rfl (S_run 8 (f' := (0, 0, 10, [(0, vR (some 126)), (1, vI v1)], [vI ((q.1 127 0) - (1 : Int)), vI (0 : Int), vI v1], hp q)) rfl (S_call (m' := 115) (args := [vI v1, vI (0 : Int), vI ((q.1 127 0) - (1 : Int))]) (h := hp q) (k := fun r => (0, 0, 13, [(0, vR (some 126)), (1, vI v1)], r.1.toList ++ [], r.2)) rfl (T_Mo_in q v1 (0 : Int) ((q.1 127 0) - (1 : Int))) (fun r_2 => S_run 0 (f' := (0, 0, 13, [(0, vR (some 126)), (1, vI v1)], [vI r_2], hp q)) rfl (S_ite (fun h_3 => S_go (J_if2 rfl rfl (B_ne h_3)) (S_run 2 (f' := (0, 0, 21, [(0, vR (some 126)), (1, vI v1)], [vI (1 : Int)], hp q)) rfl (S_ret rfl))) (fun h_3 => S_go (J_if2 rfl rfl (B_ne' h_3)) (S_run 1 (f' := (0, 0, 21, [(0, vR (some 126)), (1, vI v1)], [vI (0 : Int)], hp q)) rfl (S_ret rfl)))))))

def Mo_size (q : zM) (v1 : Int) : Option Int :=
  ck (wrap ((140 : Int) + ((13 : Int) * v1))) 244 (
    some (q.1 127 (wrap ((140 : Int) + ((13 : Int) * v1))).toNat))
theorem T_Mo_size {E : zE} (q : zM) (v1 : Int) : SimV E 140 (entF [vR (some 126), vI v1] (hp q)) (eP q) (Mo_size q v1) := by
  unfold Mo_size
  exact S_run 0 (f' := (0, 0, 0, [(0, vR (some 126)), (1, vI v1)], [], hp q)) rfl (S_run 7 (f' := (0, 0, 12, [(0, vR (some 126)), (1, vI v1)], [vI ((140 : Int) + ((13 : Int) * v1)), vR (some 127)], hp q)) rfl (S_ck (n := 244) (fun h_1 => S_go (H_iald rfl rfl rfl h_1) (S_run 0 (f' := (0, 0, 13, [(0, vR (some 126)), (1, vI v1)], [vI (q.1 127 (wrap ((140 : Int) + ((13 : Int) * v1))).toNat)], hp q)) rfl (S_ret rfl)))))

def Mo_wordIn (q : zM) (v1 : Int) (v2 : Int) : Option Int :=
  ck (wrap ((((140 : Int) + ((13 : Int) * v1)) + (1 : Int)) + v2)) 244 (
    some (q.1 127 (wrap ((((140 : Int) + ((13 : Int) * v1)) + (1 : Int)) + v2)).toNat))
theorem T_Mo_wordIn {E : zE} (q : zM) (v1 : Int) (v2 : Int) : SimV E 141 (entF [vR (some 126), vI v1, vI v2] (hp q)) (eP q) (Mo_wordIn q v1 v2) := by
  unfold Mo_wordIn
  exact S_run 0 (f' := (0, 0, 0, [(0, vR (some 126)), (1, vI v1), (2, vI v2)], [], hp q)) rfl (S_run 11 (f' := (0, 0, 16, [(0, vR (some 126)), (1, vI v1), (2, vI v2)], [vI ((((140 : Int) + ((13 : Int) * v1)) + (1 : Int)) + v2), vR (some 127)], hp q)) rfl (S_ck (n := 244) (fun h_1 => S_go (H_iald rfl rfl rfl h_1) (S_run 0 (f' := (0, 0, 17, [(0, vR (some 126)), (1, vI v1), (2, vI v2)], [vI (q.1 127 (wrap ((((140 : Int) + ((13 : Int) * v1)) + (1 : Int)) + v2)).toNat)], hp q)) rfl (S_ret rfl)))))

def Mo_uses_L5 (q : zM) (v1 : Int) (v2 : Int) (K : Int → Int → Option Int) : Nat → Int → Int → Option Int
  | 0, _, _ => none
  | n + 1, v3, v4 =>
    (Mo_size q v1).bind fun r_1 =>
      if wrap v4 < wrap r_1 then
        if wrap v3 = (0 : Int) then
          (Mo_wordIn q v1 v4).bind fun r_4 =>
            if wrap r_4 = wrap v2 then
              Mo_uses_L5 q v1 v2 K n (1 : Int) (v4 + 1)
            else
              Mo_uses_L5 q v1 v2 K n (0 : Int) (v4 + 1)
        else
          Mo_uses_L5 q v1 v2 K n (1 : Int) (v4 + 1)
      else
        K v3 v4
theorem T_Mo_uses_L5 {E : zE} (q : zM) (v1 : Int) (v2 : Int) {K : Int → Int → Option Int} (hK : ∀ (v3 : Int) (v4 : Int), SimV E 142 (0, 0, 42, [(0, vR (some 126)), (1, vI v1), (2, vI v2), (3, vI v3), (4, vI v4)], [], hp q) (eP q) (K v3 v4)) : ∀ (n : Nat) (v3 : Int) (v4 : Int), SimV E 142 (0, 0, 5, [(0, vR (some 126)), (1, vI v1), (2, vI v2), (3, vI v3), (4, vI v4)], [], hp q) (eP q) (Mo_uses_L5 q v1 v2 K n v3 v4) := by
  intro n
  induction n with
  | zero => intro _ _; exact S_none
  | succ n ih =>
    intro v3 v4
    rw [Mo_uses_L5]
    exact S_run 3 (f' := (0, 0, 9, [(0, vR (some 126)), (1, vI v1), (2, vI v2), (3, vI v3), (4, vI v4)], [vI v1, vR (some 126), vI v4], hp q)) rfl (S_call (m' := 140) (args := [vR (some 126), vI v1]) (h := hp q) (k := fun r => (0, 0, 12, [(0, vR (some 126)), (1, vI v1), (2, vI v2), (3, vI v3), (4, vI v4)], r.1.toList ++ [vI v4], r.2)) rfl (T_Mo_size q v1) (fun r_1 => S_run 0 (f' := (0, 0, 12, [(0, vR (some 126)), (1, vI v1), (2, vI v2), (3, vI v3), (4, vI v4)], [vI r_1, vI v4], hp q)) rfl (S_ite (fun h_2 => S_go (J_icmp2 rfl rfl rfl (B_ge h_2)) (S_run 1 (f' := (0, 0, 16, [(0, vR (some 126)), (1, vI v1), (2, vI v2), (3, vI v3), (4, vI v4)], [vI v3], hp q)) rfl (S_ite (fun h_3 => S_go (J_if2 rfl rfl (B_ne h_3)) (S_run 3 (f' := (0, 0, 23, [(0, vR (some 126)), (1, vI v1), (2, vI v2), (3, vI v3), (4, vI v4)], [vI v4, vI v1, vR (some 126)], hp q)) rfl (S_call (m' := 141) (args := [vR (some 126), vI v1, vI v4]) (h := hp q) (k := fun r => (0, 0, 26, [(0, vR (some 126)), (1, vI v1), (2, vI v2), (3, vI v3), (4, vI v4)], r.1.toList ++ [], r.2)) rfl (T_Mo_wordIn q v1 v4) (fun r_4 => S_run 1 (f' := (0, 0, 27, [(0, vR (some 126)), (1, vI v1), (2, vI v2), (3, vI v3), (4, vI v4)], [vI v2, vI r_4], hp q)) rfl (S_ite (fun h_5 => S_go (J_icmp2 rfl rfl rfl (B_ne h_5)) (S_run 5 (f' := (0, 0, 5, [(0, vR (some 126)), (1, vI v1), (2, vI v2), (3, vI (1 : Int)), (4, vI (v4 + 1))], [], hp q)) rfl (ih (1 : Int) (v4 + 1)))) (fun h_5 => S_go (J_icmp2 rfl rfl rfl (B_ne' h_5)) (S_run 4 (f' := (0, 0, 5, [(0, vR (some 126)), (1, vI v1), (2, vI v2), (3, vI (0 : Int)), (4, vI (v4 + 1))], [], hp q)) rfl (ih (0 : Int) (v4 + 1))))))))) (fun h_3 => S_go (J_if2 rfl rfl (B_ne' h_3)) (S_run 5 (f' := (0, 0, 5, [(0, vR (some 126)), (1, vI v1), (2, vI v2), (3, vI (1 : Int)), (4, vI (v4 + 1))], [], hp q)) rfl (ih (1 : Int) (v4 + 1))))))) (fun h_2 => S_go (J_icmp2 rfl rfl rfl (B_ge' h_2)) (S_run 0 (f' := (0, 0, 42, [(0, vR (some 126)), (1, vI v1), (2, vI v2), (3, vI v3), (4, vI v4)], [], hp q)) rfl (hK v3 v4))))))

def Mo_uses (q : zM) (v1 : Int) (v2 : Int) : Option Int :=
  Mo_uses_L5 q v1 v2 (fun v3_6 v4_7 => 
    if wrap v3_6 = 0 ∨ wrap v3_6 = 1 then some v3_6 else none) 5000 (0 : Int) (0 : Int)
theorem T_Mo_uses {E : zE} (q : zM) (v1 : Int) (v2 : Int) : SimV E 142 (entF [vR (some 126), vI v1, vI v2] (hp q)) (eP q) (Mo_uses q v1 v2) := by
  unfold Mo_uses
  exact S_run 0 (f' := (0, 0, 0, [(0, vR (some 126)), (1, vI v1), (2, vI v2)], [], hp q)) rfl (S_run 4 (f' := (0, 0, 5, [(0, vR (some 126)), (1, vI v1), (2, vI v2), (3, vI (0 : Int)), (4, vI (0 : Int))], [], hp q)) rfl (T_Mo_uses_L5 q v1 v2 (fun v3_6 v4_7 => S_run 1 (f' := (0, 0, 43, [(0, vR (some 126)), (1, vI v1), (2, vI v2), (3, vI v3_6), (4, vI v4_7)], [vI v3_6], hp q)) rfl (S_ite (fun h_8 => S_ret (H_retb rfl rfl rfl h_8)) (fun _ => S_none))) 5000 (0 : Int) (0 : Int)))

def Mo_empty_L2 (v1 : Int) (K : Int → zM → Option zM) : Nat → Int → zM → Option zM
  | 0, _, _ => none
  | n + 1, v2, q =>
    if wrap v2 < (13 : Int) then
      ck (wrap (((140 : Int) + ((13 : Int) * v1)) + v2)) 244 (
        Mo_empty_L2 v1 K n (v2 + 1) (qs q 127 (wrap (((140 : Int) + ((13 : Int) * v1)) + v2)).toNat (0 : Int)))
    else
      K v2 q
theorem T_Mo_empty_L2 {E : zE} (v1 : Int) {K : Int → zM → Option zM} (hK : ∀ (v2 : Int) (q : zM), SimV E 144 (0, 0, 30, [(0, vR (some 126)), (1, vI v1), (2, vI v2)], [], hp q) eV (K v2 q)) : ∀ (n : Nat) (v2 : Int) (q : zM), SimV E 144 (0, 0, 2, [(0, vR (some 126)), (1, vI v1), (2, vI v2)], [], hp q) eV (Mo_empty_L2 v1 K n v2 q) := by
  intro n
  induction n with
  | zero => intro _ _; exact S_none
  | succ n ih =>
    intro v2 q
    rw [Mo_empty_L2]
    exact S_run 2 (f' := (0, 0, 5, [(0, vR (some 126)), (1, vI v1), (2, vI v2)], [vI (13 : Int), vI v2], hp q)) rfl (S_ite (fun h_1 => S_go (J_icmp2 rfl rfl wl_13 (B_ge h_1)) (S_run 10 (f' := (0, 0, 23, [(0, vR (some 126)), (1, vI v1), (2, vI v2)], [vI (0 : Int), vI (((140 : Int) + ((13 : Int) * v1)) + v2), vR (some 127)], hp q)) rfl (S_ck (n := 244) (fun h_2 => S_go (H_iast rfl rfl rfl h_2) (S_run 2 (f' := (0, 0, 2, [(0, vR (some 126)), (1, vI v1), (2, vI (v2 + 1))], [], hp (qs q 127 (wrap (((140 : Int) + ((13 : Int) * v1)) + v2)).toNat (0 : Int)))) rfl (ih (v2 + 1) (qs q 127 (wrap (((140 : Int) + ((13 : Int) * v1)) + v2)).toNat (0 : Int)))))))) (fun h_1 => S_go (J_icmp2 rfl rfl wl_13 (B_ge' h_1)) (S_run 0 (f' := (0, 0, 30, [(0, vR (some 126)), (1, vI v1), (2, vI v2)], [], hp q)) rfl (hK v2 q))))

def Mo_empty (q : zM) (v1 : Int) : Option zM :=
  Mo_empty_L2 v1 (fun v2_3 q_4 => 
    some q_4) 5000 (0 : Int) q
theorem T_Mo_empty {E : zE} (q : zM) (v1 : Int) : SimV E 144 (entF [vR (some 126), vI v1] (hp q)) eV (Mo_empty q v1) := by
  unfold Mo_empty
  exact S_run 0 (f' := (0, 0, 0, [(0, vR (some 126)), (1, vI v1)], [], hp q)) rfl (S_run 2 (f' := (0, 0, 2, [(0, vR (some 126)), (1, vI v1), (2, vI (0 : Int))], [], hp q)) rfl (T_Mo_empty_L2 v1 (fun v2_3 q_4 => S_run 0 (f' := (0, 0, 30, [(0, vR (some 126)), (1, vI v1), (2, vI v2_3)], [], hp q_4)) rfl (S_ret rfl)) 5000 (0 : Int) q))

def Mo_removeWord_L48 (v1 : Int) (v2 : Int) (v3 : Int) (K : Int → zM → Option (Int × zM)) : Nat → Int → zM → Option (Int × zM)
  | 0, _, _ => none
  | n + 1, v4, q =>
    (Mo_size q v3).bind fun r_8 =>
      if wrap v4 < wrap r_8 then
        ck (wrap ((((140 : Int) + ((13 : Int) * v3)) + (1 : Int)) + v4)) 244 (
          (Mo_wordIn q v3 v4).bind fun r_11 =>
            if wrap v1 < wrap r_11 then
              ck (wrap ((((140 : Int) + ((13 : Int) * v3)) + (1 : Int)) + v4)) 244 (
                Mo_removeWord_L48 v1 v2 v3 K n (v4 + 1) (qs q 127 (wrap ((((140 : Int) + ((13 : Int) * v3)) + (1 : Int)) + v4)).toNat ((q.1 127 (wrap ((((140 : Int) + ((13 : Int) * v3)) + (1 : Int)) + v4)).toNat) - (1 : Int))))
            else
              ck (wrap ((((140 : Int) + ((13 : Int) * v3)) + (1 : Int)) + v4)) 244 (
                Mo_removeWord_L48 v1 v2 v3 K n (v4 + 1) (qs q 127 (wrap ((((140 : Int) + ((13 : Int) * v3)) + (1 : Int)) + v4)).toNat ((q.1 127 (wrap ((((140 : Int) + ((13 : Int) * v3)) + (1 : Int)) + v4)).toNat) - (0 : Int)))))
      else
        K v4 q
theorem T_Mo_removeWord_L48 {E : zE} (v1 : Int) (v2 : Int) (v3 : Int) {K : Int → zM → Option (Int × zM)} (hK : ∀ (v4 : Int) (q : zM), SimV E 146 (0, 0, 101, [(0, vR (some 126)), (1, vI v1), (2, vI v2), (3, vI v3), (4, vI v4)], [], hp q) eI (K v4 q)) : ∀ (n : Nat) (v4 : Int) (q : zM), SimV E 146 (0, 0, 48, [(0, vR (some 126)), (1, vI v1), (2, vI v2), (3, vI v3), (4, vI v4)], [], hp q) eI (Mo_removeWord_L48 v1 v2 v3 K n v4 q) := by
  intro n
  induction n with
  | zero => intro _ _; exact S_none
  | succ n ih =>
    intro v4 q
    rw [Mo_removeWord_L48]
    exact S_run 3 (f' := (0, 0, 52, [(0, vR (some 126)), (1, vI v1), (2, vI v2), (3, vI v3), (4, vI v4)], [vI v3, vR (some 126), vI v4], hp q)) rfl (S_call (m' := 140) (args := [vR (some 126), vI v3]) (h := hp q) (k := fun r => (0, 0, 55, [(0, vR (some 126)), (1, vI v1), (2, vI v2), (3, vI v3), (4, vI v4)], r.1.toList ++ [vI v4], r.2)) rfl (T_Mo_size q v3) (fun r_8 => S_run 0 (f' := (0, 0, 55, [(0, vR (some 126)), (1, vI v1), (2, vI v2), (3, vI v3), (4, vI v4)], [vI r_8, vI v4], hp q)) rfl (S_ite (fun h_9 => S_go (J_icmp2 rfl rfl rfl (B_ge h_9)) (S_run 12 (f' := (0, 0, 76, [(0, vR (some 126)), (1, vI v1), (2, vI v2), (3, vI v3), (4, vI v4)], [vI ((((140 : Int) + ((13 : Int) * v3)) + (1 : Int)) + v4), vR (some 127), vI ((((140 : Int) + ((13 : Int) * v3)) + (1 : Int)) + v4), vR (some 127)], hp q)) rfl (S_ck (n := 244) (fun h_10 => S_go (H_iald rfl rfl rfl h_10) (S_run 3 (f' := (0, 0, 81, [(0, vR (some 126)), (1, vI v1), (2, vI v2), (3, vI v3), (4, vI v4)], [vI v4, vI v3, vR (some 126), vI (q.1 127 (wrap ((((140 : Int) + ((13 : Int) * v3)) + (1 : Int)) + v4)).toNat), vI ((((140 : Int) + ((13 : Int) * v3)) + (1 : Int)) + v4), vR (some 127)], hp q)) rfl (S_call (m' := 141) (args := [vR (some 126), vI v3, vI v4]) (h := hp q) (k := fun r => (0, 0, 84, [(0, vR (some 126)), (1, vI v1), (2, vI v2), (3, vI v3), (4, vI v4)], r.1.toList ++ [vI (q.1 127 (wrap ((((140 : Int) + ((13 : Int) * v3)) + (1 : Int)) + v4)).toNat), vI ((((140 : Int) + ((13 : Int) * v3)) + (1 : Int)) + v4), vR (some 127)], r.2)) rfl (T_Mo_wordIn q v3 v4) (fun r_11 => S_run 1 (f' := (0, 0, 85, [(0, vR (some 126)), (1, vI v1), (2, vI v2), (3, vI v3), (4, vI v4)], [vI v1, vI r_11, vI (q.1 127 (wrap ((((140 : Int) + ((13 : Int) * v3)) + (1 : Int)) + v4)).toNat), vI ((((140 : Int) + ((13 : Int) * v3)) + (1 : Int)) + v4), vR (some 127)], hp q)) rfl (S_ite (fun h_12 => S_go (J_icmp2 rfl rfl rfl (B_le h_12)) (S_run 3 (f' := (0, 0, 94, [(0, vR (some 126)), (1, vI v1), (2, vI v2), (3, vI v3), (4, vI v4)], [vI ((q.1 127 (wrap ((((140 : Int) + ((13 : Int) * v3)) + (1 : Int)) + v4)).toNat) - (1 : Int)), vI ((((140 : Int) + ((13 : Int) * v3)) + (1 : Int)) + v4), vR (some 127)], hp q)) rfl (S_ck (n := 244) (fun h_14 => S_go (H_iast rfl rfl rfl h_14) (S_run 2 (f' := (0, 0, 48, [(0, vR (some 126)), (1, vI v1), (2, vI v2), (3, vI v3), (4, vI (v4 + 1))], [], hp (qs q 127 (wrap ((((140 : Int) + ((13 : Int) * v3)) + (1 : Int)) + v4)).toNat ((q.1 127 (wrap ((((140 : Int) + ((13 : Int) * v3)) + (1 : Int)) + v4)).toNat) - (1 : Int))))) rfl (ih (v4 + 1) (qs q 127 (wrap ((((140 : Int) + ((13 : Int) * v3)) + (1 : Int)) + v4)).toNat ((q.1 127 (wrap ((((140 : Int) + ((13 : Int) * v3)) + (1 : Int)) + v4)).toNat) - (1 : Int))))))))) (fun h_12 => S_go (J_icmp2 rfl rfl rfl (B_le' h_12)) (S_run 2 (f' := (0, 0, 94, [(0, vR (some 126)), (1, vI v1), (2, vI v2), (3, vI v3), (4, vI v4)], [vI ((q.1 127 (wrap ((((140 : Int) + ((13 : Int) * v3)) + (1 : Int)) + v4)).toNat) - (0 : Int)), vI ((((140 : Int) + ((13 : Int) * v3)) + (1 : Int)) + v4), vR (some 127)], hp q)) rfl (S_ck (n := 244) (fun h_13 => S_go (H_iast rfl rfl rfl h_13) (S_run 2 (f' := (0, 0, 48, [(0, vR (some 126)), (1, vI v1), (2, vI v2), (3, vI v3), (4, vI (v4 + 1))], [], hp (qs q 127 (wrap ((((140 : Int) + ((13 : Int) * v3)) + (1 : Int)) + v4)).toNat ((q.1 127 (wrap ((((140 : Int) + ((13 : Int) * v3)) + (1 : Int)) + v4)).toNat) - (0 : Int))))) rfl (ih (v4 + 1) (qs q 127 (wrap ((((140 : Int) + ((13 : Int) * v3)) + (1 : Int)) + v4)).toNat ((q.1 127 (wrap ((((140 : Int) + ((13 : Int) * v3)) + (1 : Int)) + v4)).toNat) - (0 : Int))))))))))))))))) (fun h_9 => S_go (J_icmp2 rfl rfl rfl (B_ge' h_9)) (S_run 0 (f' := (0, 0, 101, [(0, vR (some 126)), (1, vI v1), (2, vI v2), (3, vI v3), (4, vI v4)], [], hp q)) rfl (hK v4 q))))))

def Mo_removeWord_L18 (v1 : Int) (K : Int → Int → zM → Option (Int × zM)) : Nat → Int → Int → zM → Option (Int × zM)
  | 0, _, _, _ => none
  | n + 1, v2, v3, q =>
    if wrap v3 < wrap (q.1 127 3) then
      (Mo_uses q v3 v1).bind fun r_6 =>
        if wrap r_6 = (0 : Int) then
          Mo_removeWord_L48 v1 v2 v3 (fun v4_15 q_16 => 
            Mo_removeWord_L18 v1 K n v2 (v3 + 1) q_16) 5000 (0 : Int) q
        else
          (Mo_empty q v3).bind fun r_17 =>
            Mo_removeWord_L48 v1 (v2 + 1) v3 (fun v4_18 q_19 => 
              Mo_removeWord_L18 v1 K n (v2 + 1) (v3 + 1) q_19) 5000 (0 : Int) r_17
    else
      K v2 v3 q
theorem T_Mo_removeWord_L18 {E : zE} (v1 : Int) {K : Int → Int → zM → Option (Int × zM)} (hK : ∀ (v2 : Int) (v3 : Int) (q : zM), SimV E 146 (0, 0, 107, [(0, vR (some 126)), (1, vI v1), (2, vI v2), (3, vI v3)], [], hp q) eI (K v2 v3 q)) : ∀ (n : Nat) (v2 : Int) (v3 : Int) (q : zM), SimV E 146 (0, 0, 18, [(0, vR (some 126)), (1, vI v1), (2, vI v2), (3, vI v3)], [], hp q) eI (Mo_removeWord_L18 v1 K n v2 v3 q) := by
  intro n
  induction n with
  | zero => intro _ _ _; exact S_none
  | succ n ih =>
    intro v2 v3 q
    rw [Mo_removeWord_L18]
    exact S_run 5 (f' := (0, 0, 25, [(0, vR (some 126)), (1, vI v1), (2, vI v2), (3, vI v3)], [vI (q.1 127 3), vI v3], hp q)) rfl (S_ite (fun h_5 => S_go (J_icmp2 rfl rfl rfl (B_ge h_5)) (S_run 3 (f' := (0, 0, 31, [(0, vR (some 126)), (1, vI v1), (2, vI v2), (3, vI v3)], [vI v1, vI v3, vR (some 126)], hp q)) rfl (S_call (m' := 142) (args := [vR (some 126), vI v3, vI v1]) (h := hp q) (k := fun r => (0, 0, 34, [(0, vR (some 126)), (1, vI v1), (2, vI v2), (3, vI v3)], r.1.toList ++ [], r.2)) rfl (T_Mo_uses q v3 v1) (fun r_6 => S_run 0 (f' := (0, 0, 34, [(0, vR (some 126)), (1, vI v1), (2, vI v2), (3, vI v3)], [vI r_6], hp q)) rfl (S_ite (fun h_7 => S_go (J_if2 rfl rfl (B_eq h_7)) (S_run 2 (f' := (0, 0, 48, [(0, vR (some 126)), (1, vI v1), (2, vI v2), (3, vI v3), (4, vI (0 : Int))], [], hp q)) rfl (T_Mo_removeWord_L48 v1 v2 v3 (fun v4_15 q_16 => S_run 2 (f' := (0, 0, 18, [(0, vR (some 126)), (1, vI v1), (2, vI v2), (3, vI (v3 + 1))], [], hp q_16)) rfl (ih v2 (v3 + 1) q_16)) 5000 (0 : Int) q))) (fun h_7 => S_go (J_if2 rfl rfl (B_eq' h_7)) (S_run 2 (f' := (0, 0, 39, [(0, vR (some 126)), (1, vI v1), (2, vI v2), (3, vI v3)], [vI v3, vR (some 126)], hp q)) rfl (S_call (m' := 144) (args := [vR (some 126), vI v3]) (h := hp q) (k := fun r => (0, 0, 42, [(0, vR (some 126)), (1, vI v1), (2, vI v2), (3, vI v3)], r.1.toList ++ [], r.2)) rfl (T_Mo_empty q v3) (fun r_17 => S_run 3 (f' := (0, 0, 48, [(0, vR (some 126)), (1, vI v1), (2, vI (v2 + 1)), (3, vI v3), (4, vI (0 : Int))], [], hp r_17)) rfl (T_Mo_removeWord_L48 v1 (v2 + 1) v3 (fun v4_18 q_19 => S_run 2 (f' := (0, 0, 18, [(0, vR (some 126)), (1, vI v1), (2, vI (v2 + 1)), (3, vI (v3 + 1))], [], hp q_19)) rfl (ih (v2 + 1) (v3 + 1) q_19)) 5000 (0 : Int) r_17)))))))))) (fun h_5 => S_go (J_icmp2 rfl rfl rfl (B_ge' h_5)) (S_run 0 (f' := (0, 0, 107, [(0, vR (some 126)), (1, vI v1), (2, vI v2), (3, vI v3)], [], hp q)) rfl (hK v2 v3 q))))

def Mo_removeWord_L124 (v1 : Int) (v2 : Int) (K : Int → zM → Option (Int × zM)) : Nat → Int → zM → Option (Int × zM)
  | 0, _, _ => none
  | n + 1, v3, q =>
    if wrap v3 < wrap ((20 : Int) + ((3 : Int) * (q.1 127 0))) then
      ck (wrap (v3 + (3 : Int))) 244 (
        ck (wrap v3) 244 (
          Mo_removeWord_L124 v1 v2 K n (v3 + 1) (qs q 127 (wrap v3).toNat (q.1 127 (wrap (v3 + (3 : Int))).toNat))))
    else
      K v3 q
theorem T_Mo_removeWord_L124 {E : zE} (v1 : Int) (v2 : Int) {K : Int → zM → Option (Int × zM)} (hK : ∀ (v3 : Int) (q : zM), SimV E 146 (0, 0, 159, [(0, vR (some 126)), (1, vI v1), (2, vI v2), (3, vI v3)], [], hp q) eI (K v3 q)) : ∀ (n : Nat) (v3 : Int) (q : zM), SimV E 146 (0, 0, 124, [(0, vR (some 126)), (1, vI v1), (2, vI v2), (3, vI v3)], [], hp q) eI (Mo_removeWord_L124 v1 v2 K n v3 q) := by
  intro n
  induction n with
  | zero => intro _ _; exact S_none
  | succ n ih =>
    intro v3 q
    rw [Mo_removeWord_L124]
    exact S_run 9 (f' := (0, 0, 136, [(0, vR (some 126)), (1, vI v1), (2, vI v2), (3, vI v3)], [vI ((20 : Int) + ((3 : Int) * (q.1 127 0))), vI v3], hp q)) rfl (S_ite (fun h_26 => S_go (J_icmp2 rfl rfl rfl (B_ge h_26)) (S_run 8 (f' := (0, 0, 151, [(0, vR (some 126)), (1, vI v1), (2, vI v2), (3, vI v3)], [vI (v3 + (3 : Int)), vR (some 127), vI v3, vR (some 127)], hp q)) rfl (S_ck (n := 244) (fun h_27 => S_go (H_iald rfl rfl rfl h_27) (S_run 0 (f' := (0, 0, 152, [(0, vR (some 126)), (1, vI v1), (2, vI v2), (3, vI v3)], [vI (q.1 127 (wrap (v3 + (3 : Int))).toNat), vI v3, vR (some 127)], hp q)) rfl (S_ck (n := 244) (fun h_28 => S_go (H_iast rfl rfl rfl h_28) (S_run 2 (f' := (0, 0, 124, [(0, vR (some 126)), (1, vI v1), (2, vI v2), (3, vI (v3 + 1))], [], hp (qs q 127 (wrap v3).toNat (q.1 127 (wrap (v3 + (3 : Int))).toNat)))) rfl (ih (v3 + 1) (qs q 127 (wrap v3).toNat (q.1 127 (wrap (v3 + (3 : Int))).toNat))))))))))) (fun h_26 => S_go (J_icmp2 rfl rfl rfl (B_ge' h_26)) (S_run 0 (f' := (0, 0, 159, [(0, vR (some 126)), (1, vI v1), (2, vI v2), (3, vI v3)], [], hp q)) rfl (hK v3 q))))

def Mo_removeWord_b117 (q : zM) (v1 : Int) (v2 : Int) (v3 : Int) : Option (Int × zM) :=
  Mo_removeWord_L124 v1 v2 (fun v3_29 q_30 => 
    (Mo_done q_30 v2).bind fun r_31 =>
      some (r_31.1, r_31.2)) 5000 ((20 : Int) + ((3 : Int) * v1)) q
theorem T_Mo_removeWord_b117 {E : zE} (q : zM) (v1 : Int) (v2 : Int) (v3 : Int) : SimV E 146 (0, 0, 117, [(0, vR (some 126)), (1, vI v1), (2, vI v2), (3, vI v3)], [], hp q) eI (Mo_removeWord_b117 q v1 v2 v3) := by
  unfold Mo_removeWord_b117
  exact S_run 6 (f' := (0, 0, 124, [(0, vR (some 126)), (1, vI v1), (2, vI v2), (3, vI ((20 : Int) + ((3 : Int) * v1)))], [], hp q)) rfl (T_Mo_removeWord_L124 v1 v2 (fun v3_29 q_30 => S_run 2 (f' := (0, 0, 161, [(0, vR (some 126)), (1, vI v1), (2, vI v2), (3, vI v3_29)], [vI v2, vR (some 126)], hp q_30)) rfl (S_call (m' := 117) (args := [vR (some 126), vI v2]) (h := hp q_30) (k := fun r => (0, 0, 164, [(0, vR (some 126)), (1, vI v1), (2, vI v2), (3, vI v3_29)], r.1.toList ++ [], r.2)) rfl (T_Mo_done q_30 v2) (fun r_31 => S_run 0 (f' := (0, 0, 164, [(0, vR (some 126)), (1, vI v1), (2, vI v2), (3, vI v3_29)], [vI r_31.1], hp r_31.2)) rfl (S_ret rfl)))) 5000 ((20 : Int) + ((3 : Int) * v1)) q)

def Mo_removeWord (q : zM) (v1 : Int) : Option (Int × zM) :=
  (Mo_noWord q v1).bind fun r_1 =>
    if wrap r_1 = (0 : Int) then
      (Mo_begin q ).bind fun r_3 =>
        Mo_removeWord_L18 v1 (fun v2_20 v3_21 q_22 => 
          Mo_removeWord_b117 (qs q_22 127 0 ((q_22.1 127 0) - (1 : Int))) v1 v2_20 v3_21) 5000 (0 : Int) (0 : Int) r_3
    else
      some ((-1 : Int), q)
theorem T_Mo_removeWord {E : zE} (q : zM) (v1 : Int) : SimV E 146 (entF [vR (some 126), vI v1] (hp q)) eI (Mo_removeWord q v1) := by
  unfold Mo_removeWord
  exact S_run 0 (f' := (0, 0, 0, [(0, vR (some 126)), (1, vI v1)], [], hp q)) rfl (S_run 2 (f' := (0, 0, 2, [(0, vR (some 126)), (1, vI v1)], [vI v1, vR (some 126)], hp q)) rfl (S_call (m' := 121) (args := [vR (some 126), vI v1]) (h := hp q) (k := fun r => (0, 0, 5, [(0, vR (some 126)), (1, vI v1)], r.1.toList ++ [], r.2)) rfl (T_Mo_noWord q v1) (fun r_1 => S_run 0 (f' := (0, 0, 5, [(0, vR (some 126)), (1, vI v1)], [vI r_1], hp q)) rfl (S_ite (fun h_2 => S_go (J_if2 rfl rfl (B_eq h_2)) (S_run 1 (f' := (0, 0, 11, [(0, vR (some 126)), (1, vI v1)], [vR (some 126)], hp q)) rfl (S_call (m' := 116) (args := [vR (some 126)]) (h := hp q) (k := fun r => (0, 0, 14, [(0, vR (some 126)), (1, vI v1)], r.1.toList ++ [], r.2)) rfl (T_Mo_begin q ) (fun r_3 => S_run 4 (f' := (0, 0, 18, [(0, vR (some 126)), (1, vI v1), (2, vI (0 : Int)), (3, vI (0 : Int))], [], hp r_3)) rfl (T_Mo_removeWord_L18 v1 (fun v2_20 v3_21 q_22 => S_run 8 (f' := (0, 0, 117, [(0, vR (some 126)), (1, vI v1), (2, vI v2_20), (3, vI v3_21)], [], hp (qs q_22 127 0 ((q_22.1 127 0) - (1 : Int))))) rfl (T_Mo_removeWord_b117 (qs q_22 127 0 ((q_22.1 127 0) - (1 : Int))) v1 v2_20 v3_21)) 5000 (0 : Int) (0 : Int) r_3))))) (fun h_2 => S_go (J_if2 rfl rfl (B_eq' h_2)) (S_run 1 (f' := (0, 0, 9, [(0, vR (some 126)), (1, vI v1)], [vI (-1 : Int)], hp q)) rfl (S_ret rfl)))))))

def Mo_usedBut_L5 (q : zM) (v1 : Int) (v2 : Int) (K : Int → Int → Option Int) : Nat → Int → Int → Option Int
  | 0, _, _ => none
  | n + 1, v3, v4 =>
    if wrap v4 < wrap (q.1 127 3) then
      if wrap v4 = wrap v2 then
        Mo_usedBut_L5 q v1 v2 K n (v3 + (0 : Int)) (v4 + 1)
      else
        (Mo_uses q v4 v1).bind fun r_4 =>
          if wrap r_4 = (0 : Int) then
            Mo_usedBut_L5 q v1 v2 K n (v3 + (0 : Int)) (v4 + 1)
          else
            Mo_usedBut_L5 q v1 v2 K n (v3 + (1 : Int)) (v4 + 1)
    else
      K v3 v4
theorem T_Mo_usedBut_L5 {E : zE} (q : zM) (v1 : Int) (v2 : Int) {K : Int → Int → Option Int} (hK : ∀ (v3 : Int) (v4 : Int), SimV E 143 (0, 0, 46, [(0, vR (some 126)), (1, vI v1), (2, vI v2), (3, vI v3), (4, vI v4)], [], hp q) (eP q) (K v3 v4)) : ∀ (n : Nat) (v3 : Int) (v4 : Int), SimV E 143 (0, 0, 5, [(0, vR (some 126)), (1, vI v1), (2, vI v2), (3, vI v3), (4, vI v4)], [], hp q) (eP q) (Mo_usedBut_L5 q v1 v2 K n v3 v4) := by
  intro n
  induction n with
  | zero => intro _ _; exact S_none
  | succ n ih =>
    intro v3 v4
    rw [Mo_usedBut_L5]
    exact S_run 5 (f' := (0, 0, 13, [(0, vR (some 126)), (1, vI v1), (2, vI v2), (3, vI v3), (4, vI v4)], [vI (q.1 127 3), vI v4], hp q)) rfl (S_ite (fun h_2 => S_go (J_icmp2 rfl rfl rfl (B_ge h_2)) (S_run 3 (f' := (0, 0, 20, [(0, vR (some 126)), (1, vI v1), (2, vI v2), (3, vI v3), (4, vI v4)], [vI v2, vI v4, vI v3], hp q)) rfl (S_ite (fun h_3 => S_go (J_icmp2 rfl rfl rfl (B_eq h_3)) (S_run 5 (f' := (0, 0, 5, [(0, vR (some 126)), (1, vI v1), (2, vI v2), (3, vI (v3 + (0 : Int))), (4, vI (v4 + 1))], [], hp q)) rfl (ih (v3 + (0 : Int)) (v4 + 1)))) (fun h_3 => S_go (J_icmp2 rfl rfl rfl (B_eq' h_3)) (S_run 3 (f' := (0, 0, 27, [(0, vR (some 126)), (1, vI v1), (2, vI v2), (3, vI v3), (4, vI v4)], [vI v1, vI v4, vR (some 126), vI v3], hp q)) rfl (S_call (m' := 142) (args := [vR (some 126), vI v4, vI v1]) (h := hp q) (k := fun r => (0, 0, 30, [(0, vR (some 126)), (1, vI v1), (2, vI v2), (3, vI v3), (4, vI v4)], r.1.toList ++ [vI v3], r.2)) rfl (T_Mo_uses q v4 v1) (fun r_4 => S_run 0 (f' := (0, 0, 30, [(0, vR (some 126)), (1, vI v1), (2, vI v2), (3, vI v3), (4, vI v4)], [vI r_4, vI v3], hp q)) rfl (S_ite (fun h_5 => S_go (J_if2 rfl rfl (B_eq h_5)) (S_run 5 (f' := (0, 0, 5, [(0, vR (some 126)), (1, vI v1), (2, vI v2), (3, vI (v3 + (0 : Int))), (4, vI (v4 + 1))], [], hp q)) rfl (ih (v3 + (0 : Int)) (v4 + 1)))) (fun h_5 => S_go (J_if2 rfl rfl (B_eq' h_5)) (S_run 6 (f' := (0, 0, 5, [(0, vR (some 126)), (1, vI v1), (2, vI v2), (3, vI (v3 + (1 : Int))), (4, vI (v4 + 1))], [], hp q)) rfl (ih (v3 + (1 : Int)) (v4 + 1)))))))))))) (fun h_2 => S_go (J_icmp2 rfl rfl rfl (B_ge' h_2)) (S_run 0 (f' := (0, 0, 46, [(0, vR (some 126)), (1, vI v1), (2, vI v2), (3, vI v3), (4, vI v4)], [], hp q)) rfl (hK v3 v4))))

def Mo_usedBut (q : zM) (v1 : Int) (v2 : Int) : Option Int :=
  Mo_usedBut_L5 q v1 v2 (fun v3_6 v4_7 => 
    some v3_6) 5000 (0 : Int) (0 : Int)
theorem T_Mo_usedBut {E : zE} (q : zM) (v1 : Int) (v2 : Int) : SimV E 143 (entF [vR (some 126), vI v1, vI v2] (hp q)) (eP q) (Mo_usedBut q v1 v2) := by
  unfold Mo_usedBut
  exact S_run 0 (f' := (0, 0, 0, [(0, vR (some 126)), (1, vI v1), (2, vI v2)], [], hp q)) rfl (S_run 4 (f' := (0, 0, 5, [(0, vR (some 126)), (1, vI v1), (2, vI v2), (3, vI (0 : Int)), (4, vI (0 : Int))], [], hp q)) rfl (T_Mo_usedBut_L5 q v1 v2 (fun v3_6 v4_7 => S_run 1 (f' := (0, 0, 47, [(0, vR (some 126)), (1, vI v1), (2, vI v2), (3, vI v3_6), (4, vI v4_7)], [vI v3_6], hp q)) rfl (S_ret rfl)) 5000 (0 : Int) (0 : Int)))

def Mo_limit (q : zM) (v1 : Int) : Option Int :=
  ck (wrap (((20 : Int) + ((3 : Int) * v1)) + (2 : Int))) 244 (
    some (wshr (q.1 127 (wrap (((20 : Int) + ((3 : Int) * v1)) + (2 : Int))).toNat) (12 : Int)))
theorem T_Mo_limit {E : zE} (q : zM) (v1 : Int) : SimV E 126 (entF [vR (some 126), vI v1] (hp q)) (eP q) (Mo_limit q v1) := by
  unfold Mo_limit
  exact S_run 0 (f' := (0, 0, 0, [(0, vR (some 126)), (1, vI v1)], [], hp q)) rfl (S_run 9 (f' := (0, 0, 12, [(0, vR (some 126)), (1, vI v1)], [vI (((20 : Int) + ((3 : Int) * v1)) + (2 : Int)), vR (some 127)], hp q)) rfl (S_ck (n := 244) (fun h_1 => S_go (H_iald rfl rfl rfl h_1) (S_run 2 (f' := (0, 0, 16, [(0, vR (some 126)), (1, vI v1)], [vI (wshr (q.1 127 (wrap (((20 : Int) + ((3 : Int) * v1)) + (2 : Int))).toNat) (12 : Int))], hp q)) rfl (S_ret rfl)))))

def Mo_putLimit (q : zM) (v1 : Int) (v2 : Int) : Option zM :=
  ck (wrap (((20 : Int) + ((3 : Int) * v1)) + (2 : Int))) 244 (
    ck (wrap (((20 : Int) + ((3 : Int) * v1)) + (2 : Int))) 244 (
      some (qs q 127 (wrap (((20 : Int) + ((3 : Int) * v1)) + (2 : Int))).toNat (wor (wand (q.1 127 (wrap (((20 : Int) + ((3 : Int) * v1)) + (2 : Int))).toNat) (4095 : Int)) (wshl v2 (12 : Int))))))
theorem T_Mo_putLimit {E : zE} (q : zM) (v1 : Int) (v2 : Int) : SimV E 127 (entF [vR (some 126), vI v1, vI v2] (hp q)) eV (Mo_putLimit q v1 v2) := by
  unfold Mo_putLimit
  exact S_run 0 (f' := (0, 0, 0, [(0, vR (some 126)), (1, vI v1), (2, vI v2)], [], hp q)) rfl (S_run 14 (f' := (0, 0, 19, [(0, vR (some 126)), (1, vI v1), (2, vI v2), (3, vI (((20 : Int) + ((3 : Int) * v1)) + (2 : Int)))], [vI (((20 : Int) + ((3 : Int) * v1)) + (2 : Int)), vR (some 127), vI (((20 : Int) + ((3 : Int) * v1)) + (2 : Int)), vR (some 127)], hp q)) rfl (S_ck (n := 244) (fun h_1 => S_go (H_iald rfl rfl rfl h_1) (S_run 6 (f' := (0, 0, 29, [(0, vR (some 126)), (1, vI v1), (2, vI v2), (3, vI (((20 : Int) + ((3 : Int) * v1)) + (2 : Int)))], [vI (wor (wand (q.1 127 (wrap (((20 : Int) + ((3 : Int) * v1)) + (2 : Int))).toNat) (4095 : Int)) (wshl v2 (12 : Int))), vI (((20 : Int) + ((3 : Int) * v1)) + (2 : Int)), vR (some 127)], hp q)) rfl (S_ck (n := 244) (fun h_2 => S_go (H_iast rfl rfl rfl h_2) (S_run 0 (f' := (0, 0, 30, [(0, vR (some 126)), (1, vI v1), (2, vI v2), (3, vI (((20 : Int) + ((3 : Int) * v1)) + (2 : Int)))], [], hp (qs q 127 (wrap (((20 : Int) + ((3 : Int) * v1)) + (2 : Int))).toNat (wor (wand (q.1 127 (wrap (((20 : Int) + ((3 : Int) * v1)) + (2 : Int))).toNat) (4095 : Int)) (wshl v2 (12 : Int)))))) rfl (S_ret rfl))))))))

def Mo_setLimit (q : zM) (v1 : Int) (v2 : Int) : Option (Int × zM) :=
  (Mo_noWord q v1).bind fun r_1 =>
    if wrap r_1 = (0 : Int) then
      (Mo_in q v2 (1 : Int) (9 : Int)).bind fun r_3 =>
        if wrap r_3 = (0 : Int) then
          some ((-2 : Int), q)
        else
          (Mo_usedBut q v1 (-5 : Int)).bind fun r_5 =>
            if wrap v2 < wrap r_5 then
              some ((-4 : Int), q)
            else
              (Mo_limit q v1).bind fun r_7 =>
                if wrap r_7 = wrap v2 then
                  some ((-5 : Int), q)
                else
                  (Mo_begin q ).bind fun r_9 =>
                    (Mo_putLimit r_9 v1 v2).bind fun r_10 =>
                      (Mo_done r_10 r_7).bind fun r_11 =>
                        some (r_11.1, r_11.2)
    else
      some ((-1 : Int), q)
theorem T_Mo_setLimit {E : zE} (q : zM) (v1 : Int) (v2 : Int) : SimV E 147 (entF [vR (some 126), vI v1, vI v2] (hp q)) eI (Mo_setLimit q v1 v2) := by
  unfold Mo_setLimit
  exact S_run 0 (f' := (0, 0, 0, [(0, vR (some 126)), (1, vI v1), (2, vI v2)], [], hp q)) rfl (S_run 2 (f' := (0, 0, 2, [(0, vR (some 126)), (1, vI v1), (2, vI v2)], [vI v1, vR (some 126)], hp q)) rfl (S_call (m' := 121) (args := [vR (some 126), vI v1]) (h := hp q) (k := fun r => (0, 0, 5, [(0, vR (some 126)), (1, vI v1), (2, vI v2)], r.1.toList ++ [], r.2)) rfl (T_Mo_noWord q v1) (fun r_1 => S_run 0 (f' := (0, 0, 5, [(0, vR (some 126)), (1, vI v1), (2, vI v2)], [vI r_1], hp q)) rfl (S_ite (fun h_2 => S_go (J_if2 rfl rfl (B_eq h_2)) (S_run 3 (f' := (0, 0, 14, [(0, vR (some 126)), (1, vI v1), (2, vI v2)], [vI (9 : Int), vI (1 : Int), vI v2], hp q)) rfl (S_call (m' := 115) (args := [vI v2, vI (1 : Int), vI (9 : Int)]) (h := hp q) (k := fun r => (0, 0, 17, [(0, vR (some 126)), (1, vI v1), (2, vI v2)], r.1.toList ++ [], r.2)) rfl (T_Mo_in q v2 (1 : Int) (9 : Int)) (fun r_3 => S_run 0 (f' := (0, 0, 17, [(0, vR (some 126)), (1, vI v1), (2, vI v2)], [vI r_3], hp q)) rfl (S_ite (fun h_4 => S_go (J_if2 rfl rfl (B_ne h_4)) (S_run 1 (f' := (0, 0, 22, [(0, vR (some 126)), (1, vI v1), (2, vI v2)], [vI (-2 : Int)], hp q)) rfl (S_ret rfl))) (fun h_4 => S_go (J_if2 rfl rfl (B_ne' h_4)) (S_run 3 (f' := (0, 0, 27, [(0, vR (some 126)), (1, vI v1), (2, vI v2)], [vI (-5 : Int), vI v1, vR (some 126)], hp q)) rfl (S_call (m' := 143) (args := [vR (some 126), vI v1, vI (-5 : Int)]) (h := hp q) (k := fun r => (0, 0, 30, [(0, vR (some 126)), (1, vI v1), (2, vI v2)], r.1.toList ++ [], r.2)) rfl (T_Mo_usedBut q v1 (-5 : Int)) (fun r_5 => S_run 1 (f' := (0, 0, 31, [(0, vR (some 126)), (1, vI v1), (2, vI v2)], [vI v2, vI r_5], hp q)) rfl (S_ite (fun h_6 => S_go (J_icmp2 rfl rfl rfl (B_le h_6)) (S_run 1 (f' := (0, 0, 36, [(0, vR (some 126)), (1, vI v1), (2, vI v2)], [vI (-4 : Int)], hp q)) rfl (S_ret rfl))) (fun h_6 => S_go (J_icmp2 rfl rfl rfl (B_le' h_6)) (S_run 2 (f' := (0, 0, 39, [(0, vR (some 126)), (1, vI v1), (2, vI v2)], [vI v1, vR (some 126)], hp q)) rfl (S_call (m' := 126) (args := [vR (some 126), vI v1]) (h := hp q) (k := fun r => (0, 0, 42, [(0, vR (some 126)), (1, vI v1), (2, vI v2)], r.1.toList ++ [], r.2)) rfl (T_Mo_limit q v1) (fun r_7 => S_run 3 (f' := (0, 0, 45, [(0, vR (some 126)), (1, vI v1), (2, vI v2), (3, vI r_7)], [vI v2, vI r_7], hp q)) rfl (S_ite (fun h_8 => S_go (J_icmp2 rfl rfl rfl (B_ne h_8)) (S_run 1 (f' := (0, 0, 50, [(0, vR (some 126)), (1, vI v1), (2, vI v2), (3, vI r_7)], [vI (-5 : Int)], hp q)) rfl (S_ret rfl))) (fun h_8 => S_go (J_icmp2 rfl rfl rfl (B_ne' h_8)) (S_run 1 (f' := (0, 0, 52, [(0, vR (some 126)), (1, vI v1), (2, vI v2), (3, vI r_7)], [vR (some 126)], hp q)) rfl (S_call (m' := 116) (args := [vR (some 126)]) (h := hp q) (k := fun r => (0, 0, 55, [(0, vR (some 126)), (1, vI v1), (2, vI v2), (3, vI r_7)], r.1.toList ++ [], r.2)) rfl (T_Mo_begin q ) (fun r_9 => S_run 3 (f' := (0, 0, 58, [(0, vR (some 126)), (1, vI v1), (2, vI v2), (3, vI r_7)], [vI v2, vI v1, vR (some 126)], hp r_9)) rfl (S_call (m' := 127) (args := [vR (some 126), vI v1, vI v2]) (h := hp r_9) (k := fun r => (0, 0, 61, [(0, vR (some 126)), (1, vI v1), (2, vI v2), (3, vI r_7)], r.1.toList ++ [], r.2)) rfl (T_Mo_putLimit r_9 v1 v2) (fun r_10 => S_run 2 (f' := (0, 0, 63, [(0, vR (some 126)), (1, vI v1), (2, vI v2), (3, vI r_7)], [vI r_7, vR (some 126)], hp r_10)) rfl (S_call (m' := 117) (args := [vR (some 126), vI r_7]) (h := hp r_10) (k := fun r => (0, 0, 66, [(0, vR (some 126)), (1, vI v1), (2, vI v2), (3, vI r_7)], r.1.toList ++ [], r.2)) rfl (T_Mo_done r_10 r_7) (fun r_11 => S_run 0 (f' := (0, 0, 66, [(0, vR (some 126)), (1, vI v1), (2, vI v2), (3, vI r_7)], [vI r_11.1], hp r_11.2)) rfl (S_ret rfl)))))))))))))))))))))))) (fun h_2 => S_go (J_if2 rfl rfl (B_eq' h_2)) (S_run 1 (f' := (0, 0, 9, [(0, vR (some 126)), (1, vI v1), (2, vI v2)], [vI (-1 : Int)], hp q)) rfl (S_ret rfl)))))))

def Mo_emptyAll_L4  (K : Int → Int → zM → Option (Int × zM)) : Nat → Int → Int → zM → Option (Int × zM)
  | 0, _, _, _ => none
  | n + 1, v1, v2, q =>
    if wrap v2 < (8 : Int) then
      (Mo_size q v2).bind fun r_2 =>
        if (0 : Int) < wrap r_2 then
          (Mo_empty q v2).bind fun r_5 =>
            Mo_emptyAll_L4 K n (v1 + (1 : Int)) (v2 + 1) r_5
        else
          (Mo_empty q v2).bind fun r_4 =>
            Mo_emptyAll_L4 K n (v1 + (0 : Int)) (v2 + 1) r_4
    else
      K v1 v2 q
theorem T_Mo_emptyAll_L4 {E : zE}  {K : Int → Int → zM → Option (Int × zM)} (hK : ∀ (v1 : Int) (v2 : Int) (q : zM), SimV E 145 (0, 0, 37, [(0, vR (some 126)), (1, vI v1), (2, vI v2)], [], hp q) eI (K v1 v2 q)) : ∀ (n : Nat) (v1 : Int) (v2 : Int) (q : zM), SimV E 145 (0, 0, 4, [(0, vR (some 126)), (1, vI v1), (2, vI v2)], [], hp q) eI (Mo_emptyAll_L4 K n v1 v2 q) := by
  intro n
  induction n with
  | zero => intro _ _ _; exact S_none
  | succ n ih =>
    intro v1 v2 q
    rw [Mo_emptyAll_L4]
    exact S_run 2 (f' := (0, 0, 7, [(0, vR (some 126)), (1, vI v1), (2, vI v2)], [vI (8 : Int), vI v2], hp q)) rfl (S_ite (fun h_1 => S_go (J_icmp2 rfl rfl wl_8 (B_ge h_1)) (S_run 3 (f' := (0, 0, 13, [(0, vR (some 126)), (1, vI v1), (2, vI v2)], [vI v2, vR (some 126), vI v1], hp q)) rfl (S_call (m' := 140) (args := [vR (some 126), vI v2]) (h := hp q) (k := fun r => (0, 0, 16, [(0, vR (some 126)), (1, vI v1), (2, vI v2)], r.1.toList ++ [vI v1], r.2)) rfl (T_Mo_size q v2) (fun r_2 => S_run 0 (f' := (0, 0, 16, [(0, vR (some 126)), (1, vI v1), (2, vI v2)], [vI r_2, vI v1], hp q)) rfl (S_ite (fun h_3 => S_go (J_if2 rfl rfl (B_le h_3)) (S_run 6 (f' := (0, 0, 28, [(0, vR (some 126)), (1, vI (v1 + (1 : Int))), (2, vI v2)], [vI v2, vR (some 126)], hp q)) rfl (S_call (m' := 144) (args := [vR (some 126), vI v2]) (h := hp q) (k := fun r => (0, 0, 31, [(0, vR (some 126)), (1, vI (v1 + (1 : Int))), (2, vI v2)], r.1.toList ++ [], r.2)) rfl (T_Mo_empty q v2) (fun r_5 => S_run 2 (f' := (0, 0, 4, [(0, vR (some 126)), (1, vI (v1 + (1 : Int))), (2, vI (v2 + 1))], [], hp r_5)) rfl (ih (v1 + (1 : Int)) (v2 + 1) r_5))))) (fun h_3 => S_go (J_if2 rfl rfl (B_le' h_3)) (S_run 5 (f' := (0, 0, 28, [(0, vR (some 126)), (1, vI (v1 + (0 : Int))), (2, vI v2)], [vI v2, vR (some 126)], hp q)) rfl (S_call (m' := 144) (args := [vR (some 126), vI v2]) (h := hp q) (k := fun r => (0, 0, 31, [(0, vR (some 126)), (1, vI (v1 + (0 : Int))), (2, vI v2)], r.1.toList ++ [], r.2)) rfl (T_Mo_empty q v2) (fun r_4 => S_run 2 (f' := (0, 0, 4, [(0, vR (some 126)), (1, vI (v1 + (0 : Int))), (2, vI (v2 + 1))], [], hp r_4)) rfl (ih (v1 + (0 : Int)) (v2 + 1) r_4)))))))))) (fun h_1 => S_go (J_icmp2 rfl rfl wl_8 (B_ge' h_1)) (S_run 0 (f' := (0, 0, 37, [(0, vR (some 126)), (1, vI v1), (2, vI v2)], [], hp q)) rfl (hK v1 v2 q))))

def Mo_emptyAll (q : zM)  : Option (Int × zM) :=
  Mo_emptyAll_L4  (fun v1_6 v2_7 q_8 => 
    some (v1_6, q_8)) 5000 (0 : Int) (0 : Int) q
theorem T_Mo_emptyAll {E : zE} (q : zM)  : SimV E 145 (entF [vR (some 126)] (hp q)) eI (Mo_emptyAll q ) := by
  unfold Mo_emptyAll
  exact S_run 0 (f' := (0, 0, 0, [(0, vR (some 126))], [], hp q)) rfl (S_run 4 (f' := (0, 0, 4, [(0, vR (some 126)), (1, vI (0 : Int)), (2, vI (0 : Int))], [], hp q)) rfl (T_Mo_emptyAll_L4  (fun v1_6 v2_7 q_8 => S_run 1 (f' := (0, 0, 38, [(0, vR (some 126)), (1, vI v1_6), (2, vI v2_7)], [vI v1_6], hp q_8)) rfl (S_ret rfl)) 5000 (0 : Int) (0 : Int) q))

def Mo_setMetre_b44 (q : zM) (v1 : Int) (v2 : Int) : Option (Int × zM) :=
  (Mo_emptyAll q ).bind fun r_8 =>
    (Mo_done r_8.2 r_8.1).bind fun r_9 =>
      some (r_9.1, r_9.2)
theorem T_Mo_setMetre_b44 {E : zE} (q : zM) (v1 : Int) (v2 : Int) : SimV E 148 (0, 0, 44, [(0, vR (some 126)), (1, vI v1), (2, vI v2)], [], hp q) eI (Mo_setMetre_b44 q v1 v2) := by
  unfold Mo_setMetre_b44
  exact S_run 2 (f' := (0, 0, 46, [(0, vR (some 126)), (1, vI v1), (2, vI v2)], [vR (some 126), vR (some 126)], hp q)) rfl (S_call (m' := 145) (args := [vR (some 126)]) (h := hp q) (k := fun r => (0, 0, 49, [(0, vR (some 126)), (1, vI v1), (2, vI v2)], r.1.toList ++ [vR (some 126)], r.2)) rfl (T_Mo_emptyAll q ) (fun r_8 => S_run 0 (f' := (0, 0, 49, [(0, vR (some 126)), (1, vI v1), (2, vI v2)], [vI r_8.1, vR (some 126)], hp r_8.2)) rfl (S_call (m' := 117) (args := [vR (some 126), vI r_8.1]) (h := hp r_8.2) (k := fun r => (0, 0, 52, [(0, vR (some 126)), (1, vI v1), (2, vI v2)], r.1.toList ++ [], r.2)) rfl (T_Mo_done r_8.2 r_8.1) (fun r_9 => S_run 0 (f' := (0, 0, 52, [(0, vR (some 126)), (1, vI v1), (2, vI v2)], [vI r_9.1], hp r_9.2)) rfl (S_ret rfl)))))

def Mo_setMetre_b37 (q : zM) (v1 : Int) (v2 : Int) : Option (Int × zM) :=
  Mo_setMetre_b44 (qs q 127 2 v2) v1 v2
theorem T_Mo_setMetre_b37 {E : zE} (q : zM) (v1 : Int) (v2 : Int) : SimV E 148 (0, 0, 37, [(0, vR (some 126)), (1, vI v1), (2, vI v2)], [], hp q) eI (Mo_setMetre_b37 q v1 v2) := by
  unfold Mo_setMetre_b37
  exact S_run 5 (f' := (0, 0, 44, [(0, vR (some 126)), (1, vI v1), (2, vI v2)], [], hp (qs q 127 2 v2))) rfl (T_Mo_setMetre_b44 (qs q 127 2 v2) v1 v2)

def Mo_setMetre (q : zM) (v1 : Int) (v2 : Int) : Option (Int × zM) :=
  (Mo_in q v1 (2 : Int) (12 : Int)).bind fun r_1 =>
    if wrap r_1 = (0 : Int) then
      some ((-2 : Int), q)
    else
      (Mo_in q v2 (0 : Int) ((wshl (1 : Int) v1) - (1 : Int))).bind fun r_3 =>
        if wrap r_3 = (0 : Int) then
          some ((-2 : Int), q)
        else
          (Mo_begin q ).bind fun r_5 =>
            Mo_setMetre_b37 (qs r_5 127 1 v1) v1 v2
theorem T_Mo_setMetre {E : zE} (q : zM) (v1 : Int) (v2 : Int) : SimV E 148 (entF [vR (some 126), vI v1, vI v2] (hp q)) eI (Mo_setMetre q v1 v2) := by
  unfold Mo_setMetre
  exact S_run 0 (f' := (0, 0, 0, [(0, vR (some 126)), (1, vI v1), (2, vI v2)], [], hp q)) rfl (S_run 3 (f' := (0, 0, 4, [(0, vR (some 126)), (1, vI v1), (2, vI v2)], [vI (12 : Int), vI (2 : Int), vI v1], hp q)) rfl (S_call (m' := 115) (args := [vI v1, vI (2 : Int), vI (12 : Int)]) (h := hp q) (k := fun r => (0, 0, 7, [(0, vR (some 126)), (1, vI v1), (2, vI v2)], r.1.toList ++ [], r.2)) rfl (T_Mo_in q v1 (2 : Int) (12 : Int)) (fun r_1 => S_run 0 (f' := (0, 0, 7, [(0, vR (some 126)), (1, vI v1), (2, vI v2)], [vI r_1], hp q)) rfl (S_ite (fun h_2 => S_go (J_if2 rfl rfl (B_eq h_2)) (S_run 1 (f' := (0, 0, 25, [(0, vR (some 126)), (1, vI v1), (2, vI v2)], [vI (-2 : Int)], hp q)) rfl (S_ret rfl))) (fun h_2 => S_go (J_if2 rfl rfl (B_eq' h_2)) (S_run 7 (f' := (0, 0, 17, [(0, vR (some 126)), (1, vI v1), (2, vI v2)], [vI ((wshl (1 : Int) v1) - (1 : Int)), vI (0 : Int), vI v2], hp q)) rfl (S_call (m' := 115) (args := [vI v2, vI (0 : Int), vI ((wshl (1 : Int) v1) - (1 : Int))]) (h := hp q) (k := fun r => (0, 0, 20, [(0, vR (some 126)), (1, vI v1), (2, vI v2)], r.1.toList ++ [], r.2)) rfl (T_Mo_in q v2 (0 : Int) ((wshl (1 : Int) v1) - (1 : Int))) (fun r_3 => S_run 0 (f' := (0, 0, 20, [(0, vR (some 126)), (1, vI v1), (2, vI v2)], [vI r_3], hp q)) rfl (S_ite (fun h_4 => S_go (J_if2 rfl rfl (B_ne h_4)) (S_run 1 (f' := (0, 0, 25, [(0, vR (some 126)), (1, vI v1), (2, vI v2)], [vI (-2 : Int)], hp q)) rfl (S_ret rfl))) (fun h_4 => S_go (J_if2 rfl rfl (B_ne' h_4)) (S_run 1 (f' := (0, 0, 27, [(0, vR (some 126)), (1, vI v1), (2, vI v2)], [vR (some 126)], hp q)) rfl (S_call (m' := 116) (args := [vR (some 126)]) (h := hp q) (k := fun r => (0, 0, 30, [(0, vR (some 126)), (1, vI v1), (2, vI v2)], r.1.toList ++ [], r.2)) rfl (T_Mo_begin q ) (fun r_5 => S_run 5 (f' := (0, 0, 37, [(0, vR (some 126)), (1, vI v1), (2, vI v2)], [], hp (qs r_5 127 1 v1))) rfl (T_Mo_setMetre_b37 (qs r_5 127 1 v1) v1 v2))))))))))))))
