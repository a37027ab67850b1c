/-! the methods as functions, printed by wip/p24/dec.py -/
def Ls_costFrom_120_5 (q : zM) (v2 : Int) (v3 : Int) : Option Int :=
  (Ws_syllablesOf q v2).bind fun r_1 =>
    ck (wrap (v3 + r_1)) 13 (
      if wrap (q.1 122 (wrap (v3 + r_1)).toNat) = (1000000 : Int) then
        some (1000000 : Int)
      else
        (Me_bends q v2 v3).bind fun r_4 =>
          some (((q.1 122 (wrap (v3 + r_1)).toNat) + (1 : Int)) + ((13 : Int) * r_4)))
theorem T_Ls_costFrom_120_5 {E : zE} (q : zM) (v2 : Int) (v3 : Int) : SimV E 14 (entF [vR (some 120), vR (some 5), vI v2, vI v3] (hp q)) (eP q) (Ls_costFrom_120_5 q v2 v3) := by
  unfold Ls_costFrom_120_5
  exact S_run 0 (f' := (0, 0, 0, [(0, vR (some 120)), (1, vR (some 5)), (2, vI v2), (3, vI v3)], [], hp q)) rfl (S_run 6 (f' := (0, 0, 10, [(0, vR (some 120)), (1, vR (some 5)), (2, vI v2), (3, vI v3)], [vI v2, vR (some 6), vI v3, vR (some 122)], hp q)) rfl (S_call (m' := 78) (args := [vR (some 6), vI v2]) (h := hp q) (k := fun r => (0, 0, 13, [(0, vR (some 120)), (1, vR (some 5)), (2, vI v2), (3, vI v3)], r.1.toList ++ [vI v3, vR (some 122)], r.2)) rfl (T_Ws_syllablesOf q v2) (fun r_1 => S_run 1 (f' := (0, 0, 14, [(0, vR (some 120)), (1, vR (some 5)), (2, vI v2), (3, vI v3)], [vI (v3 + r_1), vR (some 122)], hp q)) rfl (S_ck (n := 13) (fun h_2 => S_go (H_iald rfl rfl rfl h_2) (S_run 3 (f' := (0, 0, 21, [(0, vR (some 120)), (1, vR (some 5)), (2, vI v2), (3, vI v3), (4, vI (q.1 122 (wrap (v3 + r_1)).toNat))], [vI (1000000 : Int), vI (q.1 122 (wrap (v3 + r_1)).toNat)], hp q)) rfl (S_ite (fun h_3 => S_go (J_icmp2 rfl rfl wl_1000000 (B_ne h_3)) (S_run 1 (f' := (0, 0, 26, [(0, vR (some 120)), (1, vR (some 5)), (2, vI v2), (3, vI v3), (4, vI (q.1 122 (wrap (v3 + r_1)).toNat))], [vI (1000000 : Int)], hp q)) rfl (S_ret rfl))) (fun h_3 => S_go (J_icmp2 rfl rfl wl_1000000 (B_ne' h_3)) (S_run 10 (f' := (0, 0, 43, [(0, vR (some 120)), (1, vR (some 5)), (2, vI v2), (3, vI v3), (4, vI (q.1 122 (wrap (v3 + r_1)).toNat))], [vI v3, vI v2, vR (some 6), vR (some 12), vI (13 : Int), vI ((q.1 122 (wrap (v3 + r_1)).toNat) + (1 : Int))], hp q)) rfl (S_call (m' := 19) (args := [vR (some 12), vR (some 6), vI v2, vI v3]) (h := hp q) (k := fun r => (0, 0, 46, [(0, vR (some 120)), (1, vR (some 5)), (2, vI v2), (3, vI v3), (4, vI (q.1 122 (wrap (v3 + r_1)).toNat))], r.1.toList ++ [vI (13 : Int), vI ((q.1 122 (wrap (v3 + r_1)).toNat) + (1 : Int))], r.2)) rfl (T_Me_bends q v2 v3) (fun r_4 => S_run 2 (f' := (0, 0, 48, [(0, vR (some 120)), (1, vR (some 5)), (2, vI v2), (3, vI v3), (4, vI (q.1 122 (wrap (v3 + r_1)).toNat))], [vI (((q.1 122 (wrap (v3 + r_1)).toNat) + (1 : Int)) + ((13 : Int) * r_4))], hp q)) rfl (S_ret rfl))))))))))))

def Ls_chooseAt_120_5_L10 (v2 : Int) (K : Int → zM → Option zM) : Nat → Int → zM → Option zM
  | 0, _, _ => none
  | n + 1, v3, q =>
    (Ws_size q ).bind fun r_2 =>
      if wrap v3 < wrap r_2 then
        (Ls_canStand_120_5 q v3 v2).bind fun r_4 =>
          if wrap r_4 = (0 : Int) then
            Ls_chooseAt_120_5_L10 v2 K n (v3 + 1) q
          else
            (Ls_costFrom_120_5 q v3 v2).bind fun r_6 =>
              ck (wrap v2) 13 (
                if wrap r_6 < wrap (q.1 122 (wrap v2).toNat) then
                  ck (wrap v2) 13 (
                    ck (wrap v2) 12 (
                      Ls_chooseAt_120_5_L10 v2 K n (v3 + 1) (qs (qs q 122 (wrap v2).toNat r_6) 123 (wrap v2).toNat v3)))
                else
                  Ls_chooseAt_120_5_L10 v2 K n (v3 + 1) q)
      else
        K v3 q
theorem T_Ls_chooseAt_120_5_L10 {E : zE} (v2 : Int) {K : Int → zM → Option zM} (hK : ∀ (v3 : Int) (q : zM), SimV E 13 (0, 0, 72, [(0, vR (some 120)), (1, vR (some 5)), (2, vI v2), (3, vI v3)], [], hp q) eV (K v3 q)) : ∀ (n : Nat) (v3 : Int) (q : zM), SimV E 13 (0, 0, 10, [(0, vR (some 120)), (1, vR (some 5)), (2, vI v2), (3, vI v3)], [], hp q) eV (Ls_chooseAt_120_5_L10 v2 K n v3 q) := by
  intro n
  induction n with
  | zero => intro _ _; exact S_none
  | succ n ih =>
    intro v3 q
    rw [Ls_chooseAt_120_5_L10]
    exact S_run 3 (f' := (0, 0, 15, [(0, vR (some 120)), (1, vR (some 5)), (2, vI v2), (3, vI v3)], [vR (some 6), vI v3], hp q)) rfl (S_call (m' := 74) (args := [vR (some 6)]) (h := hp q) (k := fun r => (0, 0, 18, [(0, vR (some 120)), (1, vR (some 5)), (2, vI v2), (3, vI v3)], r.1.toList ++ [vI v3], r.2)) rfl (T_Ws_size q ) (fun r_2 => S_run 0 (f' := (0, 0, 18, [(0, vR (some 120)), (1, vR (some 5)), (2, vI v2), (3, vI v3)], [vI r_2, vI v3], hp q)) rfl (S_ite (fun h_3 => S_go (J_icmp2 rfl rfl rfl (B_ge h_3)) (S_run 4 (f' := (0, 0, 25, [(0, vR (some 120)), (1, vR (some 5)), (2, vI v2), (3, vI v3)], [vI v2, vI v3, vR (some 5), vR (some 120)], hp q)) rfl (S_call (m' := 12) (args := [vR (some 120), vR (some 5), vI v3, vI v2]) (h := hp q) (k := fun r => (0, 0, 28, [(0, vR (some 120)), (1, vR (some 5)), (2, vI v2), (3, vI v3)], r.1.toList ++ [], r.2)) rfl (T_Ls_canStand_120_5 q v3 v2) (fun r_4 => S_run 0 (f' := (0, 0, 28, [(0, vR (some 120)), (1, vR (some 5)), (2, vI v2), (3, vI v3)], [vI r_4], hp q)) rfl (S_ite (fun h_5 => S_go (J_if2 rfl rfl (B_eq h_5)) (S_run 2 (f' := (0, 0, 10, [(0, vR (some 120)), (1, vR (some 5)), (2, vI v2), (3, vI (v3 + 1))], [], hp q)) rfl (ih (v3 + 1) q))) (fun h_5 => S_go (J_if2 rfl rfl (B_eq' h_5)) (S_run 4 (f' := (0, 0, 35, [(0, vR (some 120)), (1, vR (some 5)), (2, vI v2), (3, vI v3)], [vI v2, vI v3, vR (some 5), vR (some 120)], hp q)) rfl (S_call (m' := 14) (args := [vR (some 120), vR (some 5), vI v3, vI v2]) (h := hp q) (k := fun r => (0, 0, 38, [(0, vR (some 120)), (1, vR (some 5)), (2, vI v2), (3, vI v3)], r.1.toList ++ [], r.2)) rfl (T_Ls_costFrom_120_5 q v3 v2) (fun r_6 => S_run 5 (f' := (0, 0, 47, [(0, vR (some 120)), (1, vR (some 5)), (2, vI v2), (3, vI v3), (4, vI r_6)], [vI v2, vR (some 122), vI r_6], hp q)) rfl (S_ck (n := 13) (fun h_7 => S_go (H_iald rfl rfl rfl h_7) (S_run 0 (f' := (0, 0, 48, [(0, vR (some 120)), (1, vR (some 5)), (2, vI v2), (3, vI v3), (4, vI r_6)], [vI (q.1 122 (wrap v2).toNat), vI r_6], hp q)) rfl (S_ite (fun h_8 => S_go (J_icmp2 rfl rfl rfl (B_ge h_8)) (S_run 4 (f' := (0, 0, 58, [(0, vR (some 120)), (1, vR (some 5)), (2, vI v2), (3, vI v3), (4, vI r_6)], [vI r_6, vI v2, vR (some 122)], hp q)) rfl (S_ck (n := 13) (fun h_9 => S_go (H_iast rfl rfl rfl h_9) (S_run 4 (f' := (0, 0, 65, [(0, vR (some 120)), (1, vR (some 5)), (2, vI v2), (3, vI v3), (4, vI r_6)], [vI v3, vI v2, vR (some 123)], hp (qs q 122 (wrap v2).toNat r_6))) rfl (S_ck (n := 12) (fun h_10 => S_go (H_iast rfl rfl rfl h_10) (S_run 2 (f' := (0, 0, 10, [(0, vR (some 120)), (1, vR (some 5)), (2, vI v2), (3, vI (v3 + 1))], [], hp (qs (qs q 122 (wrap v2).toNat r_6) 123 (wrap v2).toNat v3))) rfl (ih (v3 + 1) (qs (qs q 122 (wrap v2).toNat r_6) 123 (wrap v2).toNat v3)))))))))) (fun h_8 => S_go (J_icmp2 rfl rfl rfl (B_ge' h_8)) (S_run 2 (f' := (0, 0, 10, [(0, vR (some 120)), (1, vR (some 5)), (2, vI v2), (3, vI (v3 + 1))], [], hp q)) rfl (ih (v3 + 1) q)))))))))))))))) (fun h_3 => S_go (J_icmp2 rfl rfl rfl (B_ge' h_3)) (S_run 0 (f' := (0, 0, 72, [(0, vR (some 120)), (1, vR (some 5)), (2, vI v2), (3, vI v3)], [], hp q)) rfl (hK v3 q))))))

def Ls_chooseAt_120_5_b8 (q : zM) (v2 : Int) : Option zM :=
  Ls_chooseAt_120_5_L10 v2 (fun v3_11 q_12 => 
    some q_12) 5000 (0 : Int) q
theorem T_Ls_chooseAt_120_5_b8 {E : zE} (q : zM) (v2 : Int) : SimV E 13 (0, 0, 8, [(0, vR (some 120)), (1, vR (some 5)), (2, vI v2)], [], hp q) eV (Ls_chooseAt_120_5_b8 q v2) := by
  unfold Ls_chooseAt_120_5_b8
  exact S_run 2 (f' := (0, 0, 10, [(0, vR (some 120)), (1, vR (some 5)), (2, vI v2), (3, vI (0 : Int))], [], hp q)) rfl (T_Ls_chooseAt_120_5_L10 v2 (fun v3_11 q_12 => S_run 0 (f' := (0, 0, 72, [(0, vR (some 120)), (1, vR (some 5)), (2, vI v2), (3, vI v3_11)], [], hp q_12)) rfl (S_ret rfl)) 5000 (0 : Int) q)

def Ls_chooseAt_120_5 (q : zM) (v2 : Int) : Option zM :=
  ck (wrap v2) 13 (
    Ls_chooseAt_120_5_b8 (qs q 122 (wrap v2).toNat (1000000 : Int)) v2)
theorem T_Ls_chooseAt_120_5 {E : zE} (q : zM) (v2 : Int) : SimV E 13 (entF [vR (some 120), vR (some 5), vI v2] (hp q)) eV (Ls_chooseAt_120_5 q v2) := by
  unfold Ls_chooseAt_120_5
  exact S_run 0 (f' := (0, 0, 0, [(0, vR (some 120)), (1, vR (some 5)), (2, vI v2)], [], hp q)) rfl (S_run 4 (f' := (0, 0, 7, [(0, vR (some 120)), (1, vR (some 5)), (2, vI v2)], [vI (1000000 : Int), vI v2, vR (some 122)], hp q)) rfl (S_ck (n := 13) (fun h_1 => S_go (H_iast rfl rfl rfl h_1) (S_run 0 (f' := (0, 0, 8, [(0, vR (some 120)), (1, vR (some 5)), (2, vI v2)], [], hp (qs q 122 (wrap v2).toNat (1000000 : Int)))) rfl (T_Ls_chooseAt_120_5_b8 (qs q 122 (wrap v2).toNat (1000000 : Int)) v2)))))

def Ls_readRow_120_5_L19  (K : Int → zM → Option zM) : Nat → Int → zM → Option zM
  | 0, _, _ => none
  | n + 1, v2, q =>
    if wrap v2 < wrap (q.1 12 0) then
      if wrap (q.1 120 5) < (12 : Int) then
        ck (wrap v2) 12 (
          ck (wrap (q.1 120 5)) 12 (
            ck (wrap v2) 12 (
              (Ws_syllablesOf (qs q 125 (wrap (q.1 120 5)).toNat (q.1 123 (wrap v2).toNat)) ((qs q 125 (wrap (q.1 120 5)).toNat (q.1 123 (wrap v2).toNat)).1 123 (wrap v2).toNat)).bind fun r_8 =>
                Ls_readRow_120_5_L19 K n (v2 + r_8) (qs (qs q 125 (wrap (q.1 120 5)).toNat (q.1 123 (wrap v2).toNat)) 120 5 (((qs q 125 (wrap (q.1 120 5)).toNat (q.1 123 (wrap v2).toNat)).1 120 5) + (1 : Int))))))
      else
        K v2 q
    else
      K v2 q
theorem T_Ls_readRow_120_5_L19 {E : zE}  {K : Int → zM → Option zM} (hK : ∀ (v2 : Int) (q : zM), SimV E 15 (0, 0, 83, [(0, vR (some 120)), (1, vR (some 5)), (2, vI v2)], [], hp q) eV (K v2 q)) : ∀ (n : Nat) (v2 : Int) (q : zM), SimV E 15 (0, 0, 19, [(0, vR (some 120)), (1, vR (some 5)), (2, vI v2)], [], hp q) eV (Ls_readRow_120_5_L19 K n v2 q) := by
  intro n
  induction n with
  | zero => intro _ _; exact S_none
  | succ n ih =>
    intro v2 q
    rw [Ls_readRow_120_5_L19]
    exact S_run 4 (f' := (0, 0, 27, [(0, vR (some 120)), (1, vR (some 5)), (2, vI v2)], [vI (q.1 12 0), vI v2], hp q)) rfl (S_ite (fun h_3 => S_go (J_icmp2 rfl rfl rfl (B_ge h_3)) (S_run 3 (f' := (0, 0, 36, [(0, vR (some 120)), (1, vR (some 5)), (2, vI v2)], [vI (12 : Int), vI (q.1 120 5)], hp q)) rfl (S_ite (fun h_4 => S_go (J_icmp2 rfl rfl wl_12 (B_ge h_4)) (S_run 7 (f' := (0, 0, 52, [(0, vR (some 120)), (1, vR (some 5)), (2, vI v2)], [vI v2, vR (some 123), vI (q.1 120 5), vR (some 125)], hp q)) rfl (S_ck (n := 12) (fun h_5 => S_go (H_iald rfl rfl rfl h_5) (S_run 0 (f' := (0, 0, 53, [(0, vR (some 120)), (1, vR (some 5)), (2, vI v2)], [vI (q.1 123 (wrap v2).toNat), vI (q.1 120 5), vR (some 125)], hp q)) rfl (S_ck (n := 12) (fun h_6 => S_go (H_iast rfl rfl rfl h_6) (S_run 6 (f' := (0, 0, 64, [(0, vR (some 120)), (1, vR (some 5)), (2, vI v2)], [vI v2, vR (some 123), vR (some 6), vI v2], hp (qs q 125 (wrap (q.1 120 5)).toNat (q.1 123 (wrap v2).toNat)))) rfl (S_ck (n := 12) (fun h_7 => S_go (H_iald rfl rfl rfl h_7) (S_run 0 (f' := (0, 0, 65, [(0, vR (some 120)), (1, vR (some 5)), (2, vI v2)], [vI ((qs q 125 (wrap (q.1 120 5)).toNat (q.1 123 (wrap v2).toNat)).1 123 (wrap v2).toNat), vR (some 6), vI v2], hp (qs q 125 (wrap (q.1 120 5)).toNat (q.1 123 (wrap v2).toNat)))) rfl (S_call (m' := 78) (args := [vR (some 6), vI ((qs q 125 (wrap (q.1 120 5)).toNat (q.1 123 (wrap v2).toNat)).1 123 (wrap v2).toNat)]) (h := hp (qs q 125 (wrap (q.1 120 5)).toNat (q.1 123 (wrap v2).toNat))) (k := fun r => (0, 0, 68, [(0, vR (some 120)), (1, vR (some 5)), (2, vI v2)], r.1.toList ++ [vI v2], r.2)) rfl (T_Ws_syllablesOf (qs q 125 (wrap (q.1 120 5)).toNat (q.1 123 (wrap v2).toNat)) ((qs q 125 (wrap (q.1 120 5)).toNat (q.1 123 (wrap v2).toNat)).1 123 (wrap v2).toNat)) (fun r_8 => S_run 9 (f' := (0, 0, 19, [(0, vR (some 120)), (1, vR (some 5)), (2, vI (v2 + r_8))], [], hp (qs (qs q 125 (wrap (q.1 120 5)).toNat (q.1 123 (wrap v2).toNat)) 120 5 (((qs q 125 (wrap (q.1 120 5)).toNat (q.1 123 (wrap v2).toNat)).1 120 5) + (1 : Int))))) rfl (ih (v2 + r_8) (qs (qs q 125 (wrap (q.1 120 5)).toNat (q.1 123 (wrap v2).toNat)) 120 5 (((qs q 125 (wrap (q.1 120 5)).toNat (q.1 123 (wrap v2).toNat)).1 120 5) + (1 : Int))))))))))))))))) (fun h_4 => S_go (J_icmp2 rfl rfl wl_12 (B_ge' h_4)) (S_run 0 (f' := (0, 0, 83, [(0, vR (some 120)), (1, vR (some 5)), (2, vI v2)], [], hp q)) rfl (hK v2 q)))))) (fun h_3 => S_go (J_icmp2 rfl rfl rfl (B_ge' h_3)) (S_run 0 (f' := (0, 0, 83, [(0, vR (some 120)), (1, vR (some 5)), (2, vI v2)], [], hp q)) rfl (hK v2 q))))

def Ls_readRow_120_5_b5 (q : zM)  : Option zM :=
  if wrap (q.1 122 0) = (1000000 : Int) then
    some q
  else
    Ls_readRow_120_5_L19  (fun v2_9 q_10 => 
      some q_10) 5000 (0 : Int) q
theorem T_Ls_readRow_120_5_b5 {E : zE} (q : zM)  : SimV E 15 (0, 0, 5, [(0, vR (some 120)), (1, vR (some 5))], [], hp q) eV (Ls_readRow_120_5_b5 q ) := by
  unfold Ls_readRow_120_5_b5
  exact S_run 5 (f' := (0, 0, 13, [(0, vR (some 120)), (1, vR (some 5))], [vI (1000000 : Int), vI (q.1 122 0)], hp q)) rfl (S_ite (fun h_2 => S_go (J_icmp2 rfl rfl wl_1000000 (B_ne h_2)) (S_run 0 (f' := (0, 0, 16, [(0, vR (some 120)), (1, vR (some 5))], [], hp q)) rfl (S_ret rfl))) (fun h_2 => S_go (J_icmp2 rfl rfl wl_1000000 (B_ne' h_2)) (S_run 2 (f' := (0, 0, 19, [(0, vR (some 120)), (1, vR (some 5)), (2, vI (0 : Int))], [], hp q)) rfl (T_Ls_readRow_120_5_L19  (fun v2_9 q_10 => S_run 0 (f' := (0, 0, 83, [(0, vR (some 120)), (1, vR (some 5)), (2, vI v2_9)], [], hp q_10)) rfl (S_ret rfl)) 5000 (0 : Int) q))))

def Ls_readRow_120_5 (q : zM)  : Option zM :=
  Ls_readRow_120_5_b5 (qs q 120 5 (0 : Int))
theorem T_Ls_readRow_120_5 {E : zE} (q : zM)  : SimV E 15 (entF [vR (some 120), vR (some 5)] (hp q)) eV (Ls_readRow_120_5 q ) := by
  unfold Ls_readRow_120_5
  exact S_run 0 (f' := (0, 0, 0, [(0, vR (some 120)), (1, vR (some 5))], [], hp q)) rfl (S_run 3 (f' := (0, 0, 5, [(0, vR (some 120)), (1, vR (some 5))], [], hp (qs q 120 5 (0 : Int)))) rfl (T_Ls_readRow_120_5_b5 (qs q 120 5 (0 : Int))))

def Ls_seek_120_5_L32 (v2 : Int) (v3 : Int) (v4 : Int) (v5 : Int) (K : Int → zM → Option (Int × zM)) : Nat → Int → zM → Option (Int × zM)
  | 0, _, _ => none
  | n + 1, v6, q =>
    if wrap v6 < (0 : Int) then
      K v6 q
    else
      (Ls_chooseAt_120_5 q v6).bind fun r_4 =>
        Ls_seek_120_5_L32 v2 v3 v4 v5 K n (v6 + (-1)) r_4
theorem T_Ls_seek_120_5_L32 {E : zE} (v2 : Int) (v3 : Int) (v4 : Int) (v5 : Int) {K : Int → zM → Option (Int × zM)} (hK : ∀ (v6 : Int) (q : zM), SimV E 7 (0, 0, 50, [(0, vR (some 120)), (1, vR (some 5)), (2, vI v2), (3, vI v3), (4, vI v4), (5, vI v5), (6, vI v6)], [], hp q) eI (K v6 q)) : ∀ (n : Nat) (v6 : Int) (q : zM), SimV E 7 (0, 0, 32, [(0, vR (some 120)), (1, vR (some 5)), (2, vI v2), (3, vI v3), (4, vI v4), (5, vI v5), (6, vI v6)], [], hp q) eI (Ls_seek_120_5_L32 v2 v3 v4 v5 K n v6 q) := by
  intro n
  induction n with
  | zero => intro _ _; exact S_none
  | succ n ih =>
    intro v6 q
    rw [Ls_seek_120_5_L32]
    exact S_run 1 (f' := (0, 0, 34, [(0, vR (some 120)), (1, vR (some 5)), (2, vI v2), (3, vI v3), (4, vI v4), (5, vI v5), (6, vI v6)], [vI v6], hp q)) rfl (S_ite (fun h_3 => S_go (J_if2 rfl rfl (B_lt h_3)) (S_run 0 (f' := (0, 0, 50, [(0, vR (some 120)), (1, vR (some 5)), (2, vI v2), (3, vI v3), (4, vI v4), (5, vI v5), (6, vI v6)], [], hp q)) rfl (hK v6 q))) (fun h_3 => S_go (J_if2 rfl rfl (B_lt' h_3)) (S_run 3 (f' := (0, 0, 41, [(0, vR (some 120)), (1, vR (some 5)), (2, vI v2), (3, vI v3), (4, vI v4), (5, vI v5), (6, vI v6)], [vI v6, vR (some 5), vR (some 120)], hp q)) rfl (S_call (m' := 13) (args := [vR (some 120), vR (some 5), vI v6]) (h := hp q) (k := fun r => (0, 0, 44, [(0, vR (some 120)), (1, vR (some 5)), (2, vI v2), (3, vI v3), (4, vI v4), (5, vI v5), (6, vI v6)], r.1.toList ++ [], r.2)) rfl (T_Ls_chooseAt_120_5 q v6) (fun r_4 => S_run 2 (f' := (0, 0, 32, [(0, vR (some 120)), (1, vR (some 5)), (2, vI v2), (3, vI v3), (4, vI v4), (5, vI v5), (6, vI (v6 + (-1)))], [], hp r_4)) rfl (ih (v6 + (-1)) r_4))))))

def Ls_seek_120_5_b26 (q : zM) (v2 : Int) (v3 : Int) (v4 : Int) (v5 : Int) : Option (Int × zM) :=
  Ls_seek_120_5_L32 v2 v3 v4 v5 (fun v6_5 q_6 => 
    (Ls_readRow_120_5 q_6 ).bind fun r_7 =>
      if (0 : Int) < wrap (r_7.1 120 5) then
        some ((1 : Int), r_7)
      else
        some ((0 : Int), r_7)) 5000 (v5 - (1 : Int)) q
theorem T_Ls_seek_120_5_b26 {E : zE} (q : zM) (v2 : Int) (v3 : Int) (v4 : Int) (v5 : Int) : SimV E 7 (0, 0, 26, [(0, vR (some 120)), (1, vR (some 5)), (2, vI v2), (3, vI v3), (4, vI v4), (5, vI v5)], [], hp q) eI (Ls_seek_120_5_b26 q v2 v3 v4 v5) := by
  unfold Ls_seek_120_5_b26
  exact S_run 4 (f' := (0, 0, 32, [(0, vR (some 120)), (1, vR (some 5)), (2, vI v2), (3, vI v3), (4, vI v4), (5, vI v5), (6, vI (v5 - (1 : Int)))], [], hp q)) rfl (T_Ls_seek_120_5_L32 v2 v3 v4 v5 (fun v6_5 q_6 => S_run 2 (f' := (0, 0, 52, [(0, vR (some 120)), (1, vR (some 5)), (2, vI v2), (3, vI v3), (4, vI v4), (5, vI v5), (6, vI v6_5)], [vR (some 5), vR (some 120)], hp q_6)) rfl (S_call (m' := 15) (args := [vR (some 120), vR (some 5)]) (h := hp q_6) (k := fun r => (0, 0, 55, [(0, vR (some 120)), (1, vR (some 5)), (2, vI v2), (3, vI v3), (4, vI v4), (5, vI v5), (6, vI v6_5)], r.1.toList ++ [], r.2)) rfl (T_Ls_readRow_120_5 q_6 ) (fun r_7 => S_run 2 (f' := (0, 0, 59, [(0, vR (some 120)), (1, vR (some 5)), (2, vI v2), (3, vI v3), (4, vI v4), (5, vI v5), (6, vI v6_5)], [vI (r_7.1 120 5)], hp r_7)) rfl (S_ite (fun h_8 => S_go (J_if2 rfl rfl (B_le h_8)) (S_run 2 (f' := (0, 0, 67, [(0, vR (some 120)), (1, vR (some 5)), (2, vI v2), (3, vI v3), (4, vI v4), (5, vI v5), (6, vI v6_5)], [vI (1 : Int)], hp r_7)) rfl (S_ret rfl))) (fun h_8 => S_go (J_if2 rfl rfl (B_le' h_8)) (S_run 1 (f' := (0, 0, 67, [(0, vR (some 120)), (1, vR (some 5)), (2, vI v2), (3, vI v3), (4, vI v4), (5, vI v5), (6, vI v6_5)], [vI (0 : Int)], hp r_7)) rfl (S_ret rfl))))))) 5000 (v5 - (1 : Int)) q)

def Ls_seek_120_5 (q : zM) (v2 : Int) (v3 : Int) (v4 : Int) : Option (Int × zM) :=
  (Ls_prepare_120_5 q v2 v3 v4).bind fun r_1 =>
    ck (wrap (r_1.1 12 0)) 13 (
      Ls_seek_120_5_b26 (qs r_1 122 (wrap (r_1.1 12 0)).toNat (0 : Int)) v2 v3 v4 (r_1.1 12 0))
theorem T_Ls_seek_120_5 {E : zE} (q : zM) (v2 : Int) (v3 : Int) (v4 : Int) : SimV E 7 (entF [vR (some 120), vR (some 5), vI v2, vI v3, vI v4] (hp q)) eI (Ls_seek_120_5 q v2 v3 v4) := by
  unfold Ls_seek_120_5
  exact S_run 0 (f' := (0, 0, 0, [(0, vR (some 120)), (1, vR (some 5)), (2, vI v2), (3, vI v3), (4, vI v4)], [], hp q)) rfl (S_run 5 (f' := (0, 0, 6, [(0, vR (some 120)), (1, vR (some 5)), (2, vI v2), (3, vI v3), (4, vI v4)], [vI v4, vI v3, vI v2, vR (some 5), vR (some 120)], hp q)) rfl (S_call (m' := 11) (args := [vR (some 120), vR (some 5), vI v2, vI v3, vI v4]) (h := hp q) (k := fun r => (0, 0, 9, [(0, vR (some 120)), (1, vR (some 5)), (2, vI v2), (3, vI v3), (4, vI v4)], r.1.toList ++ [], r.2)) rfl (T_Ls_prepare_120_5 q v2 v3 v4) (fun r_1 => S_run 8 (f' := (0, 0, 25, [(0, vR (some 120)), (1, vR (some 5)), (2, vI v2), (3, vI v3), (4, vI v4), (5, vI (r_1.1 12 0))], [vI (0 : Int), vI (r_1.1 12 0), vR (some 122)], hp r_1)) rfl (S_ck (n := 13) (fun h_2 => S_go (H_iast rfl rfl rfl h_2) (S_run 0 (f' := (0, 0, 26, [(0, vR (some 120)), (1, vR (some 5)), (2, vI v2), (3, vI v3), (4, vI v4), (5, vI (r_1.1 12 0))], [], hp (qs r_1 122 (wrap (r_1.1 12 0)).toNat (0 : Int)))) rfl (T_Ls_seek_120_5_b26 (qs r_1 122 (wrap (r_1.1 12 0)).toNat (0 : Int)) v2 v3 v4 (r_1.1 12 0))))))))

def Ls_wordIn_120 (q : zM) (v1 : Int) : Option Int :=
  if wrap v1 < (0 : Int) then
    some (-1 : Int)
  else
    if wrap v1 < wrap (q.1 120 5) then
      if wrap v1 < (12 : Int) then
        ck (wrap v1) 12 (
          some (q.1 125 (wrap v1).toNat))
      else
        some (-1 : Int)
    else
      some (-1 : Int)
theorem T_Ls_wordIn_120 {E : zE} (q : zM) (v1 : Int) : SimV E 6 (entF [vR (some 120), vI v1] (hp q)) (eP q) (Ls_wordIn_120 q v1) := by
  unfold Ls_wordIn_120
  exact S_run 0 (f' := (0, 0, 0, [(0, vR (some 120)), (1, vI v1)], [], hp q)) rfl (S_run 1 (f' := (0, 0, 1, [(0, vR (some 120)), (1, vI v1)], [vI v1], hp q)) rfl (S_ite (fun h_1 => S_go (J_if2 rfl rfl (B_lt h_1)) (S_run 1 (f' := (0, 0, 28, [(0, vR (some 120)), (1, vI v1)], [vI (-1 : Int)], hp q)) rfl (S_ret rfl))) (fun h_1 => S_go (J_if2 rfl rfl (B_lt' h_1)) (S_run 3 (f' := (0, 0, 9, [(0, vR (some 120)), (1, vI v1)], [vI (q.1 120 5), vI v1], hp q)) rfl (S_ite (fun h_2 => S_go (J_icmp2 rfl rfl rfl (B_ge h_2)) (S_run 2 (f' := (0, 0, 15, [(0, vR (some 120)), (1, vI v1)], [vI (12 : Int), vI v1], hp q)) rfl (S_ite (fun h_3 => S_go (J_icmp2 rfl rfl wl_12 (B_ge h_3)) (S_run 3 (f' := (0, 0, 23, [(0, vR (some 120)), (1, vI v1)], [vI v1, vR (some 125)], hp q)) rfl (S_ck (n := 12) (fun h_4 => S_go (H_iald rfl rfl rfl h_4) (S_run 1 (f' := (0, 0, 28, [(0, vR (some 120)), (1, vI v1)], [vI (q.1 125 (wrap v1).toNat)], hp q)) rfl (S_ret rfl)))))) (fun h_3 => S_go (J_icmp2 rfl rfl wl_12 (B_ge' h_3)) (S_run 1 (f' := (0, 0, 28, [(0, vR (some 120)), (1, vI v1)], [vI (-1 : Int)], hp q)) rfl (S_ret rfl)))))) (fun h_2 => S_go (J_icmp2 rfl rfl rfl (B_ge' h_2)) (S_run 1 (f' := (0, 0, 28, [(0, vR (some 120)), (1, vI v1)], [vI (-1 : Int)], hp q)) rfl (S_ret rfl))))))))

def Ls_wordIn_114 (q : zM) (v1 : Int) : Option Int :=
  if wrap v1 < (0 : Int) then
    some (-1 : Int)
  else
    if wrap v1 < wrap (q.1 114 5) then
      if wrap v1 < (12 : Int) then
        ck (wrap v1) 12 (
          some (q.1 119 (wrap v1).toNat))
      else
        some (-1 : Int)
    else
      some (-1 : Int)
theorem T_Ls_wordIn_114 {E : zE} (q : zM) (v1 : Int) : SimV E 6 (entF [vR (some 114), vI v1] (hp q)) (eP q) (Ls_wordIn_114 q v1) := by
  unfold Ls_wordIn_114
  exact S_run 0 (f' := (0, 0, 0, [(0, vR (some 114)), (1, vI v1)], [], hp q)) rfl (S_run 1 (f' := (0, 0, 1, [(0, vR (some 114)), (1, vI v1)], [vI v1], hp q)) rfl (S_ite (fun h_1 => S_go (J_if2 rfl rfl (B_lt h_1)) (S_run 1 (f' := (0, 0, 28, [(0, vR (some 114)), (1, vI v1)], [vI (-1 : Int)], hp q)) rfl (S_ret rfl))) (fun h_1 => S_go (J_if2 rfl rfl (B_lt' h_1)) (S_run 3 (f' := (0, 0, 9, [(0, vR (some 114)), (1, vI v1)], [vI (q.1 114 5), vI v1], hp q)) rfl (S_ite (fun h_2 => S_go (J_icmp2 rfl rfl rfl (B_ge h_2)) (S_run 2 (f' := (0, 0, 15, [(0, vR (some 114)), (1, vI v1)], [vI (12 : Int), vI v1], hp q)) rfl (S_ite (fun h_3 => S_go (J_icmp2 rfl rfl wl_12 (B_ge h_3)) (S_run 3 (f' := (0, 0, 23, [(0, vR (some 114)), (1, vI v1)], [vI v1, vR (some 119)], hp q)) rfl (S_ck (n := 12) (fun h_4 => S_go (H_iald rfl rfl rfl h_4) (S_run 1 (f' := (0, 0, 28, [(0, vR (some 114)), (1, vI v1)], [vI (q.1 119 (wrap v1).toNat)], hp q)) rfl (S_ret rfl)))))) (fun h_3 => S_go (J_icmp2 rfl rfl wl_12 (B_ge' h_3)) (S_run 1 (f' := (0, 0, 28, [(0, vR (some 114)), (1, vI v1)], [vI (-1 : Int)], hp q)) rfl (S_ret rfl)))))) (fun h_2 => S_go (J_icmp2 rfl rfl rfl (B_ge' h_2)) (S_run 1 (f' := (0, 0, 28, [(0, vR (some 114)), (1, vI v1)], [vI (-1 : Int)], hp q)) rfl (S_ret rfl))))))))

def Ls_comesBefore (q : zM)  : Option Int :=
  if wrap (q.1 122 0) = wrap (q.1 116 0) then
    (Ls_wordIn_120 q (0 : Int)).bind fun r_4 =>
      (Ls_wordIn_114 q (0 : Int)).bind fun r_5 =>
        if wrap r_4 < wrap r_5 then
          some (1 : Int)
        else
          some (0 : Int)
  else
    if wrap (q.1 122 0) < wrap (q.1 116 0) then
      some (1 : Int)
    else
      some (0 : Int)
theorem T_Ls_comesBefore {E : zE} (q : zM)  : SimV E 10 (entF [vR (some 120), vR (some 114)] (hp q)) (eP q) (Ls_comesBefore q ) := by
  unfold Ls_comesBefore
  exact S_run 0 (f' := (0, 0, 0, [(0, vR (some 120)), (1, vR (some 114))], [], hp q)) rfl (S_run 8 (f' := (0, 0, 12, [(0, vR (some 120)), (1, vR (some 114))], [vI (q.1 116 0), vI (q.1 122 0)], hp q)) rfl (S_ite (fun h_3 => S_go (J_icmp2 rfl rfl rfl (B_eq h_3)) (S_run 2 (f' := (0, 0, 38, [(0, vR (some 120)), (1, vR (some 114))], [vI (0 : Int), vR (some 120)], hp q)) rfl (S_call (m' := 6) (args := [vR (some 120), vI (0 : Int)]) (h := hp q) (k := fun r => (0, 0, 41, [(0, vR (some 120)), (1, vR (some 114))], r.1.toList ++ [], r.2)) rfl (T_Ls_wordIn_120 q (0 : Int)) (fun r_4 => S_run 2 (f' := (0, 0, 43, [(0, vR (some 120)), (1, vR (some 114))], [vI (0 : Int), vR (some 114), vI r_4], hp q)) rfl (S_call (m' := 6) (args := [vR (some 114), vI (0 : Int)]) (h := hp q) (k := fun r => (0, 0, 46, [(0, vR (some 120)), (1, vR (some 114))], r.1.toList ++ [vI r_4], r.2)) rfl (T_Ls_wordIn_114 q (0 : Int)) (fun r_5 => S_run 0 (f' := (0, 0, 46, [(0, vR (some 120)), (1, vR (some 114))], [vI r_5, vI r_4], hp q)) rfl (S_ite (fun h_6 => S_go (J_icmp2 rfl rfl rfl (B_ge h_6)) (S_run 2 (f' := (0, 0, 54, [(0, vR (some 120)), (1, vR (some 114))], [vI (1 : Int)], hp q)) rfl (S_ret rfl))) (fun h_6 => S_go (J_icmp2 rfl rfl rfl (B_ge' h_6)) (S_run 1 (f' := (0, 0, 54, [(0, vR (some 120)), (1, vR (some 114))], [vI (0 : Int)], hp q)) rfl (S_ret rfl)))))))))) (fun h_3 => S_go (J_icmp2 rfl rfl rfl (B_eq' h_3)) (S_run 8 (f' := (0, 0, 27, [(0, vR (some 120)), (1, vR (some 114))], [vI (q.1 116 0), vI (q.1 122 0)], hp q)) rfl (S_ite (fun h_9 => S_go (J_icmp2 rfl rfl rfl (B_ge h_9)) (S_run 2 (f' := (0, 0, 35, [(0, vR (some 120)), (1, vR (some 114))], [vI (1 : Int)], hp q)) rfl (S_ret rfl))) (fun h_9 => S_go (J_icmp2 rfl rfl rfl (B_ge' h_9)) (S_run 1 (f' := (0, 0, 35, [(0, vR (some 120)), (1, vR (some 114))], [vI (0 : Int)], hp q)) rfl (S_ret rfl))))))))

def Ls_size_114 (q : zM)  : Option Int :=
  some (q.1 114 5)
theorem T_Ls_size_114 {E : zE} (q : zM)  : SimV E 5 (entF [vR (some 114)] (hp q)) (eP q) (Ls_size_114 q ) := by
  unfold Ls_size_114
  exact S_run 0 (f' := (0, 0, 0, [(0, vR (some 114))], [], hp q)) rfl (S_run 2 (f' := (0, 0, 4, [(0, vR (some 114))], [vI (q.1 114 5)], hp q)) rfl (S_ret rfl))

def Ls_size_120 (q : zM)  : Option Int :=
  some (q.1 120 5)
theorem T_Ls_size_120 {E : zE} (q : zM)  : SimV E 5 (entF [vR (some 120)] (hp q)) (eP q) (Ls_size_120 q ) := by
  unfold Ls_size_120
  exact S_run 0 (f' := (0, 0, 0, [(0, vR (some 120))], [], hp q)) rfl (S_run 2 (f' := (0, 0, 4, [(0, vR (some 120))], [vI (q.1 120 5)], hp q)) rfl (S_ret rfl))

def Ev_nearMiss (q : zM) (v1 : Int) (v2 : Int) : Option (Int × zM) :=
  (Po_has q v1).bind fun r_1 =>
    if wrap r_1 = (0 : Int) then
      some ((-1 : Int), q)
    else
      if wrap v2 < (0 : Int) then
        some ((-2 : Int), q)
      else
        (Ls_seek_114_5 q v1 (1 : Int) (0 : Int)).bind fun r_4 =>
          (Ls_seek_120_5 r_4.2 v1 (0 : Int) (1 : Int)).bind fun r_5 =>
            (Ls_comesBefore r_5.2 ).bind fun r_6 =>
              if wrap r_6 = (0 : Int) then
                (Ls_size_114 r_5.2 ).bind fun r_8 =>
                  if wrap v2 < wrap r_8 then
                    (Ls_wordIn_114 r_5.2 v2).bind fun r_10 =>
                      some (r_10, r_5.2)
                  else
                    some ((-5 : Int), r_5.2)
              else
                (Ls_size_120 r_5.2 ).bind fun r_11 =>
                  if wrap v2 < wrap r_11 then
                    (Ls_wordIn_120 r_5.2 v2).bind fun r_13 =>
                      some (r_13, r_5.2)
                  else
                    some ((-5 : Int), r_5.2)
theorem T_Ev_nearMiss {E : zE} (q : zM) (v1 : Int) (v2 : Int) : SimV E 106 (entF [vR (some 1), vI v1, vI v2] (hp q)) eI (Ev_nearMiss q v1 v2) := by
  unfold Ev_nearMiss
  exact S_run 0 (f' := (0, 0, 0, [(0, vR (some 1)), (1, vI v1), (2, vI v2)], [], hp q)) rfl (S_run 4 (f' := (0, 0, 8, [(0, vR (some 1)), (1, vI v1), (2, vI v2)], [vI v1, vR (some 13)], hp q)) rfl (S_call (m' := 24) (args := [vR (some 13), vI v1]) (h := hp q) (k := fun r => (0, 0, 11, [(0, vR (some 1)), (1, vI v1), (2, vI v2)], r.1.toList ++ [], r.2)) rfl (T_Po_has q v1) (fun r_1 => S_run 0 (f' := (0, 0, 11, [(0, vR (some 1)), (1, vI v1), (2, vI v2)], [vI r_1], hp q)) rfl (S_ite (fun h_2 => S_go (J_if2 rfl rfl (B_ne h_2)) (S_run 1 (f' := (0, 0, 15, [(0, vR (some 1)), (1, vI v1), (2, vI v2)], [vI (-1 : Int)], hp q)) rfl (S_ret rfl))) (fun h_2 => S_go (J_if2 rfl rfl (B_ne' h_2)) (S_run 1 (f' := (0, 0, 17, [(0, vR (some 1)), (1, vI v1), (2, vI v2)], [vI v2], hp q)) rfl (S_ite (fun h_3 => S_go (J_if2 rfl rfl (B_ge h_3)) (S_run 1 (f' := (0, 0, 22, [(0, vR (some 1)), (1, vI v1), (2, vI v2)], [vI (-2 : Int)], hp q)) rfl (S_ret rfl))) (fun h_3 => S_go (J_if2 rfl rfl (B_ge' h_3)) (S_run 7 (f' := (0, 0, 34, [(0, vR (some 1)), (1, vI v1), (2, vI v2)], [vI (0 : Int), vI (1 : Int), vI v1, vR (some 5), vR (some 114)], hp q)) rfl (S_call (m' := 7) (args := [vR (some 114), vR (some 5), vI v1, vI (1 : Int), vI (0 : Int)]) (h := hp q) (k := fun r => (0, 0, 37, [(0, vR (some 1)), (1, vI v1), (2, vI v2)], r.1.toList ++ [], r.2)) rfl (T_Ls_seek_114_5 q v1 (1 : Int) (0 : Int)) (fun r_4 => S_run 8 (f' := (0, 0, 49, [(0, vR (some 1)), (1, vI v1), (2, vI v2)], [vI (1 : Int), vI (0 : Int), vI v1, vR (some 5), vR (some 120)], hp r_4.2)) rfl (S_call (m' := 7) (args := [vR (some 120), vR (some 5), vI v1, vI (0 : Int), vI (1 : Int)]) (h := hp r_4.2) (k := fun r => (0, 0, 52, [(0, vR (some 1)), (1, vI v1), (2, vI v2)], r.1.toList ++ [], r.2)) rfl (T_Ls_seek_120_5 r_4.2 v1 (0 : Int) (1 : Int)) (fun r_5 => S_run 5 (f' := (0, 0, 61, [(0, vR (some 1)), (1, vI v1), (2, vI v2)], [vR (some 114), vR (some 120)], hp r_5.2)) rfl (S_call (m' := 10) (args := [vR (some 120), vR (some 114)]) (h := hp r_5.2) (k := fun r => (0, 0, 64, [(0, vR (some 1)), (1, vI v1), (2, vI v2)], r.1.toList ++ [], r.2)) rfl (T_Ls_comesBefore r_5.2 ) (fun r_6 => S_run 0 (f' := (0, 0, 64, [(0, vR (some 1)), (1, vI v1), (2, vI v2)], [vI r_6], hp r_5.2)) rfl (S_ite (fun h_7 => S_go (J_if2 rfl rfl (B_eq h_7)) (S_run 5 (f' := (0, 0, 81, [(0, vR (some 1)), (1, vI v1), (2, vI v2), (3, vR (some 114))], [vR (some 114), vI v2], hp r_5.2)) rfl (S_call (m' := 5) (args := [vR (some 114)]) (h := hp r_5.2) (k := fun r => (0, 0, 84, [(0, vR (some 1)), (1, vI v1), (2, vI v2), (3, vR (some 114))], r.1.toList ++ [vI v2], r.2)) rfl (T_Ls_size_114 r_5.2 ) (fun r_8 => S_run 0 (f' := (0, 0, 84, [(0, vR (some 1)), (1, vI v1), (2, vI v2), (3, vR (some 114))], [vI r_8, vI v2], hp r_5.2)) rfl (S_ite (fun h_9 => S_go (J_icmp2 rfl rfl rfl (B_ge h_9)) (S_run 2 (f' := (0, 0, 89, [(0, vR (some 1)), (1, vI v1), (2, vI v2), (3, vR (some 114))], [vI v2, vR (some 114)], hp r_5.2)) rfl (S_call (m' := 6) (args := [vR (some 114), vI v2]) (h := hp r_5.2) (k := fun r => (0, 0, 92, [(0, vR (some 1)), (1, vI v1), (2, vI v2), (3, vR (some 114))], r.1.toList ++ [], r.2)) rfl (T_Ls_wordIn_114 r_5.2 v2) (fun r_10 => S_run 1 (f' := (0, 0, 97, [(0, vR (some 1)), (1, vI v1), (2, vI v2), (3, vR (some 114))], [vI r_10], hp r_5.2)) rfl (S_ret rfl))))) (fun h_9 => S_go (J_icmp2 rfl rfl rfl (B_ge' h_9)) (S_run 1 (f' := (0, 0, 97, [(0, vR (some 1)), (1, vI v1), (2, vI v2), (3, vR (some 114))], [vI (-5 : Int)], hp r_5.2)) rfl (S_ret rfl)))))))) (fun h_7 => S_go (J_if2 rfl rfl (B_eq' h_7)) (S_run 6 (f' := (0, 0, 81, [(0, vR (some 1)), (1, vI v1), (2, vI v2), (3, vR (some 120))], [vR (some 120), vI v2], hp r_5.2)) rfl (S_call (m' := 5) (args := [vR (some 120)]) (h := hp r_5.2) (k := fun r => (0, 0, 84, [(0, vR (some 1)), (1, vI v1), (2, vI v2), (3, vR (some 120))], r.1.toList ++ [vI v2], r.2)) rfl (T_Ls_size_120 r_5.2 ) (fun r_11 => S_run 0 (f' := (0, 0, 84, [(0, vR (some 1)), (1, vI v1), (2, vI v2), (3, vR (some 120))], [vI r_11, vI v2], hp r_5.2)) rfl (S_ite (fun h_12 => S_go (J_icmp2 rfl rfl rfl (B_ge h_12)) (S_run 2 (f' := (0, 0, 89, [(0, vR (some 1)), (1, vI v1), (2, vI v2), (3, vR (some 120))], [vI v2, vR (some 120)], hp r_5.2)) rfl (S_call (m' := 6) (args := [vR (some 120), vI v2]) (h := hp r_5.2) (k := fun r => (0, 0, 92, [(0, vR (some 1)), (1, vI v1), (2, vI v2), (3, vR (some 120))], r.1.toList ++ [], r.2)) rfl (T_Ls_wordIn_120 r_5.2 v2) (fun r_13 => S_run 1 (f' := (0, 0, 97, [(0, vR (some 1)), (1, vI v1), (2, vI v2), (3, vR (some 120))], [vI r_13], hp r_5.2)) rfl (S_ret rfl))))) (fun h_12 => S_go (J_icmp2 rfl rfl rfl (B_ge' h_12)) (S_run 1 (f' := (0, 0, 97, [(0, vR (some 1)), (1, vI v1), (2, vI v2), (3, vR (some 120))], [vI (-5 : Int)], hp r_5.2)) rfl (S_ret rfl))))))))))))))))))))))))

def Te_plainLetters_L27 (q : zM)  (K : Int64 → Int → Option Int64) : Nat → Int64 → Int → Option Int64
  | 0, _, _ => none
  | n + 1, v1, v3 =>
    if wrap v3 < wrap (q.1 2 1) then
      (Te_codeAt q v3).bind fun r_5 =>
        (Ev_packed q r_5 v3).bind fun r_6 =>
          Te_plainLetters_L27 q K n (v1 ||| r_6) (v3 + 1)
    else
      K v1 v3
theorem T_Te_plainLetters_L27 {E : zE} (q : zM)  {K : Int64 → Int → Option Int64} (hK : ∀ (v1 : Int64) (v3 : Int), SimV E 63 (0, 0, 53, [(0, vR (some 2)), (1, vL v1), (3, vI v3)], [], hp q) (eL q) (K v1 v3)) : ∀ (n : Nat) (v1 : Int64) (v3 : Int), SimV E 63 (0, 0, 27, [(0, vR (some 2)), (1, vL v1), (3, vI v3)], [], hp q) (eL q) (Te_plainLetters_L27 q K n v1 v3) := by
  intro n
  induction n with
  | zero => intro _ _; exact S_none
  | succ n ih =>
    intro v1 v3
    rw [Te_plainLetters_L27]
    exact S_run 3 (f' := (0, 0, 32, [(0, vR (some 2)), (1, vL v1), (3, vI v3)], [vI (q.1 2 1), vI v3], hp q)) rfl (S_ite (fun h_4 => S_go (J_icmp2 rfl rfl rfl (B_ge h_4)) (S_run 3 (f' := (0, 0, 38, [(0, vR (some 2)), (1, vL v1), (3, vI v3)], [vI v3, vR (some 2), vL v1], hp q)) rfl (S_call (m' := 59) (args := [vR (some 2), vI v3]) (h := hp q) (k := fun r => (0, 0, 41, [(0, vR (some 2)), (1, vL v1), (3, vI v3)], r.1.toList ++ [vL v1], r.2)) rfl (T_Te_codeAt q v3) (fun r_5 => S_run 1 (f' := (0, 0, 42, [(0, vR (some 2)), (1, vL v1), (3, vI v3)], [vI v3, vI r_5, vL v1], hp q)) rfl (S_call (m' := 111) (args := [vI r_5, vI v3]) (h := hp q) (k := fun r => (0, 0, 45, [(0, vR (some 2)), (1, vL v1), (3, vI v3)], r.1.toList ++ [vL v1], r.2)) rfl (T_Ev_packed q r_5 v3) (fun r_6 => S_run 4 (f' := (0, 0, 27, [(0, vR (some 2)), (1, vL (v1 ||| r_6)), (3, vI (v3 + 1))], [], hp q)) rfl (ih (v1 ||| r_6) (v3 + 1)))))))) (fun h_4 => S_go (J_icmp2 rfl rfl rfl (B_ge' h_4)) (S_run 0 (f' := (0, 0, 53, [(0, vR (some 2)), (1, vL v1), (3, vI v3)], [], hp q)) rfl (hK v1 v3))))

def Te_plainLetters (q : zM)  : Option Int64 :=
  if (8 : Int) < wrap (q.1 2 1) then
    some (Int64.ofNat 0)
  else
    (Te_hasLetters q (0 : Int) (q.1 2 1)).bind fun r_2 =>
      if wrap r_2 = (0 : Int) then
        some (Int64.ofNat 0)
      else
        Te_plainLetters_L27 q (fun v1_7 v3_8 => 
          some v1_7) 5000 (Int64.ofNat 0) (0 : Int)
theorem T_Te_plainLetters {E : zE} (q : zM)  : SimV E 63 (entF [vR (some 2)] (hp q)) (eL q) (Te_plainLetters q ) := by
  unfold Te_plainLetters
  exact S_run 0 (f' := (0, 0, 0, [(0, vR (some 2))], [], hp q)) rfl (S_run 3 (f' := (0, 0, 6, [(0, vR (some 2))], [vI (8 : Int), vI (q.1 2 1)], hp q)) rfl (S_ite (fun h_1 => S_go (J_icmp2 rfl rfl wl_8 (B_gt h_1)) (S_run 1 (f' := (0, 0, 22, [(0, vR (some 2))], [vL (Int64.ofNat 0)], hp q)) rfl (S_ret rfl))) (fun h_1 => S_go (J_icmp2 rfl rfl wl_8 (B_gt' h_1)) (S_run 4 (f' := (0, 0, 15, [(0, vR (some 2))], [vI (q.1 2 1), vI (0 : Int), vR (some 2)], hp q)) rfl (S_call (m' := 62) (args := [vR (some 2), vI (0 : Int), vI (q.1 2 1)]) (h := hp q) (k := fun r => (0, 0, 18, [(0, vR (some 2))], r.1.toList ++ [], r.2)) rfl (T_Te_hasLetters q (0 : Int) (q.1 2 1)) (fun r_2 => S_run 0 (f' := (0, 0, 18, [(0, vR (some 2))], [vI r_2], hp q)) rfl (S_ite (fun h_3 => S_go (J_if2 rfl rfl (B_ne h_3)) (S_run 1 (f' := (0, 0, 22, [(0, vR (some 2))], [vL (Int64.ofNat 0)], hp q)) rfl (S_ret rfl))) (fun h_3 => S_go (J_if2 rfl rfl (B_ne' h_3)) (S_run 4 (f' := (0, 0, 27, [(0, vR (some 2)), (1, vL (Int64.ofNat 0)), (3, vI (0 : Int))], [], hp q)) rfl (T_Te_plainLetters_L27 q (fun v1_7 v3_8 => S_run 1 (f' := (0, 0, 54, [(0, vR (some 2)), (1, vL v1_7), (3, vI v3_8)], [vL v1_7], hp q)) rfl (S_ret rfl)) 5000 (Int64.ofNat 0) (0 : Int)))))))))))

def Ev_find (q : zM)  : Option Int :=
  (Te_plainLetters q ).bind fun r_1 =>
    if wrap (wlcmp r_1 (Int64.ofNat 0)) = (0 : Int) then
      if (-1 : Int) = (-1 : Int) then
        some (-5 : Int)
      else
        some (-1 : Int)
    else
      (Ws_indexOf q r_1).bind fun r_3 =>
        if wrap r_3 = (-1 : Int) then
          some (-5 : Int)
        else
          some r_3
theorem T_Ev_find {E : zE} (q : zM)  : SimV E 107 (entF [vR (some 1)] (hp q)) (eP q) (Ev_find q ) := by
  unfold Ev_find
  exact S_run 0 (f' := (0, 0, 0, [(0, vR (some 1))], [], hp q)) rfl (S_run 2 (f' := (0, 0, 4, [(0, vR (some 1))], [vR (some 2)], hp q)) rfl (S_call (m' := 63) (args := [vR (some 2)]) (h := hp q) (k := fun r => (0, 0, 7, [(0, vR (some 1))], r.1.toList ++ [], r.2)) rfl (T_Te_plainLetters q ) (fun r_1 => S_run 4 (f' := (0, 0, 11, [(0, vR (some 1)), (1, vL r_1)], [vI (wlcmp r_1 (Int64.ofNat 0))], hp q)) rfl (S_ite (fun h_2 => S_go (J_if2 rfl rfl (B_ne h_2)) (S_run 5 (f' := (0, 0, 32, [(0, vR (some 1)), (1, vL r_1), (3, vI (-1 : Int))], [vI (-1 : Int), vI (-1 : Int)], hp q)) rfl (S_ite (fun h_5 => S_go (J_icmp2 rfl wl_m1 wl_m1 (B_ne h_5)) (S_run 2 (f' := (0, 0, 41, [(0, vR (some 1)), (1, vL r_1), (3, vI (-1 : Int))], [vI (-5 : Int)], hp q)) rfl (S_ret rfl))) (fun h_5 => S_go (J_icmp2 rfl wl_m1 wl_m1 (B_ne' h_5)) (S_run 1 (f' := (0, 0, 41, [(0, vR (some 1)), (1, vL r_1), (3, vI (-1 : Int))], [vI (-1 : Int)], hp q)) rfl (S_ret rfl)))))) (fun h_2 => S_go (J_if2 rfl rfl (B_ne' h_2)) (S_run 4 (f' := (0, 0, 26, [(0, vR (some 1)), (1, vL r_1)], [vL r_1, vR (some 6)], hp q)) rfl (S_call (m' := 84) (args := [vR (some 6), vL r_1]) (h := hp q) (k := fun r => (0, 0, 29, [(0, vR (some 1)), (1, vL r_1)], r.1.toList ++ [], r.2)) rfl (T_Ws_indexOf q r_1) (fun r_3 => S_run 3 (f' := (0, 0, 32, [(0, vR (some 1)), (1, vL r_1), (3, vI r_3)], [vI (-1 : Int), vI r_3], hp q)) rfl (S_ite (fun h_4 => S_go (J_icmp2 rfl rfl wl_m1 (B_ne h_4)) (S_run 2 (f' := (0, 0, 41, [(0, vR (some 1)), (1, vL r_1), (3, vI r_3)], [vI (-5 : Int)], hp q)) rfl (S_ret rfl))) (fun h_4 => S_go (J_icmp2 rfl rfl wl_m1 (B_ne' h_4)) (S_run 1 (f' := (0, 0, 41, [(0, vR (some 1)), (1, vL r_1), (3, vI r_3)], [vI r_3], hp q)) rfl (S_ret rfl))))))))))))

def St_lengthOf (q : zM) (v1 : Int) : Option Int :=
  (St_lettersIn q v1).bind fun r_1 =>
    (Po_wordsIn q v1).bind fun r_2 =>
      some (r_1 + (wmax r_2 (1 : Int)))
theorem T_St_lengthOf {E : zE} (q : zM) (v1 : Int) : SimV E 53 (entF [vR (some 5), vI v1] (hp q)) (eP q) (St_lengthOf q v1) := by
  unfold St_lengthOf
  exact S_run 0 (f' := (0, 0, 0, [(0, vR (some 5)), (1, vI v1)], [], hp q)) rfl (S_run 2 (f' := (0, 0, 2, [(0, vR (some 5)), (1, vI v1)], [vI v1, vR (some 5)], hp q)) rfl (S_call (m' := 49) (args := [vR (some 5), vI v1]) (h := hp q) (k := fun r => (0, 0, 5, [(0, vR (some 5)), (1, vI v1)], r.1.toList ++ [], r.2)) rfl (T_St_lettersIn q v1) (fun r_1 => S_run 3 (f' := (0, 0, 10, [(0, vR (some 5)), (1, vI v1)], [vI v1, vR (some 13), vI r_1], hp q)) rfl (S_call (m' := 27) (args := [vR (some 13), vI v1]) (h := hp q) (k := fun r => (0, 0, 13, [(0, vR (some 5)), (1, vI v1)], r.1.toList ++ [vI r_1], r.2)) rfl (T_Po_wordsIn q v1) (fun r_2 => S_run 3 (f' := (0, 0, 18, [(0, vR (some 5)), (1, vI v1)], [vI (r_1 + (wmax r_2 (1 : Int)))], hp q)) rfl (S_ret rfl))))))

def St_codeIn_L15 (q : zM) (v1 : Int) (v2 : Int) (v4 : Int) (K : Int → Int → Option Int) : Nat → Int → Int → Option Int
  | 0, _, _ => none
  | n + 1, v3, v5 =>
    if wrap v5 < wrap v4 then
      (Po_wordIn q v1 v5).bind fun r_3 =>
        (Ws_letterCountOf q r_3).bind fun r_4 =>
          if wrap v3 < wrap r_4 then
            (Ws_letterOf q r_3 v3).bind fun r_8 =>
              some r_8
          else
            if wrap v3 = wrap r_4 then
              if wrap (v5 + (1 : Int)) < wrap v4 then
                some (32 : Int)
              else
                St_codeIn_L15 q v1 v2 v4 K n (v3 - (r_4 + (1 : Int))) (v5 + 1)
            else
              St_codeIn_L15 q v1 v2 v4 K n (v3 - (r_4 + (1 : Int))) (v5 + 1)
    else
      K v3 v5
theorem T_St_codeIn_L15 {E : zE} (q : zM) (v1 : Int) (v2 : Int) (v4 : Int) {K : Int → Int → Option Int} (hK : ∀ (v3 : Int) (v5 : Int), SimV E 56 (0, 0, 93, [(0, vR (some 5)), (1, vI v1), (2, vI v2), (3, vI v3), (4, vI v4), (5, vI v5)], [], hp q) (eP q) (K v3 v5)) : ∀ (n : Nat) (v3 : Int) (v5 : Int), SimV E 56 (0, 0, 15, [(0, vR (some 5)), (1, vI v1), (2, vI v2), (3, vI v3), (4, vI v4), (5, vI v5)], [], hp q) (eP q) (St_codeIn_L15 q v1 v2 v4 K n v3 v5) := by
  intro n
  induction n with
  | zero => intro _ _; exact S_none
  | succ n ih =>
    intro v3 v5
    rw [St_codeIn_L15]
    exact S_run 2 (f' := (0, 0, 19, [(0, vR (some 5)), (1, vI v1), (2, vI v2), (3, vI v3), (4, vI v4), (5, vI v5)], [vI v4, vI v5], hp q)) rfl (S_ite (fun h_2 => S_go (J_icmp2 rfl rfl rfl (B_ge h_2)) (S_run 4 (f' := (0, 0, 29, [(0, vR (some 5)), (1, vI v1), (2, vI v2), (3, vI v3), (4, vI v4), (5, vI v5)], [vI v5, vI v1, vR (some 13)], hp q)) rfl (S_call (m' := 28) (args := [vR (some 13), vI v1, vI v5]) (h := hp q) (k := fun r => (0, 0, 32, [(0, vR (some 5)), (1, vI v1), (2, vI v2), (3, vI v3), (4, vI v4), (5, vI v5)], r.1.toList ++ [], r.2)) rfl (T_Po_wordIn q v1 v5) (fun r_3 => S_run 4 (f' := (0, 0, 40, [(0, vR (some 5)), (1, vI v1), (2, vI v2), (3, vI v3), (4, vI v4), (5, vI v5), (6, vI r_3)], [vI r_3, vR (some 6)], hp q)) rfl (S_call (m' := 77) (args := [vR (some 6), vI r_3]) (h := hp q) (k := fun r => (0, 0, 43, [(0, vR (some 5)), (1, vI v1), (2, vI v2), (3, vI v3), (4, vI v4), (5, vI v5), (6, vI r_3)], r.1.toList ++ [], r.2)) rfl (T_Ws_letterCountOf q r_3) (fun r_4 => S_run 3 (f' := (0, 0, 48, [(0, vR (some 5)), (1, vI v1), (2, vI v2), (3, vI v3), (4, vI v4), (5, vI v5), (6, vI r_3), (7, vI r_4)], [vI r_4, vI v3], hp q)) rfl (S_ite (fun h_5 => S_go (J_icmp2 rfl rfl rfl (B_ge h_5)) (S_run 4 (f' := (0, 0, 58, [(0, vR (some 5)), (1, vI v1), (2, vI v2), (3, vI v3), (4, vI v4), (5, vI v5), (6, vI r_3), (7, vI r_4)], [vI v3, vI r_3, vR (some 6)], hp q)) rfl (S_call (m' := 81) (args := [vR (some 6), vI r_3, vI v3]) (h := hp q) (k := fun r => (0, 0, 61, [(0, vR (some 5)), (1, vI v1), (2, vI v2), (3, vI v3), (4, vI v4), (5, vI v5), (6, vI r_3), (7, vI r_4)], r.1.toList ++ [], r.2)) rfl (T_Ws_letterOf q r_3 v3) (fun r_8 => S_run 0 (f' := (0, 0, 61, [(0, vR (some 5)), (1, vI v1), (2, vI v2), (3, vI v3), (4, vI v4), (5, vI v5), (6, vI r_3), (7, vI r_4)], [vI r_8], hp q)) rfl (S_ret rfl))))) (fun h_5 => S_go (J_icmp2 rfl rfl rfl (B_ge' h_5)) (S_run 2 (f' := (0, 0, 65, [(0, vR (some 5)), (1, vI v1), (2, vI v2), (3, vI v3), (4, vI v4), (5, vI v5), (6, vI r_3), (7, vI r_4)], [vI r_4, vI v3], hp q)) rfl (S_ite (fun h_6 => S_go (J_icmp2 rfl rfl rfl (B_ne h_6)) (S_run 4 (f' := (0, 0, 74, [(0, vR (some 5)), (1, vI v1), (2, vI v2), (3, vI v3), (4, vI v4), (5, vI v5), (6, vI r_3), (7, vI r_4)], [vI v4, vI (v5 + (1 : Int))], hp q)) rfl (S_ite (fun h_7 => S_go (J_icmp2 rfl rfl rfl (B_ge h_7)) (S_run 1 (f' := (0, 0, 79, [(0, vR (some 5)), (1, vI v1), (2, vI v2), (3, vI v3), (4, vI v4), (5, vI v5), (6, vI r_3), (7, vI r_4)], [vI (32 : Int)], hp q)) rfl (S_ret rfl))) (fun h_7 => S_go (J_icmp2 rfl rfl rfl (B_ge' h_7)) (S_run 8 (f' := (0, 0, 15, [(0, vR (some 5)), (1, vI v1), (2, vI v2), (3, vI (v3 - (r_4 + (1 : Int)))), (4, vI v4), (5, vI (v5 + 1))], [], hp q)) rfl (ih (v3 - (r_4 + (1 : Int))) (v5 + 1))))))) (fun h_6 => S_go (J_icmp2 rfl rfl rfl (B_ne' h_6)) (S_run 8 (f' := (0, 0, 15, [(0, vR (some 5)), (1, vI v1), (2, vI v2), (3, vI (v3 - (r_4 + (1 : Int)))), (4, vI v4), (5, vI (v5 + 1))], [], hp q)) rfl (ih (v3 - (r_4 + (1 : Int))) (v5 + 1)))))))))))))) (fun h_2 => S_go (J_icmp2 rfl rfl rfl (B_ge' h_2)) (S_run 0 (f' := (0, 0, 93, [(0, vR (some 5)), (1, vI v1), (2, vI v2), (3, vI v3), (4, vI v4), (5, vI v5)], [], hp q)) rfl (hK v3 v5))))

def St_codeIn (q : zM) (v1 : Int) (v2 : Int) : Option Int :=
  (Po_wordsIn q v1).bind fun r_1 =>
    St_codeIn_L15 q v1 v2 r_1 (fun v3_9 v5_10 => 
      some (47 : Int)) 5000 v2 (0 : Int)
theorem T_St_codeIn {E : zE} (q : zM) (v1 : Int) (v2 : Int) : SimV E 56 (entF [vR (some 5), vI v1, vI v2] (hp q)) (eP q) (St_codeIn q v1 v2) := by
  unfold St_codeIn
  exact S_run 0 (f' := (0, 0, 0, [(0, vR (some 5)), (1, vI v1), (2, vI v2)], [], hp q)) rfl (S_run 5 (f' := (0, 0, 7, [(0, vR (some 5)), (1, vI v1), (2, vI v2), (3, vI v2)], [vI v1, vR (some 13)], hp q)) rfl (S_call (m' := 27) (args := [vR (some 13), vI v1]) (h := hp q) (k := fun r => (0, 0, 10, [(0, vR (some 5)), (1, vI v1), (2, vI v2), (3, vI v2)], r.1.toList ++ [], r.2)) rfl (T_Po_wordsIn q v1) (fun r_1 => S_run 3 (f' := (0, 0, 15, [(0, vR (some 5)), (1, vI v1), (2, vI v2), (3, vI v2), (4, vI r_1), (5, vI (0 : Int))], [], hp q)) rfl (T_St_codeIn_L15 q v1 v2 r_1 (fun v3_9 v5_10 => S_run 1 (f' := (0, 0, 95, [(0, vR (some 5)), (1, vI v1), (2, vI v2), (3, vI v3_9), (4, vI r_1), (5, vI v5_10)], [vI (47 : Int)], hp q)) rfl (S_ret rfl)) 5000 v2 (0 : Int)))))

def St_codeAt_L4 (q : zM) (v1 : Int) (K : Int → Int → Option Int) : Nat → Int → Int → Option Int
  | 0, _, _ => none
  | n + 1, v2, v3 =>
    (Po_size q ).bind fun r_1 =>
      if wrap v3 < wrap r_1 then
        (St_lengthOf q v3).bind fun r_3 =>
          if wrap v2 < wrap r_3 then
            (St_codeIn q v3 v2).bind fun r_5 =>
              some r_5
          else
            St_codeAt_L4 q v1 K n (v2 - r_3) (v3 + 1)
      else
        K v2 v3
theorem T_St_codeAt_L4 {E : zE} (q : zM) (v1 : Int) {K : Int → Int → Option Int} (hK : ∀ (v2 : Int) (v3 : Int), SimV E 55 (0, 0, 46, [(0, vR (some 5)), (1, vI v1), (2, vI v2), (3, vI v3)], [], hp q) (eP q) (K v2 v3)) : ∀ (n : Nat) (v2 : Int) (v3 : Int), SimV E 55 (0, 0, 4, [(0, vR (some 5)), (1, vI v1), (2, vI v2), (3, vI v3)], [], hp q) (eP q) (St_codeAt_L4 q v1 K n v2 v3) := by
  intro n
  induction n with
  | zero => intro _ _; exact S_none
  | succ n ih =>
    intro v2 v3
    rw [St_codeAt_L4]
    exact S_run 3 (f' := (0, 0, 9, [(0, vR (some 5)), (1, vI v1), (2, vI v2), (3, vI v3)], [vR (some 13), vI v3], hp q)) rfl (S_call (m' := 23) (args := [vR (some 13)]) (h := hp q) (k := fun r => (0, 0, 12, [(0, vR (some 5)), (1, vI v1), (2, vI v2), (3, vI v3)], r.1.toList ++ [vI v3], r.2)) rfl (T_Po_size q ) (fun r_1 => S_run 0 (f' := (0, 0, 12, [(0, vR (some 5)), (1, vI v1), (2, vI v2), (3, vI v3)], [vI r_1, vI v3], hp q)) rfl (S_ite (fun h_2 => S_go (J_icmp2 rfl rfl rfl (B_ge h_2)) (S_run 2 (f' := (0, 0, 17, [(0, vR (some 5)), (1, vI v1), (2, vI v2), (3, vI v3)], [vI v3, vR (some 5)], hp q)) rfl (S_call (m' := 53) (args := [vR (some 5), vI v3]) (h := hp q) (k := fun r => (0, 0, 20, [(0, vR (some 5)), (1, vI v1), (2, vI v2), (3, vI v3)], r.1.toList ++ [], r.2)) rfl (T_St_lengthOf q v3) (fun r_3 => S_run 3 (f' := (0, 0, 25, [(0, vR (some 5)), (1, vI v1), (2, vI v2), (3, vI v3), (4, vI r_3)], [vI r_3, vI v2], hp q)) rfl (S_ite (fun h_4 => S_go (J_icmp2 rfl rfl rfl (B_ge h_4)) (S_run 3 (f' := (0, 0, 31, [(0, vR (some 5)), (1, vI v1), (2, vI v2), (3, vI v3), (4, vI r_3)], [vI v2, vI v3, vR (some 5)], hp q)) rfl (S_call (m' := 56) (args := [vR (some 5), vI v3, vI v2]) (h := hp q) (k := fun r => (0, 0, 34, [(0, vR (some 5)), (1, vI v1), (2, vI v2), (3, vI v3), (4, vI r_3)], r.1.toList ++ [], r.2)) rfl (T_St_codeIn q v3 v2) (fun r_5 => S_run 0 (f' := (0, 0, 34, [(0, vR (some 5)), (1, vI v1), (2, vI v2), (3, vI v3), (4, vI r_3)], [vI r_5], hp q)) rfl (S_ret rfl))))) (fun h_4 => S_go (J_icmp2 rfl rfl rfl (B_ge' h_4)) (S_run 6 (f' := (0, 0, 4, [(0, vR (some 5)), (1, vI v1), (2, vI (v2 - r_3)), (3, vI (v3 + 1))], [], hp q)) rfl (ih (v2 - r_3) (v3 + 1))))))))) (fun h_2 => S_go (J_icmp2 rfl rfl rfl (B_ge' h_2)) (S_run 0 (f' := (0, 0, 46, [(0, vR (some 5)), (1, vI v1), (2, vI v2), (3, vI v3)], [], hp q)) rfl (hK v2 v3))))))

def St_codeAt (q : zM) (v1 : Int) : Option Int :=
  St_codeAt_L4 q v1 (fun v2_6 v3_7 => 
    some (-1 : Int)) 5000 v1 (0 : Int)
theorem T_St_codeAt {E : zE} (q : zM) (v1 : Int) : SimV E 55 (entF [vR (some 5), vI v1] (hp q)) (eP q) (St_codeAt q v1) := by
  unfold St_codeAt
  exact S_run 0 (f' := (0, 0, 0, [(0, vR (some 5)), (1, vI v1)], [], hp q)) rfl (S_run 4 (f' := (0, 0, 4, [(0, vR (some 5)), (1, vI v1), (2, vI v1), (3, vI (0 : Int))], [], hp q)) rfl (T_St_codeAt_L4 q v1 (fun v2_6 v3_7 => S_run 1 (f' := (0, 0, 47, [(0, vR (some 5)), (1, vI v1), (2, vI v2_6), (3, vI v3_7)], [vI (-1 : Int)], hp q)) rfl (S_ret rfl)) 5000 v1 (0 : Int)))

def Ev_poemAt (q : zM) (v1 : Int) : Option Int :=
  if wrap v1 < (0 : Int) then
    some (-2 : Int)
  else
    (St_codeAt q v1).bind fun r_2 =>
      if wrap r_2 = (-1 : Int) then
        some (-5 : Int)
      else
        some r_2
theorem T_Ev_poemAt {E : zE} (q : zM) (v1 : Int) : SimV E 108 (entF [vR (some 1), vI v1] (hp q)) (eP q) (Ev_poemAt q v1) := by
  unfold Ev_poemAt
  exact S_run 0 (f' := (0, 0, 0, [(0, vR (some 1)), (1, vI v1)], [], hp q)) rfl (S_run 1 (f' := (0, 0, 1, [(0, vR (some 1)), (1, vI v1)], [vI v1], hp q)) rfl (S_ite (fun h_1 => S_go (J_if2 rfl rfl (B_ge h_1)) (S_run 1 (f' := (0, 0, 6, [(0, vR (some 1)), (1, vI v1)], [vI (-2 : Int)], hp q)) rfl (S_ret rfl))) (fun h_1 => S_go (J_if2 rfl rfl (B_ge' h_1)) (S_run 3 (f' := (0, 0, 12, [(0, vR (some 1)), (1, vI v1)], [vI v1, vR (some 5)], hp q)) rfl (S_call (m' := 55) (args := [vR (some 5), vI v1]) (h := hp q) (k := fun r => (0, 0, 15, [(0, vR (some 1)), (1, vI v1)], r.1.toList ++ [], r.2)) rfl (T_St_codeAt q v1) (fun r_2 => S_run 3 (f' := (0, 0, 18, [(0, vR (some 1)), (1, vI v1), (2, vI r_2)], [vI (-1 : Int), vI r_2], hp q)) rfl (S_ite (fun h_3 => S_go (J_icmp2 rfl rfl wl_m1 (B_ne h_3)) (S_run 2 (f' := (0, 0, 27, [(0, vR (some 1)), (1, vI v1), (2, vI r_2)], [vI (-5 : Int)], hp q)) rfl (S_ret rfl))) (fun h_3 => S_go (J_icmp2 rfl rfl wl_m1 (B_ne' h_3)) (S_run 1 (f' := (0, 0, 27, [(0, vR (some 1)), (1, vI v1), (2, vI r_2)], [vI r_2], hp q)) rfl (S_ret rfl))))))))))

def Hi_size (q : zM)  : Option Int :=
  some (q.1 18 2)
theorem T_Hi_size {E : zE} (q : zM)  : SimV E 1 (entF [vR (some 18)] (hp q)) (eP q) (Hi_size q ) := by
  unfold Hi_size
  exact S_run 0 (f' := (0, 0, 0, [(0, vR (some 18))], [], hp q)) rfl (S_run 2 (f' := (0, 0, 4, [(0, vR (some 18))], [vI (q.1 18 2)], hp q)) rfl (S_ret rfl))

def St_poemLength_L4 (q : zM)  (K : Int → Int → Option Int) : Nat → Int → Int → Option Int
  | 0, _, _ => none
  | n + 1, v1, v2 =>
    (Po_size q ).bind fun r_1 =>
      if wrap v2 < wrap r_1 then
        (St_lengthOf q v2).bind fun r_3 =>
          St_poemLength_L4 q K n (v1 + r_3) (v2 + 1)
      else
        K v1 v2
theorem T_St_poemLength_L4 {E : zE} (q : zM)  {K : Int → Int → Option Int} (hK : ∀ (v1 : Int) (v2 : Int), SimV E 54 (0, 0, 29, [(0, vR (some 5)), (1, vI v1), (2, vI v2)], [], hp q) (eP q) (K v1 v2)) : ∀ (n : Nat) (v1 : Int) (v2 : Int), SimV E 54 (0, 0, 4, [(0, vR (some 5)), (1, vI v1), (2, vI v2)], [], hp q) (eP q) (St_poemLength_L4 q K n v1 v2) := by
  intro n
  induction n with
  | zero => intro _ _; exact S_none
  | succ n ih =>
    intro v1 v2
    rw [St_poemLength_L4]
    exact S_run 3 (f' := (0, 0, 9, [(0, vR (some 5)), (1, vI v1), (2, vI v2)], [vR (some 13), vI v2], hp q)) rfl (S_call (m' := 23) (args := [vR (some 13)]) (h := hp q) (k := fun r => (0, 0, 12, [(0, vR (some 5)), (1, vI v1), (2, vI v2)], r.1.toList ++ [vI v2], r.2)) rfl (T_Po_size q ) (fun r_1 => S_run 0 (f' := (0, 0, 12, [(0, vR (some 5)), (1, vI v1), (2, vI v2)], [vI r_1, vI v2], hp q)) rfl (S_ite (fun h_2 => S_go (J_icmp2 rfl rfl rfl (B_ge h_2)) (S_run 3 (f' := (0, 0, 18, [(0, vR (some 5)), (1, vI v1), (2, vI v2)], [vI v2, vR (some 5), vI v1], hp q)) rfl (S_call (m' := 53) (args := [vR (some 5), vI v2]) (h := hp q) (k := fun r => (0, 0, 21, [(0, vR (some 5)), (1, vI v1), (2, vI v2)], r.1.toList ++ [vI v1], r.2)) rfl (T_St_lengthOf q v2) (fun r_3 => S_run 4 (f' := (0, 0, 4, [(0, vR (some 5)), (1, vI (v1 + r_3)), (2, vI (v2 + 1))], [], hp q)) rfl (ih (v1 + r_3) (v2 + 1)))))) (fun h_2 => S_go (J_icmp2 rfl rfl rfl (B_ge' h_2)) (S_run 0 (f' := (0, 0, 29, [(0, vR (some 5)), (1, vI v1), (2, vI v2)], [], hp q)) rfl (hK v1 v2))))))

def St_poemLength (q : zM)  : Option Int :=
  St_poemLength_L4 q (fun v1_4 v2_5 => 
    some v1_4) 5000 (0 : Int) (0 : Int)
theorem T_St_poemLength {E : zE} (q : zM)  : SimV E 54 (entF [vR (some 5)] (hp q)) (eP q) (St_poemLength q ) := by
  unfold St_poemLength
  exact S_run 0 (f' := (0, 0, 0, [(0, vR (some 5))], [], hp q)) rfl (S_run 4 (f' := (0, 0, 4, [(0, vR (some 5)), (1, vI (0 : Int)), (2, vI (0 : Int))], [], hp q)) rfl (T_St_poemLength_L4 q (fun v1_4 v2_5 => S_run 1 (f' := (0, 0, 30, [(0, vR (some 5)), (1, vI v1_4), (2, vI v2_5)], [vI v1_4], hp q)) rfl (S_ret rfl)) 5000 (0 : Int) (0 : Int)))

def St_wordsWithBeats_L4 (q : zM)  (K : Int → Int → Option Int) : Nat → Int → Int → Option Int
  | 0, _, _ => none
  | n + 1, v1, v2 =>
    (Ws_size q ).bind fun r_1 =>
      if wrap v2 < wrap r_1 then
        (St_beatsFor q v2).bind fun r_3 =>
          if (0 : Int) < wrap r_3 then
            St_wordsWithBeats_L4 q K n (v1 + 1) (v2 + 1)
          else
            St_wordsWithBeats_L4 q K n v1 (v2 + 1)
      else
        K v1 v2
theorem T_St_wordsWithBeats_L4 {E : zE} (q : zM)  {K : Int → Int → Option Int} (hK : ∀ (v1 : Int) (v2 : Int), SimV E 52 (0, 0, 32, [(0, vR (some 5)), (1, vI v1), (2, vI v2)], [], hp q) (eP q) (K v1 v2)) : ∀ (n : Nat) (v1 : Int) (v2 : Int), SimV E 52 (0, 0, 4, [(0, vR (some 5)), (1, vI v1), (2, vI v2)], [], hp q) (eP q) (St_wordsWithBeats_L4 q K n v1 v2) := by
  intro n
  induction n with
  | zero => intro _ _; exact S_none
  | succ n ih =>
    intro v1 v2
    rw [St_wordsWithBeats_L4]
    exact S_run 3 (f' := (0, 0, 9, [(0, vR (some 5)), (1, vI v1), (2, vI v2)], [vR (some 6), vI v2], hp q)) rfl (S_call (m' := 74) (args := [vR (some 6)]) (h := hp q) (k := fun r => (0, 0, 12, [(0, vR (some 5)), (1, vI v1), (2, vI v2)], r.1.toList ++ [vI v2], r.2)) rfl (T_Ws_size q ) (fun r_1 => S_run 0 (f' := (0, 0, 12, [(0, vR (some 5)), (1, vI v1), (2, vI v2)], [vI r_1, vI v2], hp q)) rfl (S_ite (fun h_2 => S_go (J_icmp2 rfl rfl rfl (B_ge h_2)) (S_run 2 (f' := (0, 0, 17, [(0, vR (some 5)), (1, vI v1), (2, vI v2)], [vI v2, vR (some 5)], hp q)) rfl (S_call (m' := 46) (args := [vR (some 5), vI v2]) (h := hp q) (k := fun r => (0, 0, 20, [(0, vR (some 5)), (1, vI v1), (2, vI v2)], r.1.toList ++ [], r.2)) rfl (T_St_beatsFor q v2) (fun r_3 => S_run 0 (f' := (0, 0, 20, [(0, vR (some 5)), (1, vI v1), (2, vI v2)], [vI r_3], hp q)) rfl (S_ite (fun h_4 => S_go (J_if2 rfl rfl (B_le h_4)) (S_run 3 (f' := (0, 0, 4, [(0, vR (some 5)), (1, vI (v1 + 1)), (2, vI (v2 + 1))], [], hp q)) rfl (ih (v1 + 1) (v2 + 1)))) (fun h_4 => S_go (J_if2 rfl rfl (B_le' h_4)) (S_run 2 (f' := (0, 0, 4, [(0, vR (some 5)), (1, vI v1), (2, vI (v2 + 1))], [], hp q)) rfl (ih v1 (v2 + 1))))))))) (fun h_2 => S_go (J_icmp2 rfl rfl rfl (B_ge' h_2)) (S_run 0 (f' := (0, 0, 32, [(0, vR (some 5)), (1, vI v1), (2, vI v2)], [], hp q)) rfl (hK v1 v2))))))

def St_wordsWithBeats (q : zM)  : Option Int :=
  St_wordsWithBeats_L4 q (fun v1_5 v2_6 => 
    some v1_5) 5000 (0 : Int) (0 : Int)
theorem T_St_wordsWithBeats {E : zE} (q : zM)  : SimV E 52 (entF [vR (some 5)] (hp q)) (eP q) (St_wordsWithBeats q ) := by
  unfold St_wordsWithBeats
  exact S_run 0 (f' := (0, 0, 0, [(0, vR (some 5))], [], hp q)) rfl (S_run 4 (f' := (0, 0, 4, [(0, vR (some 5)), (1, vI (0 : Int)), (2, vI (0 : Int))], [], hp q)) rfl (T_St_wordsWithBeats_L4 q (fun v1_5 v2_6 => S_run 1 (f' := (0, 0, 33, [(0, vR (some 5)), (1, vI v1_5), (2, vI v2_6)], [vI v1_5], hp q)) rfl (S_ret rfl)) 5000 (0 : Int) (0 : Int)))

def St_usedUpWords_L4 (q : zM)  (K : Int → Int → Option Int) : Nat → Int → Int → Option Int
  | 0, _, _ => none
  | n + 1, v1, v2 =>
    (Ws_size q ).bind fun r_1 =>
      if wrap v2 < wrap r_1 then
        (Po_linesUsing q v2).bind fun r_3 =>
          (Ws_limitOf q v2).bind fun r_4 =>
            if wrap r_3 = wrap r_4 then
              St_usedUpWords_L4 q K n (v1 + 1) (v2 + 1)
            else
              St_usedUpWords_L4 q K n v1 (v2 + 1)
      else
        K v1 v2
theorem T_St_usedUpWords_L4 {E : zE} (q : zM)  {K : Int → Int → Option Int} (hK : ∀ (v1 : Int) (v2 : Int), SimV E 51 (0, 0, 43, [(0, vR (some 5)), (1, vI v1), (2, vI v2)], [], hp q) (eP q) (K v1 v2)) : ∀ (n : Nat) (v1 : Int) (v2 : Int), SimV E 51 (0, 0, 4, [(0, vR (some 5)), (1, vI v1), (2, vI v2)], [], hp q) (eP q) (St_usedUpWords_L4 q K n v1 v2) := by
  intro n
  induction n with
  | zero => intro _ _; exact S_none
  | succ n ih =>
    intro v1 v2
    rw [St_usedUpWords_L4]
    exact S_run 3 (f' := (0, 0, 9, [(0, vR (some 5)), (1, vI v1), (2, vI v2)], [vR (some 6), vI v2], hp q)) rfl (S_call (m' := 74) (args := [vR (some 6)]) (h := hp q) (k := fun r => (0, 0, 12, [(0, vR (some 5)), (1, vI v1), (2, vI v2)], r.1.toList ++ [vI v2], r.2)) rfl (T_Ws_size q ) (fun r_1 => S_run 0 (f' := (0, 0, 12, [(0, vR (some 5)), (1, vI v1), (2, vI v2)], [vI r_1, vI v2], hp q)) rfl (S_ite (fun h_2 => S_go (J_icmp2 rfl rfl rfl (B_ge h_2)) (S_run 3 (f' := (0, 0, 20, [(0, vR (some 5)), (1, vI v1), (2, vI v2)], [vI v2, vR (some 13)], hp q)) rfl (S_call (m' := 30) (args := [vR (some 13), vI v2]) (h := hp q) (k := fun r => (0, 0, 23, [(0, vR (some 5)), (1, vI v1), (2, vI v2)], r.1.toList ++ [], r.2)) rfl (T_Po_linesUsing q v2) (fun r_3 => S_run 3 (f' := (0, 0, 28, [(0, vR (some 5)), (1, vI v1), (2, vI v2)], [vI v2, vR (some 6), vI r_3], hp q)) rfl (S_call (m' := 80) (args := [vR (some 6), vI v2]) (h := hp q) (k := fun r => (0, 0, 31, [(0, vR (some 5)), (1, vI v1), (2, vI v2)], r.1.toList ++ [vI r_3], r.2)) rfl (T_Ws_limitOf q v2) (fun r_4 => S_run 0 (f' := (0, 0, 31, [(0, vR (some 5)), (1, vI v1), (2, vI v2)], [vI r_4, vI r_3], hp q)) rfl (S_ite (fun h_5 => S_go (J_icmp2 rfl rfl rfl (B_ne h_5)) (S_run 3 (f' := (0, 0, 4, [(0, vR (some 5)), (1, vI (v1 + 1)), (2, vI (v2 + 1))], [], hp q)) rfl (ih (v1 + 1) (v2 + 1)))) (fun h_5 => S_go (J_icmp2 rfl rfl rfl (B_ne' h_5)) (S_run 2 (f' := (0, 0, 4, [(0, vR (some 5)), (1, vI v1), (2, vI (v2 + 1))], [], hp q)) rfl (ih v1 (v2 + 1))))))))))) (fun h_2 => S_go (J_icmp2 rfl rfl rfl (B_ge' h_2)) (S_run 0 (f' := (0, 0, 43, [(0, vR (some 5)), (1, vI v1), (2, vI v2)], [], hp q)) rfl (hK v1 v2))))))

def St_usedUpWords (q : zM)  : Option Int :=
  St_usedUpWords_L4 q (fun v1_6 v2_7 => 
    some v1_6) 5000 (0 : Int) (0 : Int)
theorem T_St_usedUpWords {E : zE} (q : zM)  : SimV E 51 (entF [vR (some 5)] (hp q)) (eP q) (St_usedUpWords q ) := by
  unfold St_usedUpWords
  exact S_run 0 (f' := (0, 0, 0, [(0, vR (some 5))], [], hp q)) rfl (S_run 4 (f' := (0, 0, 4, [(0, vR (some 5)), (1, vI (0 : Int)), (2, vI (0 : Int))], [], hp q)) rfl (T_St_usedUpWords_L4 q (fun v1_6 v2_7 => S_run 1 (f' := (0, 0, 44, [(0, vR (some 5)), (1, vI v1_6), (2, vI v2_7)], [vI v1_6], hp q)) rfl (S_ret rfl)) 5000 (0 : Int) (0 : Int)))

def St_usedWords_L4 (q : zM)  (K : Int → Int → Option Int) : Nat → Int → Int → Option Int
  | 0, _, _ => none
  | n + 1, v1, v2 =>
    (Ws_size q ).bind fun r_1 =>
      if wrap v2 < wrap r_1 then
        (Po_linesUsing q v2).bind fun r_3 =>
          if (0 : Int) < wrap r_3 then
            St_usedWords_L4 q K n (v1 + 1) (v2 + 1)
          else
            St_usedWords_L4 q K n v1 (v2 + 1)
      else
        K v1 v2
theorem T_St_usedWords_L4 {E : zE} (q : zM)  {K : Int → Int → Option Int} (hK : ∀ (v1 : Int) (v2 : Int), SimV E 50 (0, 0, 35, [(0, vR (some 5)), (1, vI v1), (2, vI v2)], [], hp q) (eP q) (K v1 v2)) : ∀ (n : Nat) (v1 : Int) (v2 : Int), SimV E 50 (0, 0, 4, [(0, vR (some 5)), (1, vI v1), (2, vI v2)], [], hp q) (eP q) (St_usedWords_L4 q K n v1 v2) := by
  intro n
  induction n with
  | zero => intro _ _; exact S_none
  | succ n ih =>
    intro v1 v2
    rw [St_usedWords_L4]
    exact S_run 3 (f' := (0, 0, 9, [(0, vR (some 5)), (1, vI v1), (2, vI v2)], [vR (some 6), vI v2], hp q)) rfl (S_call (m' := 74) (args := [vR (some 6)]) (h := hp q) (k := fun r => (0, 0, 12, [(0, vR (some 5)), (1, vI v1), (2, vI v2)], r.1.toList ++ [vI v2], r.2)) rfl (T_Ws_size q ) (fun r_1 => S_run 0 (f' := (0, 0, 12, [(0, vR (some 5)), (1, vI v1), (2, vI v2)], [vI r_1, vI v2], hp q)) rfl (S_ite (fun h_2 => S_go (J_icmp2 rfl rfl rfl (B_ge h_2)) (S_run 3 (f' := (0, 0, 20, [(0, vR (some 5)), (1, vI v1), (2, vI v2)], [vI v2, vR (some 13)], hp q)) rfl (S_call (m' := 30) (args := [vR (some 13), vI v2]) (h := hp q) (k := fun r => (0, 0, 23, [(0, vR (some 5)), (1, vI v1), (2, vI v2)], r.1.toList ++ [], r.2)) rfl (T_Po_linesUsing q v2) (fun r_3 => S_run 0 (f' := (0, 0, 23, [(0, vR (some 5)), (1, vI v1), (2, vI v2)], [vI r_3], hp q)) rfl (S_ite (fun h_4 => S_go (J_if2 rfl rfl (B_le h_4)) (S_run 3 (f' := (0, 0, 4, [(0, vR (some 5)), (1, vI (v1 + 1)), (2, vI (v2 + 1))], [], hp q)) rfl (ih (v1 + 1) (v2 + 1)))) (fun h_4 => S_go (J_if2 rfl rfl (B_le' h_4)) (S_run 2 (f' := (0, 0, 4, [(0, vR (some 5)), (1, vI v1), (2, vI (v2 + 1))], [], hp q)) rfl (ih v1 (v2 + 1))))))))) (fun h_2 => S_go (J_icmp2 rfl rfl rfl (B_ge' h_2)) (S_run 0 (f' := (0, 0, 35, [(0, vR (some 5)), (1, vI v1), (2, vI v2)], [], hp q)) rfl (hK v1 v2))))))

def St_usedWords (q : zM)  : Option Int :=
  St_usedWords_L4 q (fun v1_5 v2_6 => 
    some v1_5) 5000 (0 : Int) (0 : Int)
theorem T_St_usedWords {E : zE} (q : zM)  : SimV E 50 (entF [vR (some 5)] (hp q)) (eP q) (St_usedWords q ) := by
  unfold St_usedWords
  exact S_run 0 (f' := (0, 0, 0, [(0, vR (some 5))], [], hp q)) rfl (S_run 4 (f' := (0, 0, 4, [(0, vR (some 5)), (1, vI (0 : Int)), (2, vI (0 : Int))], [], hp q)) rfl (T_St_usedWords_L4 q (fun v1_5 v2_6 => S_run 1 (f' := (0, 0, 36, [(0, vR (some 5)), (1, vI v1_5), (2, vI v2_6)], [vI v1_5], hp q)) rfl (S_ret rfl)) 5000 (0 : Int) (0 : Int)))

def St_bendsInAll_L4 (q : zM)  (K : Int → Int → Option Int) : Nat → Int → Int → Option Int
  | 0, _, _ => none
  | n + 1, v1, v2 =>
    (Po_size q ).bind fun r_1 =>
      if wrap v2 < wrap r_1 then
        (St_bendsIn q v2).bind fun r_3 =>
          St_bendsInAll_L4 q K n (v1 + r_3) (v2 + 1)
      else
        K v1 v2
theorem T_St_bendsInAll_L4 {E : zE} (q : zM)  {K : Int → Int → Option Int} (hK : ∀ (v1 : Int) (v2 : Int), SimV E 48 (0, 0, 29, [(0, vR (some 5)), (1, vI v1), (2, vI v2)], [], hp q) (eP q) (K v1 v2)) : ∀ (n : Nat) (v1 : Int) (v2 : Int), SimV E 48 (0, 0, 4, [(0, vR (some 5)), (1, vI v1), (2, vI v2)], [], hp q) (eP q) (St_bendsInAll_L4 q K n v1 v2) := by
  intro n
  induction n with
  | zero => intro _ _; exact S_none
  | succ n ih =>
    intro v1 v2
    rw [St_bendsInAll_L4]
    exact S_run 3 (f' := (0, 0, 9, [(0, vR (some 5)), (1, vI v1), (2, vI v2)], [vR (some 13), vI v2], hp q)) rfl (S_call (m' := 23) (args := [vR (some 13)]) (h := hp q) (k := fun r => (0, 0, 12, [(0, vR (some 5)), (1, vI v1), (2, vI v2)], r.1.toList ++ [vI v2], r.2)) rfl (T_Po_size q ) (fun r_1 => S_run 0 (f' := (0, 0, 12, [(0, vR (some 5)), (1, vI v1), (2, vI v2)], [vI r_1, vI v2], hp q)) rfl (S_ite (fun h_2 => S_go (J_icmp2 rfl rfl rfl (B_ge h_2)) (S_run 3 (f' := (0, 0, 18, [(0, vR (some 5)), (1, vI v1), (2, vI v2)], [vI v2, vR (some 5), vI v1], hp q)) rfl (S_call (m' := 47) (args := [vR (some 5), vI v2]) (h := hp q) (k := fun r => (0, 0, 21, [(0, vR (some 5)), (1, vI v1), (2, vI v2)], r.1.toList ++ [vI v1], r.2)) rfl (T_St_bendsIn q v2) (fun r_3 => S_run 4 (f' := (0, 0, 4, [(0, vR (some 5)), (1, vI (v1 + r_3)), (2, vI (v2 + 1))], [], hp q)) rfl (ih (v1 + r_3) (v2 + 1)))))) (fun h_2 => S_go (J_icmp2 rfl rfl rfl (B_ge' h_2)) (S_run 0 (f' := (0, 0, 29, [(0, vR (some 5)), (1, vI v1), (2, vI v2)], [], hp q)) rfl (hK v1 v2))))))

def St_bendsInAll (q : zM)  : Option Int :=
  St_bendsInAll_L4 q (fun v1_4 v2_5 => 
    some v1_4) 5000 (0 : Int) (0 : Int)
theorem T_St_bendsInAll {E : zE} (q : zM)  : SimV E 48 (entF [vR (some 5)] (hp q)) (eP q) (St_bendsInAll q ) := by
  unfold St_bendsInAll
  exact S_run 0 (f' := (0, 0, 0, [(0, vR (some 5))], [], hp q)) rfl (S_run 4 (f' := (0, 0, 4, [(0, vR (some 5)), (1, vI (0 : Int)), (2, vI (0 : Int))], [], hp q)) rfl (T_St_bendsInAll_L4 q (fun v1_4 v2_5 => S_run 1 (f' := (0, 0, 30, [(0, vR (some 5)), (1, vI v1_4), (2, vI v2_5)], [vI v1_4], hp q)) rfl (S_ret rfl)) 5000 (0 : Int) (0 : Int)))

def Ev_count (q : zM) (v1 : Int) : Option Int :=
  if wrap v1 = 0 then
    (Ws_size q ).bind fun r_11 =>
      some r_11
  else
    if wrap v1 = 1 then
      (Po_size q ).bind fun r_10 =>
        some r_10
    else
      if wrap v1 = 2 then
        (Po_madeLines q ).bind fun r_9 =>
          some r_9
      else
        if wrap v1 = 3 then
          (St_bendsInAll q ).bind fun r_8 =>
            some r_8
        else
          if wrap v1 = 4 then
            some (q.1 12 0)
          else
            if wrap v1 = 5 then
              some (q.1 12 1)
            else
              if wrap v1 = 6 then
                (St_usedWords q ).bind fun r_7 =>
                  some r_7
              else
                if wrap v1 = 7 then
                  (St_usedUpWords q ).bind fun r_6 =>
                    some r_6
                else
                  if wrap v1 = 8 then
                    (St_wordsWithBeats q ).bind fun r_5 =>
                      some r_5
                  else
                    if wrap v1 = 9 then
                      (St_poemLength q ).bind fun r_4 =>
                        some r_4
                    else
                      if wrap v1 = 10 then
                        (Hi_size q ).bind fun r_3 =>
                          some r_3
                      else
                        if wrap v1 = 11 then
                          (Te_size q ).bind fun r_2 =>
                            some r_2
                        else
                          some (-2 : Int)
theorem T_Ev_count {E : zE} (q : zM) (v1 : Int) : SimV E 109 (entF [vR (some 1), vI v1] (hp q)) (eP q) (Ev_count q v1) := by
  unfold Ev_count
  exact S_run 0 (f' := (0, 0, 0, [(0, vR (some 1)), (1, vI v1)], [], hp q)) rfl (S_run 1 (f' := (0, 0, 1, [(0, vR (some 1)), (1, vI v1)], [vI v1], hp q)) rfl (S_ite (fun h_1_0 => S_go (J_tin rfl h_1_0 (by decide) rfl) (S_run 3 (f' := (0, 0, 71, [(0, vR (some 1)), (1, vI v1)], [vR (some 6)], hp q)) rfl (S_call (m' := 74) (args := [vR (some 6)]) (h := hp q) (k := fun r => (0, 0, 74, [(0, vR (some 1)), (1, vI v1)], r.1.toList ++ [], r.2)) rfl (T_Ws_size q ) (fun r_11 => S_run 0 (f' := (0, 0, 74, [(0, vR (some 1)), (1, vI v1)], [vI r_11], hp q)) rfl (S_ret rfl))))) (fun h_1_0 => S_ite (fun h_1_1 => S_go (J_tin rfl h_1_1 (by decide) rfl) (S_run 3 (f' := (0, 0, 82, [(0, vR (some 1)), (1, vI v1)], [vR (some 13)], hp q)) rfl (S_call (m' := 23) (args := [vR (some 13)]) (h := hp q) (k := fun r => (0, 0, 85, [(0, vR (some 1)), (1, vI v1)], r.1.toList ++ [], r.2)) rfl (T_Po_size q ) (fun r_10 => S_run 0 (f' := (0, 0, 85, [(0, vR (some 1)), (1, vI v1)], [vI r_10], hp q)) rfl (S_ret rfl))))) (fun h_1_1 => S_ite (fun h_1_2 => S_go (J_tin rfl h_1_2 (by decide) rfl) (S_run 3 (f' := (0, 0, 93, [(0, vR (some 1)), (1, vI v1)], [vR (some 13)], hp q)) rfl (S_call (m' := 32) (args := [vR (some 13)]) (h := hp q) (k := fun r => (0, 0, 96, [(0, vR (some 1)), (1, vI v1)], r.1.toList ++ [], r.2)) rfl (T_Po_madeLines q ) (fun r_9 => S_run 0 (f' := (0, 0, 96, [(0, vR (some 1)), (1, vI v1)], [vI r_9], hp q)) rfl (S_ret rfl))))) (fun h_1_2 => S_ite (fun h_1_3 => S_go (J_tin rfl h_1_3 (by decide) rfl) (S_run 2 (f' := (0, 0, 101, [(0, vR (some 1)), (1, vI v1)], [vR (some 5)], hp q)) rfl (S_call (m' := 48) (args := [vR (some 5)]) (h := hp q) (k := fun r => (0, 0, 104, [(0, vR (some 1)), (1, vI v1)], r.1.toList ++ [], r.2)) rfl (T_St_bendsInAll q ) (fun r_8 => S_run 0 (f' := (0, 0, 104, [(0, vR (some 1)), (1, vI v1)], [vI r_8], hp q)) rfl (S_ret rfl))))) (fun h_1_3 => S_ite (fun h_1_4 => S_go (J_tin rfl h_1_4 (by decide) rfl) (S_run 4 (f' := (0, 0, 115, [(0, vR (some 1)), (1, vI v1)], [vI (q.1 12 0)], hp q)) rfl (S_ret rfl))) (fun h_1_4 => S_ite (fun h_1_5 => S_go (J_tin rfl h_1_5 (by decide) rfl) (S_run 4 (f' := (0, 0, 126, [(0, vR (some 1)), (1, vI v1)], [vI (q.1 12 1)], hp q)) rfl (S_ret rfl))) (fun h_1_5 => S_ite (fun h_1_6 => S_go (J_tin rfl h_1_6 (by decide) rfl) (S_run 2 (f' := (0, 0, 131, [(0, vR (some 1)), (1, vI v1)], [vR (some 5)], hp q)) rfl (S_call (m' := 50) (args := [vR (some 5)]) (h := hp q) (k := fun r => (0, 0, 134, [(0, vR (some 1)), (1, vI v1)], r.1.toList ++ [], r.2)) rfl (T_St_usedWords q ) (fun r_7 => S_run 0 (f' := (0, 0, 134, [(0, vR (some 1)), (1, vI v1)], [vI r_7], hp q)) rfl (S_ret rfl))))) (fun h_1_6 => S_ite (fun h_1_7 => S_go (J_tin rfl h_1_7 (by decide) rfl) (S_run 2 (f' := (0, 0, 139, [(0, vR (some 1)), (1, vI v1)], [vR (some 5)], hp q)) rfl (S_call (m' := 51) (args := [vR (some 5)]) (h := hp q) (k := fun r => (0, 0, 142, [(0, vR (some 1)), (1, vI v1)], r.1.toList ++ [], r.2)) rfl (T_St_usedUpWords q ) (fun r_6 => S_run 0 (f' := (0, 0, 142, [(0, vR (some 1)), (1, vI v1)], [vI r_6], hp q)) rfl (S_ret rfl))))) (fun h_1_7 => S_ite (fun h_1_8 => S_go (J_tin rfl h_1_8 (by decide) rfl) (S_run 2 (f' := (0, 0, 147, [(0, vR (some 1)), (1, vI v1)], [vR (some 5)], hp q)) rfl (S_call (m' := 52) (args := [vR (some 5)]) (h := hp q) (k := fun r => (0, 0, 150, [(0, vR (some 1)), (1, vI v1)], r.1.toList ++ [], r.2)) rfl (T_St_wordsWithBeats q ) (fun r_5 => S_run 0 (f' := (0, 0, 150, [(0, vR (some 1)), (1, vI v1)], [vI r_5], hp q)) rfl (S_ret rfl))))) (fun h_1_8 => S_ite (fun h_1_9 => S_go (J_tin rfl h_1_9 (by decide) rfl) (S_run 2 (f' := (0, 0, 155, [(0, vR (some 1)), (1, vI v1)], [vR (some 5)], hp q)) rfl (S_call (m' := 54) (args := [vR (some 5)]) (h := hp q) (k := fun r => (0, 0, 158, [(0, vR (some 1)), (1, vI v1)], r.1.toList ++ [], r.2)) rfl (T_St_poemLength q ) (fun r_4 => S_run 0 (f' := (0, 0, 158, [(0, vR (some 1)), (1, vI v1)], [vI r_4], hp q)) rfl (S_ret rfl))))) (fun h_1_9 => S_ite (fun h_1_10 => S_go (J_tin rfl h_1_10 (by decide) rfl) (S_run 2 (f' := (0, 0, 163, [(0, vR (some 1)), (1, vI v1)], [vR (some 18)], hp q)) rfl (S_call (m' := 1) (args := [vR (some 18)]) (h := hp q) (k := fun r => (0, 0, 166, [(0, vR (some 1)), (1, vI v1)], r.1.toList ++ [], r.2)) rfl (T_Hi_size q ) (fun r_3 => S_run 0 (f' := (0, 0, 166, [(0, vR (some 1)), (1, vI v1)], [vI r_3], hp q)) rfl (S_ret rfl))))) (fun h_1_10 => S_ite (fun h_1_11 => S_go (J_tin rfl h_1_11 (by decide) rfl) (S_run 2 (f' := (0, 0, 171, [(0, vR (some 1)), (1, vI v1)], [vR (some 2)], hp q)) rfl (S_call (m' := 58) (args := [vR (some 2)]) (h := hp q) (k := fun r => (0, 0, 174, [(0, vR (some 1)), (1, vI v1)], r.1.toList ++ [], r.2)) rfl (T_Te_size q ) (fun r_2 => S_run 0 (f' := (0, 0, 174, [(0, vR (some 1)), (1, vI v1)], [vI r_2], hp q)) rfl (S_ret rfl))))) (fun h_1_11 => S_go (J_tout rfl (by omega)) (S_run 1 (f' := (0, 0, 177, [(0, vR (some 1)), (1, vI v1)], [vI (-2 : Int)], hp q)) rfl (S_ret rfl))))))))))))))))

def Lw_low (q : zM) (v0 : Int) (v1 : Int) : Option Int :=
  if wrap v1 = 0 then
    none
  else
    some (wrem (wand v0 (2147483647 : Int)) v1)
set_option maxRecDepth 100000 in
theorem T_Lw_low {E : zE} (q : zM) (v0 : Int) (v1 : Int) : SimV E 112 (entF [vI v0, vI v1] (hp q)) (eP q) (Lw_low q v0 v1) := by
  unfold Lw_low
  exact S_run 0 (f' := (0, 0, 0, [(0, vI v0), (1, vI v1)], [], hp q)) rfl (S_run 4 (f' := (0, 0, 5, [(0, vI v0), (1, vI v1)], [vI v1, vI (wand v0 (2147483647 : Int))], hp q)) rfl (S_ite (fun _ => S_none) (fun h_1 => S_go (H_irem rfl h_1) (S_run 0 (f' := (0, 0, 6, [(0, vI v0), (1, vI v1)], [vI (wrem (wand v0 (2147483647 : Int)) v1)], hp q)) rfl (S_ret rfl)))))

def Lw_stress (q : zM) (v1 : Int) (v2 : Int) : Option Int :=
  (Ev_word q v1 (2 : Int)).bind fun r_1 =>
    some (wand (wshr r_1 v2) (1 : Int))
set_option maxRecDepth 100000 in
theorem T_Lw_stress {E : zE} (q : zM) (v1 : Int) (v2 : Int) : SimV E 113 (entF [vR (some 1), vI v1, vI v2] (hp q)) (eP q) (Lw_stress q v1 v2) := by
  unfold Lw_stress
  exact S_run 0 (f' := (0, 0, 0, [(0, vR (some 1)), (1, vI v1), (2, vI v2)], [], hp q)) rfl (S_run 3 (f' := (0, 0, 3, [(0, vR (some 1)), (1, vI v1), (2, vI v2)], [vI (2 : Int), vI v1, vR (some 1)], hp q)) rfl (S_call (m' := 102) (args := [vR (some 1), vI v1, vI (2 : Int)]) (h := hp q) (k := fun r => (0, 0, 6, [(0, vR (some 1)), (1, vI v1), (2, vI v2)], r.1.toList ++ [], r.2)) rfl (T_Ev_word q v1 (2 : Int)) (fun r_1 => S_run 4 (f' := (0, 0, 10, [(0, vR (some 1)), (1, vI v1), (2, vI v2)], [vI (wand (wshr r_1 v2) (1 : Int))], hp q)) rfl (S_ret rfl))))

def Lw_beat (q : zM) (v1 : Int) : Option Int :=
  (Ev_count q (5 : Int)).bind fun r_1 =>
    some (wand (wshr r_1 v1) (1 : Int))
set_option maxRecDepth 100000 in
theorem T_Lw_beat {E : zE} (q : zM) (v1 : Int) : SimV E 114 (entF [vR (some 1), vI v1] (hp q)) (eP q) (Lw_beat q v1) := by
  unfold Lw_beat
  exact S_run 0 (f' := (0, 0, 0, [(0, vR (some 1)), (1, vI v1)], [], hp q)) rfl (S_run 2 (f' := (0, 0, 2, [(0, vR (some 1)), (1, vI v1)], [vI (5 : Int), vR (some 1)], hp q)) rfl (S_call (m' := 109) (args := [vR (some 1), vI (5 : Int)]) (h := hp q) (k := fun r => (0, 0, 5, [(0, vR (some 1)), (1, vI v1)], r.1.toList ++ [], r.2)) rfl (T_Ev_count q (5 : Int)) (fun r_1 => S_run 4 (f' := (0, 0, 9, [(0, vR (some 1)), (1, vI v1)], [vI (wand (wshr r_1 v1) (1 : Int))], hp q)) rfl (S_ret rfl))))

def Lw_bends_L26 (q : zM) (v1 : Int) (v2 : Int) (v3 : Int) (K : Int → Int → Option Int) : Nat → Int → Int → Option Int
  | 0, _, _ => none
  | n + 1, v4, v5 =>
    if wrap v5 < wrap v3 then
      (Lw_stress q v1 v5).bind fun r_5 =>
        (Lw_beat q (v2 + v5)).bind fun r_6 =>
          if wrap r_5 = wrap r_6 then
            Lw_bends_L26 q v1 v2 v3 K n (v4 + (0 : Int)) (v5 + 1)
          else
            Lw_bends_L26 q v1 v2 v3 K n (v4 + (1 : Int)) (v5 + 1)
    else
      K v4 v5
set_option maxRecDepth 100000 in
theorem T_Lw_bends_L26 {E : zE} (q : zM) (v1 : Int) (v2 : Int) (v3 : Int) {K : Int → Int → Option Int} (hK : ∀ (v4 : Int) (v5 : Int), SimV E 115 (0, 0, 66, [(0, vR (some 1)), (1, vI v1), (2, vI v2), (3, vI v3), (4, vI v4), (5, vI v5)], [], hp q) (eP q) (K v4 v5)) : ∀ (n : Nat) (v4 : Int) (v5 : Int), SimV E 115 (0, 0, 26, [(0, vR (some 1)), (1, vI v1), (2, vI v2), (3, vI v3), (4, vI v4), (5, vI v5)], [], hp q) (eP q) (Lw_bends_L26 q v1 v2 v3 K n v4 v5) := by
  intro n
  induction n with
  | zero => intro _ _; exact S_none
  | succ n ih =>
    intro v4 v5
    rw [Lw_bends_L26]
    exact S_run 2 (f' := (0, 0, 29, [(0, vR (some 1)), (1, vI v1), (2, vI v2), (3, vI v3), (4, vI v4), (5, vI v5)], [vI v3, vI v5], hp q)) rfl (S_ite (fun h_4 => S_go (J_icmp2 rfl rfl rfl (B_ge h_4)) (S_run 4 (f' := (0, 0, 38, [(0, vR (some 1)), (1, vI v1), (2, vI v2), (3, vI v3), (4, vI v4), (5, vI v5)], [vI v5, vI v1, vR (some 1), vI v4], hp q)) rfl (S_call (m' := 113) (args := [vR (some 1), vI v1, vI v5]) (h := hp q) (k := fun r => (0, 0, 41, [(0, vR (some 1)), (1, vI v1), (2, vI v2), (3, vI v3), (4, vI v4), (5, vI v5)], r.1.toList ++ [vI v4], r.2)) rfl (T_Lw_stress q v1 v5) (fun r_5 => S_run 4 (f' := (0, 0, 46, [(0, vR (some 1)), (1, vI v1), (2, vI v2), (3, vI v3), (4, vI v4), (5, vI v5)], [vI (v2 + v5), vR (some 1), vI r_5, vI v4], hp q)) rfl (S_call (m' := 114) (args := [vR (some 1), vI (v2 + v5)]) (h := hp q) (k := fun r => (0, 0, 49, [(0, vR (some 1)), (1, vI v1), (2, vI v2), (3, vI v3), (4, vI v4), (5, vI v5)], r.1.toList ++ [vI r_5, vI v4], r.2)) rfl (T_Lw_beat q (v2 + v5)) (fun r_6 => S_run 0 (f' := (0, 0, 49, [(0, vR (some 1)), (1, vI v1), (2, vI v2), (3, vI v3), (4, vI v4), (5, vI v5)], [vI r_6, vI r_5, vI v4], hp q)) rfl (S_ite (fun h_7 => S_go (J_icmp2 rfl rfl rfl (B_ne h_7)) (S_run 6 (f' := (0, 0, 26, [(0, vR (some 1)), (1, vI v1), (2, vI v2), (3, vI v3), (4, vI (v4 + (0 : Int))), (5, vI (v5 + 1))], [], hp q)) rfl (ih (v4 + (0 : Int)) (v5 + 1)))) (fun h_7 => S_go (J_icmp2 rfl rfl rfl (B_ne' h_7)) (S_run 5 (f' := (0, 0, 26, [(0, vR (some 1)), (1, vI v1), (2, vI v2), (3, vI v3), (4, vI (v4 + (1 : Int))), (5, vI (v5 + 1))], [], hp q)) rfl (ih (v4 + (1 : Int)) (v5 + 1))))))))))) (fun h_4 => S_go (J_icmp2 rfl rfl rfl (B_ge' h_4)) (S_run 0 (f' := (0, 0, 66, [(0, vR (some 1)), (1, vI v1), (2, vI v2), (3, vI v3), (4, vI v4), (5, vI v5)], [], hp q)) rfl (hK v4 v5))))

def Lw_bends (q : zM) (v1 : Int) (v2 : Int) : Option Int :=
  (Ev_word q v1 (1 : Int)).bind fun r_1 =>
    (Ev_count q (4 : Int)).bind fun r_2 =>
      if wrap r_2 < wrap (v2 + r_1) then
        some (-1 : Int)
      else
        Lw_bends_L26 q v1 v2 r_1 (fun v4_8 v5_9 => 
          if wrap r_1 = (1 : Int) then
            some v4_8
          else
            if wrap v4_8 = (0 : Int) then
              some v4_8
            else
              some (-1 : Int)) 5000 (0 : Int) (0 : Int)
set_option maxRecDepth 100000 in
theorem T_Lw_bends {E : zE} (q : zM) (v1 : Int) (v2 : Int) : SimV E 115 (entF [vR (some 1), vI v1, vI v2] (hp q)) (eP q) (Lw_bends q v1 v2) := by
  unfold Lw_bends
  exact S_run 0 (f' := (0, 0, 0, [(0, vR (some 1)), (1, vI v1), (2, vI v2)], [], hp q)) rfl (S_run 3 (f' := (0, 0, 3, [(0, vR (some 1)), (1, vI v1), (2, vI v2)], [vI (1 : Int), vI v1, vR (some 1)], hp q)) rfl (S_call (m' := 102) (args := [vR (some 1), vI v1, vI (1 : Int)]) (h := hp q) (k := fun r => (0, 0, 6, [(0, vR (some 1)), (1, vI v1), (2, vI v2)], r.1.toList ++ [], r.2)) rfl (T_Ev_word q v1 (1 : Int)) (fun r_1 => S_run 6 (f' := (0, 0, 12, [(0, vR (some 1)), (1, vI v1), (2, vI v2), (3, vI r_1)], [vI (4 : Int), vR (some 1), vI (v2 + r_1)], hp q)) rfl (S_call (m' := 109) (args := [vR (some 1), vI (4 : Int)]) (h := hp q) (k := fun r => (0, 0, 15, [(0, vR (some 1)), (1, vI v1), (2, vI v2), (3, vI r_1)], r.1.toList ++ [vI (v2 + r_1)], r.2)) rfl (T_Ev_count q (4 : Int)) (fun r_2 => S_run 0 (f' := (0, 0, 15, [(0, vR (some 1)), (1, vI v1), (2, vI v2), (3, vI r_1)], [vI r_2, vI (v2 + r_1)], hp q)) rfl (S_ite (fun h_3 => S_go (J_icmp2 rfl rfl rfl (B_le h_3)) (S_run 1 (f' := (0, 0, 19, [(0, vR (some 1)), (1, vI v1), (2, vI v2), (3, vI r_1)], [vI (-1 : Int)], hp q)) rfl (S_ret rfl))) (fun h_3 => S_go (J_icmp2 rfl rfl rfl (B_le' h_3)) (S_run 4 (f' := (0, 0, 26, [(0, vR (some 1)), (1, vI v1), (2, vI v2), (3, vI r_1), (4, vI (0 : Int)), (5, vI (0 : Int))], [], hp q)) rfl (T_Lw_bends_L26 q v1 v2 r_1 (fun v4_8 v5_9 => S_run 2 (f' := (0, 0, 68, [(0, vR (some 1)), (1, vI v1), (2, vI v2), (3, vI r_1), (4, vI v4_8), (5, vI v5_9)], [vI (1 : Int), vI r_1], hp q)) rfl (S_ite (fun h_10 => S_go (J_icmp2 rfl rfl wl_1 (B_eq h_10)) (S_run 2 (f' := (0, 0, 82, [(0, vR (some 1)), (1, vI v1), (2, vI v2), (3, vI r_1), (4, vI v4_8), (5, vI v5_9)], [vI v4_8], hp q)) rfl (S_ret rfl))) (fun h_10 => S_go (J_icmp2 rfl rfl wl_1 (B_eq' h_10)) (S_run 1 (f' := (0, 0, 73, [(0, vR (some 1)), (1, vI v1), (2, vI v2), (3, vI r_1), (4, vI v4_8), (5, vI v5_9)], [vI v4_8], hp q)) rfl (S_ite (fun h_11 => S_go (J_if2 rfl rfl (B_ne h_11)) (S_run 2 (f' := (0, 0, 82, [(0, vR (some 1)), (1, vI v1), (2, vI v2), (3, vI r_1), (4, vI v4_8), (5, vI v5_9)], [vI v4_8], hp q)) rfl (S_ret rfl))) (fun h_11 => S_go (J_if2 rfl rfl (B_ne' h_11)) (S_run 1 (f' := (0, 0, 82, [(0, vR (some 1)), (1, vI v1), (2, vI v2), (3, vI r_1), (4, vI v4_8), (5, vI v5_9)], [vI (-1 : Int)], hp q)) rfl (S_ret rfl)))))))) 5000 (0 : Int) (0 : Int))))))))))
