/-! the methods as functions, printed by wip/whole/dec.py -/
def Mo_letterAt (q : zM) (v1 : Int) (v2 : Int) : Option Int :=
  (Mo_noWord q v1).bind fun r_1 =>
    if wrap r_1 = (0 : Int) then
      if wrap v2 < (0 : Int) then
        some (-2 : Int)
      else
        (Mo_letters q v1).bind fun r_4 =>
          if wrap v2 < wrap r_4 then
            (Mo_letter q v1 v2).bind fun r_6 =>
              some r_6
          else
            some (-5 : Int)
    else
      some (-1 : Int)
theorem T_Mo_letterAt {E : zE} (q : zM) (v1 : Int) (v2 : Int) : SimV E 170 (entF [vR (some 126), vI v1, vI v2] (hp q)) (eP q) (Mo_letterAt q v1 v2) := by
  unfold Mo_letterAt
  exact S_run 0 (f' := (0, 0, 0, [(0, vR (some 126)), (1, vI v1), (2, vI v2)], [], hp q)) rfl (S_run 2 (f' := (0, 0, 2, [(0, vR (some 126)), (1, vI v1), (2, vI v2)], [vI v1, vR (some 126)], hp q)) rfl (S_call (m' := 121) (args := [vR (some 126), vI v1]) (h := hp q) (k := fun r => (0, 0, 5, [(0, vR (some 126)), (1, vI v1), (2, vI v2)], r.1.toList ++ [], r.2)) rfl (T_Mo_noWord q v1) (fun r_1 => S_run 0 (f' := (0, 0, 5, [(0, vR (some 126)), (1, vI v1), (2, vI v2)], [vI r_1], hp q)) rfl (S_ite (fun h_2 => S_go (J_if2 rfl rfl (B_eq h_2)) (S_run 1 (f' := (0, 0, 11, [(0, vR (some 126)), (1, vI v1), (2, vI v2)], [vI v2], hp q)) rfl (S_ite (fun h_3 => S_go (J_if2 rfl rfl (B_ge h_3)) (S_run 1 (f' := (0, 0, 16, [(0, vR (some 126)), (1, vI v1), (2, vI v2)], [vI (-2 : Int)], hp q)) rfl (S_ret rfl))) (fun h_3 => S_go (J_if2 rfl rfl (B_ge' h_3)) (S_run 3 (f' := (0, 0, 20, [(0, vR (some 126)), (1, vI v1), (2, vI v2)], [vI v1, vR (some 126), vI v2], hp q)) rfl (S_call (m' := 123) (args := [vR (some 126), vI v1]) (h := hp q) (k := fun r => (0, 0, 23, [(0, vR (some 126)), (1, vI v1), (2, vI v2)], r.1.toList ++ [vI v2], r.2)) rfl (T_Mo_letters q v1) (fun r_4 => S_run 0 (f' := (0, 0, 23, [(0, vR (some 126)), (1, vI v1), (2, vI v2)], [vI r_4, vI v2], hp q)) rfl (S_ite (fun h_5 => S_go (J_icmp2 rfl rfl rfl (B_ge h_5)) (S_run 3 (f' := (0, 0, 29, [(0, vR (some 126)), (1, vI v1), (2, vI v2)], [vI v2, vI v1, vR (some 126)], hp q)) rfl (S_call (m' := 122) (args := [vR (some 126), vI v1, vI v2]) (h := hp q) (k := fun r => (0, 0, 32, [(0, vR (some 126)), (1, vI v1), (2, vI v2)], r.1.toList ++ [], r.2)) rfl (T_Mo_letter q v1 v2) (fun r_6 => S_run 1 (f' := (0, 0, 37, [(0, vR (some 126)), (1, vI v1), (2, vI v2)], [vI r_6], hp q)) rfl (S_ret rfl))))) (fun h_5 => S_go (J_icmp2 rfl rfl rfl (B_ge' h_5)) (S_run 1 (f' := (0, 0, 37, [(0, vR (some 126)), (1, vI v1), (2, vI v2)], [vI (-5 : Int)], hp q)) rfl (S_ret rfl))))))))))) (fun h_2 => S_go (J_if2 rfl rfl (B_eq' h_2)) (S_run 1 (f' := (0, 0, 9, [(0, vR (some 126)), (1, vI v1), (2, vI v2)], [vI (-1 : Int)], hp q)) rfl (S_ret rfl)))))))

def Mo_rowsBy (q : zM) (v1 : Int) (v2 : Int) : Option Int :=
  ck (wrap v1) 40 (
    if wrap (q.1 134 (wrap v1).toNat) = (0 : Int) then
      some (0 : Int)
    else
      (Mo_bendsAt q v1 v2).bind fun r_3 =>
        if wrap r_3 < (0 : Int) then
          some (0 : Int)
        else
          (Mo_syllables q v1).bind fun r_5 =>
            if wrap (v2 + r_5) = wrap (q.1 127 1) then
              (Mo_ends q v1).bind fun r_9 =>
                if wrap r_9 = (0 : Int) then
                  some (0 : Int)
                else
                  some (1 : Int)
            else
              ck (wrap (v2 + r_5)) 13 (
                some (q.1 138 (wrap (v2 + r_5)).toNat)))
theorem T_Mo_rowsBy {E : zE} (q : zM) (v1 : Int) (v2 : Int) : SimV E 166 (entF [vR (some 126), vI v1, vI v2] (hp q)) (eP q) (Mo_rowsBy q v1 v2) := by
  unfold Mo_rowsBy
  exact S_run 0 (f' := (0, 0, 0, [(0, vR (some 126)), (1, vI v1), (2, vI v2)], [], hp q)) rfl (S_run 3 (f' := (0, 0, 5, [(0, vR (some 126)), (1, vI v1), (2, vI v2)], [vI v1, vR (some 134)], hp q)) rfl (S_ck (n := 40) (fun h_1 => S_go (H_bald rfl rfl rfl h_1) (S_run 0 (f' := (0, 0, 6, [(0, vR (some 126)), (1, vI v1), (2, vI v2)], [vI (q.1 134 (wrap v1).toNat)], hp q)) rfl (S_ite (fun h_2 => S_go (J_if2 rfl rfl (B_eq h_2)) (S_run 1 (f' := (0, 0, 19, [(0, vR (some 126)), (1, vI v1), (2, vI v2)], [vI (0 : Int)], hp q)) rfl (S_ret rfl))) (fun h_2 => S_go (J_if2 rfl rfl (B_eq' h_2)) (S_run 3 (f' := (0, 0, 12, [(0, vR (some 126)), (1, vI v1), (2, vI v2)], [vI v2, vI v1, vR (some 126)], hp q)) rfl (S_call (m' := 150) (args := [vR (some 126), vI v1, vI v2]) (h := hp q) (k := fun r => (0, 0, 15, [(0, vR (some 126)), (1, vI v1), (2, vI v2)], r.1.toList ++ [], r.2)) rfl (T_Mo_bendsAt q v1 v2) (fun r_3 => S_run 0 (f' := (0, 0, 15, [(0, vR (some 126)), (1, vI v1), (2, vI v2)], [vI r_3], hp q)) rfl (S_ite (fun h_4 => S_go (J_if2 rfl rfl (B_ge h_4)) (S_run 1 (f' := (0, 0, 19, [(0, vR (some 126)), (1, vI v1), (2, vI v2)], [vI (0 : Int)], hp q)) rfl (S_ret rfl))) (fun h_4 => S_go (J_if2 rfl rfl (B_ge' h_4)) (S_run 3 (f' := (0, 0, 23, [(0, vR (some 126)), (1, vI v1), (2, vI v2)], [vI v1, vR (some 126), vI v2], hp q)) rfl (S_call (m' := 124) (args := [vR (some 126), vI v1]) (h := hp q) (k := fun r => (0, 0, 26, [(0, vR (some 126)), (1, vI v1), (2, vI v2)], r.1.toList ++ [vI v2], r.2)) rfl (T_Mo_syllables q v1) (fun r_5 => S_run 7 (f' := (0, 0, 35, [(0, vR (some 126)), (1, vI v1), (2, vI v2), (3, vI (v2 + r_5))], [vI (q.1 127 1), vI (v2 + r_5)], hp q)) rfl (S_ite (fun h_7 => S_go (J_icmp2 rfl rfl rfl (B_ne h_7)) (S_run 2 (f' := (0, 0, 40, [(0, vR (some 126)), (1, vI v1), (2, vI v2), (3, vI (v2 + r_5))], [vI v1, vR (some 126)], hp q)) rfl (S_call (m' := 153) (args := [vR (some 126), vI v1]) (h := hp q) (k := fun r => (0, 0, 43, [(0, vR (some 126)), (1, vI v1), (2, vI v2), (3, vI (v2 + r_5))], r.1.toList ++ [], r.2)) rfl (T_Mo_ends q v1) (fun r_9 => S_run 0 (f' := (0, 0, 43, [(0, vR (some 126)), (1, vI v1), (2, vI v2), (3, vI (v2 + r_5))], [vI r_9], hp q)) rfl (S_ite (fun h_10 => S_go (J_if2 rfl rfl (B_eq h_10)) (S_run 2 (f' := (0, 0, 60, [(0, vR (some 126)), (1, vI v1), (2, vI v2), (3, vI (v2 + r_5))], [vI (0 : Int)], hp q)) rfl (S_ret rfl))) (fun h_10 => S_go (J_if2 rfl rfl (B_eq' h_10)) (S_run 2 (f' := (0, 0, 60, [(0, vR (some 126)), (1, vI v1), (2, vI v2), (3, vI (v2 + r_5))], [vI (1 : Int)], hp q)) rfl (S_ret rfl)))))))) (fun h_7 => S_go (J_icmp2 rfl rfl rfl (B_ne' h_7)) (S_run 3 (f' := (0, 0, 59, [(0, vR (some 126)), (1, vI v1), (2, vI v2), (3, vI (v2 + r_5))], [vI (v2 + r_5), vR (some 138)], hp q)) rfl (S_ck (n := 13) (fun h_8 => S_go (H_iald rfl rfl rfl h_8) (S_run 0 (f' := (0, 0, 60, [(0, vR (some 126)), (1, vI v1), (2, vI v2), (3, vI (v2 + r_5))], [vI (q.1 138 (wrap (v2 + r_5)).toNat)], hp q)) rfl (S_ret rfl)))))))))))))))))))))

def Mo_atMost (q : zM) (v0 : Int) : Option Int :=
  if (1000 : Int) < wrap v0 then
    some (1000 : Int)
  else
    some v0
theorem T_Mo_atMost {E : zE} (q : zM) (v0 : Int) : SimV E 165 (entF [vI v0] (hp q)) (eP q) (Mo_atMost q v0) := by
  unfold Mo_atMost
  exact S_run 0 (f' := (0, 0, 0, [(0, vI v0)], [], hp q)) rfl (S_run 2 (f' := (0, 0, 4, [(0, vI v0)], [vI (1000 : Int), vI v0], hp q)) rfl (S_ite (fun h_1 => S_go (J_icmp2 rfl rfl wl_1000 (B_le h_1)) (S_run 2 (f' := (0, 0, 14, [(0, vI v0)], [vI (1000 : Int)], hp q)) rfl (S_ret rfl))) (fun h_1 => S_go (J_icmp2 rfl rfl wl_1000 (B_le' h_1)) (S_run 1 (f' := (0, 0, 14, [(0, vI v0)], [vI v0], hp q)) rfl (S_ret rfl)))))

def Mo_manyRows_L29 (v1 : Int) (v2 : Int) (K : Int → zM → Option (Int × zM)) : Nat → Int → zM → Option (Int × zM)
  | 0, _, _ => none
  | n + 1, v3, q =>
    if wrap v3 < wrap (q.1 127 0) then
      ck (wrap v2) 13 (
        if (0 : Int) < wrap v2 then
          (Mo_rowsBy q v3 v2).bind fun r_9 =>
            (Mo_atMost q ((q.1 138 (wrap v2).toNat) + r_9)).bind fun r_10 =>
              ck (wrap v2) 13 (
                Mo_manyRows_L29 v1 v2 K n (v3 + 1) (qs q 138 (wrap v2).toNat r_10))
        else
          (Mo_begins q v3).bind fun r_12 =>
            if wrap r_12 = (0 : Int) then
              (Mo_atMost q ((q.1 138 (wrap v2).toNat) + (0 : Int))).bind fun r_14 =>
                ck (wrap v2) 13 (
                  Mo_manyRows_L29 v1 v2 K n (v3 + 1) (qs q 138 (wrap v2).toNat r_14))
            else
              (Mo_rowsBy q v3 v2).bind fun r_16 =>
                (Mo_atMost q ((q.1 138 (wrap v2).toNat) + r_16)).bind fun r_17 =>
                  ck (wrap v2) 13 (
                    Mo_manyRows_L29 v1 v2 K n (v3 + 1) (qs q 138 (wrap v2).toNat r_17)))
    else
      K v3 q
theorem T_Mo_manyRows_L29 {E : zE} (v1 : Int) (v2 : Int) {K : Int → zM → Option (Int × zM)} (hK : ∀ (v3 : Int) (q : zM), SimV E 167 (0, 0, 83, [(0, vR (some 126)), (1, vI v1), (2, vI v2), (3, vI v3)], [], hp q) eI (K v3 q)) : ∀ (n : Nat) (v3 : Int) (q : zM), SimV E 167 (0, 0, 29, [(0, vR (some 126)), (1, vI v1), (2, vI v2), (3, vI v3)], [], hp q) eI (Mo_manyRows_L29 v1 v2 K n v3 q) := by
  intro n
  induction n with
  | zero => intro _ _; exact S_none
  | succ n ih =>
    intro v3 q
    rw [Mo_manyRows_L29]
    exact S_run 5 (f' := (0, 0, 36, [(0, vR (some 126)), (1, vI v1), (2, vI v2), (3, vI v3)], [vI (q.1 127 0), vI v3], hp q)) rfl (S_ite (fun h_6 => S_go (J_icmp2 rfl rfl rfl (B_ge h_6)) (S_run 6 (f' := (0, 0, 49, [(0, vR (some 126)), (1, vI v1), (2, vI v2), (3, vI v3)], [vI v2, vR (some 138), vI v2, vR (some 138)], hp q)) rfl (S_ck (n := 13) (fun h_7 => S_go (H_iald rfl rfl rfl h_7) (S_run 1 (f' := (0, 0, 51, [(0, vR (some 126)), (1, vI v1), (2, vI v2), (3, vI v3)], [vI v2, vI (q.1 138 (wrap v2).toNat), vI v2, vR (some 138)], hp q)) rfl (S_ite (fun h_8 => S_go (J_if2 rfl rfl (B_gt h_8)) (S_run 3 (f' := (0, 0, 65, [(0, vR (some 126)), (1, vI v1), (2, vI v2), (3, vI v3)], [vI v2, vI v3, vR (some 126), vI (q.1 138 (wrap v2).toNat), vI v2, vR (some 138)], hp q)) rfl (S_call (m' := 166) (args := [vR (some 126), vI v3, vI v2]) (h := hp q) (k := fun r => (0, 0, 68, [(0, vR (some 126)), (1, vI v1), (2, vI v2), (3, vI v3)], r.1.toList ++ [vI (q.1 138 (wrap v2).toNat), vI v2, vR (some 138)], r.2)) rfl (T_Mo_rowsBy q v3 v2) (fun r_9 => S_run 2 (f' := (0, 0, 73, [(0, vR (some 126)), (1, vI v1), (2, vI v2), (3, vI v3)], [vI ((q.1 138 (wrap v2).toNat) + r_9), vI v2, vR (some 138)], hp q)) rfl (S_call (m' := 165) (args := [vI ((q.1 138 (wrap v2).toNat) + r_9)]) (h := hp q) (k := fun r => (0, 0, 76, [(0, vR (some 126)), (1, vI v1), (2, vI v2), (3, vI v3)], r.1.toList ++ [vI v2, vR (some 138)], r.2)) rfl (T_Mo_atMost q ((q.1 138 (wrap v2).toNat) + r_9)) (fun r_10 => S_run 0 (f' := (0, 0, 76, [(0, vR (some 126)), (1, vI v1), (2, vI v2), (3, vI v3)], [vI r_10, vI v2, vR (some 138)], hp q)) rfl (S_ck (n := 13) (fun h_11 => S_go (H_iast rfl rfl rfl h_11) (S_run 2 (f' := (0, 0, 29, [(0, vR (some 126)), (1, vI v1), (2, vI v2), (3, vI (v3 + 1))], [], hp (qs q 138 (wrap v2).toNat r_10))) rfl (ih (v3 + 1) (qs q 138 (wrap v2).toNat r_10))))))))))) (fun h_8 => S_go (J_if2 rfl rfl (B_gt' h_8)) (S_run 2 (f' := (0, 0, 56, [(0, vR (some 126)), (1, vI v1), (2, vI v2), (3, vI v3)], [vI v3, vR (some 126), vI (q.1 138 (wrap v2).toNat), vI v2, vR (some 138)], hp q)) rfl (S_call (m' := 152) (args := [vR (some 126), vI v3]) (h := hp q) (k := fun r => (0, 0, 59, [(0, vR (some 126)), (1, vI v1), (2, vI v2), (3, vI v3)], r.1.toList ++ [vI (q.1 138 (wrap v2).toNat), vI v2, vR (some 138)], r.2)) rfl (T_Mo_begins q v3) (fun r_12 => S_run 0 (f' := (0, 0, 59, [(0, vR (some 126)), (1, vI v1), (2, vI v2), (3, vI v3)], [vI r_12, vI (q.1 138 (wrap v2).toNat), vI v2, vR (some 138)], hp q)) rfl (S_ite (fun h_13 => S_go (J_if2 rfl rfl (B_eq h_13)) (S_run 2 (f' := (0, 0, 73, [(0, vR (some 126)), (1, vI v1), (2, vI v2), (3, vI v3)], [vI ((q.1 138 (wrap v2).toNat) + (0 : Int)), vI v2, vR (some 138)], hp q)) rfl (S_call (m' := 165) (args := [vI ((q.1 138 (wrap v2).toNat) + (0 : Int))]) (h := hp q) (k := fun r => (0, 0, 76, [(0, vR (some 126)), (1, vI v1), (2, vI v2), (3, vI v3)], r.1.toList ++ [vI v2, vR (some 138)], r.2)) rfl (T_Mo_atMost q ((q.1 138 (wrap v2).toNat) + (0 : Int))) (fun r_14 => S_run 0 (f' := (0, 0, 76, [(0, vR (some 126)), (1, vI v1), (2, vI v2), (3, vI v3)], [vI r_14, vI v2, vR (some 138)], hp q)) rfl (S_ck (n := 13) (fun h_15 => S_go (H_iast rfl rfl rfl h_15) (S_run 2 (f' := (0, 0, 29, [(0, vR (some 126)), (1, vI v1), (2, vI v2), (3, vI (v3 + 1))], [], hp (qs q 138 (wrap v2).toNat r_14))) rfl (ih (v3 + 1) (qs q 138 (wrap v2).toNat r_14))))))))) (fun h_13 => S_go (J_if2 rfl rfl (B_eq' h_13)) (S_run 3 (f' := (0, 0, 65, [(0, vR (some 126)), (1, vI v1), (2, vI v2), (3, vI v3)], [vI v2, vI v3, vR (some 126), vI (q.1 138 (wrap v2).toNat), vI v2, vR (some 138)], hp q)) rfl (S_call (m' := 166) (args := [vR (some 126), vI v3, vI v2]) (h := hp q) (k := fun r => (0, 0, 68, [(0, vR (some 126)), (1, vI v1), (2, vI v2), (3, vI v3)], r.1.toList ++ [vI (q.1 138 (wrap v2).toNat), vI v2, vR (some 138)], r.2)) rfl (T_Mo_rowsBy q v3 v2) (fun r_16 => S_run 2 (f' := (0, 0, 73, [(0, vR (some 126)), (1, vI v1), (2, vI v2), (3, vI v3)], [vI ((q.1 138 (wrap v2).toNat) + r_16), vI v2, vR (some 138)], hp q)) rfl (S_call (m' := 165) (args := [vI ((q.1 138 (wrap v2).toNat) + r_16)]) (h := hp q) (k := fun r => (0, 0, 76, [(0, vR (some 126)), (1, vI v1), (2, vI v2), (3, vI v3)], r.1.toList ++ [vI v2, vR (some 138)], r.2)) rfl (T_Mo_atMost q ((q.1 138 (wrap v2).toNat) + r_16)) (fun r_17 => S_run 0 (f' := (0, 0, 76, [(0, vR (some 126)), (1, vI v1), (2, vI v2), (3, vI v3)], [vI r_17, vI v2, vR (some 138)], hp q)) rfl (S_ck (n := 13) (fun h_18 => S_go (H_iast rfl rfl rfl h_18) (S_run 2 (f' := (0, 0, 29, [(0, vR (some 126)), (1, vI v1), (2, vI v2), (3, vI (v3 + 1))], [], hp (qs q 138 (wrap v2).toNat r_17))) rfl (ih (v3 + 1) (qs q 138 (wrap v2).toNat r_17)))))))))))))))))))))) (fun h_6 => S_go (J_icmp2 rfl rfl rfl (B_ge' h_6)) (S_run 0 (f' := (0, 0, 83, [(0, vR (some 126)), (1, vI v1), (2, vI v2), (3, vI v3)], [], hp q)) rfl (hK v3 q))))

def Mo_manyRows_L16 (v1 : Int) (K : Int → zM → Option (Int × zM)) : Nat → Int → zM → Option (Int × zM)
  | 0, _, _ => none
  | n + 1, v2, q =>
    if wrap v2 < (0 : Int) then
      K v2 q
    else
      ck (wrap v2) 13 (
        Mo_manyRows_L29 v1 v2 (fun v3_19 q_20 => 
          Mo_manyRows_L16 v1 K n (v2 + (-1)) q_20) 5000 (0 : Int) (qs q 138 (wrap v2).toNat (0 : Int)))
theorem T_Mo_manyRows_L16 {E : zE} (v1 : Int) {K : Int → zM → Option (Int × zM)} (hK : ∀ (v2 : Int) (q : zM), SimV E 167 (0, 0, 89, [(0, vR (some 126)), (1, vI v1), (2, vI v2)], [], hp q) eI (K v2 q)) : ∀ (n : Nat) (v2 : Int) (q : zM), SimV E 167 (0, 0, 16, [(0, vR (some 126)), (1, vI v1), (2, vI v2)], [], hp q) eI (Mo_manyRows_L16 v1 K n v2 q) := by
  intro n
  induction n with
  | zero => intro _ _; exact S_none
  | succ n ih =>
    intro v2 q
    rw [Mo_manyRows_L16]
    exact S_run 1 (f' := (0, 0, 17, [(0, vR (some 126)), (1, vI v1), (2, vI v2)], [vI v2], hp q)) rfl (S_ite (fun h_3 => S_go (J_if2 rfl rfl (B_lt h_3)) (S_run 0 (f' := (0, 0, 89, [(0, vR (some 126)), (1, vI v1), (2, vI v2)], [], hp q)) rfl (hK v2 q))) (fun h_3 => S_go (J_if2 rfl rfl (B_lt' h_3)) (S_run 4 (f' := (0, 0, 26, [(0, vR (some 126)), (1, vI v1), (2, vI v2)], [vI (0 : Int), vI v2, vR (some 138)], hp q)) rfl (S_ck (n := 13) (fun h_4 => S_go (H_iast rfl rfl rfl h_4) (S_run 2 (f' := (0, 0, 29, [(0, vR (some 126)), (1, vI v1), (2, vI v2), (3, vI (0 : Int))], [], hp (qs q 138 (wrap v2).toNat (0 : Int)))) rfl (T_Mo_manyRows_L29 v1 v2 (fun v3_19 q_20 => S_run 2 (f' := (0, 0, 16, [(0, vR (some 126)), (1, vI v1), (2, vI (v2 + (-1)))], [], hp q_20)) rfl (ih (v2 + (-1)) q_20)) 5000 (0 : Int) (qs q 138 (wrap v2).toNat (0 : Int)))))))))

def Mo_manyRows (q : zM) (v1 : Int) : Option (Int × zM) :=
  (Mo_look q v1 (0 : Int) (0 : Int)).bind fun r_1 =>
    Mo_manyRows_L16 v1 (fun v2_21 q_22 => 
      some (q_22.1 138 0, q_22)) 5000 ((r_1.1 127 1) - (1 : Int)) r_1
theorem T_Mo_manyRows {E : zE} (q : zM) (v1 : Int) : SimV E 167 (entF [vR (some 126), vI v1] (hp q)) eI (Mo_manyRows q v1) := by
  unfold Mo_manyRows
  exact S_run 0 (f' := (0, 0, 0, [(0, vR (some 126)), (1, vI v1)], [], hp q)) rfl (S_run 4 (f' := (0, 0, 4, [(0, vR (some 126)), (1, vI v1)], [vI (0 : Int), vI (0 : Int), vI v1, vR (some 126)], hp q)) rfl (S_call (m' := 151) (args := [vR (some 126), vI v1, vI (0 : Int), vI (0 : Int)]) (h := hp q) (k := fun r => (0, 0, 7, [(0, vR (some 126)), (1, vI v1)], r.1.toList ++ [], r.2)) rfl (T_Mo_look q v1 (0 : Int) (0 : Int)) (fun r_1 => S_run 7 (f' := (0, 0, 16, [(0, vR (some 126)), (1, vI v1), (2, vI ((r_1.1 127 1) - (1 : Int)))], [], hp r_1)) rfl (T_Mo_manyRows_L16 v1 (fun v2_21 q_22 => S_run 4 (f' := (0, 0, 95, [(0, vR (some 126)), (1, vI v1), (2, vI v2_21)], [vI (q_22.1 138 0)], hp q_22)) rfl (S_ret rfl)) 5000 ((r_1.1 127 1) - (1 : Int)) r_1))))

def Mo_lettersIn_L4 (q : zM) (v1 : Int) (K : Int → Int → Option Int) : Nat → Int → Int → Option Int
  | 0, _, _ => none
  | n + 1, v2, v3 =>
    (Mo_size q v1).bind fun r_1 =>
      if wrap v3 < wrap r_1 then
        (Mo_wordIn q v1 v3).bind fun r_3 =>
          (Mo_letters q r_3).bind fun r_4 =>
            Mo_lettersIn_L4 q v1 K n (v2 + r_4) (v3 + 1)
      else
        K v2 v3
theorem T_Mo_lettersIn_L4 {E : zE} (q : zM) (v1 : Int) {K : Int → Int → Option Int} (hK : ∀ (v2 : Int) (v3 : Int), SimV E 172 (0, 0, 32, [(0, vR (some 126)), (1, vI v1), (2, vI v2), (3, vI v3)], [], hp q) (eP q) (K v2 v3)) : ∀ (n : Nat) (v2 : Int) (v3 : Int), SimV E 172 (0, 0, 4, [(0, vR (some 126)), (1, vI v1), (2, vI v2), (3, vI v3)], [], hp q) (eP q) (Mo_lettersIn_L4 q v1 K n v2 v3) := by
  intro n
  induction n with
  | zero => intro _ _; exact S_none
  | succ n ih =>
    intro v2 v3
    rw [Mo_lettersIn_L4]
    exact S_run 3 (f' := (0, 0, 7, [(0, vR (some 126)), (1, vI v1), (2, vI v2), (3, vI v3)], [vI v1, vR (some 126), vI v3], hp q)) rfl (S_call (m' := 140) (args := [vR (some 126), vI v1]) (h := hp q) (k := fun r => (0, 0, 10, [(0, vR (some 126)), (1, vI v1), (2, vI v2), (3, vI v3)], r.1.toList ++ [vI v3], r.2)) rfl (T_Mo_size q v1) (fun r_1 => S_run 0 (f' := (0, 0, 10, [(0, vR (some 126)), (1, vI v1), (2, vI v2), (3, vI v3)], [vI r_1, vI v3], hp q)) rfl (S_ite (fun h_2 => S_go (J_icmp2 rfl rfl rfl (B_ge h_2)) (S_run 5 (f' := (0, 0, 18, [(0, vR (some 126)), (1, vI v1), (2, vI v2), (3, vI v3)], [vI v3, vI v1, vR (some 126), vR (some 126), vI v2], hp q)) rfl (S_call (m' := 141) (args := [vR (some 126), vI v1, vI v3]) (h := hp q) (k := fun r => (0, 0, 21, [(0, vR (some 126)), (1, vI v1), (2, vI v2), (3, vI v3)], r.1.toList ++ [vR (some 126), vI v2], r.2)) rfl (T_Mo_wordIn q v1 v3) (fun r_3 => S_run 0 (f' := (0, 0, 21, [(0, vR (some 126)), (1, vI v1), (2, vI v2), (3, vI v3)], [vI r_3, vR (some 126), vI v2], hp q)) rfl (S_call (m' := 123) (args := [vR (some 126), vI r_3]) (h := hp q) (k := fun r => (0, 0, 24, [(0, vR (some 126)), (1, vI v1), (2, vI v2), (3, vI v3)], r.1.toList ++ [vI v2], r.2)) rfl (T_Mo_letters q r_3) (fun r_4 => S_run 4 (f' := (0, 0, 4, [(0, vR (some 126)), (1, vI v1), (2, vI (v2 + r_4)), (3, vI (v3 + 1))], [], hp q)) rfl (ih (v2 + r_4) (v3 + 1)))))))) (fun h_2 => S_go (J_icmp2 rfl rfl rfl (B_ge' h_2)) (S_run 0 (f' := (0, 0, 32, [(0, vR (some 126)), (1, vI v1), (2, vI v2), (3, vI v3)], [], hp q)) rfl (hK v2 v3))))))

def Mo_lettersIn (q : zM) (v1 : Int) : Option Int :=
  Mo_lettersIn_L4 q v1 (fun v2_5 v3_6 => 
    some v2_5) 5000 (0 : Int) (0 : Int)
theorem T_Mo_lettersIn {E : zE} (q : zM) (v1 : Int) : SimV E 172 (entF [vR (some 126), vI v1] (hp q)) (eP q) (Mo_lettersIn q v1) := by
  unfold Mo_lettersIn
  exact S_run 0 (f' := (0, 0, 0, [(0, vR (some 126)), (1, vI v1)], [], hp q)) rfl (S_run 4 (f' := (0, 0, 4, [(0, vR (some 126)), (1, vI v1), (2, vI (0 : Int)), (3, vI (0 : Int))], [], hp q)) rfl (T_Mo_lettersIn_L4 q v1 (fun v2_5 v3_6 => S_run 1 (f' := (0, 0, 33, [(0, vR (some 126)), (1, vI v1), (2, vI v2_5), (3, vI v3_6)], [vI v2_5], hp q)) rfl (S_ret rfl)) 5000 (0 : Int) (0 : Int)))

def Mo_bendsIn_L7 (q : zM) (v1 : Int) (K : Int → Int → Int → Option Int) : Nat → Int → Int → Int → Option Int
  | 0, _, _, _ => none
  | n + 1, v2, v3, v4 =>
    (Mo_size q v1).bind fun r_1 =>
      if wrap v4 < wrap r_1 then
        (Mo_wordIn q v1 v4).bind fun r_3 =>
          (Mo_bendsAt q r_3 v3).bind fun r_4 =>
            (Mo_wordIn q v1 v4).bind fun r_5 =>
              (Mo_syllables q r_5).bind fun r_6 =>
                Mo_bendsIn_L7 q v1 K n (v2 + r_4) (v3 + r_6) (v4 + 1)
      else
        K v2 v3 v4
theorem T_Mo_bendsIn_L7 {E : zE} (q : zM) (v1 : Int) {K : Int → Int → Int → Option Int} (hK : ∀ (v2 : Int) (v3 : Int) (v4 : Int), SimV E 171 (0, 0, 52, [(0, vR (some 126)), (1, vI v1), (2, vI v2), (3, vI v3), (4, vI v4)], [], hp q) (eP q) (K v2 v3 v4)) : ∀ (n : Nat) (v2 : Int) (v3 : Int) (v4 : Int), SimV E 171 (0, 0, 7, [(0, vR (some 126)), (1, vI v1), (2, vI v2), (3, vI v3), (4, vI v4)], [], hp q) (eP q) (Mo_bendsIn_L7 q v1 K n v2 v3 v4) := by
  intro n
  induction n with
  | zero => intro _ _ _; exact S_none
  | succ n ih =>
    intro v2 v3 v4
    rw [Mo_bendsIn_L7]
    exact S_run 3 (f' := (0, 0, 11, [(0, vR (some 126)), (1, vI v1), (2, vI v2), (3, vI v3), (4, vI v4)], [vI v1, vR (some 126), vI v4], hp q)) rfl (S_call (m' := 140) (args := [vR (some 126), vI v1]) (h := hp q) (k := fun r => (0, 0, 14, [(0, vR (some 126)), (1, vI v1), (2, vI v2), (3, vI v3), (4, vI v4)], r.1.toList ++ [vI v4], r.2)) rfl (T_Mo_size q v1) (fun r_1 => S_run 0 (f' := (0, 0, 14, [(0, vR (some 126)), (1, vI v1), (2, vI v2), (3, vI v3), (4, vI v4)], [vI r_1, vI v4], hp q)) rfl (S_ite (fun h_2 => S_go (J_icmp2 rfl rfl rfl (B_ge h_2)) (S_run 5 (f' := (0, 0, 23, [(0, vR (some 126)), (1, vI v1), (2, vI v2), (3, vI v3), (4, vI v4)], [vI v4, vI v1, vR (some 126), vR (some 126), vI v2], hp q)) rfl (S_call (m' := 141) (args := [vR (some 126), vI v1, vI v4]) (h := hp q) (k := fun r => (0, 0, 26, [(0, vR (some 126)), (1, vI v1), (2, vI v2), (3, vI v3), (4, vI v4)], r.1.toList ++ [vR (some 126), vI v2], r.2)) rfl (T_Mo_wordIn q v1 v4) (fun r_3 => S_run 1 (f' := (0, 0, 27, [(0, vR (some 126)), (1, vI v1), (2, vI v2), (3, vI v3), (4, vI v4)], [vI v3, vI r_3, vR (some 126), vI v2], hp q)) rfl (S_call (m' := 150) (args := [vR (some 126), vI r_3, vI v3]) (h := hp q) (k := fun r => (0, 0, 30, [(0, vR (some 126)), (1, vI v1), (2, vI v2), (3, vI v3), (4, vI v4)], r.1.toList ++ [vI v2], r.2)) rfl (T_Mo_bendsAt q r_3 v3) (fun r_4 => S_run 7 (f' := (0, 0, 38, [(0, vR (some 126)), (1, vI v1), (2, vI (v2 + r_4)), (3, vI v3), (4, vI v4)], [vI v4, vI v1, vR (some 126), vR (some 126), vI v3], hp q)) rfl (S_call (m' := 141) (args := [vR (some 126), vI v1, vI v4]) (h := hp q) (k := fun r => (0, 0, 41, [(0, vR (some 126)), (1, vI v1), (2, vI (v2 + r_4)), (3, vI v3), (4, vI v4)], r.1.toList ++ [vR (some 126), vI v3], r.2)) rfl (T_Mo_wordIn q v1 v4) (fun r_5 => S_run 0 (f' := (0, 0, 41, [(0, vR (some 126)), (1, vI v1), (2, vI (v2 + r_4)), (3, vI v3), (4, vI v4)], [vI r_5, vR (some 126), vI v3], hp q)) rfl (S_call (m' := 124) (args := [vR (some 126), vI r_5]) (h := hp q) (k := fun r => (0, 0, 44, [(0, vR (some 126)), (1, vI v1), (2, vI (v2 + r_4)), (3, vI v3), (4, vI v4)], r.1.toList ++ [vI v3], r.2)) rfl (T_Mo_syllables q r_5) (fun r_6 => S_run 4 (f' := (0, 0, 7, [(0, vR (some 126)), (1, vI v1), (2, vI (v2 + r_4)), (3, vI (v3 + r_6)), (4, vI (v4 + 1))], [], hp q)) rfl (ih (v2 + r_4) (v3 + r_6) (v4 + 1)))))))))))) (fun h_2 => S_go (J_icmp2 rfl rfl rfl (B_ge' h_2)) (S_run 0 (f' := (0, 0, 52, [(0, vR (some 126)), (1, vI v1), (2, vI v2), (3, vI v3), (4, vI v4)], [], hp q)) rfl (hK v2 v3 v4))))))

def Mo_bendsIn (q : zM) (v1 : Int) : Option Int :=
  Mo_bendsIn_L7 q v1 (fun v2_7 v3_8 v4_9 => 
    some v2_7) 5000 (0 : Int) (0 : Int) (0 : Int)
theorem T_Mo_bendsIn {E : zE} (q : zM) (v1 : Int) : SimV E 171 (entF [vR (some 126), vI v1] (hp q)) (eP q) (Mo_bendsIn q v1) := by
  unfold Mo_bendsIn
  exact S_run 0 (f' := (0, 0, 0, [(0, vR (some 126)), (1, vI v1)], [], hp q)) rfl (S_run 6 (f' := (0, 0, 7, [(0, vR (some 126)), (1, vI v1), (2, vI (0 : Int)), (3, vI (0 : Int)), (4, vI (0 : Int))], [], hp q)) rfl (T_Mo_bendsIn_L7 q v1 (fun v2_7 v3_8 v4_9 => S_run 1 (f' := (0, 0, 53, [(0, vR (some 126)), (1, vI v1), (2, vI v2_7), (3, vI v3_8), (4, vI v4_9)], [vI v2_7], hp q)) rfl (S_ret rfl)) 5000 (0 : Int) (0 : Int) (0 : Int)))

def Mo_line (q : zM) (v1 : Int) (v2 : Int) : Option (Int × zM) :=
  (Mo_noLine q v1).bind fun r_1 =>
    if wrap r_1 = (0 : Int) then
      if wrap v2 = 0 then
        (Mo_size q v1).bind fun r_9 =>
          some (r_9, q)
      else
        if wrap v2 = 1 then
          (Mo_bendsIn q v1).bind fun r_8 =>
            some (r_8, q)
        else
          if wrap v2 = 2 then
            (Mo_lettersIn q v1).bind fun r_7 =>
              some (r_7, q)
          else
            if wrap v2 = 3 then
              ck (wrap ((4 : Int) + v1)) 244 (
                some (q.1 127 (wrap ((4 : Int) + v1)).toNat, q))
            else
              if wrap v2 = 4 then
                ck (wrap ((12 : Int) + v1)) 244 (
                  some (q.1 127 (wrap ((12 : Int) + v1)).toNat, q))
              else
                if wrap v2 = 5 then
                  (Mo_manyRows q v1).bind fun r_4 =>
                    some (r_4.1, r_4.2)
                else
                  some ((-2 : Int), q)
    else
      some ((-1 : Int), q)
theorem T_Mo_line {E : zE} (q : zM) (v1 : Int) (v2 : Int) : SimV E 173 (entF [vR (some 126), vI v1, vI v2] (hp q)) eI (Mo_line q v1 v2) := by
  unfold Mo_line
  exact S_run 0 (f' := (0, 0, 0, [(0, vR (some 126)), (1, vI v1), (2, vI v2)], [], hp q)) rfl (S_run 2 (f' := (0, 0, 2, [(0, vR (some 126)), (1, vI v1), (2, vI v2)], [vI v1, vR (some 126)], hp q)) rfl (S_call (m' := 139) (args := [vR (some 126), vI v1]) (h := hp q) (k := fun r => (0, 0, 5, [(0, vR (some 126)), (1, vI v1), (2, vI v2)], r.1.toList ++ [], r.2)) rfl (T_Mo_noLine q v1) (fun r_1 => S_run 0 (f' := (0, 0, 5, [(0, vR (some 126)), (1, vI v1), (2, vI v2)], [vI r_1], hp q)) rfl (S_ite (fun h_2 => S_go (J_if2 rfl rfl (B_eq h_2)) (S_run 1 (f' := (0, 0, 11, [(0, vR (some 126)), (1, vI v1), (2, vI v2)], [vI v2], hp q)) rfl (S_ite (fun h_3_0 => S_go (J_tin rfl h_3_0 (by decide) rfl) (S_run 2 (f' := (0, 0, 50, [(0, vR (some 126)), (1, vI v1), (2, vI v2)], [vI v1, vR (some 126)], hp q)) rfl (S_call (m' := 140) (args := [vR (some 126), vI v1]) (h := hp q) (k := fun r => (0, 0, 53, [(0, vR (some 126)), (1, vI v1), (2, vI v2)], r.1.toList ++ [], r.2)) rfl (T_Mo_size q v1) (fun r_9 => S_run 0 (f' := (0, 0, 53, [(0, vR (some 126)), (1, vI v1), (2, vI v2)], [vI r_9], hp q)) rfl (S_ret rfl))))) (fun h_3_0 => S_ite (fun h_3_1 => S_go (J_tin rfl h_3_1 (by decide) rfl) (S_run 2 (f' := (0, 0, 56, [(0, vR (some 126)), (1, vI v1), (2, vI v2)], [vI v1, vR (some 126)], hp q)) rfl (S_call (m' := 171) (args := [vR (some 126), vI v1]) (h := hp q) (k := fun r => (0, 0, 59, [(0, vR (some 126)), (1, vI v1), (2, vI v2)], r.1.toList ++ [], r.2)) rfl (T_Mo_bendsIn q v1) (fun r_8 => S_run 0 (f' := (0, 0, 59, [(0, vR (some 126)), (1, vI v1), (2, vI v2)], [vI r_8], hp q)) rfl (S_ret rfl))))) (fun h_3_1 => S_ite (fun h_3_2 => S_go (J_tin rfl h_3_2 (by decide) rfl) (S_run 2 (f' := (0, 0, 62, [(0, vR (some 126)), (1, vI v1), (2, vI v2)], [vI v1, vR (some 126)], hp q)) rfl (S_call (m' := 172) (args := [vR (some 126), vI v1]) (h := hp q) (k := fun r => (0, 0, 65, [(0, vR (some 126)), (1, vI v1), (2, vI v2)], r.1.toList ++ [], r.2)) rfl (T_Mo_lettersIn q v1) (fun r_7 => S_run 0 (f' := (0, 0, 65, [(0, vR (some 126)), (1, vI v1), (2, vI v2)], [vI r_7], hp q)) rfl (S_ret rfl))))) (fun h_3_2 => S_ite (fun h_3_3 => S_go (J_tin rfl h_3_3 (by decide) rfl) (S_run 5 (f' := (0, 0, 73, [(0, vR (some 126)), (1, vI v1), (2, vI v2)], [vI ((4 : Int) + v1), vR (some 127)], hp q)) rfl (S_ck (n := 244) (fun h_6 => S_go (H_iald rfl rfl rfl h_6) (S_run 0 (f' := (0, 0, 74, [(0, vR (some 126)), (1, vI v1), (2, vI v2)], [vI (q.1 127 (wrap ((4 : Int) + v1)).toNat)], hp q)) rfl (S_ret rfl)))))) (fun h_3_3 => S_ite (fun h_3_4 => S_go (J_tin rfl h_3_4 (by decide) rfl) (S_run 5 (f' := (0, 0, 83, [(0, vR (some 126)), (1, vI v1), (2, vI v2)], [vI ((12 : Int) + v1), vR (some 127)], hp q)) rfl (S_ck (n := 244) (fun h_5 => S_go (H_iald rfl rfl rfl h_5) (S_run 0 (f' := (0, 0, 84, [(0, vR (some 126)), (1, vI v1), (2, vI v2)], [vI (q.1 127 (wrap ((12 : Int) + v1)).toNat)], hp q)) rfl (S_ret rfl)))))) (fun h_3_4 => S_ite (fun h_3_5 => S_go (J_tin rfl h_3_5 (by decide) rfl) (S_run 2 (f' := (0, 0, 87, [(0, vR (some 126)), (1, vI v1), (2, vI v2)], [vI v1, vR (some 126)], hp q)) rfl (S_call (m' := 167) (args := [vR (some 126), vI v1]) (h := hp q) (k := fun r => (0, 0, 90, [(0, vR (some 126)), (1, vI v1), (2, vI v2)], r.1.toList ++ [], r.2)) rfl (T_Mo_manyRows q v1) (fun r_4 => S_run 0 (f' := (0, 0, 90, [(0, vR (some 126)), (1, vI v1), (2, vI v2)], [vI r_4.1], hp r_4.2)) rfl (S_ret rfl))))) (fun h_3_5 => S_go (J_tout rfl (by omega)) (S_run 1 (f' := (0, 0, 93, [(0, vR (some 126)), (1, vI v1), (2, vI v2)], [vI (-2 : Int)], hp q)) rfl (S_ret rfl))))))))))) (fun h_2 => S_go (J_if2 rfl rfl (B_eq' h_2)) (S_run 1 (f' := (0, 0, 9, [(0, vR (some 126)), (1, vI v1), (2, vI v2)], [vI (-1 : Int)], hp q)) rfl (S_ret rfl)))))))

def Mo_wordAt (q : zM) (v1 : Int) (v2 : Int) : Option Int :=
  (Mo_noLine q v1).bind fun r_1 =>
    if wrap r_1 = (0 : Int) then
      if wrap v2 < (0 : Int) then
        some (-2 : Int)
      else
        (Mo_size q v1).bind fun r_4 =>
          if wrap v2 < wrap r_4 then
            (Mo_wordIn q v1 v2).bind fun r_6 =>
              some r_6
          else
            some (-5 : Int)
    else
      some (-1 : Int)
theorem T_Mo_wordAt {E : zE} (q : zM) (v1 : Int) (v2 : Int) : SimV E 174 (entF [vR (some 126), vI v1, vI v2] (hp q)) (eP q) (Mo_wordAt q v1 v2) := by
  unfold Mo_wordAt
  exact S_run 0 (f' := (0, 0, 0, [(0, vR (some 126)), (1, vI v1), (2, vI v2)], [], hp q)) rfl (S_run 2 (f' := (0, 0, 2, [(0, vR (some 126)), (1, vI v1), (2, vI v2)], [vI v1, vR (some 126)], hp q)) rfl (S_call (m' := 139) (args := [vR (some 126), vI v1]) (h := hp q) (k := fun r => (0, 0, 5, [(0, vR (some 126)), (1, vI v1), (2, vI v2)], r.1.toList ++ [], r.2)) rfl (T_Mo_noLine q v1) (fun r_1 => S_run 0 (f' := (0, 0, 5, [(0, vR (some 126)), (1, vI v1), (2, vI v2)], [vI r_1], hp q)) rfl (S_ite (fun h_2 => S_go (J_if2 rfl rfl (B_eq h_2)) (S_run 1 (f' := (0, 0, 11, [(0, vR (some 126)), (1, vI v1), (2, vI v2)], [vI v2], hp q)) rfl (S_ite (fun h_3 => S_go (J_if2 rfl rfl (B_ge h_3)) (S_run 1 (f' := (0, 0, 16, [(0, vR (some 126)), (1, vI v1), (2, vI v2)], [vI (-2 : Int)], hp q)) rfl (S_ret rfl))) (fun h_3 => S_go (J_if2 rfl rfl (B_ge' h_3)) (S_run 3 (f' := (0, 0, 20, [(0, vR (some 126)), (1, vI v1), (2, vI v2)], [vI v1, vR (some 126), vI v2], hp q)) rfl (S_call (m' := 140) (args := [vR (some 126), vI v1]) (h := hp q) (k := fun r => (0, 0, 23, [(0, vR (some 126)), (1, vI v1), (2, vI v2)], r.1.toList ++ [vI v2], r.2)) rfl (T_Mo_size q v1) (fun r_4 => S_run 0 (f' := (0, 0, 23, [(0, vR (some 126)), (1, vI v1), (2, vI v2)], [vI r_4, vI v2], hp q)) rfl (S_ite (fun h_5 => S_go (J_icmp2 rfl rfl rfl (B_ge h_5)) (S_run 3 (f' := (0, 0, 29, [(0, vR (some 126)), (1, vI v1), (2, vI v2)], [vI v2, vI v1, vR (some 126)], hp q)) rfl (S_call (m' := 141) (args := [vR (some 126), vI v1, vI v2]) (h := hp q) (k := fun r => (0, 0, 32, [(0, vR (some 126)), (1, vI v1), (2, vI v2)], r.1.toList ++ [], r.2)) rfl (T_Mo_wordIn q v1 v2) (fun r_6 => S_run 1 (f' := (0, 0, 37, [(0, vR (some 126)), (1, vI v1), (2, vI v2)], [vI r_6], hp q)) rfl (S_ret rfl))))) (fun h_5 => S_go (J_icmp2 rfl rfl rfl (B_ge' h_5)) (S_run 1 (f' := (0, 0, 37, [(0, vR (some 126)), (1, vI v1), (2, vI v2)], [vI (-5 : Int)], hp q)) rfl (S_ret rfl))))))))))) (fun h_2 => S_go (J_if2 rfl rfl (B_eq' h_2)) (S_run 1 (f' := (0, 0, 9, [(0, vR (some 126)), (1, vI v1), (2, vI v2)], [vI (-1 : Int)], hp q)) rfl (S_ret rfl)))))))

def Mo_lengthOf (q : zM) (v1 : Int) : Option Int :=
  (Mo_lettersIn q v1).bind fun r_1 =>
    (Mo_size q v1).bind fun r_2 =>
      if (0 : Int) < wrap r_2 then
        (Mo_size q v1).bind fun r_4 =>
          some (r_1 + r_4)
      else
        some (r_1 + (1 : Int))
theorem T_Mo_lengthOf {E : zE} (q : zM) (v1 : Int) : SimV E 175 (entF [vR (some 126), vI v1] (hp q)) (eP q) (Mo_lengthOf q v1) := by
  unfold Mo_lengthOf
  exact S_run 0 (f' := (0, 0, 0, [(0, vR (some 126)), (1, vI v1)], [], hp q)) rfl (S_run 2 (f' := (0, 0, 2, [(0, vR (some 126)), (1, vI v1)], [vI v1, vR (some 126)], hp q)) rfl (S_call (m' := 172) (args := [vR (some 126), vI v1]) (h := hp q) (k := fun r => (0, 0, 5, [(0, vR (some 126)), (1, vI v1)], r.1.toList ++ [], r.2)) rfl (T_Mo_lettersIn q v1) (fun r_1 => S_run 2 (f' := (0, 0, 7, [(0, vR (some 126)), (1, vI v1)], [vI v1, vR (some 126), vI r_1], hp q)) rfl (S_call (m' := 140) (args := [vR (some 126), vI v1]) (h := hp q) (k := fun r => (0, 0, 10, [(0, vR (some 126)), (1, vI v1)], r.1.toList ++ [vI r_1], r.2)) rfl (T_Mo_size q v1) (fun r_2 => S_run 0 (f' := (0, 0, 10, [(0, vR (some 126)), (1, vI v1)], [vI r_2, vI r_1], hp q)) rfl (S_ite (fun h_3 => S_go (J_if2 rfl rfl (B_le h_3)) (S_run 2 (f' := (0, 0, 15, [(0, vR (some 126)), (1, vI v1)], [vI v1, vR (some 126), vI r_1], hp q)) rfl (S_call (m' := 140) (args := [vR (some 126), vI v1]) (h := hp q) (k := fun r => (0, 0, 18, [(0, vR (some 126)), (1, vI v1)], r.1.toList ++ [vI r_1], r.2)) rfl (T_Mo_size q v1) (fun r_4 => S_run 2 (f' := (0, 0, 23, [(0, vR (some 126)), (1, vI v1)], [vI (r_1 + r_4)], hp q)) rfl (S_ret rfl))))) (fun h_3 => S_go (J_if2 rfl rfl (B_le' h_3)) (S_run 2 (f' := (0, 0, 23, [(0, vR (some 126)), (1, vI v1)], [vI (r_1 + (1 : Int))], hp q)) rfl (S_ret rfl)))))))))

def Mo_characterIn_L5 (q : zM) (v1 : Int) (v2 : Int) (K : Int → Int → Option Int) : Nat → Int → Int → Option Int
  | 0, _, _ => none
  | n + 1, v3, v4 =>
    (Mo_size q v1).bind fun r_1 =>
      if wrap v4 < wrap r_1 then
        (Mo_wordIn q v1 v4).bind fun r_3 =>
          (Mo_letters q r_3).bind fun r_4 =>
            if wrap v3 < wrap r_4 then
              (Mo_wordIn q v1 v4).bind fun r_9 =>
                (Mo_letter q r_9 v3).bind fun r_10 =>
                  some r_10
            else
              if wrap v3 = wrap r_4 then
                (Mo_size q v1).bind fun r_7 =>
                  if wrap v4 = wrap (r_7 - (1 : Int)) then
                    some (47 : Int)
                  else
                    some (32 : Int)
              else
                Mo_characterIn_L5 q v1 v2 K n (v3 - (r_4 + (1 : Int))) (v4 + 1)
      else
        K v3 v4
theorem T_Mo_characterIn_L5 {E : zE} (q : zM) (v1 : Int) (v2 : Int) {K : Int → Int → Option Int} (hK : ∀ (v3 : Int) (v4 : Int), SimV E 176 (0, 0, 86, [(0, vR (some 126)), (1, vI v1), (2, vI v2), (3, vI v3), (4, vI v4)], [], hp q) (eP q) (K v3 v4)) : ∀ (n : Nat) (v3 : Int) (v4 : Int), SimV E 176 (0, 0, 5, [(0, vR (some 126)), (1, vI v1), (2, vI v2), (3, vI v3), (4, vI v4)], [], hp q) (eP q) (Mo_characterIn_L5 q v1 v2 K n v3 v4) := by
  intro n
  induction n with
  | zero => intro _ _; exact S_none
  | succ n ih =>
    intro v3 v4
    rw [Mo_characterIn_L5]
    exact S_run 3 (f' := (0, 0, 9, [(0, vR (some 126)), (1, vI v1), (2, vI v2), (3, vI v3), (4, vI v4)], [vI v1, vR (some 126), vI v4], hp q)) rfl (S_call (m' := 140) (args := [vR (some 126), vI v1]) (h := hp q) (k := fun r => (0, 0, 12, [(0, vR (some 126)), (1, vI v1), (2, vI v2), (3, vI v3), (4, vI v4)], r.1.toList ++ [vI v4], r.2)) rfl (T_Mo_size q v1) (fun r_1 => S_run 0 (f' := (0, 0, 12, [(0, vR (some 126)), (1, vI v1), (2, vI v2), (3, vI v3), (4, vI v4)], [vI r_1, vI v4], hp q)) rfl (S_ite (fun h_2 => S_go (J_icmp2 rfl rfl rfl (B_ge h_2)) (S_run 4 (f' := (0, 0, 20, [(0, vR (some 126)), (1, vI v1), (2, vI v2), (3, vI v3), (4, vI v4)], [vI v4, vI v1, vR (some 126), vR (some 126)], hp q)) rfl (S_call (m' := 141) (args := [vR (some 126), vI v1, vI v4]) (h := hp q) (k := fun r => (0, 0, 23, [(0, vR (some 126)), (1, vI v1), (2, vI v2), (3, vI v3), (4, vI v4)], r.1.toList ++ [vR (some 126)], r.2)) rfl (T_Mo_wordIn q v1 v4) (fun r_3 => S_run 0 (f' := (0, 0, 23, [(0, vR (some 126)), (1, vI v1), (2, vI v2), (3, vI v3), (4, vI v4)], [vI r_3, vR (some 126)], hp q)) rfl (S_call (m' := 123) (args := [vR (some 126), vI r_3]) (h := hp q) (k := fun r => (0, 0, 26, [(0, vR (some 126)), (1, vI v1), (2, vI v2), (3, vI v3), (4, vI v4)], r.1.toList ++ [], r.2)) rfl (T_Mo_letters q r_3) (fun r_4 => S_run 3 (f' := (0, 0, 31, [(0, vR (some 126)), (1, vI v1), (2, vI v2), (3, vI v3), (4, vI v4), (5, vI r_4)], [vI r_4, vI v3], hp q)) rfl (S_ite (fun h_5 => S_go (J_icmp2 rfl rfl rfl (B_ge h_5)) (S_run 4 (f' := (0, 0, 39, [(0, vR (some 126)), (1, vI v1), (2, vI v2), (3, vI v3), (4, vI v4), (5, vI r_4)], [vI v4, vI v1, vR (some 126), vR (some 126)], hp q)) rfl (S_call (m' := 141) (args := [vR (some 126), vI v1, vI v4]) (h := hp q) (k := fun r => (0, 0, 42, [(0, vR (some 126)), (1, vI v1), (2, vI v2), (3, vI v3), (4, vI v4), (5, vI r_4)], r.1.toList ++ [vR (some 126)], r.2)) rfl (T_Mo_wordIn q v1 v4) (fun r_9 => S_run 1 (f' := (0, 0, 43, [(0, vR (some 126)), (1, vI v1), (2, vI v2), (3, vI v3), (4, vI v4), (5, vI r_4)], [vI v3, vI r_9, vR (some 126)], hp q)) rfl (S_call (m' := 122) (args := [vR (some 126), vI r_9, vI v3]) (h := hp q) (k := fun r => (0, 0, 46, [(0, vR (some 126)), (1, vI v1), (2, vI v2), (3, vI v3), (4, vI v4), (5, vI r_4)], r.1.toList ++ [], r.2)) rfl (T_Mo_letter q r_9 v3) (fun r_10 => S_run 0 (f' := (0, 0, 46, [(0, vR (some 126)), (1, vI v1), (2, vI v2), (3, vI v3), (4, vI v4), (5, vI r_4)], [vI r_10], hp q)) rfl (S_ret rfl))))))) (fun h_5 => S_go (J_icmp2 rfl rfl rfl (B_ge' h_5)) (S_run 2 (f' := (0, 0, 50, [(0, vR (some 126)), (1, vI v1), (2, vI v2), (3, vI v3), (4, vI v4), (5, vI r_4)], [vI r_4, vI v3], hp q)) rfl (S_ite (fun h_6 => S_go (J_icmp2 rfl rfl rfl (B_ne h_6)) (S_run 3 (f' := (0, 0, 57, [(0, vR (some 126)), (1, vI v1), (2, vI v2), (3, vI v3), (4, vI v4), (5, vI r_4)], [vI v1, vR (some 126), vI v4], hp q)) rfl (S_call (m' := 140) (args := [vR (some 126), vI v1]) (h := hp q) (k := fun r => (0, 0, 60, [(0, vR (some 126)), (1, vI v1), (2, vI v2), (3, vI v3), (4, vI v4), (5, vI r_4)], r.1.toList ++ [vI v4], r.2)) rfl (T_Mo_size q v1) (fun r_7 => S_run 2 (f' := (0, 0, 62, [(0, vR (some 126)), (1, vI v1), (2, vI v2), (3, vI v3), (4, vI v4), (5, vI r_4)], [vI (r_7 - (1 : Int)), vI v4], hp q)) rfl (S_ite (fun h_8 => S_go (J_icmp2 rfl rfl rfl (B_ne h_8)) (S_run 2 (f' := (0, 0, 72, [(0, vR (some 126)), (1, vI v1), (2, vI v2), (3, vI v3), (4, vI v4), (5, vI r_4)], [vI (47 : Int)], hp q)) rfl (S_ret rfl))) (fun h_8 => S_go (J_icmp2 rfl rfl rfl (B_ne' h_8)) (S_run 1 (f' := (0, 0, 72, [(0, vR (some 126)), (1, vI v1), (2, vI v2), (3, vI v3), (4, vI v4), (5, vI r_4)], [vI (32 : Int)], hp q)) rfl (S_ret rfl)))))))) (fun h_6 => S_go (J_icmp2 rfl rfl rfl (B_ne' h_6)) (S_run 8 (f' := (0, 0, 5, [(0, vR (some 126)), (1, vI v1), (2, vI v2), (3, vI (v3 - (r_4 + (1 : Int)))), (4, vI (v4 + 1))], [], hp q)) rfl (ih (v3 - (r_4 + (1 : Int))) (v4 + 1)))))))))))))) (fun h_2 => S_go (J_icmp2 rfl rfl rfl (B_ge' h_2)) (S_run 0 (f' := (0, 0, 86, [(0, vR (some 126)), (1, vI v1), (2, vI v2), (3, vI v3), (4, vI v4)], [], hp q)) rfl (hK v3 v4))))))

def Mo_characterIn (q : zM) (v1 : Int) (v2 : Int) : Option Int :=
  Mo_characterIn_L5 q v1 v2 (fun v3_11 v4_12 => 
    some (47 : Int)) 5000 v2 (0 : Int)
theorem T_Mo_characterIn {E : zE} (q : zM) (v1 : Int) (v2 : Int) : SimV E 176 (entF [vR (some 126), vI v1, vI v2] (hp q)) (eP q) (Mo_characterIn q v1 v2) := by
  unfold Mo_characterIn
  exact S_run 0 (f' := (0, 0, 0, [(0, vR (some 126)), (1, vI v1), (2, vI v2)], [], hp q)) rfl (S_run 4 (f' := (0, 0, 5, [(0, vR (some 126)), (1, vI v1), (2, vI v2), (3, vI v2), (4, vI (0 : Int))], [], hp q)) rfl (T_Mo_characterIn_L5 q v1 v2 (fun v3_11 v4_12 => S_run 1 (f' := (0, 0, 88, [(0, vR (some 126)), (1, vI v1), (2, vI v2), (3, vI v3_11), (4, vI v4_12)], [vI (47 : Int)], hp q)) rfl (S_ret rfl)) 5000 v2 (0 : Int)))

def Mo_poemAt_L11 (q : zM) (v1 : Int) (K : Int → Int → Option Int) : Nat → Int → Int → Option Int
  | 0, _, _ => none
  | n + 1, v2, v3 =>
    if wrap v3 < wrap (q.1 127 3) then
      (Mo_lengthOf q v3).bind fun r_4 =>
        if wrap v2 < wrap r_4 then
          (Mo_characterIn q v3 v2).bind fun r_7 =>
            some r_7
        else
          (Mo_lengthOf q v3).bind fun r_6 =>
            Mo_poemAt_L11 q v1 K n (v2 - r_6) (v3 + 1)
    else
      K v2 v3
theorem T_Mo_poemAt_L11 {E : zE} (q : zM) (v1 : Int) {K : Int → Int → Option Int} (hK : ∀ (v2 : Int) (v3 : Int), SimV E 177 (0, 0, 51, [(0, vR (some 126)), (1, vI v1), (2, vI v2), (3, vI v3)], [], hp q) (eP q) (K v2 v3)) : ∀ (n : Nat) (v2 : Int) (v3 : Int), SimV E 177 (0, 0, 11, [(0, vR (some 126)), (1, vI v1), (2, vI v2), (3, vI v3)], [], hp q) (eP q) (Mo_poemAt_L11 q v1 K n v2 v3) := by
  intro n
  induction n with
  | zero => intro _ _; exact S_none
  | succ n ih =>
    intro v2 v3
    rw [Mo_poemAt_L11]
    exact S_run 5 (f' := (0, 0, 18, [(0, vR (some 126)), (1, vI v1), (2, vI v2), (3, vI v3)], [vI (q.1 127 3), vI v3], hp q)) rfl (S_ite (fun h_3 => S_go (J_icmp2 rfl rfl rfl (B_ge h_3)) (S_run 3 (f' := (0, 0, 24, [(0, vR (some 126)), (1, vI v1), (2, vI v2), (3, vI v3)], [vI v3, vR (some 126), vI v2], hp q)) rfl (S_call (m' := 175) (args := [vR (some 126), vI v3]) (h := hp q) (k := fun r => (0, 0, 27, [(0, vR (some 126)), (1, vI v1), (2, vI v2), (3, vI v3)], r.1.toList ++ [vI v2], r.2)) rfl (T_Mo_lengthOf q v3) (fun r_4 => S_run 0 (f' := (0, 0, 27, [(0, vR (some 126)), (1, vI v1), (2, vI v2), (3, vI v3)], [vI r_4, vI v2], hp q)) rfl (S_ite (fun h_5 => S_go (J_icmp2 rfl rfl rfl (B_ge h_5)) (S_run 3 (f' := (0, 0, 33, [(0, vR (some 126)), (1, vI v1), (2, vI v2), (3, vI v3)], [vI v2, vI v3, vR (some 126)], hp q)) rfl (S_call (m' := 176) (args := [vR (some 126), vI v3, vI v2]) (h := hp q) (k := fun r => (0, 0, 36, [(0, vR (some 126)), (1, vI v1), (2, vI v2), (3, vI v3)], r.1.toList ++ [], r.2)) rfl (T_Mo_characterIn q v3 v2) (fun r_7 => S_run 0 (f' := (0, 0, 36, [(0, vR (some 126)), (1, vI v1), (2, vI v2), (3, vI v3)], [vI r_7], hp q)) rfl (S_ret rfl))))) (fun h_5 => S_go (J_icmp2 rfl rfl rfl (B_ge' h_5)) (S_run 3 (f' := (0, 0, 40, [(0, vR (some 126)), (1, vI v1), (2, vI v2), (3, vI v3)], [vI v3, vR (some 126), vI v2], hp q)) rfl (S_call (m' := 175) (args := [vR (some 126), vI v3]) (h := hp q) (k := fun r => (0, 0, 43, [(0, vR (some 126)), (1, vI v1), (2, vI v2), (3, vI v3)], r.1.toList ++ [vI v2], r.2)) rfl (T_Mo_lengthOf q v3) (fun r_6 => S_run 4 (f' := (0, 0, 11, [(0, vR (some 126)), (1, vI v1), (2, vI (v2 - r_6)), (3, vI (v3 + 1))], [], hp q)) rfl (ih (v2 - r_6) (v3 + 1))))))))))) (fun h_3 => S_go (J_icmp2 rfl rfl rfl (B_ge' h_3)) (S_run 0 (f' := (0, 0, 51, [(0, vR (some 126)), (1, vI v1), (2, vI v2), (3, vI v3)], [], hp q)) rfl (hK v2 v3))))

def Mo_poemAt (q : zM) (v1 : Int) : Option Int :=
  if wrap v1 < (0 : Int) then
    some (-2 : Int)
  else
    Mo_poemAt_L11 q v1 (fun v2_8 v3_9 => 
      some (-5 : Int)) 5000 v1 (0 : Int)
theorem T_Mo_poemAt {E : zE} (q : zM) (v1 : Int) : SimV E 177 (entF [vR (some 126), vI v1] (hp q)) (eP q) (Mo_poemAt q v1) := by
  unfold Mo_poemAt
  exact S_run 0 (f' := (0, 0, 0, [(0, vR (some 126)), (1, vI v1)], [], hp q)) rfl (S_run 1 (f' := (0, 0, 1, [(0, vR (some 126)), (1, vI v1)], [vI v1], hp q)) rfl (S_ite (fun h_1 => S_go (J_if2 rfl rfl (B_ge h_1)) (S_run 1 (f' := (0, 0, 6, [(0, vR (some 126)), (1, vI v1)], [vI (-2 : Int)], hp q)) rfl (S_ret rfl))) (fun h_1 => S_go (J_if2 rfl rfl (B_ge' h_1)) (S_run 4 (f' := (0, 0, 11, [(0, vR (some 126)), (1, vI v1), (2, vI v1), (3, vI (0 : Int))], [], hp q)) rfl (T_Mo_poemAt_L11 q v1 (fun v2_8 v3_9 => S_run 1 (f' := (0, 0, 53, [(0, vR (some 126)), (1, vI v1), (2, vI v2_8), (3, vI v3_9)], [vI (-5 : Int)], hp q)) rfl (S_ret rfl)) 5000 v1 (0 : Int))))))

def Mo_countLines_L4 (q : zM) (v1 : Int) (K : Int → Int → Option Int) : Nat → Int → Int → Option Int
  | 0, _, _ => none
  | n + 1, v2, v3 =>
    if wrap v3 < wrap (q.1 127 3) then
      if wrap v1 = (2 : Int) then
        (Mo_size q v3).bind fun r_7 =>
          if (0 : Int) < wrap r_7 then
            Mo_countLines_L4 q v1 K n (v2 + (1 : Int)) (v3 + 1)
          else
            Mo_countLines_L4 q v1 K n (v2 + (0 : Int)) (v3 + 1)
      else
        if wrap v1 = (3 : Int) then
          (Mo_bendsIn q v3).bind fun r_6 =>
            Mo_countLines_L4 q v1 K n (v2 + r_6) (v3 + 1)
        else
          (Mo_lengthOf q v3).bind fun r_5 =>
            Mo_countLines_L4 q v1 K n (v2 + r_5) (v3 + 1)
    else
      K v2 v3
theorem T_Mo_countLines_L4 {E : zE} (q : zM) (v1 : Int) {K : Int → Int → Option Int} (hK : ∀ (v2 : Int) (v3 : Int), SimV E 179 (0, 0, 62, [(0, vR (some 126)), (1, vI v1), (2, vI v2), (3, vI v3)], [], hp q) (eP q) (K v2 v3)) : ∀ (n : Nat) (v2 : Int) (v3 : Int), SimV E 179 (0, 0, 4, [(0, vR (some 126)), (1, vI v1), (2, vI v2), (3, vI v3)], [], hp q) (eP q) (Mo_countLines_L4 q v1 K n v2 v3) := by
  intro n
  induction n with
  | zero => intro _ _; exact S_none
  | succ n ih =>
    intro v2 v3
    rw [Mo_countLines_L4]
    exact S_run 5 (f' := (0, 0, 11, [(0, vR (some 126)), (1, vI v1), (2, vI v2), (3, vI v3)], [vI (q.1 127 3), vI v3], hp q)) rfl (S_ite (fun h_2 => S_go (J_icmp2 rfl rfl rfl (B_ge h_2)) (S_run 3 (f' := (0, 0, 17, [(0, vR (some 126)), (1, vI v1), (2, vI v2), (3, vI v3)], [vI (2 : Int), vI v1, vI v2], hp q)) rfl (S_ite (fun h_3 => S_go (J_icmp2 rfl rfl wl_2 (B_ne h_3)) (S_run 2 (f' := (0, 0, 22, [(0, vR (some 126)), (1, vI v1), (2, vI v2), (3, vI v3)], [vI v3, vR (some 126), vI v2], hp q)) rfl (S_call (m' := 140) (args := [vR (some 126), vI v3]) (h := hp q) (k := fun r => (0, 0, 25, [(0, vR (some 126)), (1, vI v1), (2, vI v2), (3, vI v3)], r.1.toList ++ [vI v2], r.2)) rfl (T_Mo_size q v3) (fun r_7 => S_run 0 (f' := (0, 0, 25, [(0, vR (some 126)), (1, vI v1), (2, vI v2), (3, vI v3)], [vI r_7, vI v2], hp q)) rfl (S_ite (fun h_8 => S_go (J_if2 rfl rfl (B_le h_8)) (S_run 6 (f' := (0, 0, 4, [(0, vR (some 126)), (1, vI v1), (2, vI (v2 + (1 : Int))), (3, vI (v3 + 1))], [], hp q)) rfl (ih (v2 + (1 : Int)) (v3 + 1)))) (fun h_8 => S_go (J_if2 rfl rfl (B_le' h_8)) (S_run 6 (f' := (0, 0, 4, [(0, vR (some 126)), (1, vI v1), (2, vI (v2 + (0 : Int))), (3, vI (v3 + 1))], [], hp q)) rfl (ih (v2 + (0 : Int)) (v3 + 1))))))))) (fun h_3 => S_go (J_icmp2 rfl rfl wl_2 (B_ne' h_3)) (S_run 2 (f' := (0, 0, 38, [(0, vR (some 126)), (1, vI v1), (2, vI v2), (3, vI v3)], [vI (3 : Int), vI v1, vI v2], hp q)) rfl (S_ite (fun h_4 => S_go (J_icmp2 rfl rfl wl_3 (B_ne h_4)) (S_run 2 (f' := (0, 0, 43, [(0, vR (some 126)), (1, vI v1), (2, vI v2), (3, vI v3)], [vI v3, vR (some 126), vI v2], hp q)) rfl (S_call (m' := 171) (args := [vR (some 126), vI v3]) (h := hp q) (k := fun r => (0, 0, 46, [(0, vR (some 126)), (1, vI v1), (2, vI v2), (3, vI v3)], r.1.toList ++ [vI v2], r.2)) rfl (T_Mo_bendsIn q v3) (fun r_6 => S_run 5 (f' := (0, 0, 4, [(0, vR (some 126)), (1, vI v1), (2, vI (v2 + r_6)), (3, vI (v3 + 1))], [], hp q)) rfl (ih (v2 + r_6) (v3 + 1)))))) (fun h_4 => S_go (J_icmp2 rfl rfl wl_3 (B_ne' h_4)) (S_run 2 (f' := (0, 0, 51, [(0, vR (some 126)), (1, vI v1), (2, vI v2), (3, vI v3)], [vI v3, vR (some 126), vI v2], hp q)) rfl (S_call (m' := 175) (args := [vR (some 126), vI v3]) (h := hp q) (k := fun r => (0, 0, 54, [(0, vR (some 126)), (1, vI v1), (2, vI v2), (3, vI v3)], r.1.toList ++ [vI v2], r.2)) rfl (T_Mo_lengthOf q v3) (fun r_5 => S_run 4 (f' := (0, 0, 4, [(0, vR (some 126)), (1, vI v1), (2, vI (v2 + r_5)), (3, vI (v3 + 1))], [], hp q)) rfl (ih (v2 + r_5) (v3 + 1)))))))))))) (fun h_2 => S_go (J_icmp2 rfl rfl rfl (B_ge' h_2)) (S_run 0 (f' := (0, 0, 62, [(0, vR (some 126)), (1, vI v1), (2, vI v2), (3, vI v3)], [], hp q)) rfl (hK v2 v3))))

def Mo_countLines (q : zM) (v1 : Int) : Option Int :=
  Mo_countLines_L4 q v1 (fun v2_9 v3_10 => 
    some v2_9) 5000 (0 : Int) (0 : Int)
theorem T_Mo_countLines {E : zE} (q : zM) (v1 : Int) : SimV E 179 (entF [vR (some 126), vI v1] (hp q)) (eP q) (Mo_countLines q v1) := by
  unfold Mo_countLines
  exact S_run 0 (f' := (0, 0, 0, [(0, vR (some 126)), (1, vI v1)], [], hp q)) rfl (S_run 4 (f' := (0, 0, 4, [(0, vR (some 126)), (1, vI v1), (2, vI (0 : Int)), (3, vI (0 : Int))], [], hp q)) rfl (T_Mo_countLines_L4 q v1 (fun v2_9 v3_10 => S_run 1 (f' := (0, 0, 63, [(0, vR (some 126)), (1, vI v1), (2, vI v2_9), (3, vI v3_10)], [vI v2_9], hp q)) rfl (S_ret rfl)) 5000 (0 : Int) (0 : Int)))

def Mo_countWords_L4 (q : zM) (v1 : Int) (K : Int → Int → Option Int) : Nat → Int → Int → Option Int
  | 0, _, _ => none
  | n + 1, v2, v3 =>
    if wrap v3 < wrap (q.1 127 0) then
      (Mo_usedBut q v3 (-5 : Int)).bind fun r_3 =>
        if wrap v1 = (6 : Int) then
          if (0 : Int) < wrap r_3 then
            if (1 : Int) = (0 : Int) then
              Mo_countWords_L4 q v1 K n (v2 + (0 : Int)) (v3 + 1)
            else
              Mo_countWords_L4 q v1 K n (v2 + (1 : Int)) (v3 + 1)
          else
            if (0 : Int) = (0 : Int) then
              Mo_countWords_L4 q v1 K n (v2 + (0 : Int)) (v3 + 1)
            else
              Mo_countWords_L4 q v1 K n (v2 + (1 : Int)) (v3 + 1)
        else
          if wrap v1 = (7 : Int) then
            (Mo_limit q v3).bind fun r_10 =>
              if wrap r_3 = wrap r_10 then
                if (1 : Int) = (0 : Int) then
                  Mo_countWords_L4 q v1 K n (v2 + (0 : Int)) (v3 + 1)
                else
                  Mo_countWords_L4 q v1 K n (v2 + (1 : Int)) (v3 + 1)
              else
                if (0 : Int) = (0 : Int) then
                  Mo_countWords_L4 q v1 K n (v2 + (0 : Int)) (v3 + 1)
                else
                  Mo_countWords_L4 q v1 K n (v2 + (1 : Int)) (v3 + 1)
          else
            (Mo_beatsFor q v3).bind fun r_6 =>
              if (0 : Int) < wrap r_6 then
                if (1 : Int) = (0 : Int) then
                  Mo_countWords_L4 q v1 K n (v2 + (0 : Int)) (v3 + 1)
                else
                  Mo_countWords_L4 q v1 K n (v2 + (1 : Int)) (v3 + 1)
              else
                if (0 : Int) = (0 : Int) then
                  Mo_countWords_L4 q v1 K n (v2 + (0 : Int)) (v3 + 1)
                else
                  Mo_countWords_L4 q v1 K n (v2 + (1 : Int)) (v3 + 1)
    else
      K v2 v3
theorem T_Mo_countWords_L4 {E : zE} (q : zM) (v1 : Int) {K : Int → Int → Option Int} (hK : ∀ (v2 : Int) (v3 : Int), SimV E 178 (0, 0, 100, [(0, vR (some 126)), (1, vI v1), (2, vI v2), (3, vI v3)], [], hp q) (eP q) (K v2 v3)) : ∀ (n : Nat) (v2 : Int) (v3 : Int), SimV E 178 (0, 0, 4, [(0, vR (some 126)), (1, vI v1), (2, vI v2), (3, vI v3)], [], hp q) (eP q) (Mo_countWords_L4 q v1 K n v2 v3) := by
  intro n
  induction n with
  | zero => intro _ _; exact S_none
  | succ n ih =>
    intro v2 v3
    rw [Mo_countWords_L4]
    exact S_run 5 (f' := (0, 0, 11, [(0, vR (some 126)), (1, vI v1), (2, vI v2), (3, vI v3)], [vI (q.1 127 0), vI v3], hp q)) rfl (S_ite (fun h_2 => S_go (J_icmp2 rfl rfl rfl (B_ge h_2)) (S_run 3 (f' := (0, 0, 18, [(0, vR (some 126)), (1, vI v1), (2, vI v2), (3, vI v3)], [vI (-5 : Int), vI v3, vR (some 126)], hp q)) rfl (S_call (m' := 143) (args := [vR (some 126), vI v3, vI (-5 : Int)]) (h := hp q) (k := fun r => (0, 0, 21, [(0, vR (some 126)), (1, vI v1), (2, vI v2), (3, vI v3)], r.1.toList ++ [], r.2)) rfl (T_Mo_usedBut q v3 (-5 : Int)) (fun r_3 => S_run 3 (f' := (0, 0, 26, [(0, vR (some 126)), (1, vI v1), (2, vI v2), (3, vI v3), (4, vI r_3)], [vI (6 : Int), vI v1], hp q)) rfl (S_ite (fun h_4 => S_go (J_icmp2 rfl rfl wl_6 (B_ne h_4)) (S_run 1 (f' := (0, 0, 31, [(0, vR (some 126)), (1, vI v1), (2, vI v2), (3, vI v3), (4, vI r_3)], [vI r_3], hp q)) rfl (S_ite (fun h_14 => S_go (J_if2 rfl rfl (B_le h_14)) (S_run 5 (f' := (0, 0, 84, [(0, vR (some 126)), (1, vI v1), (2, vI v2), (3, vI v3), (4, vI r_3), (5, vI (1 : Int))], [vI (1 : Int), vI v2], hp q)) rfl (S_ite (fun h_16 => S_go (J_if2 rfl wl_1 (B_eq h_16)) (S_run 5 (f' := (0, 0, 4, [(0, vR (some 126)), (1, vI v1), (2, vI (v2 + (0 : Int))), (3, vI (v3 + 1))], [], hp q)) rfl (ih (v2 + (0 : Int)) (v3 + 1)))) (fun h_16 => S_go (J_if2 rfl wl_1 (B_eq' h_16)) (S_run 6 (f' := (0, 0, 4, [(0, vR (some 126)), (1, vI v1), (2, vI (v2 + (1 : Int))), (3, vI (v3 + 1))], [], hp q)) rfl (ih (v2 + (1 : Int)) (v3 + 1))))))) (fun h_14 => S_go (J_if2 rfl rfl (B_le' h_14)) (S_run 5 (f' := (0, 0, 84, [(0, vR (some 126)), (1, vI v1), (2, vI v2), (3, vI v3), (4, vI r_3), (5, vI (0 : Int))], [vI (0 : Int), vI v2], hp q)) rfl (S_ite (fun h_15 => S_go (J_if2 rfl wl_0 (B_eq h_15)) (S_run 5 (f' := (0, 0, 4, [(0, vR (some 126)), (1, vI v1), (2, vI (v2 + (0 : Int))), (3, vI (v3 + 1))], [], hp q)) rfl (ih (v2 + (0 : Int)) (v3 + 1)))) (fun h_15 => S_go (J_if2 rfl wl_0 (B_eq' h_15)) (S_run 6 (f' := (0, 0, 4, [(0, vR (some 126)), (1, vI v1), (2, vI (v2 + (1 : Int))), (3, vI (v3 + 1))], [], hp q)) rfl (ih (v2 + (1 : Int)) (v3 + 1)))))))))) (fun h_4 => S_go (J_icmp2 rfl rfl wl_6 (B_ne' h_4)) (S_run 2 (f' := (0, 0, 45, [(0, vR (some 126)), (1, vI v1), (2, vI v2), (3, vI v3), (4, vI r_3)], [vI (7 : Int), vI v1], hp q)) rfl (S_ite (fun h_5 => S_go (J_icmp2 rfl rfl wl_7 (B_ne h_5)) (S_run 3 (f' := (0, 0, 52, [(0, vR (some 126)), (1, vI v1), (2, vI v2), (3, vI v3), (4, vI r_3)], [vI v3, vR (some 126), vI r_3], hp q)) rfl (S_call (m' := 126) (args := [vR (some 126), vI v3]) (h := hp q) (k := fun r => (0, 0, 55, [(0, vR (some 126)), (1, vI v1), (2, vI v2), (3, vI v3), (4, vI r_3)], r.1.toList ++ [vI r_3], r.2)) rfl (T_Mo_limit q v3) (fun r_10 => S_run 0 (f' := (0, 0, 55, [(0, vR (some 126)), (1, vI v1), (2, vI v2), (3, vI v3), (4, vI r_3)], [vI r_10, vI r_3], hp q)) rfl (S_ite (fun h_11 => S_go (J_icmp2 rfl rfl rfl (B_ne h_11)) (S_run 5 (f' := (0, 0, 84, [(0, vR (some 126)), (1, vI v1), (2, vI v2), (3, vI v3), (4, vI r_3), (5, vI (1 : Int))], [vI (1 : Int), vI v2], hp q)) rfl (S_ite (fun h_13 => S_go (J_if2 rfl wl_1 (B_eq h_13)) (S_run 5 (f' := (0, 0, 4, [(0, vR (some 126)), (1, vI v1), (2, vI (v2 + (0 : Int))), (3, vI (v3 + 1))], [], hp q)) rfl (ih (v2 + (0 : Int)) (v3 + 1)))) (fun h_13 => S_go (J_if2 rfl wl_1 (B_eq' h_13)) (S_run 6 (f' := (0, 0, 4, [(0, vR (some 126)), (1, vI v1), (2, vI (v2 + (1 : Int))), (3, vI (v3 + 1))], [], hp q)) rfl (ih (v2 + (1 : Int)) (v3 + 1))))))) (fun h_11 => S_go (J_icmp2 rfl rfl rfl (B_ne' h_11)) (S_run 5 (f' := (0, 0, 84, [(0, vR (some 126)), (1, vI v1), (2, vI v2), (3, vI v3), (4, vI r_3), (5, vI (0 : Int))], [vI (0 : Int), vI v2], hp q)) rfl (S_ite (fun h_12 => S_go (J_if2 rfl wl_0 (B_eq h_12)) (S_run 5 (f' := (0, 0, 4, [(0, vR (some 126)), (1, vI v1), (2, vI (v2 + (0 : Int))), (3, vI (v3 + 1))], [], hp q)) rfl (ih (v2 + (0 : Int)) (v3 + 1)))) (fun h_12 => S_go (J_if2 rfl wl_0 (B_eq' h_12)) (S_run 6 (f' := (0, 0, 4, [(0, vR (some 126)), (1, vI v1), (2, vI (v2 + (1 : Int))), (3, vI (v3 + 1))], [], hp q)) rfl (ih (v2 + (1 : Int)) (v3 + 1)))))))))))) (fun h_5 => S_go (J_icmp2 rfl rfl wl_7 (B_ne' h_5)) (S_run 2 (f' := (0, 0, 68, [(0, vR (some 126)), (1, vI v1), (2, vI v2), (3, vI v3), (4, vI r_3)], [vI v3, vR (some 126)], hp q)) rfl (S_call (m' := 168) (args := [vR (some 126), vI v3]) (h := hp q) (k := fun r => (0, 0, 71, [(0, vR (some 126)), (1, vI v1), (2, vI v2), (3, vI v3), (4, vI r_3)], r.1.toList ++ [], r.2)) rfl (T_Mo_beatsFor q v3) (fun r_6 => S_run 0 (f' := (0, 0, 71, [(0, vR (some 126)), (1, vI v1), (2, vI v2), (3, vI v3), (4, vI r_3)], [vI r_6], hp q)) rfl (S_ite (fun h_7 => S_go (J_if2 rfl rfl (B_le h_7)) (S_run 5 (f' := (0, 0, 84, [(0, vR (some 126)), (1, vI v1), (2, vI v2), (3, vI v3), (4, vI r_3), (5, vI (1 : Int))], [vI (1 : Int), vI v2], hp q)) rfl (S_ite (fun h_9 => S_go (J_if2 rfl wl_1 (B_eq h_9)) (S_run 5 (f' := (0, 0, 4, [(0, vR (some 126)), (1, vI v1), (2, vI (v2 + (0 : Int))), (3, vI (v3 + 1))], [], hp q)) rfl (ih (v2 + (0 : Int)) (v3 + 1)))) (fun h_9 => S_go (J_if2 rfl wl_1 (B_eq' h_9)) (S_run 6 (f' := (0, 0, 4, [(0, vR (some 126)), (1, vI v1), (2, vI (v2 + (1 : Int))), (3, vI (v3 + 1))], [], hp q)) rfl (ih (v2 + (1 : Int)) (v3 + 1))))))) (fun h_7 => S_go (J_if2 rfl rfl (B_le' h_7)) (S_run 4 (f' := (0, 0, 84, [(0, vR (some 126)), (1, vI v1), (2, vI v2), (3, vI v3), (4, vI r_3), (5, vI (0 : Int))], [vI (0 : Int), vI v2], hp q)) rfl (S_ite (fun h_8 => S_go (J_if2 rfl wl_0 (B_eq h_8)) (S_run 5 (f' := (0, 0, 4, [(0, vR (some 126)), (1, vI v1), (2, vI (v2 + (0 : Int))), (3, vI (v3 + 1))], [], hp q)) rfl (ih (v2 + (0 : Int)) (v3 + 1)))) (fun h_8 => S_go (J_if2 rfl wl_0 (B_eq' h_8)) (S_run 6 (f' := (0, 0, 4, [(0, vR (some 126)), (1, vI v1), (2, vI (v2 + (1 : Int))), (3, vI (v3 + 1))], [], hp q)) rfl (ih (v2 + (1 : Int)) (v3 + 1)))))))))))))))))))) (fun h_2 => S_go (J_icmp2 rfl rfl rfl (B_ge' h_2)) (S_run 0 (f' := (0, 0, 100, [(0, vR (some 126)), (1, vI v1), (2, vI v2), (3, vI v3)], [], hp q)) rfl (hK v2 v3))))

def Mo_countWords (q : zM) (v1 : Int) : Option Int :=
  Mo_countWords_L4 q v1 (fun v2_17 v3_18 => 
    some v2_17) 5000 (0 : Int) (0 : Int)
theorem T_Mo_countWords {E : zE} (q : zM) (v1 : Int) : SimV E 178 (entF [vR (some 126), vI v1] (hp q)) (eP q) (Mo_countWords q v1) := by
  unfold Mo_countWords
  exact S_run 0 (f' := (0, 0, 0, [(0, vR (some 126)), (1, vI v1)], [], hp q)) rfl (S_run 4 (f' := (0, 0, 4, [(0, vR (some 126)), (1, vI v1), (2, vI (0 : Int)), (3, vI (0 : Int))], [], hp q)) rfl (T_Mo_countWords_L4 q v1 (fun v2_17 v3_18 => S_run 1 (f' := (0, 0, 101, [(0, vR (some 126)), (1, vI v1), (2, vI v2_17), (3, vI v3_18)], [vI v2_17], hp q)) rfl (S_ret rfl)) 5000 (0 : Int) (0 : Int)))

def Mo_count (q : zM) (v1 : Int) : Option Int :=
  if wrap v1 = 0 then
    some (q.1 127 0)
  else
    if wrap v1 = 1 then
      some (q.1 127 3)
    else
      if wrap v1 = 2 then
        (Mo_countLines q v1).bind fun r_9 =>
          some r_9
      else
        if wrap v1 = 3 then
          (Mo_countLines q v1).bind fun r_8 =>
            some r_8
        else
          if wrap v1 = 4 then
            some (q.1 127 1)
          else
            if wrap v1 = 5 then
              some (q.1 127 2)
            else
              if wrap v1 = 6 then
                (Mo_countWords q v1).bind fun r_5 =>
                  some r_5
              else
                if wrap v1 = 7 then
                  (Mo_countWords q v1).bind fun r_4 =>
                    some r_4
                else
                  if wrap v1 = 8 then
                    (Mo_countWords q v1).bind fun r_3 =>
                      some r_3
                  else
                    if wrap v1 = 9 then
                      (Mo_countLines q v1).bind fun r_2 =>
                        some r_2
                    else
                      if wrap v1 = 10 then
                        some (q.1 126 3)
                      else
                        if wrap v1 = 11 then
                          some (q.1 126 6)
                        else
                          some (-2 : Int)
theorem T_Mo_count {E : zE} (q : zM) (v1 : Int) : SimV E 180 (entF [vR (some 126), vI v1] (hp q)) (eP q) (Mo_count q v1) := by
  unfold Mo_count
  exact S_run 0 (f' := (0, 0, 0, [(0, vR (some 126)), (1, vI v1)], [], hp q)) rfl (S_run 1 (f' := (0, 0, 1, [(0, vR (some 126)), (1, vI v1)], [vI v1], hp q)) rfl (S_ite (fun h_1_0 => S_go (J_tin rfl h_1_0 (by decide) rfl) (S_run 4 (f' := (0, 0, 70, [(0, vR (some 126)), (1, vI v1)], [vI (q.1 127 0)], hp q)) rfl (S_ret rfl))) (fun h_1_0 => S_ite (fun h_1_1 => S_go (J_tin rfl h_1_1 (by decide) rfl) (S_run 4 (f' := (0, 0, 77, [(0, vR (some 126)), (1, vI v1)], [vI (q.1 127 3)], hp q)) rfl (S_ret rfl))) (fun h_1_1 => S_ite (fun h_1_2 => S_go (J_tin rfl h_1_2 (by decide) rfl) (S_run 2 (f' := (0, 0, 80, [(0, vR (some 126)), (1, vI v1)], [vI v1, vR (some 126)], hp q)) rfl (S_call (m' := 179) (args := [vR (some 126), vI v1]) (h := hp q) (k := fun r => (0, 0, 83, [(0, vR (some 126)), (1, vI v1)], r.1.toList ++ [], r.2)) rfl (T_Mo_countLines q v1) (fun r_9 => S_run 0 (f' := (0, 0, 83, [(0, vR (some 126)), (1, vI v1)], [vI r_9], hp q)) rfl (S_ret rfl))))) (fun h_1_2 => S_ite (fun h_1_3 => S_go (J_tin rfl h_1_3 (by decide) rfl) (S_run 2 (f' := (0, 0, 80, [(0, vR (some 126)), (1, vI v1)], [vI v1, vR (some 126)], hp q)) rfl (S_call (m' := 179) (args := [vR (some 126), vI v1]) (h := hp q) (k := fun r => (0, 0, 83, [(0, vR (some 126)), (1, vI v1)], r.1.toList ++ [], r.2)) rfl (T_Mo_countLines q v1) (fun r_8 => S_run 0 (f' := (0, 0, 83, [(0, vR (some 126)), (1, vI v1)], [vI r_8], hp q)) rfl (S_ret rfl))))) (fun h_1_3 => S_ite (fun h_1_4 => S_go (J_tin rfl h_1_4 (by decide) rfl) (S_run 4 (f' := (0, 0, 90, [(0, vR (some 126)), (1, vI v1)], [vI (q.1 127 1)], hp q)) rfl (S_ret rfl))) (fun h_1_4 => S_ite (fun h_1_5 => S_go (J_tin rfl h_1_5 (by decide) rfl) (S_run 4 (f' := (0, 0, 97, [(0, vR (some 126)), (1, vI v1)], [vI (q.1 127 2)], hp q)) rfl (S_ret rfl))) (fun h_1_5 => S_ite (fun h_1_6 => S_go (J_tin rfl h_1_6 (by decide) rfl) (S_run 2 (f' := (0, 0, 100, [(0, vR (some 126)), (1, vI v1)], [vI v1, vR (some 126)], hp q)) rfl (S_call (m' := 178) (args := [vR (some 126), vI v1]) (h := hp q) (k := fun r => (0, 0, 103, [(0, vR (some 126)), (1, vI v1)], r.1.toList ++ [], r.2)) rfl (T_Mo_countWords q v1) (fun r_5 => S_run 0 (f' := (0, 0, 103, [(0, vR (some 126)), (1, vI v1)], [vI r_5], hp q)) rfl (S_ret rfl))))) (fun h_1_6 => S_ite (fun h_1_7 => S_go (J_tin rfl h_1_7 (by decide) rfl) (S_run 2 (f' := (0, 0, 100, [(0, vR (some 126)), (1, vI v1)], [vI v1, vR (some 126)], hp q)) rfl (S_call (m' := 178) (args := [vR (some 126), vI v1]) (h := hp q) (k := fun r => (0, 0, 103, [(0, vR (some 126)), (1, vI v1)], r.1.toList ++ [], r.2)) rfl (T_Mo_countWords q v1) (fun r_4 => S_run 0 (f' := (0, 0, 103, [(0, vR (some 126)), (1, vI v1)], [vI r_4], hp q)) rfl (S_ret rfl))))) (fun h_1_7 => S_ite (fun h_1_8 => S_go (J_tin rfl h_1_8 (by decide) rfl) (S_run 2 (f' := (0, 0, 100, [(0, vR (some 126)), (1, vI v1)], [vI v1, vR (some 126)], hp q)) rfl (S_call (m' := 178) (args := [vR (some 126), vI v1]) (h := hp q) (k := fun r => (0, 0, 103, [(0, vR (some 126)), (1, vI v1)], r.1.toList ++ [], r.2)) rfl (T_Mo_countWords q v1) (fun r_3 => S_run 0 (f' := (0, 0, 103, [(0, vR (some 126)), (1, vI v1)], [vI r_3], hp q)) rfl (S_ret rfl))))) (fun h_1_8 => S_ite (fun h_1_9 => S_go (J_tin rfl h_1_9 (by decide) rfl) (S_run 2 (f' := (0, 0, 80, [(0, vR (some 126)), (1, vI v1)], [vI v1, vR (some 126)], hp q)) rfl (S_call (m' := 179) (args := [vR (some 126), vI v1]) (h := hp q) (k := fun r => (0, 0, 83, [(0, vR (some 126)), (1, vI v1)], r.1.toList ++ [], r.2)) rfl (T_Mo_countLines q v1) (fun r_2 => S_run 0 (f' := (0, 0, 83, [(0, vR (some 126)), (1, vI v1)], [vI r_2], hp q)) rfl (S_ret rfl))))) (fun h_1_9 => S_ite (fun h_1_10 => S_go (J_tin rfl h_1_10 (by decide) rfl) (S_run 2 (f' := (0, 0, 108, [(0, vR (some 126)), (1, vI v1)], [vI (q.1 126 3)], hp q)) rfl (S_ret rfl))) (fun h_1_10 => S_ite (fun h_1_11 => S_go (J_tin rfl h_1_11 (by decide) rfl) (S_run 2 (f' := (0, 0, 113, [(0, vR (some 126)), (1, vI v1)], [vI (q.1 126 6)], hp q)) rfl (S_ret rfl))) (fun h_1_11 => S_go (J_tout rfl (by omega)) (S_run 1 (f' := (0, 0, 116, [(0, vR (some 126)), (1, vI v1)], [vI (-2 : Int)], hp q)) rfl (S_ret rfl))))))))))))))))
