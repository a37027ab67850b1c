/-! what is fixed of the tables, looked at by the kernel: decode rows, words, rooms -/
def tw (p : Nat) : Option Jvm.Cond := tables_1[p]?
def mtY (m : Nat) : MethodName := mt_y.getD m ⟨"", "", ""⟩
def mtC (m : Nat) : ByteArray := mt_c.getD m ⟨#[]⟩
def mtL (m : Nat) : Nat := mt_L.getD m 0
def mtr (m : Nat) : Option FieldType := mt_r.getD m none
def mtK (m : Nat) : List Ent := mt_k.getD m []
def cnO (c : Nat) : String := cnm.getD c ""
def flO (c k : Nat) : String × String × String × Bool := flT (fls.getD c []) k
def lenOf : Instr → Nat
  | .bipush _ => 2
  | .sipush _ => 3
  | .ldc _ => 2
  | .iload _ => 2
  | .lload _ => 2
  | .aload _ => 2
  | .istore _ => 2
  | .lstore _ => 2
  | .astore _ => 2
  | .iinc _ _ => 3
  | .getfield _ => 3
  | .putfield _ => 3
  | .new _ => 3
  | .newarray _ => 2
  | .anewarray _ => 3
  | .goto _ => 3
  | .ifCond _ _ => 3
  | .if_icmp _ _ => 3
  | .invokevirtual _ => 3
  | .invokespecial _ => 3
  | .invokestatic _ => 3
  | _ => 1
def tyOf : Nat → FieldType
  | 0 => .int
  | 1 => .long
  | 2 => .boolean
  | 3 => .int
  | _ => .object "EdgeVerses$State"
def mtS (m : Nat) : Nat := mt_S.getD m 9
def mtN (m : Nat) : Nat := mt_N.getD m 99
def okCall (m a b c d idx : Nat) : Bool :=
  decide (tw d = some (cond (Nat.beq (c % 2) 0) (.methodLink (clsOf m) idx (mtY a)) (.methodLinkNest (clsOf m) idx (mtY a) "EdgeVerses"))) &&
  Nat.blt a 125 && Nat.ble ((mtR a).1 + 1) (mtR m).1 && Nat.ble (8 + (mtL a + 11) + (mtR a).2.2.2) (mtR m).2.2.2 && Nat.beq b (mtN a) && (Nat.blt a 124 || Nat.beq m 125)
def okA (m : Nat) (q : Ent) : Bool := match q with
  | (pc, ins, len, a, b, c, d) => match ins with
    | .bipush n => Nat.beq len 2 && decide ((Int8.ofInt n).toInt32 = Int32.ofInt n)
    | .sipush n => Nat.beq len 3 && decide ((Int16.ofInt n).toInt32 = Int32.ofInt n)
    | .ldc idx => Nat.beq len 2 && decide (tw d = some (.constant (clsOf m) idx (Int32.ofInt a)))
    | .istore_n k => Nat.beq len 1 && decide (k.val < mtL m)
    | .istore k => Nat.beq len 2 && decide (k < mtL m)
    | .astore_n k => Nat.beq len 1 && decide (k.val < mtL m)
    | .astore k => Nat.beq len 2 && decide (k < mtL m)
    | .lstore_n k => Nat.beq len 1 && decide (k.val + 1 < mtL m)
    | .lstore k => Nat.beq len 2 && decide (k + 1 < mtL m)
    | .iinc k _ => Nat.beq len 3 && decide (k < mtL m)
    | .goto off => Nat.beq len 3 && decide (0 ≤ (pc : Int) + off)
    | .ifCond _ off => Nat.beq len 3 && decide (0 ≤ (pc : Int) + off)
    | .if_icmp _ off => Nat.beq len 3 && decide (0 ≤ (pc : Int) + off)
    | .tableswitch dflt _ _ offs => decide (0 ≤ (pc : Int) + dflt) && offs.toList.all (fun off => decide (0 ≤ (pc : Int) + off))
    | .getfield idx => Nat.beq len 3 && decide (a < 10) && decide (b < fnum a) && decide (tw d = some (cond (Nat.beq c 0) (.fieldLink (clsOf m) idx (cnO a) (flO a b).2.1 (flO a b).2.2.1) (.fieldLinkNest (clsOf m) idx (cnO a) (flO a b).2.1 (flO a b).2.2.1 "EdgeVerses")))
    | .putfield idx => Nat.beq len 3 && decide (a < 10) && decide (b < fnum a) && Nat.beq c 0 && decide (tw d = some (.fieldLink (clsOf m) idx (cnO a) (flO a b).2.1 (flO a b).2.2.1)) && (!(flO a b).2.2.2 || (decide (clsOf m = cnO a) && decide ((mtY m).name = "<init>")))
    | .new idx => Nat.beq len 3 && decide (a < 10) && decide (tw d = some (.classLink (clsOf m) idx (cnO a)))
    | .newarray ty => Nat.beq len 2 && decide (a < 4) && decide (newarray.typeOf ty = tyOf a)
    | .anewarray idx => Nat.beq len 3 && decide (tw d = some (.classLink (clsOf m) idx "EdgeVerses$State"))
    | .invokevirtual idx => Nat.beq len 3 && decide (c < 2) && okCall m a b c d idx && Nat.beq (mtS a) 0
    | .invokespecial idx => Nat.beq len 3 && cond (Nat.beq c 7) (decide (tw d = some (.methodLink (clsOf m) idx objectInit)) && decide (1 ≤ (mtR m).1) && decide (20 ≤ (mtR m).2.2.2)) (decide (2 ≤ c) && decide (c < 4) && okCall m a b c d idx && Nat.beq (mtS a) 1)
    | .invokestatic idx => Nat.beq len 3 && cond (Nat.beq c 8) (decide (tw d = some (.methodLink (clsOf m) idx arraycopyName)) && decide (1 ≤ (mtR m).1) && decide (8 + (nativeFrameWords "java/lang/System" "arraycopy" 5 + 11) ≤ (mtR m).2.2.2)) (cond (Nat.beq c 9) (decide (tw d = some (.methodLink (clsOf m) idx Lib.Math.max.name)) && decide (1 ≤ (mtR m).1) && decide (21 ≤ (mtR m).2.2.2)) (cond (Nat.beq c 10) (decide (tw d = some (.methodLink (clsOf m) idx Lib.Math.min.name)) && decide (1 ≤ (mtR m).1) && decide (21 ≤ (mtR m).2.2.2)) (decide (4 ≤ c) && decide (c < 6) && okCall m a b c d idx && Nat.beq (mtS a) 2)))
    | .ireturn => Nat.beq len 1 && (decide (mtr m = some .int) || decide (mtr m = some .boolean))
    | .lreturn => Nat.beq len 1 && decide (mtr m = some .long)
    | .return_ => Nat.beq len 1 && decide (mtr m = none)
    | _ => Nat.beq len (lenOf ins)
def okQ (m : Nat) (q : Ent) : Bool := decide (decode (mtC m) q.1 = .ok (q.2.1, q.2.2.1)) && okA m q
def okM (m : Nat) : Bool := (mtK m).all (okQ m)
def lwA (p : Nat) : Option Jvm.Cond := lw_tbl[p]?
def okW (m : Nat) : Bool :=
  decide (lwA (mt_W.getD m (0, 0, 0, 0)).2.2.2 = some (.initialized (mtY m).cls)) && plainName (mtY m).cls &&
  decide (lwA (mt_W.getD m (0, 0, 0, 0)).2.1 = some (cond (Nat.beq (mtS m) 2) (.static (mtY m)) (.instanceMethod (mtY m)))) &&
  cond (Nat.beq (mtS m) 0) (decide (lwA (mt_W.getD m (0, 0, 0, 0)).2.2.1 = some (.selects (mtY m).cls (mtY m) (mtY m)))) true &&
  cond (Nat.beq (mtS m) 1) (decide ((mtY m).name = "<init>") && decide (mtr m = none)) true &&
  decide ((mtY m).cls ≠ "java/lang/invoke/MethodHandle" ∧ (mtY m).cls ≠ "java/lang/invoke/VarHandle") &&
  decide ((parseMethodDescriptor (mtY m).desc).map (fun d => d.parameters.length) = some (mtN m))
def okC (m : Nat) : Prop := lwA (mt_W.getD m (0, 0, 0, 0)).1 = some (.code (mtY m) (mtC m) (mtL m) (mtr m))
def okCb (m : Nat) : Bool := decide (lwA (mt_W.getD m (0, 0, 0, 0)).1 = some (.code (mtY m) (mtC m) (mtL m) (mtr m)))
def tyF (c k : Nat) : FieldType := (parseFieldDescriptor (flO c k).2.2.1).getD .int
def okT (c k : Nat) : Bool := match fkdOf c k with
  | 0 => decide (tyF c k = .int)
  | 1 => decide (tyF c k = .long)
  | 3 => decide (tyF c k = .boolean)
  | _ => refKind (tyF c k)
def okF (c : Nat) : Bool := (List.range (fnum c)).all (fun k => (parseFieldDescriptor (flO c k).2.2.1).isSome && decide ((flO c k).1 = cnO c) && okT c k && Nat.blt (fkdOf c k) 4)
def okN (c : Nat) : Bool := (List.range (fnum c)).all (fun a => (List.range (fnum c)).all (fun b => Nat.beq a b || decide ((flO c a).2.1 ≠ (flO c b).2.1)))
def okU (c : Nat) : Bool := (List.range (fnum c)).all (fun k => decide (u_lay (cnO c) (flT (fls.getD c [])) k ∈ lw_tbl))
def okI (c : Nat) : Bool := decide (Jvm.Cond.instantiable (cnO c) (fnum c) ∈ lw_tbl) && decide (Jvm.Cond.initialized (cnO c) ∈ lw_tbl)
