/-! ===== what a program's table must keep to: by the kernel ===== -/
def tn (t : Nat) (c : Jvm.Cond) : Bool := decide (lw_tbl[t]? = some c)
def tq (t : Nat) (c : Jvm.Cond) : Bool := goodWord c && decide (lw_tbl[t]? = some c)
def mchk (μ n : Nat) : Bool := tq (mi μ).2.2.2.2.2.2.2.1 (.code (my μ) (mcode μ) (mxl μ) (mret μ)) && (tq (mi μ).2.2.2.2.2.2.2.2 (.initialized (my μ).cls) && (plainName (my μ).cls && (decide ((my μ).cls ≠ "java/lang/invoke/MethodHandle" ∧ (my μ).cls ≠ "java/lang/invoke/VarHandle") && decide ((parseMethodDescriptor (my μ).desc).map (fun d => d.parameters.length) = some n))))
def clN (c : Nat) : String := (vwCl.getD c ("", TX0, 0)).1
def clT (c : Nat) : u_T := (vwCl.getD c ("", TX0, 0)).2.1
def clS (c : Nat) : Nat := (vwCl.getD c ("", TX0, 0)).2.2
def callk (μ : Nat) (aux : List Nat) (n : Nat) : Bool := mchk (aux.getD 1 0) (aux.getD 2 0) && (Nat.blt (mdp (aux.getD 1 0)) (mdp μ) && (Nat.ble n (mxl (aux.getD 1 0)) && Nat.ble (mxl (aux.getD 1 0)) 18))
def rtk (i : Instr) (r : Option FieldType) : Bool := match i, r with
  | .ireturn, some .int => true
  | .ireturn, some .boolean => true
  | .lreturn, some .long => true
  | .areturn, some (.object _) => true
  | .return_, none => true
  | _, _ => false
def ichk (μ pc : Nat) (ai : AI) : Bool := decide (decode (mcode μ) pc = .ok (ai.1, ai.2.1)) && match ai.1 with
  | .iload_n _ => Nat.beq ai.2.1 1
  | .iload _ => Nat.beq ai.2.1 2
  | .aload_n _ => Nat.beq ai.2.1 1
  | .istore_n k => Nat.beq ai.2.1 1 && Nat.blt k.val (mxl μ)
  | .istore k => Nat.beq ai.2.1 2 && Nat.blt k (mxl μ)
  | .astore_n k => Nat.beq ai.2.1 1 && Nat.blt k.val (mxl μ)
  | .iconst n => Nat.beq ai.2.1 1 && decide (inR n)
  | .bipush n => Nat.beq ai.2.1 2 && (decide (inR n) && decide ((Int8.ofInt n).toInt32 = Int32.ofInt n))
  | .sipush n => Nat.beq ai.2.1 3 && (decide (inR n) && decide ((Int16.ofInt n).toInt32 = Int32.ofInt n))
  | .ldc ix => Nat.beq ai.2.1 2 && (decide (inR ai.2.2.2.1) && tq (ai.2.2.2.2.getD 0 0) (.constant (my μ).cls ix (Int32.ofInt ai.2.2.2.1)))
  | .lconst _ | .iadd | .isub | .imul | .ineg | .idiv | .irem | .ishl | .ishr | .iand | .ior | .i2l | .lmul | .lcmp | .dup | .dup2 | .pop | .iaload | .iastore | .baload | .bastore | .aaload | .aastore | .arraylength => Nat.beq ai.2.1 1
  | .ireturn => Nat.beq ai.2.1 1 && rtk .ireturn (mret μ)
  | .lreturn => Nat.beq ai.2.1 1 && rtk .lreturn (mret μ)
  | .areturn => Nat.beq ai.2.1 1 && rtk .areturn (mret μ)
  | .return_ => Nat.beq ai.2.1 1 && rtk .return_ (mret μ)
  | .iinc k n => Nat.beq ai.2.1 3 && (Nat.blt k (mxl μ) && decide (inR n))
  | .goto off | .ifCond _ off | .if_icmp _ off => Nat.beq ai.2.1 3 && decide ((pc : Int) + off = (ai.2.2.2.2.getD 0 0 : Nat))
  | .getfield ix => Nat.beq ai.2.1 3 && (tq (ai.2.2.2.2.getD 3 0) (.fieldLink (my μ).cls ix (clT (ai.2.2.2.2.getD 0 0) (ai.2.2.2.2.getD 1 0)).1 (clT (ai.2.2.2.2.getD 0 0) (ai.2.2.2.2.getD 1 0)).2.1 (clT (ai.2.2.2.2.getD 0 0) (ai.2.2.2.2.getD 1 0)).2.2.1) && (Nat.blt (ai.2.2.2.2.getD 1 0) (clS (ai.2.2.2.2.getD 0 0)) && (Nat.blt (ai.2.2.2.2.getD 0 0) 10 && Nat.beq (ai.2.2.2.2.getD 2 0) (fkOf (ai.2.2.2.2.getD 0 0) (ai.2.2.2.2.getD 1 0)))))
  | .putfield ix => Nat.beq ai.2.1 3 && (tq (ai.2.2.2.2.getD 3 0) (.fieldLink (my μ).cls ix (clT (ai.2.2.2.2.getD 0 0) (ai.2.2.2.2.getD 1 0)).1 (clT (ai.2.2.2.2.getD 0 0) (ai.2.2.2.2.getD 1 0)).2.1 (clT (ai.2.2.2.2.getD 0 0) (ai.2.2.2.2.getD 1 0)).2.2.1) && (Nat.blt (ai.2.2.2.2.getD 1 0) (clS (ai.2.2.2.2.getD 0 0)) && (Nat.blt (ai.2.2.2.2.getD 0 0) 10 && (Nat.beq (ai.2.2.2.2.getD 2 0) (fkOf (ai.2.2.2.2.getD 0 0) (ai.2.2.2.2.getD 1 0)) &&
      (!(clT (ai.2.2.2.2.getD 0 0) (ai.2.2.2.2.getD 1 0)).2.2.2 || (decide ((my μ).name = "<init>") && decide ((clT (ai.2.2.2.2.getD 0 0) (ai.2.2.2.2.getD 1 0)).1 = (my μ).cls)))))))
  | .newarray t => Nat.beq ai.2.1 2 && (tq (ai.2.2.2.2.getD 0 0) (.arrayClass (newarray.typeOf t)) && (match t with | .int => true | .boolean => true | _ => false))
  | .anewarray ix => Nat.beq ai.2.1 3 && (tq (ai.2.2.2.2.getD 0 0) (.classLink (my μ).cls ix "ShiftAdds$Graph") && tn (ai.2.2.2.2.getD 1 0) (.arrayOver (.object "ShiftAdds$Graph")))
  | .multianewarray ix d => Nat.beq ai.2.1 4 && (Nat.beq d 2 && (tq (ai.2.2.2.2.getD 0 0) (.classLink (my μ).cls ix "[[I") && (tn (ai.2.2.2.2.getD 1 0) (.arrayOver (.array .int)) && tq (ai.2.2.2.2.getD 2 0) (.arrayClass .int))))
  | .new ix => Nat.beq ai.2.1 3 && (Nat.blt (ai.2.2.2.2.getD 0 0) 10 && (Nat.beq (ai.2.2.2.2.getD 1 0) (clS (ai.2.2.2.2.getD 0 0)) && (tq (ai.2.2.2.2.getD 2 0) (.classLink (my μ).cls ix (clN (ai.2.2.2.2.getD 0 0))) && (tq (ai.2.2.2.2.getD 3 0) (.instantiable (clN (ai.2.2.2.2.getD 0 0)) (ai.2.2.2.2.getD 1 0)) && tq (ai.2.2.2.2.getD 4 0) (.initialized (clN (ai.2.2.2.2.getD 0 0)))))))
  | .invokestatic ix => Nat.beq ai.2.1 3 && (match ai.2.2.2.2.getD 0 0 with
    | 5 => Nat.ble 1 (mdp μ) && (tq (ai.2.2.2.2.getD 3 0) (.methodLink (my μ).cls ix Lib.Math.max.name) && (tq (ai.2.2.2.2.getD 4 0) (.static Lib.Math.max.name) && (tq (ai.2.2.2.2.getD 5 0) (.code Lib.Math.max.name Lib.Math.max.code 2 (some .int)) && tq (ai.2.2.2.2.getD 6 0) (.initialized "java/lang/Math"))))
    | 6 => Nat.ble 1 (mdp μ) && (tq (ai.2.2.2.2.getD 3 0) (.methodLink (my μ).cls ix Lib.Math.min.name) && (tq (ai.2.2.2.2.getD 4 0) (.static Lib.Math.min.name) && (tq (ai.2.2.2.2.getD 5 0) (.code Lib.Math.min.name Lib.Math.min.code 2 (some .int)) && tq (ai.2.2.2.2.getD 6 0) (.initialized "java/lang/Math"))))
    | 7 => Nat.ble 1 (mdp μ) && (tq (ai.2.2.2.2.getD 3 0) (.methodLink (my μ).cls ix Lib.Math.abs.name) && (tq (ai.2.2.2.2.getD 4 0) (.static Lib.Math.abs.name) && (tq (ai.2.2.2.2.getD 5 0) (.code Lib.Math.abs.name Lib.Math.abs.code 1 (some .int)) && tq (ai.2.2.2.2.getD 6 0) (.initialized "java/lang/Math"))))
    | 8 => Nat.ble 1 (mdp μ) && (tq (ai.2.2.2.2.getD 3 0) (.methodLink (my μ).cls ix arraycopyName) && (tq (ai.2.2.2.2.getD 4 0) (.static arraycopyName) && (tq (ai.2.2.2.2.getD 5 0) (.native arraycopyName) && tq (ai.2.2.2.2.getD 6 0) (.initialized "java/lang/System"))))
    | 1 => callk μ ai.2.2.2.2 (ai.2.2.2.2.getD 2 0) && (tq (ai.2.2.2.2.getD 3 0) (.methodLink (my μ).cls ix (my (ai.2.2.2.2.getD 1 0))) && (tq (ai.2.2.2.2.getD 4 0) (.static (my (ai.2.2.2.2.getD 1 0))) && (Nat.beq (mmc (ai.2.2.2.2.getD 1 0)) 0 && Nat.beq (mms (ai.2.2.2.2.getD 1 0)) 0)))
    | 2 => callk μ ai.2.2.2.2 (ai.2.2.2.2.getD 2 0) && (tn (ai.2.2.2.2.getD 3 0) (.methodLinkNest (my μ).cls ix (my (ai.2.2.2.2.getD 1 0)) "ShiftAdds") && (tq (ai.2.2.2.2.getD 4 0) (.static (my (ai.2.2.2.2.getD 1 0))) && (Nat.beq (mmc (ai.2.2.2.2.getD 1 0)) 0 && Nat.beq (mms (ai.2.2.2.2.getD 1 0)) 0)))
    | _ => false)
  | .invokevirtual ix => Nat.beq ai.2.1 3 && (callk μ ai.2.2.2.2 (ai.2.2.2.2.getD 2 0 + 1) && (tq (ai.2.2.2.2.getD 3 0) (.methodLink (my μ).cls ix (my (ai.2.2.2.2.getD 1 0))) && (tq (ai.2.2.2.2.getD 4 0) (.instanceMethod (my (ai.2.2.2.2.getD 1 0))) && (tq (ai.2.2.2.2.getD 5 0) (.selects (clN (ai.2.2.2.2.getD 6 0)) (my (ai.2.2.2.2.getD 1 0)) (my (ai.2.2.2.2.getD 1 0))) && (Nat.blt (ai.2.2.2.2.getD 6 0) 10 && (Nat.beq (mmc (ai.2.2.2.2.getD 1 0)) 0 && Nat.beq (mms (ai.2.2.2.2.getD 1 0)) 0))))))
  | .invokespecial ix => Nat.beq ai.2.1 3 && (match ai.2.2.2.2.getD 0 0 with
    | 9 => Nat.ble 1 (mdp μ) && (tq (ai.2.2.2.2.getD 3 0) (.methodLink (my μ).cls ix objectInit) && (tq (ai.2.2.2.2.getD 4 0) (.instanceMethod objectInit) && tq (ai.2.2.2.2.getD 5 0) (.code objectInit ⟨#[0xb1]⟩ 1 none)))
    | 3 => callk μ ai.2.2.2.2 (ai.2.2.2.2.getD 2 0 + 1) && (tq (ai.2.2.2.2.getD 3 0) (.methodLink (my μ).cls ix (my (ai.2.2.2.2.getD 1 0))) && (tq (ai.2.2.2.2.getD 4 0) (.instanceMethod (my (ai.2.2.2.2.getD 1 0))) && (decide ((my (ai.2.2.2.2.getD 1 0)).name = "<init>") && decide (mret (ai.2.2.2.2.getD 1 0) = none))))
    | 4 => callk μ ai.2.2.2.2 (ai.2.2.2.2.getD 2 0 + 1) && (tn (ai.2.2.2.2.getD 3 0) (.methodLinkNest (my μ).cls ix (my (ai.2.2.2.2.getD 1 0)) "ShiftAdds") && (tq (ai.2.2.2.2.getD 4 0) (.instanceMethod (my (ai.2.2.2.2.getD 1 0))) && (decide ((my (ai.2.2.2.2.getD 1 0)).name = "<init>") && decide (mret (ai.2.2.2.2.getD 1 0) = none))))
    | _ => false)
  | .tableswitch d lo hi os => decide ((pc : Int) + d = (ai.2.2.2.2.getD 0 0 : Nat)) && (decide (os.toList.map (fun o => (pc : Int) + o) = (ai.2.2.2.2.drop 1).map Int.ofNat) && decide (lo + os.size = hi + 1))
  | .lookupswitch d ps => decide ((pc : Int) + d = (ai.2.2.2.2.getD 0 0 : Nat)) && (decide (ps.toList.map (fun o => (pc : Int) + o.2) = (ai.2.2.2.2.drop 1).map Int.ofNat) && (ps.toList.zip (ps.toList.drop 1)).all (fun (a, next) => a.1 < next.1))
  | _ => false
def bchk (μ : Nat) : Bool := (PL μ).all (fun b => b.2.all (fun x => ichk μ x.1 x.2))
