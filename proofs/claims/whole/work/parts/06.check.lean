/-! what is checked of an instruction's row, by the kernel -/
def am_inRb (z : Int) : Bool := decide (-2147483648 ≤ z) && decide (z ≤ 2147483647)
def am_inLb (z : Int) : Bool := decide (-9223372036854775808 ≤ z) && decide (z ≤ 9223372036854775807)
theorem am_inRb_ok {z : Int} (h : am_inRb z = true) : am_inR z := by
  simp only [am_inRb, Bool.and_eq_true, decide_eq_true_eq] at h; exact h
theorem am_inLb_ok {z : Int} (h : am_inLb z = true) : am_inL z := by
  simp only [am_inLb, Bool.and_eq_true, decide_eq_true_eq] at h; exact h
def am_fw (own : String) (idx ci j pl : Nat) (put : Bool) : Bool := match am_cls[ci]? with
  | some q => Nat.blt j q.2.2 && am_isw pl (.fieldLink own idx (q.2.1 j).1 (q.2.1 j).2.1 (q.2.1 j).2.2.1) && (!put || !(q.2.1 j).2.2.2)
  | none => false
/-- a call of method y: its code, arity, depth, whether it answers -/
def am_cw (dp y n v pc pi : Nat) : Bool :=
  am_isw pc (.code (am_mi y).1 (am_mi y).2.1 (am_mi y).2.2.1 (am_mi y).2.2.2.1) && am_isw pi (.initialized (am_mi y).1.cls) && decide ((parseMethodDescriptor (am_mi y).1.desc).map (fun d => d.parameters.length) = some n)
  && decide ((am_mi y).1.cls ≠ "java/lang/invoke/MethodHandle") && decide ((am_mi y).1.cls ≠ "java/lang/invoke/VarHandle") && Nat.blt (am_mi y).2.2.2.2.1 dp && Nat.ble (am_mi y).2.2.1 17 && decide (v = 0 ↔ (am_mi y).2.2.2.1 = none)
def am_okI (own : String) (nL dp : Nat) (rv : Bool) (pc : Nat) (e : am_AE) : Bool := match e.1 with
  | .iconst n => am_inRb n && Nat.beq e.2.1 (pc + 1)
  | .bipush n => am_inRb n && decide ((Int8.ofInt n).toInt32 = Int32.ofInt n) && Nat.beq e.2.1 (pc + 2)
  | .sipush n => am_inRb n && decide ((Int16.ofInt n).toInt32 = Int32.ofInt n) && Nat.beq e.2.1 (pc + 3)
  | .ldc idx => am_inRb e.2.2.2.1 && Nat.beq e.2.1 (pc + 2) && (match e.2.2.2.2 with
    | pl :: _ => am_isw pl (.constant own idx (Int32.ofInt e.2.2.2.1))
    | _ => false)
  | .ldc_w idx => am_inRb e.2.2.2.1 && Nat.beq e.2.1 (pc + 3) && (match e.2.2.2.2 with
    | pl :: _ => am_isw pl (.constant own idx (Int32.ofInt e.2.2.2.1))
    | _ => false)
  | .ldc2_w idx => am_inLb e.2.2.2.1 && Nat.beq e.2.1 (pc + 3) && (match e.2.2.2.2 with
    | pl :: _ => am_isw pl (.constantLong own idx (Int64.ofInt e.2.2.2.1))
    | _ => false)
  | .iload _ => Nat.beq e.2.1 (pc + 2)
  | .aload _ => Nat.beq e.2.1 (pc + 2)
  | .iload_n _ | .aload_n _ | .lload_n _ => Nat.beq e.2.1 (pc + 1)
  | .istore i => Nat.blt i nL && Nat.beq e.2.1 (pc + 2)
  | .istore_n i => Nat.blt i.val nL && Nat.beq e.2.1 (pc + 1)
  | .astore_n i => Nat.blt i.val nL && Nat.beq e.2.1 (pc + 1)
  | .lstore_n i => Nat.blt (i.val + 1) nL && Nat.beq e.2.1 (pc + 1)
  | .iinc i _ => Nat.blt i nL && Nat.beq e.2.1 (pc + 3)
  | .iadd | .isub | .imul | .idiv | .irem | .iand | .ixor | .ishl | .ishr | .i2l | .l2i | .ladd | .lmul | .ldiv | .lrem | .land | .dup | .dup2 | .pop | .iaload | .baload | .iastore | .bastore | .arraylength => Nat.beq e.2.1 (pc + 1)
  | .getfield idx => Nat.beq e.2.1 (pc + 3) && (match e.2.2.2.2 with
    | ci :: j :: pl :: _ => am_fw own idx ci j pl false
    | _ => false)
  | .putfield idx => Nat.beq e.2.1 (pc + 3) && (match e.2.2.2.2 with
    | ci :: j :: pl :: _ => am_fw own idx ci j pl true
    | _ => false)
  | .getstatic idx => Nat.beq e.2.1 (pc + 3) && (match e.2.2.2.2 with
    | r :: pl :: _ => (Nat.beq r 63 && am_isw pl (.fieldLink own idx "RoofMattress$Reader" "LEAST" "[I")) || (Nat.beq r 64 && am_isw pl (.fieldLink own idx "RoofMattress$Reader" "MOST" "[I"))
    | _ => false)
  | .if_icmp _ off => Nat.beq e.2.1 (pc + 3) && (match e.2.2.1 with
    | t :: _ => decide ((pc : Int) + off = (t : Int))
    | _ => false)
  | .ifCond _ off => Nat.beq e.2.1 (pc + 3) && (match e.2.2.1 with
    | t :: _ => decide ((pc : Int) + off = (t : Int))
    | _ => false)
  | .goto off => Nat.beq e.2.1 (pc + 3) && (match e.2.2.1 with
    | t :: _ => decide ((pc : Int) + off = (t : Int))
    | _ => false)
  | .tableswitch d lo hi offs => (match e.2.2.1 with
    | dt :: ts => decide ((pc : Int) + d = (dt : Int)) && decide (offs.toList.map (fun o => (pc : Int) + o) = ts.map (fun t : Nat => (t : Int))) && decide (hi = lo + offs.size - 1)
    | _ => false)
  | .lookupswitch d ps => (match e.2.2.1 with
    | dt :: ts => decide ((pc : Int) + d = (dt : Int)) && decide (ps.toList.map (fun o => (pc : Int) + o.2) = ts.map (fun t : Nat => (t : Int))) && ((ps.toList.zip (ps.toList.drop 1)).all (fun (a, next) => a.1 < next.1))
    | _ => false)
  | .invokevirtual idx => Nat.beq e.2.1 (pc + 3) && (match e.2.2.2.2 with
    | y :: n :: v :: ci :: p1 :: p2 :: p3 :: p4 :: p5 :: _ => am_cw dp y n v p4 p5 && am_isw p1 (.methodLink own idx (am_mi y).1) && am_isw p2 (.instanceMethod (am_mi y).1) && am_isw p3 (.selects (am_mi y).1.cls (am_mi y).1 (am_mi y).1) && decide ((am_cls[ci]?).map (fun q => q.1) = some (am_mi y).1.cls)
    | _ => false)
  | .invokestatic idx => Nat.beq e.2.1 (pc + 3) && (match e.2.2.2.2 with
    | y :: n :: v :: kd :: p1 :: p2 :: p3 :: p4 :: _ => bif Nat.beq v 9 then (Nat.blt 0 dp && am_isw p1 (.methodLink own idx arraycopyName) && am_isw p2 (.native arraycopyName) && am_isw p3 (.static arraycopyName) && am_isw p4 (.initialized "java/lang/System"))
      else (am_cw dp y n v p3 p4 && am_isw p2 (.static (am_mi y).1) && (bif Nat.beq kd 0 then am_isw p1 (.methodLink own idx (am_mi y).1) else (decide (lw_tbl[p1]? = some (.methodLinkNest own idx (am_mi y).1 "RoofMattress")))))
    | _ => false)
  | .ireturn => !rv && Nat.beq e.2.1 (pc + 1)
  | .return_ => rv && Nat.beq e.2.1 (pc + 1)
  | _ => false
def am_okE (cc : ByteArray) (own : String) (nL dp : Nat) (rv : Bool) (pc : Nat) (e : am_AE) : Bool := decide (decode cc pc = .ok (e.1, e.2.1 - pc)) && am_okI own nL dp rv pc e
theorem am_beq {a b : Nat} (h : Nat.beq a b = true) : a = b := Nat.eq_of_beq_eq_true h
theorem am_blt {a b : Nat} (h : Nat.blt a b = true) : a < b := Nat.le_of_ble_eq_true h
theorem am_ble {a b : Nat} (h : Nat.ble a b = true) : a ≤ b := Nat.le_of_ble_eq_true h
theorem am_and2 {a b : Bool} (h : (a && b) = true) : a = true ∧ b = true := by
  cases a <;> cases b <;> simp_all
