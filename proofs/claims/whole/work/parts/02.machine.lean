/-! The abstract machine: ints are whole numbers, references are numbers of cells, the heap is a table of ints of a fixed shape. -/
abbrev am_Mem : Type := Nat → Nat → Int
abbrev am_AV : Type := Int ⊕ (Nat ⊕ Int)
abbrev am_AE : Type := Instr × Nat × List Nat × Int × List Nat
abbrev am_SC : Type := (Bool × Nat) ⊕ (Nat × List Nat)
abbrev am_Lc : Type := List (Nat × am_AV)
abbrev am_Po : Type := Int → am_Mem → Prop
abbrev am_Ct : Type := Nat → List am_AV → am_Mem → am_Po → Prop
def am_inR (z : Int) : Prop := -2147483648 ≤ z ∧ z ≤ 2147483647
def am_inL (z : Int) : Prop := -9223372036854775808 ≤ z ∧ z ≤ 9223372036854775807
def am_okv : am_AV → Prop
  | .inl z => am_inR z
  | .inr (.inl _) => True
  | .inr (.inr z) => am_inL z
def am_okm (mem : am_Mem) : Prop := ∀ k j, am_inR (mem k j)
def am_oks (st : List am_AV) : Prop := ∀ v ∈ st, am_okv v
def am_okl (ls : am_Lc) : Prop := ∀ q ∈ ls, am_okv q.2
def am_vl (ad : Nat → Nat) : am_AV → Value
  | .inl z => .int (Int32.ofInt z)
  | .inr (.inl k) => .ref (ad k)
  | .inr (.inr z) => .long (Int64.ofInt z)
def am_up (mem : am_Mem) (a j : Nat) (z : Int) : am_Mem := fun k i => if k = a ∧ i = j then z else mem k i
def am_cp (mem : am_Mem) (a sp b dp n : Nat) : am_Mem := fun k i => if k = b ∧ dp ≤ i ∧ i < dp + n then mem a (sp + (i - dp)) else mem k i
def am_isl : am_AV → Bool
  | .inr (.inr _) => true
  | _ => false
def am_lget : am_Lc → Nat → Option am_AV
  | [], _ => none
  | q :: r, i => bif Nat.beq i q.1 then some q.2 else am_lget r i
def am_ldel (i : Nat) : am_Lc → am_Lc
  | [] => []
  | q :: r => bif (Nat.beq q.1 i || (Nat.beq (q.1 + 1) i && am_isl q.2)) then am_ldel i r else q :: am_ldel i r
def am_lde2 (i : Nat) : am_Lc → am_Lc
  | [] => []
  | q :: r => bif (Nat.beq q.1 i || (Nat.beq q.1 (i + 1) || (Nat.beq (q.1 + 1) i && am_isl q.2))) then am_lde2 i r else q :: am_lde2 i r
def am_kp (ls : am_Lc) : List Nat → Option (List am_AV)
  | [] => some []
  | i :: r => match am_lget ls i with
    | none => none
    | some v => match am_kp ls r with
      | none => none
      | some vs => some (v :: vs)
def am_cget : List (Nat × List Nat) → Nat → Option (List Nat)
  | [], _ => none
  | q :: r, i => bif Nat.beq i q.1 then some q.2 else am_cget r i
def am_take : Nat → List am_AV → List am_AV → Option (List am_AV × List am_AV)
  | 0, st, acc => some (acc, st)
  | n + 1, v :: st, acc => am_take n st (v :: acc)
  | _ + 1, [], _ => none
def am_o1 (o : Option am_AV) (f : Int → Prop) : Prop := match o with
  | some (.inl z) => f z
  | _ => False
def am_oa (o : Option am_AV) (f : Nat → Prop) : Prop := match o with
  | some (.inr (.inl z)) => f z
  | _ => False
def am_ol (o : Option am_AV) (f : Int → Prop) : Prop := match o with
  | some (.inr (.inr z)) => f z
  | _ => False
def am_s1 (st : List am_AV) (f : Int → List am_AV → Prop) : Prop := match st with
  | .inl x :: r => f x r
  | _ => False
def am_sr (st : List am_AV) (f : Nat → List am_AV → Prop) : Prop := match st with
  | .inr (.inl x) :: r => f x r
  | _ => False
def am_sl (st : List am_AV) (f : Int → List am_AV → Prop) : Prop := match st with
  | .inr (.inr x) :: r => f x r
  | _ => False
def am_br (c : Jvm.ClassFile.Cond) (x y : Int) (kt kf : Prop) : Prop := match c with
  | .eq => (x = y → kt) ∧ (¬ x = y → kf)
  | .ne => (¬ x = y → kt) ∧ (x = y → kf)
  | .lt => (x < y → kt) ∧ (y ≤ x → kf)
  | .ge => (y ≤ x → kt) ∧ (x < y → kf)
  | .gt => (y < x → kt) ∧ (x ≤ y → kf)
  | .le => (x ≤ y → kt) ∧ (y < x → kf)
def am_tsw (x : Int) (d : Prop) (k : Nat → Prop) : Int → List Nat → Prop
  | lo, [] => (lo ≤ x → d)
  | lo, t :: r => (x = lo → k t) ∧ am_tsw x d k (lo + 1) r
def am_lsw (x : Int) (d : Prop) (k : Nat → Prop) : List (Int × Int) → List Nat → Prop
  | p :: ps, t :: r => (x = p.1 → k t) ∧ (¬ x = p.1 → am_lsw x d k ps r)
  | _, _ => d
def am_iso (SH : Nat → Option am_SC) (o ci : Nat) : Bool := match SH o with
  | some (.inr q) => Nat.beq q.1 ci
  | _ => false
/-- one instruction: what must hold, so that what follows is reached -/
def am_stp (SH : Nat → Option am_SC) (rom : Nat → Option (Nat × (Nat → Int))) (M : am_Ct) (rb : Bool) (e : am_AE) (ls : am_Lc) (st : List am_AV) (mem : am_Mem) (k : Nat → am_Lc → List am_AV → am_Mem → Prop) (Q : am_Po) : Prop :=
  match e.1 with
  | .iconst n => k e.2.1 ls (.inl n :: st) mem
  | .bipush n => k e.2.1 ls (.inl n :: st) mem
  | .sipush n => k e.2.1 ls (.inl n :: st) mem
  | .ldc _ => k e.2.1 ls (.inl e.2.2.2.1 :: st) mem
  | .ldc_w _ => k e.2.1 ls (.inl e.2.2.2.1 :: st) mem
  | .ldc2_w _ => k e.2.1 ls (.inr (.inr e.2.2.2.1) :: st) mem
  | .iload i => am_o1 (am_lget ls i) fun z => k e.2.1 ls (.inl z :: st) mem
  | .iload_n i => am_o1 (am_lget ls i.val) fun z => k e.2.1 ls (.inl z :: st) mem
  | .aload i => am_oa (am_lget ls i) fun z => k e.2.1 ls (.inr (.inl z) :: st) mem
  | .aload_n i => am_oa (am_lget ls i.val) fun z => k e.2.1 ls (.inr (.inl z) :: st) mem
  | .lload_n i => am_ol (am_lget ls i.val) fun z => k e.2.1 ls (.inr (.inr z) :: st) mem
  | .istore i => am_s1 st fun x st => k e.2.1 ((i, .inl x) :: am_ldel i ls) st mem
  | .istore_n i => am_s1 st fun x st => k e.2.1 ((i.val, .inl x) :: am_ldel i.val ls) st mem
  | .astore_n i => am_sr st fun x st => k e.2.1 ((i.val, .inr (.inl x)) :: am_ldel i.val ls) st mem
  | .lstore_n i => am_sl st fun x st => k e.2.1 ((i.val, .inr (.inr x)) :: am_lde2 i.val ls) st mem
  | .iinc i n => am_o1 (am_lget ls i) fun z => (-2147483648 ≤ z + n ∧ z + n ≤ 2147483647) ∧ k e.2.1 ((i, .inl (z + n)) :: am_ldel i ls) st mem
  | .iadd => am_s1 st fun y st => am_s1 st fun x st => (-2147483648 ≤ x + y ∧ x + y ≤ 2147483647) ∧ k e.2.1 ls (.inl (x + y) :: st) mem
  | .isub => am_s1 st fun y st => am_s1 st fun x st => (-2147483648 ≤ x - y ∧ x - y ≤ 2147483647) ∧ k e.2.1 ls (.inl (x - y) :: st) mem
  | .imul => am_s1 st fun y st => am_s1 st fun x st => (-2147483648 ≤ x * y ∧ x * y ≤ 2147483647) ∧ k e.2.1 ls (.inl (x * y) :: st) mem
  | .idiv => am_s1 st fun y st => am_s1 st fun x st => (0 ≤ x ∧ 0 < y) ∧ k e.2.1 ls (.inl (x / y) :: st) mem
  | .irem => am_s1 st fun y st => am_s1 st fun x st => 0 < y ∧ (0 ≤ x → k e.2.1 ls (.inl (x % y) :: st) mem) ∧ (x < 0 → k e.2.1 ls (.inl (-((-x) % y)) :: st) mem)
  | .iand => am_s1 st fun y st => am_s1 st fun x st => (y = 3 ∨ y = 31) ∧ k e.2.1 ls (.inl (x % (y + 1)) :: st) mem
  | .ixor => am_s1 st fun y st => am_s1 st fun x st => ∀ z : Int, (0 ≤ z ↔ (0 ≤ x ↔ 0 ≤ y)) → k e.2.1 ls (.inl z :: st) mem
  | .ishl => am_s1 st fun y st => am_s1 st fun x st => (x = 1 ∧ 0 ≤ y ∧ y ≤ 30) ∧ k e.2.1 ls (.inl (2 ^ y.toNat) :: st) mem
  | .ishr => am_s1 st fun y st => am_s1 st fun x st => (0 ≤ x ∧ 0 ≤ y ∧ y ≤ 31) ∧ k e.2.1 ls (.inl (x / 2 ^ y.toNat) :: st) mem
  | .i2l => am_s1 st fun x st => k e.2.1 ls (.inr (.inr x) :: st) mem
  | .l2i => am_sl st fun x st => (-2147483648 ≤ x ∧ x ≤ 2147483647) ∧ k e.2.1 ls (.inl x :: st) mem
  | .ladd => am_sl st fun y st => am_sl st fun x st => (-9223372036854775808 ≤ x + y ∧ x + y ≤ 9223372036854775807) ∧ k e.2.1 ls (.inr (.inr (x + y)) :: st) mem
  | .lmul => am_sl st fun y st => am_sl st fun x st => (-9223372036854775808 ≤ x * y ∧ x * y ≤ 9223372036854775807) ∧ k e.2.1 ls (.inr (.inr (x * y)) :: st) mem
  | .ldiv => am_sl st fun y st => am_sl st fun x st => (0 ≤ x ∧ 0 < y) ∧ k e.2.1 ls (.inr (.inr (x / y)) :: st) mem
  | .lrem => am_sl st fun y st => am_sl st fun x st => (0 ≤ x ∧ 0 < y) ∧ k e.2.1 ls (.inr (.inr (x % y)) :: st) mem
  | .land => am_sl st fun y st => am_sl st fun x st => (0 ≤ x ∧ y = 2147483647) ∧ k e.2.1 ls (.inr (.inr (x % 2147483648)) :: st) mem
  | .dup => match st with
    | .inl x :: r => k e.2.1 ls (.inl x :: .inl x :: r) mem
    | .inr (.inl x) :: r => k e.2.1 ls (.inr (.inl x) :: .inr (.inl x) :: r) mem
    | _ => False
  | .dup2 => am_s1 st fun y st => am_sr st fun x st => k e.2.1 ls (.inl y :: .inr (.inl x) :: .inl y :: .inr (.inl x) :: st) mem
  | .pop => am_s1 st fun _ st => k e.2.1 ls st mem
  | .getfield _ => am_sr st fun o st => match SH o, e.2.2.2.2 with
    | some (.inr (ci, fks)), ci' :: j :: _ => bif Nat.beq ci ci' then (match fks[j]? with
      | some 0 => k e.2.1 ls (.inl (mem o j) :: st) mem
      | some 1 => k e.2.1 ls (.inl (mem o j) :: st) mem
      | some (r + 2) => k e.2.1 ls (.inr (.inl r) :: st) mem
      | none => False) else False
    | _, _ => False
  | .putfield _ => am_s1 st fun z st => am_sr st fun o st => match SH o, e.2.2.2.2 with
    | some (.inr (ci, fks)), ci' :: j :: _ => bif Nat.beq ci ci' then (match fks[j]? with
      | some 0 => k e.2.1 ls st (am_up mem o j z)
      | some 1 => (z = 0 ∨ z = 1) ∧ k e.2.1 ls st (am_up mem o j z)
      | _ => False) else False
    | _, _ => False
  | .getstatic _ => match e.2.2.2.2 with
    | r :: _ => k e.2.1 ls (.inr (.inl r) :: st) mem
    | _ => False
  | .iaload => am_s1 st fun i st => am_sr st fun a st => match SH a with
    | some (.inl (false, n)) => (0 ≤ i ∧ i < n) ∧ k e.2.1 ls (.inl (mem a i.toNat) :: st) mem
    | some _ => False
    | none => match rom a with
      | some (n, f) => (0 ≤ i ∧ i < n) ∧ k e.2.1 ls (.inl (f i.toNat) :: st) mem
      | none => False
  | .baload => am_s1 st fun i st => am_sr st fun a st => match SH a with
    | some (.inl (true, n)) => (0 ≤ i ∧ i < n) ∧ k e.2.1 ls (.inl (mem a i.toNat) :: st) mem
    | _ => False
  | .iastore => am_s1 st fun z st => am_s1 st fun i st => am_sr st fun a st => match SH a with
    | some (.inl (false, n)) => (0 ≤ i ∧ i < n) ∧ k e.2.1 ls st (am_up mem a i.toNat z)
    | _ => False
  | .bastore => am_s1 st fun z st => am_s1 st fun i st => am_sr st fun a st => match SH a with
    | some (.inl (true, n)) => ((0 ≤ i ∧ i < n) ∧ (z = 0 ∨ z = 1)) ∧ k e.2.1 ls st (am_up mem a i.toNat z)
    | _ => False
  | .arraylength => am_sr st fun a st => match SH a with
    | some (.inl (_, n)) => k e.2.1 ls (.inl n :: st) mem
    | some _ => False
    | none => match rom a with
      | some (n, _) => k e.2.1 ls (.inl n :: st) mem
      | none => False
  | .if_icmp c _ => am_s1 st fun y st => am_s1 st fun x st => match e.2.2.1 with
    | t :: _ => am_br c x y (k t ls st mem) (k e.2.1 ls st mem)
    | _ => False
  | .ifCond c _ => am_s1 st fun x st => match e.2.2.1 with
    | t :: _ => am_br c x 0 (k t ls st mem) (k e.2.1 ls st mem)
    | _ => False
  | .goto _ => match e.2.2.1 with
    | t :: _ => k t ls st mem
    | _ => False
  | .tableswitch _ lo _ _ => am_s1 st fun x st => match e.2.2.1 with
    | d :: ts => (x < lo → k d ls st mem) ∧ am_tsw x (k d ls st mem) (fun t => k t ls st mem) lo ts
    | _ => False
  | .lookupswitch _ ps => am_s1 st fun x st => match e.2.2.1 with
    | d :: ts => am_lsw x (k d ls st mem) (fun t => k t ls st mem) ps.toList ts
    | _ => False
  | .invokevirtual _ => match e.2.2.2.2 with
    | y :: n :: v :: ci :: _ => match am_take (n + 1) st [] with
      | some (.inr (.inl o) :: as, r) => bif (am_iso SH o ci && Nat.ble r.length 4) then ∃ Qc : am_Po, M y (.inr (.inl o) :: as) mem Qc ∧ ∀ z mem', Qc z mem' → k e.2.1 ls (bif Nat.beq v 0 then r else .inl z :: r) mem' else False
      | _ => False
    | _ => False
  | .invokestatic _ => match e.2.2.2.2 with
    | y :: n :: v :: _ => bif Nat.beq v 9 then (am_s1 st fun c st => am_s1 st fun dp st => am_sr st fun b st => am_s1 st fun sp st => am_sr st fun a st => match SH a, SH b with
      | some (.inl (false, na)), some (.inl (false, nb)) => bif Nat.ble st.length 4 then (0 ≤ sp ∧ 0 ≤ dp ∧ 0 ≤ c ∧ sp + c ≤ na ∧ dp + c ≤ nb) ∧ k e.2.1 ls st (am_cp mem a sp.toNat b dp.toNat c.toNat) else False
      | _, _ => False) else (match am_take n st [] with
      | some (as, r) => bif Nat.ble r.length 4 then ∃ Qc : am_Po, M y as mem Qc ∧ ∀ z mem', Qc z mem' → k e.2.1 ls (bif Nat.beq v 0 then r else .inl z :: r) mem' else False
      | none => False)
    | _ => False
  | .ireturn => match st with
    | [.inl z] => bif rb then (z = 0 ∨ z = 1) ∧ Q z mem else Q z mem
    | _ => False
  | .return_ => match st with
    | [] => Q 0 mem
    | _ => False
  | _ => False
/-- from a place on, up to a cut place or the end -/
def am_wp (SH : Nat → Option am_SC) (rom : Nat → Option (Nat × (Nat → Int))) (M : am_Ct) (rb : Bool) (T : Nat → Option am_AE) (cut : List (Nat × List Nat)) (K : Nat → List am_AV → am_Mem → Prop) (Q : am_Po) : Nat → Nat → am_Lc → List am_AV → am_Mem → Prop
  | 0, _, _, _, _ => False
  | n + 1, pc, ls, st, mem => match T pc with
    | none => False
    | some e => am_stp SH rom M rb e ls st mem (fun pc' ls' st' mem' => match am_cget cut pc' with
      | some keep => (match st', am_kp ls' keep with
        | [], some vs => K pc' vs mem'
        | _, _ => False)
      | none => am_wp SH rom M rb T cut K Q n pc' ls' st' mem') Q
