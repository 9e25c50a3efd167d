/-! WHAT A STRETCH OF BYTECODE ASKS, as a proposition over abstract heaps: wpx one instruction, wpc up to the next label. -/
/-- an instruction: pc, what decode gives, its length; then as its kind has it: a target, a class, a callee (x), a field (y), an int, a long, a switch's rows -/
abbrev en : Type := Nat × Instr × Nat × Nat × Nat × Int32 × Int64 × List (Int32 × Nat)
abbrev hR : Type := Option Value → hA → hI → hJ → hQ → Prop
abbrev hS : Type := List Value → hA → hI → hJ → hQ → hR → Prop
abbrev lL : Type := List (Option Value)
abbrev hG : Type := Nat → lL → List Value → hA → hI → hJ → hQ → Prop
def ck (b : Bool) (P : Prop) : Prop := match b with
  | true => P
  | false => False
/-- for a callee that makes cells: the references are of cells that are there -/
def ca (b : Bool) (P S : Prop) : Prop := match b with
  | true => P ∧ S
  | false => S
theorem ca_ok {b : Bool} {P S : Prop} (h : ca b P S) : (b = true → P) ∧ S := by
  cases b with
  | true => exact ⟨fun _ => h.1, h.2⟩
  | false => exact ⟨fun h => Bool.noConfusion h, h⟩
theorem ck_iff {b : Bool} {P : Prop} : ck b P ↔ b = true ∧ P := by cases b <;> simp [ck]
def rv (o : Option Nat) : Value := match o with
  | some k => .ref k
  | none => .null
def lg (lv : lL) (i : Nat) : Option Value := match lv[i]? with
  | some o => o
  | none => none
def isW (o : Option Value) : Bool := match o with
  | some (.long _) => true
  | some (.double _) => true
  | _ => false
/-- a place below that holds a value of two slots loses it -/
def lc (lv : lL) (i : Nat) : lL := match i with
  | 0 => lv
  | i + 1 => match isW (lg lv i) with
    | true => lv.set i none
    | false => lv
def s1 (lv : lL) (i : Nat) (v : Value) (r : List Value) : Option (lL × List Value) := match Nat.blt i lv.length with
  | true => some ((lc lv i).set i (some v), r)
  | false => none
def s2 (lv : lL) (i : Nat) (v : Value) (r : List Value) : Option (lL × List Value) := match Nat.blt (i + 1) lv.length with
  | true => some (((lc lv i).set i (some v)).set (i + 1) none, r)
  | false => none
def li (lv : lL) (i : Nat) (st : List Value) : Option (lL × List Value) := match lg lv i with
  | some (.int x) => some (lv, .int x :: st)
  | _ => none
def ll (lv : lL) (i : Nat) (st : List Value) : Option (lL × List Value) := match lg lv i with
  | some (.long x) => some (lv, .long x :: st)
  | _ => none
def la (lv : lL) (i : Nat) (st : List Value) : Option (lL × List Value) := match lg lv i with
  | some (.ref x) => some (lv, .ref x :: st)
  | some .null => some (lv, .null :: st)
  | _ => none
def si (lv : lL) (i : Nat) (st : List Value) : Option (lL × List Value) := match st with
  | .int x :: r => s1 lv i (.int x) r
  | _ => none
def sl (lv : lL) (i : Nat) (st : List Value) : Option (lL × List Value) := match st with
  | .long x :: r => s2 lv i (.long x) r
  | _ => none
def sa (lv : lL) (i : Nat) (st : List Value) : Option (lL × List Value) := match st with
  | .ref x :: r => s1 lv i (.ref x) r
  | .null :: r => s1 lv i .null r
  | _ => none
def bi (lv : lL) (st : List Value) (f : Int32 → Int32 → Int32) : Option (lL × List Value) := match st with
  | .int y :: .int x :: r => some (lv, .int (f x y) :: r)
  | _ => none
def bl (lv : lL) (st : List Value) (f : Int64 → Int64 → Int64) : Option (lL × List Value) := match st with
  | .long y :: .long x :: r => some (lv, .long (f x y) :: r)
  | _ => none
def bs (lv : lL) (st : List Value) (f : Int64 → Int32 → Int64) : Option (lL × List Value) := match st with
  | .int y :: .long x :: r => some (lv, .long (f x y) :: r)
  | _ => none
def is1 (v : Value) : Bool := match v with
  | .int _ => true
  | .ref _ => true
  | .null => true
  | _ => false
/-- instructions that touch locals and the stack alone -/
def sm (i : Instr) (len : Nat) (c : Int32) (d : Int64) (lv : lL) (st : List Value) : Option (lL × List Value) := match i with
  | .aconst_null => some (lv, .null :: st)
  | .iconst _ => some (lv, .int c :: st)
  | .bipush _ => some (lv, .int c :: st)
  | .sipush _ => some (lv, .int c :: st)
  | .ldc _ => some (lv, .int c :: st)
  | .ldc_w _ => some (lv, .int c :: st)
  | .lconst _ => some (lv, .long d :: st)
  | .ldc2_w _ => some (lv, .long d :: st)
  | .iload i => li lv i st
  | .iload_n i => li lv i.val st
  | .lload i => ll lv i st
  | .lload_n i => ll lv i.val st
  | .aload i => la lv i st
  | .aload_n i => la lv i.val st
  | .istore i => si lv i st
  | .istore_n i => si lv i.val st
  | .lstore i => sl lv i st
  | .lstore_n i => sl lv i.val st
  | .astore i => sa lv i st
  | .astore_n i => sa lv i.val st
  | .iinc i _ => match lg lv i with
    | some (.int x) => s1 lv i (.int (x + c)) st
    | _ => none
  | .iadd => bi lv st (fun x y => x + y)
  | .isub => bi lv st (fun x y => x - y)
  | .imul => bi lv st (fun x y => x * y)
  | .iand => bi lv st (fun x y => x &&& y)
  | .ior => bi lv st (fun x y => x ||| y)
  | .ixor => bi lv st (fun x y => x ^^^ y)
  | .ishl => bi lv st (fun x y => x <<< (y &&& 31))
  | .ishr => bi lv st (fun x y => x >>> (y &&& 31))
  | .iushr => bi lv st (fun x y => (x.toUInt32 >>> (y.toUInt32 &&& Int32.toUInt32 31)).toInt32)
  | .ladd => bl lv st (fun x y => x + y)
  | .lsub => bl lv st (fun x y => x - y)
  | .lmul => bl lv st (fun x y => x * y)
  | .land => bl lv st (fun x y => x &&& y)
  | .lor => bl lv st (fun x y => x ||| y)
  | .lxor => bl lv st (fun x y => x ^^^ y)
  | .lshl => bs lv st (fun x y => x <<< (y.toInt64 &&& 63))
  | .lshr => bs lv st (fun x y => x >>> (y.toInt64 &&& 63))
  | .lushr => bs lv st (fun x y => (x.toUInt64 >>> (y.toInt64.toUInt64 &&& Int64.toUInt64 63)).toInt64)
  | .ineg => match st with
    | .int x :: r => some (lv, .int (-x) :: r)
    | _ => none
  | .lneg => match st with
    | .long x :: r => some (lv, .long (-x) :: r)
    | _ => none
  | .i2l => match st with
    | .int x :: r => some (lv, .long x.toInt64 :: r)
    | _ => none
  | .l2i => match st with
    | .long x :: r => some (lv, .int x.toInt32 :: r)
    | _ => none
  | .i2b => match st with
    | .int x :: r => some (lv, .int x.toInt8.toInt32 :: r)
    | _ => none
  | .i2s => match st with
    | .int x :: r => some (lv, .int x.toInt16.toInt32 :: r)
    | _ => none
  | .lcmp => match st with
    | .long y :: .long x :: r => some (lv, .int (lg_cmp x y) :: r)
    | _ => none
  | .dup => match st with
    | v :: r => match is1 v with
      | true => some (lv, v :: v :: r)
      | false => none
    | _ => none
  | .dup_x1 => match st with
    | v :: w :: r => match is1 v && is1 w with
      | true => some (lv, v :: w :: v :: r)
      | false => none
    | _ => none
  | .dup2 => match st with
    | .long x :: r => some (lv, .long x :: .long x :: r)
    | v :: w :: r => match is1 v && is1 w with
      | true => some (lv, v :: w :: v :: w :: r)
      | false => none
    | _ => none
  | _ => none
/-- the code from a pc on -/
def sk (code : List en) (pc : Nat) : List en := match code with
  | [] => []
  | x :: r => match Nat.beq x.1 pc with
    | true => x :: r
    | false => sk r pc
def pcOf (cs : List en) : Nat := match cs with
  | [] => 0
  | x :: _ => x.1
def ifc (cd : ClassFile.Cond) (x y : Int32) (A B : Prop) : Prop := match cd with
  | .eq => (x = y → A) ∧ (¬ x = y → B)
  | .ne => (¬ x = y → A) ∧ (x = y → B)
  | .lt => (x < y → A) ∧ (¬ x < y → B)
  | .ge => (y ≤ x → A) ∧ (¬ y ≤ x → B)
  | .gt => (y < x → A) ∧ (¬ y < x → B)
  | .le => (x ≤ y → A) ∧ (¬ x ≤ y → B)
def swx (x : Int32) (L : List (Int32 × Nat)) (T : Nat → Prop) (dflt : Prop) : Prop := match L with
  | [] => dflt
  | (v, t) :: L => (x = v → T t) ∧ (¬ x = v → swx x L T dflt)
/-- references among values are below N -/
def rlt (N : Nat) (v : Value) : Prop := match v with
  | .ref k => k < N
  | _ => True
def rok (N : Nat) (lv : lL) (st : List Value) : Prop := (∀ (i : Nat) (v : Value), lv[i]? = some (some v) → rlt N v) ∧ ∀ v ∈ st, rlt N v
/-- a callee: how many arguments (its receiver with them), the receiver's class (99: none is asked), whether it makes cells, how many, of how many slots, what it asks -/
abbrev ev : Type := Nat × Nat × Bool × Nat × Nat × hS
/-- a cell is there -/
def cin (base : Nat) (a : hA) (k : Nat) : Bool := Nat.blt k base || Nat.blt k a.1
def fin9 (ci j : Nat) : Bool := match vwCl[ci]? with
  | some r => (r.2.1 j).2.2.2
  | none => true
def hnew (a : hA) (n : Nat) (x : Nat × Nat) : hA := (a.1 + 1, a.2.1 + 1, a.2.2.1 + n, va_up a.2.2.2 a.1 x)
def cat8 (st : List Value) : Nat := match st with
  | [] => 0
  | v :: r => (if is1 v then 1 else 2) + cat8 r
def wpx (tF : hTF) (qF : hQF) (al : Bool) (base um zm : Nat) (env : List ev) (ini rz : Bool) (code : List en) (Rt : hR) (k : List en → lL → List Value → hA → hI → hJ → hQ → Prop) (cs : List en) (lv : lL) (st : List Value) (a : hA) (I : hI) (J : hJ) (Q : hQ) : Prop := match cs with
  | [] => False
  | (_, i, len, x, y, c, d, L) :: cs => match sm i len c d lv st with
    | some z => k cs z.1 z.2 a I J Q
    | none => match i with
      | .goto _ => k (sk code x) lv st a I J Q
      | .ifCond cd _ => match st with
        | .int v :: r => ifc cd v 0 (k (sk code x) lv r a I J Q) (k cs lv r a I J Q)
        | _ => False
      | .if_icmp cd _ => match st with
        | .int w :: .int v :: r => ifc cd v w (k (sk code x) lv r a I J Q) (k cs lv r a I J Q)
        | _ => False
      | .ifnull _ => match st with
        | .ref _ :: r => k cs lv r a I J Q
        | .null :: r => k (sk code x) lv r a I J Q
        | _ => False
      | .ifnonnull _ => match st with
        | .ref _ :: r => k (sk code x) lv r a I J Q
        | .null :: r => k cs lv r a I J Q
        | _ => False
      | .tableswitch _ _ _ _ => match st with
        | .int v :: r => swx v L (fun t => k (sk code t) lv r a I J Q) (k (sk code x) lv r a I J Q)
        | _ => False
      | .lookupswitch _ _ => match st with
        | .int v :: r => swx v L (fun t => k (sk code t) lv r a I J Q) (k (sk code x) lv r a I J Q)
        | _ => False
      | .idiv => match st with
        | .int w :: .int v :: r => ¬ w = 0 ∧ k cs lv (.int (v / w) :: r) a I J Q
        | _ => False
      | .irem => match st with
        | .int w :: .int v :: r => ¬ w = 0 ∧ k cs lv (.int (v - v / w * w) :: r) a I J Q
        | _ => False
      | .getfield _ => match st with
        | .ref o :: r => ck (cin base a o && Nat.beq (tE tF a.2.2.2 o).1 x) (match (kd x)[y]? with
          | some 1 => k cs lv (.long (J o y) :: r) a I J Q
          | some 2 => k cs lv (rv (qE qF Q o y) :: r) a I J Q
          | some _ => k cs lv (.int (I o y) :: r) a I J Q
          | none => False)
        | _ => False
      | .putfield _ => match st with
        | .int v :: .ref o :: r => ck (cin base a o && Nat.beq (tE tF a.2.2.2 o).1 x && (!fin9 x y || ini)) (match (kd x)[y]? with
          | some 0 => k cs lv r a (up2 I o y v) J Q
          | some 3 => (v = 0 ∨ v = 1) ∧ k cs lv r a (up2 I o y v) J Q
          | _ => False)
        | .long v :: .ref o :: r => ck (cin base a o && Nat.beq (tE tF a.2.2.2 o).1 x && (!fin9 x y || ini)) (match (kd x)[y]? with
          | some 1 => k cs lv r a I (up2 J o y v) Q
          | _ => False)
        | .ref v :: .ref o :: r => ck (cin base a o && Nat.beq (tE tF a.2.2.2 o).1 x && (!fin9 x y || ini) && (qF o y).isNone && cin base a v) (match (kd x)[y]? with
          | some 2 => k cs lv r a I J (up2 Q o y (some v))
          | _ => False)
        | _ => False
      | .iaload => match st with
        | .int i :: .ref o :: r => ck (cin base a o && Nat.beq (tE tF a.2.2.2 o).1 11) (vp_in i (tE tF a.2.2.2 o).2 ∧ k cs lv (.int (I o i.toNatClampNeg) :: r) a I J Q)
        | _ => False
      | .laload => match st with
        | .int i :: .ref o :: r => ck (cin base a o && Nat.beq (tE tF a.2.2.2 o).1 12) (vp_in i (tE tF a.2.2.2 o).2 ∧ k cs lv (.long (J o i.toNatClampNeg) :: r) a I J Q)
        | _ => False
      | .aaload => match st with
        | .int i :: .ref o :: r => ck (cin base a o && Nat.blt 12 (tE tF a.2.2.2 o).1 && Nat.blt (tE tF a.2.2.2 o).1 16) (vp_in i (tE tF a.2.2.2 o).2 ∧ k cs lv (rv (qE qF Q o i.toNatClampNeg) :: r) a I J Q)
        | _ => False
      | .iastore => match st with
        | .int v :: .int i :: .ref o :: r => ck (cin base a o && Nat.beq (tE tF a.2.2.2 o).1 11) (vp_in i (tE tF a.2.2.2 o).2 ∧ k cs lv r a (up2 I o i.toNatClampNeg v) J Q)
        | _ => False
      | .lastore => match st with
        | .long v :: .int i :: .ref o :: r => ck (cin base a o && Nat.beq (tE tF a.2.2.2 o).1 12) (vp_in i (tE tF a.2.2.2 o).2 ∧ k cs lv r a I (up2 J o i.toNatClampNeg v) Q)
        | _ => False
      | .aastore => match st with
        | .ref v :: .int i :: .ref o :: r => ck (cin base a o && cin base a v && Nat.beq ((tE tF a.2.2.2 v).1 + 7) (tE tF a.2.2.2 o).1 && Nat.blt 5 (tE tF a.2.2.2 v).1 && Nat.blt (tE tF a.2.2.2 v).1 9) (vp_in i (tE tF a.2.2.2 o).2 ∧ (qF o i.toNatClampNeg = none) ∧ k cs lv r a I J (up2 Q o i.toNatClampNeg (some v)))
        | _ => False
      | .arraylength => match st with
        | .ref o :: r => ck (cin base a o && Nat.blt 10 (tE tF a.2.2.2 o).1 && Nat.blt (tE tF a.2.2.2 o).1 16) (k cs lv (.int (Int32.ofNat (tE tF a.2.2.2 o).2) :: r) a I J Q)
        | _ => False
      | .new _ => ck (al && Nat.blt x 11) ((tF a.1 = none ∧ ∀ j, qF a.1 j = none) ∧ rok a.1 lv st ∧ (a.2.1 + 1 ≤ um ∧ a.2.2.1 + (kd x).length ≤ zm) ∧ k cs lv (.ref a.1 :: st) (hnew a (kd x).length (x, 0)) (va_up I a.1 (fun _ => 0)) (va_up J a.1 (fun _ => 0)) (va_up Q a.1 (fun _ => none)))
      | .newarray _ => match st with
        | .int v :: r => ck (al && decide (v.toNatClampNeg = y) && decide (¬ v < 0)) ((tF a.1 = none ∧ ∀ j, qF a.1 j = none) ∧ rok a.1 lv r ∧ (a.2.1 + 1 ≤ um ∧ a.2.2.1 + y ≤ zm) ∧ k cs lv (.ref a.1 :: r) (hnew a y (x, y)) (va_up I a.1 (fun _ => 0)) (va_up J a.1 (fun _ => 0)) (va_up Q a.1 (fun _ => none)))
        | _ => False
      | .anewarray _ => match st with
        | .int v :: r => ck (al && decide (v.toNatClampNeg = y) && decide (¬ v < 0)) ((tF a.1 = none ∧ ∀ j, qF a.1 j = none) ∧ rok a.1 lv r ∧ (a.2.1 + 1 ≤ um ∧ a.2.2.1 + y ≤ zm) ∧ k cs lv (.ref a.1 :: r) (hnew a y (x, y)) (va_up I a.1 (fun _ => 0)) (va_up J a.1 (fun _ => 0)) (va_up Q a.1 (fun _ => none)))
        | _ => False
      | .invokespecial _ => match Nat.beq x 99999 with
        | true => match st with
          | .ref _ :: r => ck (Nat.ble (cat8 r) 8) (k cs lv r a I J Q)
          | _ => False
        | false => match env[x]? with
          | some e => match (st.take e.1).reverse with
            | .ref o :: av => ck ((!e.2.2.1 || al) && Nat.ble e.1 st.length && Nat.ble (cat8 (st.drop e.1)) 8 && (Nat.beq e.2.2.2.1 0 || Nat.ble (a.2.1 + e.2.2.2.1) um) && (Nat.beq e.2.2.2.2.1 0 || Nat.ble (a.2.2.1 + e.2.2.2.2.1) zm)) (ca e.2.2.1 (rok a.1 lv (st.drop e.1)) (e.2.2.2.2.2 (.ref o :: av) a I J Q (fun v a' I' J' Q' => k cs lv (v.toList ++ st.drop e.1) a' I' J' Q')))
            | _ => False
          | none => False
      | .invokestatic _ => match Nat.beq x 99998 with
        | true => match st with
          | .int w :: .int v :: r => ck (Nat.ble (cat8 r) 8) (k cs lv (.int (if v < w then w else v) :: r) a I J Q)
          | _ => False
        | false => match Nat.beq x 99997 with
          | true => match st with
            | .int w :: .int v :: r => ck (Nat.ble (cat8 r) 8) (k cs lv (.int (if w < v then w else v) :: r) a I J Q)
            | _ => False
          | false => match env[x]? with
            | some e => ck ((!e.2.2.1 || al) && Nat.ble e.1 st.length && Nat.ble (cat8 (st.drop e.1)) 8 && (Nat.beq e.2.2.2.1 0 || Nat.ble (a.2.1 + e.2.2.2.1) um) && (Nat.beq e.2.2.2.2.1 0 || Nat.ble (a.2.2.1 + e.2.2.2.2.1) zm)) (ca e.2.2.1 (rok a.1 lv (st.drop e.1)) (e.2.2.2.2.2 (st.take e.1).reverse a I J Q (fun v a' I' J' Q' => k cs lv (v.toList ++ st.drop e.1) a' I' J' Q')))
            | none => False
      | .invokevirtual _ => match env[x]? with
        | some e => match (st.take e.1).reverse with
          | .ref o :: av => ck ((!e.2.2.1 || al) && Nat.ble e.1 st.length && Nat.ble (cat8 (st.drop e.1)) 8 && (Nat.beq e.2.2.2.1 0 || Nat.ble (a.2.1 + e.2.2.2.1) um) && (Nat.beq e.2.2.2.2.1 0 || Nat.ble (a.2.2.1 + e.2.2.2.2.1) zm) && cin base a o && Nat.beq (tE tF a.2.2.2 o).1 e.2.1) (ca e.2.2.1 (rok a.1 lv (st.drop e.1)) (e.2.2.2.2.2 (.ref o :: av) a I J Q (fun v a' I' J' Q' => k cs lv (v.toList ++ st.drop e.1) a' I' J' Q')))
          | _ => False
        | none => False
      | .ireturn => match st with
        | [.int v] => match rz with
          | true => (v = 0 ∨ v = 1) ∧ Rt (some (.int v)) a I J Q
          | false => Rt (some (.int v)) a I J Q
        | _ => False
      | .lreturn => match st with
        | [.long v] => Rt (some (.long v)) a I J Q
        | _ => False
      | .areturn => match st with
        | [.ref v] => Rt (some (.ref v)) a I J Q
        | [.null] => Rt (some .null) a I J Q
        | _ => False
      | .return_ => match st with
        | [] => Rt none a I J Q
        | _ => False
      | _ => False
/-- up to the next of the labels -/
def wpc (tF : hTF) (qF : hQF) (al : Bool) (base um zm : Nat) (env : List ev) (ini rz : Bool) (code : List en) (stops : List Nat) (G : hG) (Rt : hR) : Nat → List en → lL → List Value → hA → hI → hJ → hQ → Prop
  | 0, _, _, _, _, _, _, _ => False
  | n + 1, cs, lv, st, a, I, J, Q => wpx tF qF al base um zm env ini rz code Rt (fun cs' lv' st' a' I' J' Q' => match stops.elem (pcOf cs') with
    | true => match cs' with
      | [] => False
      | _ => G (pcOf cs') lv' st' a' I' J' Q'
    | false => wpc tF qF al base um zm env ini rz code stops G Rt n cs' lv' st' a' I' J' Q') cs lv st a I J Q
