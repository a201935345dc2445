/-! THE ABSTRACT MACHINE: a heap of ints, longs, references and shapes; an instruction as a transformer of predicates -/
/-- ints, longs, references (by cell and place), shapes (tag, length), how many cells -/
abbrev xh : Type := (Nat → Nat → Int32) × (Nat → Nat → Int64) × (Nat → Nat → Option Nat) × (Nat → Nat × Nat) × Nat
def xI (h : xh) : Nat → Nat → Int32 := h.1
def xL (h : xh) : Nat → Nat → Int64 := h.2.1
def xR (h : xh) : Nat → Nat → Option Nat := h.2.2.1
def xS (h : xh) : Nat → Nat × Nat := h.2.2.2.1
def xN (h : xh) : Nat := h.2.2.2.2
def xsI (h : xh) (a i : Nat) (v : Int32) : xh := (va_up h.1 a (va_up (h.1 a) i v), h.2)
def xsL (h : xh) (a i : Nat) (v : Int64) : xh := (h.1, va_up h.2.1 a (va_up (h.2.1 a) i v), h.2.2)
def xsR (h : xh) (a i : Nat) (v : Option Nat) : xh := (h.1, h.2.1, va_up h.2.2.1 a (va_up (h.2.2.1 a) i v), h.2.2.2)
/-- a new cell of a shape, its places 0 and null -/
def xnw (h : xh) (t n : Nat) : xh := (va_up h.1 (xN h) (fun _ => 0), va_up h.2.1 (xN h) (fun _ => 0), va_up h.2.2.1 (xN h) (fun _ => none), va_up h.2.2.2.1 (xN h) (t, n), xN h + 1)
/-- places of one int row into another -/
def xcp (h : xh) (s sp d dp n : Nat) : xh := (va_up h.1 d (va_cpy (h.1 s) (h.1 d) sp dp n), h.2)
/-- instruction, next pc, six numbers, an int, a long, a switch's table -/
abbrev xop : Type := Instr × Nat × Nat × Nat × Nat × Nat × Nat × Nat × Int32 × Int64 × List (Int32 × Nat)
def o0 (i : Instr) (nx : Nat) : xop := (i, nx, 0, 0, 0, 0, 0, 0, 0, 0, [])
def oK (i : Instr) (nx : Nat) (k : Int32) : xop := (i, nx, 0, 0, 0, 0, 0, 0, k, 0, [])
def oL (i : Instr) (nx : Nat) (a : Nat) (k : Int64) : xop := (i, nx, a, 0, 0, 0, 0, 0, 0, k, [])
def oA (i : Instr) (nx a : Nat) : xop := (i, nx, a, 0, 0, 0, 0, 0, 0, 0, [])
def oC (i : Instr) (nx a e : Nat) (k : Int32) : xop := (i, nx, a, 0, 0, e, 0, 0, k, 0, [])
def oF (i : Instr) (nx a b c e : Nat) : xop := (i, nx, a, b, c, e, 0, 0, 0, 0, [])
def oM (i : Instr) (nx a b c e f g : Nat) : xop := (i, nx, a, b, c, e, f, g, 0, 0, [])
def oS (i : Instr) (nx a : Nat) (ts : List (Int32 × Nat)) : xop := (i, nx, a, 0, 0, 0, 0, 0, 0, 0, ts)
def oN : xop := (.nop, 0, 0, 0, 0, 0, 0, 0, 0, 0, [])
/-- the local at a place -/
def xgl : List (Option Value) → Nat → Option Value
  | [], _ => none
  | v :: _, 0 => v
  | _ :: r, n + 1 => xgl r n
/-- is it a long -/
def xlg (v : Option Value) : Bool := match v with
  | some w => Nat.beq w.category 2
  | none => false
/-- a place is written; a long ahead of it goes -/
def xsl : List (Option Value) → Nat → Value → List (Option Value)
  | [], _, _ => []
  | _ :: r, 0, v => some v :: r
  | u :: r, 1, v => (match xlg u with
    | true => none
    | false => u) :: xsl r 0 v
  | u :: r, n + 2, v => u :: xsl r (n + 1) v
/-- a place is emptied -/
def xcl : List (Option Value) → Nat → List (Option Value)
  | [], _ => []
  | _ :: r, 0 => none :: r
  | u :: r, n + 1 => u :: xcl r n
def xsl2 (ls : List (Option Value)) (n : Nat) (v : Value) : List (Option Value) := xcl (xsl ls n v) (n + 1)
/-- n values off the stack, the first of them first -/
def xpop : Nat → List Value → List Value → List Value × List Value
  | 0, acc, st => (acc, st)
  | _ + 1, acc, [] => (acc, [])
  | n + 1, acc, v :: st => xpop n (v :: acc) st
def xcs : List Value → Nat
  | [] => 0
  | v :: r => v.category + xcs r
def xsw (x : Int32) (K : Nat → Prop) : List (Int32 × Nat) → Nat → Prop
  | [], d => K d
  | q :: r, d => (x = q.1 → K q.2) ∧ (¬ x = q.1 → xsw x K r d)
/-- an array of a kind, with that place -/
def xar (h : xh) (a t : Nat) (i : Int32) : Prop := (xS h a).1 = t ∧ vp_in i (xS h a).2
def xci (MC : Nat → List Value → xh → (Option Value → xh → Prop) → Prop) (j : Nat) (as : List Value) (h : xh) (Q : Int32 → xh → Prop) : Prop :=
  MC j as h (fun v h' => match v with
    | some (.int x) => Q x h'
    | _ => False)
def xcj (MC : Nat → List Value → xh → (Option Value → xh → Prop) → Prop) (j : Nat) (as : List Value) (h : xh) (Q : Int64 → xh → Prop) : Prop :=
  MC j as h (fun v h' => match v with
    | some (.long x) => Q x h'
    | _ => False)
def xcv (MC : Nat → List Value → xh → (Option Value → xh → Prop) → Prop) (j : Nat) (as : List Value) (h : xh) (Q : xh → Prop) : Prop :=
  MC j as h (fun v h' => match v with
    | none => Q h'
    | _ => False)
def xcr (MC : Nat → List Value → xh → (Option Value → xh → Prop) → Prop) (j : Nat) (as : List Value) (h : xh) (Q : Option Nat → xh → Prop) : Prop :=
  MC j as h (fun v h' => match v with
    | some (.ref a) => Q (some a) h'
    | some .null => Q none h'
    | _ => False)
/-- a call, by the kind of its answer: 0 int, 1 long, 2 reference, 3 none -/
def xcall (MC : Nat → List Value → xh → (Option Value → xh → Prop) → Prop) (e j : Nat) (as : List Value) (h : xh) (K : List Value → xh → Prop) (r : List Value) : Prop :=
  match e with
  | 0 => xci MC j as h (fun x h' => K (.int x :: r) h')
  | 1 => xcj MC j as h (fun x h' => K (.long x :: r) h')
  | 2 => xcr MC j as h (fun q h' => (∀ a, q = some a → K (.ref a :: r) h') ∧ (q = none → K (.null :: r) h'))
  | _ => xcv MC j as h (fun h' => K r h')
/-- a call with its room -/
def xcm (MC : Nat → List Value → xh → (Option Value → xh → Prop) → Prop) (MK MS e j f g : Nat) (as : List Value) (h : xh) (K : List Value → xh → Nat → Nat → Prop) (kc ks : Nat) (r : List Value) : Prop :=
  match Nat.ble (xcs r) 8 with
  | false => False
  | true => match f with
    | 0 => xcall MC e j as h (fun st h' => K st h' kc ks) r
    | _ + 1 => (kc + f ≤ MK ∧ ks + g ≤ MS) ∧ xcall MC e j as h (fun st h' => K st h' (kc + f) (ks + g)) r
def xnar (e : Nat) (x : Int32) : Prop := match e with
  | 0 => True
  | 1 => x = 0 ∨ x = 1
  | 2 => x.toInt8.toInt32 = x
  | _ => (x.toUInt32 % 65536).toInt32 = x
set_option maxHeartbeats 4000000 in
/-- what must hold ahead of an instruction so that K holds behind it, or Q at the method's end -/
def xF (MC : Nat → List Value → xh → (Option Value → xh → Prop) → Prop) (MK MS : Nat) (Q : Option Value → xh → Prop) (K : Nat → List (Option Value) → List Value → xh → Nat → Nat → Prop) (o : xop) (ls : List (Option Value)) (st : List Value) (h : xh) (kc ks : Nat) : Prop :=
  match o with
  | (i, nx, a, b, c, e, f, g, k, kl, ts) =>
  match i with
  | .iconst _ => K nx ls (.int k :: st) h kc ks
  | .bipush _ => K nx ls (.int k :: st) h kc ks
  | .sipush _ => K nx ls (.int k :: st) h kc ks
  | .ldc_w _ => K nx ls (.int k :: st) h kc ks
  | .ldc _ => (match e with
    | 0 => K nx ls (.int k :: st) h kc ks
    | _ => K nx ls (.ref b :: st) h kc ks)
  | .lconst _ => K nx ls (.long kl :: st) h kc ks
  | .ldc2_w _ => K nx ls (.long kl :: st) h kc ks
  | .aconst_null => K nx ls (.null :: st) h kc ks
  | .iload _ => (match xgl ls a with
    | some (.int x) => K nx ls (.int x :: st) h kc ks
    | _ => False)
  | .iload_n _ => (match xgl ls a with
    | some (.int x) => K nx ls (.int x :: st) h kc ks
    | _ => False)
  | .lload _ => (match xgl ls a with
    | some (.long x) => K nx ls (.long x :: st) h kc ks
    | _ => False)
  | .lload_n _ => (match xgl ls a with
    | some (.long x) => K nx ls (.long x :: st) h kc ks
    | _ => False)
  | .aload _ => (match xgl ls a with
    | some (.ref x) => K nx ls (.ref x :: st) h kc ks
    | some .null => K nx ls (.null :: st) h kc ks
    | _ => False)
  | .aload_n _ => (match xgl ls a with
    | some (.ref x) => K nx ls (.ref x :: st) h kc ks
    | some .null => K nx ls (.null :: st) h kc ks
    | _ => False)
  | .istore _ => (match st with
    | .int x :: r => K nx (xsl ls a (.int x)) r h kc ks
    | _ => False)
  | .istore_n _ => (match st with
    | .int x :: r => K nx (xsl ls a (.int x)) r h kc ks
    | _ => False)
  | .lstore _ => (match st with
    | .long x :: r => K nx (xsl2 ls a (.long x)) r h kc ks
    | _ => False)
  | .lstore_n _ => (match st with
    | .long x :: r => K nx (xsl2 ls a (.long x)) r h kc ks
    | _ => False)
  | .astore _ => (match st with
    | .ref x :: r => K nx (xsl ls a (.ref x)) r h kc ks
    | .null :: r => K nx (xsl ls a .null) r h kc ks
    | _ => False)
  | .astore_n _ => (match st with
    | .ref x :: r => K nx (xsl ls a (.ref x)) r h kc ks
    | .null :: r => K nx (xsl ls a .null) r h kc ks
    | _ => False)
  | .iinc _ _ => (match xgl ls a with
    | some (.int x) => K nx (xsl ls a (.int (x + k))) st h kc ks
    | _ => False)
  | .iadd => (match st with
    | .int y :: .int x :: r => K nx ls (.int (x + y) :: r) h kc ks
    | _ => False)
  | .isub => (match st with
    | .int y :: .int x :: r => K nx ls (.int (x - y) :: r) h kc ks
    | _ => False)
  | .imul => (match st with
    | .int y :: .int x :: r => K nx ls (.int (x * y) :: r) h kc ks
    | _ => False)
  | .idiv => (match st with
    | .int y :: .int x :: r => ¬ y = 0 ∧ K nx ls (.int (x / y) :: r) h kc ks
    | _ => False)
  | .irem => (match st with
    | .int y :: .int x :: r => ¬ y = 0 ∧ K nx ls (.int (x - x / y * y) :: r) h kc ks
    | _ => False)
  | .iand => (match st with
    | .int y :: .int x :: r => K nx ls (.int (x &&& y) :: r) h kc ks
    | _ => False)
  | .ior => (match st with
    | .int y :: .int x :: r => K nx ls (.int (x ||| y) :: r) h kc ks
    | _ => False)
  | .ixor => (match st with
    | .int y :: .int x :: r => K nx ls (.int (x ^^^ y) :: r) h kc ks
    | _ => False)
  | .ishl => (match st with
    | .int y :: .int x :: r => K nx ls (.int (x <<< (y &&& 31)) :: r) h kc ks
    | _ => False)
  | .ishr => (match st with
    | .int y :: .int x :: r => K nx ls (.int (x >>> (y &&& 31)) :: r) h kc ks
    | _ => False)
  | .iushr => (match st with
    | .int y :: .int x :: r => K nx ls (.int (x.toUInt32 >>> (y.toUInt32 &&& Int32.toUInt32 31)).toInt32 :: r) h kc ks
    | _ => False)
  | .ineg => (match st with
    | .int x :: r => K nx ls (.int (-x) :: r) h kc ks
    | _ => False)
  | .ladd => (match st with
    | .long y :: .long x :: r => K nx ls (.long (x + y) :: r) h kc ks
    | _ => False)
  | .lmul => (match st with
    | .long y :: .long x :: r => K nx ls (.long (x * y) :: r) h kc ks
    | _ => False)
  | .ldiv => (match st with
    | .long y :: .long x :: r => ¬ y = 0 ∧ K nx ls (.long (x / y) :: r) h kc ks
    | _ => False)
  | .lrem => (match st with
    | .long y :: .long x :: r => ¬ y = 0 ∧ K nx ls (.long (x - x / y * y) :: r) h kc ks
    | _ => False)
  | .lor => (match st with
    | .long y :: .long x :: r => K nx ls (.long (x ||| y) :: r) h kc ks
    | _ => False)
  | .lshl => (match st with
    | .int y :: .long x :: r => K nx ls (.long (x <<< (y.toInt64 &&& 63)) :: r) h kc ks
    | _ => False)
  | .lcmp => (match st with
    | .long y :: .long x :: r => (x < y → K nx ls (.int (-1) :: r) h kc ks) ∧ (x = y → K nx ls (.int 0 :: r) h kc ks) ∧ (y < x → K nx ls (.int 1 :: r) h kc ks)
    | _ => False)
  | .i2l => (match st with
    | .int x :: r => K nx ls (.long x.toInt64 :: r) h kc ks
    | _ => False)
  | .l2i => (match st with
    | .long x :: r => K nx ls (.int x.toInt32 :: r) h kc ks
    | _ => False)
  | .i2b => (match st with
    | .int x :: r => K nx ls (.int x.toInt8.toInt32 :: r) h kc ks
    | _ => False)
  | .i2c => (match st with
    | .int x :: r => K nx ls (.int (x.toUInt32 % 65536).toInt32 :: r) h kc ks
    | _ => False)
  | .dup => (match st with
    | .int x :: r => K nx ls (.int x :: .int x :: r) h kc ks
    | .ref x :: r => K nx ls (.ref x :: .ref x :: r) h kc ks
    | _ => False)
  | .pop => (match st with
    | .int _ :: r => K nx ls r h kc ks
    | .ref _ :: r => K nx ls r h kc ks
    | _ => False)
  | .dup2 => (match st with
    | .int x :: .ref y :: r => K nx ls (.int x :: .ref y :: .int x :: .ref y :: r) h kc ks
    | _ => False)
  | .goto _ => K a ls st h kc ks
  | .ifCond .eq _ => (match st with
    | .int x :: r => (x = 0 → K a ls r h kc ks) ∧ (¬ x = 0 → K nx ls r h kc ks)
    | _ => False)
  | .ifCond .ne _ => (match st with
    | .int x :: r => (¬ x = 0 → K a ls r h kc ks) ∧ (x = 0 → K nx ls r h kc ks)
    | _ => False)
  | .ifCond .lt _ => (match st with
    | .int x :: r => (x < 0 → K a ls r h kc ks) ∧ (¬ x < 0 → K nx ls r h kc ks)
    | _ => False)
  | .ifCond .ge _ => (match st with
    | .int x :: r => (0 ≤ x → K a ls r h kc ks) ∧ (¬ 0 ≤ x → K nx ls r h kc ks)
    | _ => False)
  | .ifCond .gt _ => (match st with
    | .int x :: r => (0 < x → K a ls r h kc ks) ∧ (¬ 0 < x → K nx ls r h kc ks)
    | _ => False)
  | .ifCond .le _ => (match st with
    | .int x :: r => (x ≤ 0 → K a ls r h kc ks) ∧ (¬ x ≤ 0 → K nx ls r h kc ks)
    | _ => False)
  | .if_icmp .eq _ => (match st with
    | .int y :: .int x :: r => (x = y → K a ls r h kc ks) ∧ (¬ x = y → K nx ls r h kc ks)
    | _ => False)
  | .if_icmp .ne _ => (match st with
    | .int y :: .int x :: r => (¬ x = y → K a ls r h kc ks) ∧ (x = y → K nx ls r h kc ks)
    | _ => False)
  | .if_icmp .lt _ => (match st with
    | .int y :: .int x :: r => (x < y → K a ls r h kc ks) ∧ (¬ x < y → K nx ls r h kc ks)
    | _ => False)
  | .if_icmp .ge _ => (match st with
    | .int y :: .int x :: r => (y ≤ x → K a ls r h kc ks) ∧ (¬ y ≤ x → K nx ls r h kc ks)
    | _ => False)
  | .if_icmp .gt _ => (match st with
    | .int y :: .int x :: r => (y < x → K a ls r h kc ks) ∧ (¬ y < x → K nx ls r h kc ks)
    | _ => False)
  | .if_icmp .le _ => (match st with
    | .int y :: .int x :: r => (x ≤ y → K a ls r h kc ks) ∧ (¬ x ≤ y → K nx ls r h kc ks)
    | _ => False)
  | .if_acmp .ne _ => (match st with
    | .ref y :: .ref x :: r => (64 ≤ x ∧ 64 ≤ y) ∧ (¬ x = y → K a ls r h kc ks) ∧ (x = y → K nx ls r h kc ks)
    | .ref _ :: .null :: r => K a ls r h kc ks
    | _ => False)
  | .ifnonnull _ => (match st with
    | .ref _ :: r => K a ls r h kc ks
    | .null :: r => K nx ls r h kc ks
    | _ => False)
  | .ifnull _ => (match st with
    | .ref _ :: r => K nx ls r h kc ks
    | .null :: r => K a ls r h kc ks
    | _ => False)
  | .tableswitch _ _ _ _ => (match st with
    | .int x :: r => xsw x (fun t => K t ls r h kc ks) ts a
    | _ => False)
  | .arraylength => (match st with
    | .ref q :: r => (20 ≤ (xS h q).1 ∧ (xS h q).1 ≤ 28) ∧ K nx ls (.int (nI (xS h q).2) :: r) h kc ks
    | _ => False)
  | .iaload => (match st with
    | .int i :: .ref q :: r => xar h q 20 i ∧ K nx ls (.int (xI h q i.toNatClampNeg) :: r) h kc ks
    | _ => False)
  | .baload => (match st with
    | .int i :: .ref q :: r => xar h q a i ∧ K nx ls (.int (xI h q i.toNatClampNeg) :: r) h kc ks
    | _ => False)
  | .laload => (match st with
    | .int i :: .ref q :: r => xar h q 22 i ∧ K nx ls (.long (xL h q i.toNatClampNeg) :: r) h kc ks
    | _ => False)
  | .aaload => (match st with
    | .int i :: .ref q :: r => xar h q a i ∧ (∀ v, xR h q i.toNatClampNeg = some v → K nx ls (.ref v :: r) h kc ks) ∧ (xR h q i.toNatClampNeg = none → K nx ls (.null :: r) h kc ks)
    | _ => False)
  | .iastore => (match st with
    | .int v :: .int i :: .ref q :: r => (64 ≤ q ∧ xar h q 20 i) ∧ K nx ls r (xsI h q i.toNatClampNeg v) kc ks
    | _ => False)
  | .bastore => (match st with
    | .int v :: .int i :: .ref q :: r => (64 ≤ q ∧ xar h q a i ∧ xnar b v) ∧ K nx ls r (xsI h q i.toNatClampNeg v) kc ks
    | _ => False)
  | .lastore => (match st with
    | .long v :: .int i :: .ref q :: r => (64 ≤ q ∧ xar h q 22 i) ∧ K nx ls r (xsL h q i.toNatClampNeg v) kc ks
    | _ => False)
  | .aastore => (match st with
    | .ref v :: .int i :: .ref q :: r => (64 ≤ q ∧ xar h q a i ∧ 64 ≤ v ∧ xS h v = (b, 0)) ∧ K nx ls r (xsR h q i.toNatClampNeg (some v)) kc ks
    | _ => False)
  | .newarray _ => (match st with
    | .int n :: r => (¬ n < 0 ∧ kc + 1 ≤ MK ∧ ks + n.toNatClampNeg ≤ MS) ∧ K nx ls (.ref (xN h) :: r) (xnw h a n.toNatClampNeg) (kc + 1) (ks + n.toNatClampNeg)
    | _ => False)
  | .anewarray _ => (match st with
    | .int n :: r => (¬ n < 0 ∧ kc + 1 ≤ MK ∧ ks + n.toNatClampNeg ≤ MS) ∧ K nx ls (.ref (xN h) :: r) (xnw h a n.toNatClampNeg) (kc + 1) (ks + n.toNatClampNeg)
    | _ => False)
  | .new _ => (kc + 1 ≤ MK ∧ ks + b ≤ MS) ∧ K nx ls (.ref (xN h) :: st) (xnw h a 0) (kc + 1) (ks + b)
  | .getfield _ => (match st with
    | .ref q :: r => xS h q = (a, 0) ∧ (match c with
      | 0 => K nx ls (.int (xI h q b) :: r) h kc ks
      | 3 => K nx ls (.long (xL h q b) :: r) h kc ks
      | _ => (∀ v, xR h q b = some v → K nx ls (.ref v :: r) h kc ks) ∧ (xR h q b = none → K nx ls (.null :: r) h kc ks))
    | _ => False)
  | .putfield _ => (match st with
    | .int v :: .ref q :: r => (match c with
      | 0 => (64 ≤ q ∧ xS h q = (a, 0)) ∧ K nx ls r (xsI h q b v) kc ks
      | 1 => ((64 ≤ q ∧ xS h q = (a, 0)) ∧ (v = 0 ∨ v = 1)) ∧ K nx ls r (xsI h q b v) kc ks
      | _ => False)
    | .long v :: .ref q :: r => (match c with
      | 3 => (64 ≤ q ∧ xS h q = (a, 0)) ∧ K nx ls r (xsL h q b v) kc ks
      | _ => False)
    | .ref v :: .ref q :: r => (match c with
      | 2 => (64 ≤ q ∧ xS h q = (a, 0)) ∧ K nx ls r (xsR h q b (some v)) kc ks
      | _ => False)
    | .null :: .ref q :: r => (match c with
      | 2 => (64 ≤ q ∧ xS h q = (a, 0)) ∧ K nx ls r (xsR h q b none) kc ks
      | _ => False)
    | _ => False)
  | .getstatic _ => (match e with
    | 0 => K nx ls (.int k :: st) h kc ks
    | 1 => K nx ls (.ref a :: st) h kc ks
    | _ => K nx ls (.ref a :: st) h kc ks ∧ K nx ls (.null :: st) h kc ks)
  | .invokestatic _ => (match c with
    | 9 => (match st with
      | .int n :: .int dp :: .ref d :: .int sp :: .ref s :: r => (match Nat.ble (xcs r) 8 with
        | false => False
        | true => ((64 ≤ d ∧ 64 ≤ s) ∧ ((xS h s).1 = a ∧ (xS h d).1 = a) ∧ (¬ n < 0 ∧ ¬ sp < 0 ∧ ¬ dp < 0) ∧ sp.toNatClampNeg + n.toNatClampNeg ≤ (xS h s).2 ∧ dp.toNatClampNeg + n.toNatClampNeg ≤ (xS h d).2) ∧ K nx ls r (xcp h s sp.toNatClampNeg d dp.toNatClampNeg n.toNatClampNeg) kc ks)
      | _ => False)
    | _ => (match Nat.beq (xpop b [] st).1.length b with
      | false => False
      | true => xcm MC MK MS e a f g (xpop b [] st).1 h (fun st h kc ks => K nx ls st h kc ks) kc ks (xpop b [] st).2))
  | .invokevirtual _ => (match xpop b [] st with
    | (as, .ref q :: r) => xS h q = (c, 0) ∧ xcm MC MK MS e a f g (.ref q :: as) h (fun st h kc ks => K nx ls st h kc ks) kc ks r
    | _ => False)
  | .invokespecial _ => (match xpop b [] st with
    | (as, .ref q :: r) => (match e with
      | 9 => (match Nat.ble (xcs r) 8 with
        | false => False
        | true => K nx ls r h kc ks)
      | _ => xS h q = (c, 0) ∧ xcm MC MK MS e a f g (.ref q :: as) h (fun st h kc ks => K nx ls st h kc ks) kc ks r)
    | _ => False)
  | .ireturn => (match st with
    | .int x :: [] => (match e with
      | 0 => Q (some (.int x)) h
      | _ => xnar e x ∧ Q (some (.int x)) h)
    | _ => False)
  | .lreturn => (match st with
    | .long x :: [] => Q (some (.long x)) h
    | _ => False)
  | .areturn => (match st with
    | .ref x :: [] => Q (some (.ref x)) h
    | .null :: [] => Q (some .null) h
    | _ => False)
  | .return_ => (match st with
    | [] => Q none h
    | _ => False)
  | _ => False
/-- the instruction at a pc: rows of 32 -/
def xat1 : List xop → Nat → xop
  | [], _ => oN
  | o :: _, 0 => o
  | _ :: r, n + 1 => xat1 r n
def xat2 : List (List xop) → Nat → Nat → xop
  | [], _, _ => oN
  | o :: _, 0, k => xat1 o k
  | _ :: r, n + 1, k => xat2 r n k
def xat (cd : List (List xop)) (pc : Nat) : xop := xat2 cd (pc / 32) (pc % 32)
/-- a state from which the method comes to its end with Q -/
def xW (MC : Nat → List Value → xh → (Option Value → xh → Prop) → Prop) (cd : List (List xop)) (MK MS : Nat) (Q : Option Value → xh → Prop) (pc : Nat) (ls : List (Option Value)) (st : List Value) (h : xh) (kc ks : Nat) : Prop :=
  ∀ K : Nat → List (Option Value) → List Value → xh → Nat → Nat → Prop, (∀ pc ls st h kc ks, xF MC MK MS Q K (xat cd pc) ls st h kc ks → K pc ls st h kc ks) → K pc ls st h kc ks
/-- n instructions, then P -/
def xFn (MC : Nat → List Value → xh → (Option Value → xh → Prop) → Prop) (cd : List (List xop)) (MK MS : Nat) (Q : Option Value → xh → Prop) (P : Nat → List (Option Value) → List Value → xh → Nat → Nat → Prop) (n : Nat) : Nat → List (Option Value) → List Value → xh → Nat → Nat → Prop :=
  Nat.rec P (fun _ ih => fun pc ls st h kc ks => xF MC MK MS Q ih (xat cd pc) ls st h kc ks) n
