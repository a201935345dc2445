section
/-! THE ABSTRACT MACHINE: a heap of ints, longs, references and shapes; an instruction as a transformer of predicates -/
/-- ints, longs, references (by cell and place), shapes (tag, length), how many cells -/
abbrev xh : Type := (Nat → Nat → Int32) × (Nat → Nat → Int64) × (Nat → Nat → Option Nat) × (Nat → Nat × Nat) × Nat
def xI (h : xh) : Nat → Nat → Int32 := h.1
def xL (h : xh) : Nat → Nat → Int64 := h.2.1
def xR (h : xh) : Nat → Nat → Option Nat := h.2.2.1
def xS (h : xh) : Nat → Nat × Nat := h.2.2.2.1
def xN (h : xh) : Nat := h.2.2.2.2
def xsI (h : xh) (a i : Nat) (v : Int32) : xh := (va_up h.1 a (va_up (h.1 a) i v), h.2)
def xsL (h : xh) (a i : Nat) (v : Int64) : xh := (h.1, va_up h.2.1 a (va_up (h.2.1 a) i v), h.2.2)
def xsR (h : xh) (a i : Nat) (v : Option Nat) : xh := (h.1, h.2.1, va_up h.2.2.1 a (va_up (h.2.2.1 a) i v), h.2.2.2)
/-- a new cell of a shape, its places 0 and null -/
def xnw (h : xh) (t n : Nat) : xh := (va_up h.1 (xN h) (fun _ => 0), va_up h.2.1 (xN h) (fun _ => 0), va_up h.2.2.1 (xN h) (fun _ => none), va_up h.2.2.2.1 (xN h) (t, n), xN h + 1)
/-- places of one int row into another -/
def xcp (h : xh) (s sp d dp n : Nat) : xh := (va_up h.1 d (va_cpy (h.1 s) (h.1 d) sp dp n), h.2)
/-- instruction, next pc, six numbers, an int, a long, a switch's table -/
abbrev xop : Type := Instr × Nat × Nat × Nat × Nat × Nat × Nat × Nat × Int32 × Int64 × List (Int32 × Nat)
def o0 (i : Instr) (nx : Nat) : xop := (i, nx, 0, 0, 0, 0, 0, 0, 0, 0, [])
def oK (i : Instr) (nx : Nat) (k : Int32) : xop := (i, nx, 0, 0, 0, 0, 0, 0, k, 0, [])
def oL (i : Instr) (nx : Nat) (a : Nat) (k : Int64) : xop := (i, nx, a, 0, 0, 0, 0, 0, 0, k, [])
def oA (i : Instr) (nx a : Nat) : xop := (i, nx, a, 0, 0, 0, 0, 0, 0, 0, [])
def oC (i : Instr) (nx a e : Nat) (k : Int32) : xop := (i, nx, a, 0, 0, e, 0, 0, k, 0, [])
def oF (i : Instr) (nx a b c e : Nat) : xop := (i, nx, a, b, c, e, 0, 0, 0, 0, [])
def oM (i : Instr) (nx a b c e f g : Nat) : xop := (i, nx, a, b, c, e, f, g, 0, 0, [])
def oS (i : Instr) (nx a : Nat) (ts : List (Int32 × Nat)) : xop := (i, nx, a, 0, 0, 0, 0, 0, 0, 0, ts)
def oN : xop := (.nop, 0, 0, 0, 0, 0, 0, 0, 0, 0, [])
/-- the local at a place -/
def xgl : List (Option Value) → Nat → Option Value
  | [], _ => none
  | v :: _, 0 => v
  | _ :: r, n + 1 => xgl r n
/-- is it a long -/
def xlg (v : Option Value) : Bool := match v with
  | some w => Nat.beq w.category 2
  | none => false
/-- a place is written; a long ahead of it goes -/
def xsl : List (Option Value) → Nat → Value → List (Option Value)
  | [], _, _ => []
  | _ :: r, 0, v => some v :: r
  | u :: r, 1, v => (match xlg u with
    | true => none
    | false => u) :: xsl r 0 v
  | u :: r, n + 2, v => u :: xsl r (n + 1) v
/-- a place is emptied -/
def xcl : List (Option Value) → Nat → List (Option Value)
  | [], _ => []
  | _ :: r, 0 => none :: r
  | u :: r, n + 1 => u :: xcl r n
def xsl2 (ls : List (Option Value)) (n : Nat) (v : Value) : List (Option Value) := xcl (xsl ls n v) (n + 1)
/-- n values off the stack, the first of them first -/
def xpop : Nat → List Value → List Value → List Value × List Value
  | 0, acc, st => (acc, st)
  | _ + 1, acc, [] => (acc, [])
  | n + 1, acc, v :: st => xpop n (v :: acc) st
def xcs : List Value → Nat
  | [] => 0
  | v :: r => v.category + xcs r
def xsw (x : Int32) (K : Nat → Prop) : List (Int32 × Nat) → Nat → Prop
  | [], d => K d
  | q :: r, d => (x = q.1 → K q.2) ∧ (¬ x = q.1 → xsw x K r d)
/-- an array of a kind, with that place -/
def xar (h : xh) (a t : Nat) (i : Int32) : Prop := (xS h a).1 = t ∧ vp_in i (xS h a).2
def xci (MC : Nat → List Value → xh → (Option Value → xh → Prop) → Prop) (j : Nat) (as : List Value) (h : xh) (Q : Int32 → xh → Prop) : Prop :=
  MC j as h (fun v h' => match v with
    | some (.int x) => Q x h'
    | _ => False)
def xcj (MC : Nat → List Value → xh → (Option Value → xh → Prop) → Prop) (j : Nat) (as : List Value) (h : xh) (Q : Int64 → xh → Prop) : Prop :=
  MC j as h (fun v h' => match v with
    | some (.long x) => Q x h'
    | _ => False)
def xcv (MC : Nat → List Value → xh → (Option Value → xh → Prop) → Prop) (j : Nat) (as : List Value) (h : xh) (Q : xh → Prop) : Prop :=
  MC j as h (fun v h' => match v with
    | none => Q h'
    | _ => False)
def xcr (MC : Nat → List Value → xh → (Option Value → xh → Prop) → Prop) (j : Nat) (as : List Value) (h : xh) (Q : Option Nat → xh → Prop) : Prop :=
  MC j as h (fun v h' => match v with
    | some (.ref a) => Q (some a) h'
    | some .null => Q none h'
    | _ => False)
/-- a call, by the kind of its answer: 0 int, 1 long, 2 reference, 3 none -/
def xcall (MC : Nat → List Value → xh → (Option Value → xh → Prop) → Prop) (e j : Nat) (as : List Value) (h : xh) (K : List Value → xh → Prop) (r : List Value) : Prop :=
  match e with
  | 0 => xci MC j as h (fun x h' => K (.int x :: r) h')
  | 1 => xcj MC j as h (fun x h' => K (.long x :: r) h')
  | 2 => xcr MC j as h (fun q h' => (∀ a, q = some a → K (.ref a :: r) h') ∧ (q = none → K (.null :: r) h'))
  | _ => xcv MC j as h (fun h' => K r h')
/-- a call with its room -/
def xcm (MC : Nat → List Value → xh → (Option Value → xh → Prop) → Prop) (MK MS e j f g : Nat) (as : List Value) (h : xh) (K : List Value → xh → Nat → Nat → Prop) (kc ks : Nat) (r : List Value) : Prop :=
  match Nat.ble (xcs r) 8 with
  | false => False
  | true => match f with
    | 0 => xcall MC e j as h (fun st h' => K st h' kc ks) r
    | _ + 1 => (kc + f ≤ MK ∧ ks + g ≤ MS) ∧ xcall MC e j as h (fun st h' => K st h' (kc + f) (ks + g)) r
def xnar (e : Nat) (x : Int32) : Prop := match e with
  | 0 => True
  | 1 => x = 0 ∨ x = 1
  | 2 => x.toInt8.toInt32 = x
  | _ => (x.toUInt32 % 65536).toInt32 = x
set_option maxHeartbeats 4000000 in
/-- what must hold ahead of an instruction so that K holds behind it, or Q at the method's end -/
def xF (MC : Nat → List Value → xh → (Option Value → xh → Prop) → Prop) (MK MS : Nat) (Q : Option Value → xh → Prop) (K : Nat → List (Option Value) → List Value → xh → Nat → Nat → Prop) (o : xop) (ls : List (Option Value)) (st : List Value) (h : xh) (kc ks : Nat) : Prop :=
  match o with
  | (i, nx, a, b, c, e, f, g, k, kl, ts) =>
  match i with
  | .iconst _ => K nx ls (.int k :: st) h kc ks
  | .bipush _ => K nx ls (.int k :: st) h kc ks
  | .sipush _ => K nx ls (.int k :: st) h kc ks
  | .ldc_w _ => K nx ls (.int k :: st) h kc ks
  | .ldc _ => (match e with
    | 0 => K nx ls (.int k :: st) h kc ks
    | _ => K nx ls (.ref b :: st) h kc ks)
  | .lconst _ => K nx ls (.long kl :: st) h kc ks
  | .ldc2_w _ => K nx ls (.long kl :: st) h kc ks
  | .aconst_null => K nx ls (.null :: st) h kc ks
  | .iload _ => (match xgl ls a with
    | some (.int x) => K nx ls (.int x :: st) h kc ks
    | _ => False)
  | .iload_n _ => (match xgl ls a with
    | some (.int x) => K nx ls (.int x :: st) h kc ks
    | _ => False)
  | .lload _ => (match xgl ls a with
    | some (.long x) => K nx ls (.long x :: st) h kc ks
    | _ => False)
  | .lload_n _ => (match xgl ls a with
    | some (.long x) => K nx ls (.long x :: st) h kc ks
    | _ => False)
  | .aload _ => (match xgl ls a with
    | some (.ref x) => K nx ls (.ref x :: st) h kc ks
    | some .null => K nx ls (.null :: st) h kc ks
    | _ => False)
  | .aload_n _ => (match xgl ls a with
    | some (.ref x) => K nx ls (.ref x :: st) h kc ks
    | some .null => K nx ls (.null :: st) h kc ks
    | _ => False)
  | .istore _ => (match st with
    | .int x :: r => K nx (xsl ls a (.int x)) r h kc ks
    | _ => False)
  | .istore_n _ => (match st with
    | .int x :: r => K nx (xsl ls a (.int x)) r h kc ks
    | _ => False)
  | .lstore _ => (match st with
    | .long x :: r => K nx (xsl2 ls a (.long x)) r h kc ks
    | _ => False)
  | .lstore_n _ => (match st with
    | .long x :: r => K nx (xsl2 ls a (.long x)) r h kc ks
    | _ => False)
  | .astore _ => (match st with
    | .ref x :: r => K nx (xsl ls a (.ref x)) r h kc ks
    | .null :: r => K nx (xsl ls a .null) r h kc ks
    | _ => False)
  | .astore_n _ => (match st with
    | .ref x :: r => K nx (xsl ls a (.ref x)) r h kc ks
    | .null :: r => K nx (xsl ls a .null) r h kc ks
    | _ => False)
  | .iinc _ _ => (match xgl ls a with
    | some (.int x) => K nx (xsl ls a (.int (x + k))) st h kc ks
    | _ => False)
  | .iadd => (match st with
    | .int y :: .int x :: r => K nx ls (.int (x + y) :: r) h kc ks
    | _ => False)
  | .isub => (match st with
    | .int y :: .int x :: r => K nx ls (.int (x - y) :: r) h kc ks
    | _ => False)
  | .imul => (match st with
    | .int y :: .int x :: r => K nx ls (.int (x * y) :: r) h kc ks
    | _ => False)
  | .idiv => (match st with
    | .int y :: .int x :: r => ¬ y = 0 ∧ K nx ls (.int (x / y) :: r) h kc ks
    | _ => False)
  | .irem => (match st with
    | .int y :: .int x :: r => ¬ y = 0 ∧ K nx ls (.int (x - x / y * y) :: r) h kc ks
    | _ => False)
  | .iand => (match st with
    | .int y :: .int x :: r => K nx ls (.int (x &&& y) :: r) h kc ks
    | _ => False)
  | .ior => (match st with
    | .int y :: .int x :: r => K nx ls (.int (x ||| y) :: r) h kc ks
    | _ => False)
  | .ixor => (match st with
    | .int y :: .int x :: r => K nx ls (.int (x ^^^ y) :: r) h kc ks
    | _ => False)
  | .ishl => (match st with
    | .int y :: .int x :: r => K nx ls (.int (x <<< (y &&& 31)) :: r) h kc ks
    | _ => False)
  | .ishr => (match st with
    | .int y :: .int x :: r => K nx ls (.int (x >>> (y &&& 31)) :: r) h kc ks
    | _ => False)
  | .iushr => (match st with
    | .int y :: .int x :: r => K nx ls (.int (x.toUInt32 >>> (y.toUInt32 &&& Int32.toUInt32 31)).toInt32 :: r) h kc ks
    | _ => False)
  | .ineg => (match st with
    | .int x :: r => K nx ls (.int (-x) :: r) h kc ks
    | _ => False)
  | .ladd => (match st with
    | .long y :: .long x :: r => K nx ls (.long (x + y) :: r) h kc ks
    | _ => False)
  | .lmul => (match st with
    | .long y :: .long x :: r => K nx ls (.long (x * y) :: r) h kc ks
    | _ => False)
  | .ldiv => (match st with
    | .long y :: .long x :: r => ¬ y = 0 ∧ K nx ls (.long (x / y) :: r) h kc ks
    | _ => False)
  | .lrem => (match st with
    | .long y :: .long x :: r => ¬ y = 0 ∧ K nx ls (.long (x - x / y * y) :: r) h kc ks
    | _ => False)
  | .lor => (match st with
    | .long y :: .long x :: r => K nx ls (.long (x ||| y) :: r) h kc ks
    | _ => False)
  | .lshl => (match st with
    | .int y :: .long x :: r => K nx ls (.long (x <<< (y.toInt64 &&& 63)) :: r) h kc ks
    | _ => False)
  | .lcmp => (match st with
    | .long y :: .long x :: r => (x < y → K nx ls (.int (-1) :: r) h kc ks) ∧ (x = y → K nx ls (.int 0 :: r) h kc ks) ∧ (y < x → K nx ls (.int 1 :: r) h kc ks)
    | _ => False)
  | .i2l => (match st with
    | .int x :: r => K nx ls (.long x.toInt64 :: r) h kc ks
    | _ => False)
  | .l2i => (match st with
    | .long x :: r => K nx ls (.int x.toInt32 :: r) h kc ks
    | _ => False)
  | .i2b => (match st with
    | .int x :: r => K nx ls (.int x.toInt8.toInt32 :: r) h kc ks
    | _ => False)
  | .i2c => (match st with
    | .int x :: r => K nx ls (.int (x.toUInt32 % 65536).toInt32 :: r) h kc ks
    | _ => False)
  | .dup => (match st with
    | .int x :: r => K nx ls (.int x :: .int x :: r) h kc ks
    | .ref x :: r => K nx ls (.ref x :: .ref x :: r) h kc ks
    | _ => False)
  | .pop => (match st with
    | .int _ :: r => K nx ls r h kc ks
    | .ref _ :: r => K nx ls r h kc ks
    | _ => False)
  | .dup2 => (match st with
    | .int x :: .ref y :: r => K nx ls (.int x :: .ref y :: .int x :: .ref y :: r) h kc ks
    | _ => False)
  | .goto _ => K a ls st h kc ks
  | .ifCond .eq _ => (match st with
    | .int x :: r => (x = 0 → K a ls r h kc ks) ∧ (¬ x = 0 → K nx ls r h kc ks)
    | _ => False)
  | .ifCond .ne _ => (match st with
    | .int x :: r => (¬ x = 0 → K a ls r h kc ks) ∧ (x = 0 → K nx ls r h kc ks)
    | _ => False)
  | .ifCond .lt _ => (match st with
    | .int x :: r => (x < 0 → K a ls r h kc ks) ∧ (¬ x < 0 → K nx ls r h kc ks)
    | _ => False)
  | .ifCond .ge _ => (match st with
    | .int x :: r => (0 ≤ x → K a ls r h kc ks) ∧ (¬ 0 ≤ x → K nx ls r h kc ks)
    | _ => False)
  | .ifCond .gt _ => (match st with
    | .int x :: r => (0 < x → K a ls r h kc ks) ∧ (¬ 0 < x → K nx ls r h kc ks)
    | _ => False)
  | .ifCond .le _ => (match st with
    | .int x :: r => (x ≤ 0 → K a ls r h kc ks) ∧ (¬ x ≤ 0 → K nx ls r h kc ks)
    | _ => False)
  | .if_icmp .eq _ => (match st with
    | .int y :: .int x :: r => (x = y → K a ls r h kc ks) ∧ (¬ x = y → K nx ls r h kc ks)
    | _ => False)
  | .if_icmp .ne _ => (match st with
    | .int y :: .int x :: r => (¬ x = y → K a ls r h kc ks) ∧ (x = y → K nx ls r h kc ks)
    | _ => False)
  | .if_icmp .lt _ => (match st with
    | .int y :: .int x :: r => (x < y → K a ls r h kc ks) ∧ (¬ x < y → K nx ls r h kc ks)
    | _ => False)
  | .if_icmp .ge _ => (match st with
    | .int y :: .int x :: r => (y ≤ x → K a ls r h kc ks) ∧ (¬ y ≤ x → K nx ls r h kc ks)
    | _ => False)
  | .if_icmp .gt _ => (match st with
    | .int y :: .int x :: r => (y < x → K a ls r h kc ks) ∧ (¬ y < x → K nx ls r h kc ks)
    | _ => False)
  | .if_icmp .le _ => (match st with
    | .int y :: .int x :: r => (x ≤ y → K a ls r h kc ks) ∧ (¬ x ≤ y → K nx ls r h kc ks)
    | _ => False)
  | .if_acmp .ne _ => (match st with
    | .ref y :: .ref x :: r => (64 ≤ x ∧ 64 ≤ y) ∧ (¬ x = y → K a ls r h kc ks) ∧ (x = y → K nx ls r h kc ks)
    | .ref _ :: .null :: r => K a ls r h kc ks
    | _ => False)
  | .ifnonnull _ => (match st with
    | .ref _ :: r => K a ls r h kc ks
    | .null :: r => K nx ls r h kc ks
    | _ => False)
  | .ifnull _ => (match st with
    | .ref _ :: r => K nx ls r h kc ks
    | .null :: r => K a ls r h kc ks
    | _ => False)
  | .tableswitch _ _ _ _ => (match st with
    | .int x :: r => xsw x (fun t => K t ls r h kc ks) ts a
    | _ => False)
  | .arraylength => (match st with
    | .ref q :: r => (20 ≤ (xS h q).1 ∧ (xS h q).1 ≤ 28) ∧ K nx ls (.int (nI (xS h q).2) :: r) h kc ks
    | _ => False)
  | .iaload => (match st with
    | .int i :: .ref q :: r => xar h q 20 i ∧ K nx ls (.int (xI h q i.toNatClampNeg) :: r) h kc ks
    | _ => False)
  | .baload => (match st with
    | .int i :: .ref q :: r => xar h q a i ∧ K nx ls (.int (xI h q i.toNatClampNeg) :: r) h kc ks
    | _ => False)
  | .laload => (match st with
    | .int i :: .ref q :: r => xar h q 22 i ∧ K nx ls (.long (xL h q i.toNatClampNeg) :: r) h kc ks
    | _ => False)
  | .aaload => (match st with
    | .int i :: .ref q :: r => xar h q a i ∧ (∀ v, xR h q i.toNatClampNeg = some v → K nx ls (.ref v :: r) h kc ks) ∧ (xR h q i.toNatClampNeg = none → K nx ls (.null :: r) h kc ks)
    | _ => False)
  | .iastore => (match st with
    | .int v :: .int i :: .ref q :: r => (64 ≤ q ∧ xar h q 20 i) ∧ K nx ls r (xsI h q i.toNatClampNeg v) kc ks
    | _ => False)
  | .bastore => (match st with
    | .int v :: .int i :: .ref q :: r => (64 ≤ q ∧ xar h q a i ∧ xnar b v) ∧ K nx ls r (xsI h q i.toNatClampNeg v) kc ks
    | _ => False)
  | .lastore => (match st with
    | .long v :: .int i :: .ref q :: r => (64 ≤ q ∧ xar h q 22 i) ∧ K nx ls r (xsL h q i.toNatClampNeg v) kc ks
    | _ => False)
  | .aastore => (match st with
    | .ref v :: .int i :: .ref q :: r => (64 ≤ q ∧ xar h q a i ∧ 64 ≤ v ∧ xS h v = (b, 0)) ∧ K nx ls r (xsR h q i.toNatClampNeg (some v)) kc ks
    | _ => False)
  | .newarray _ => (match st with
    | .int n :: r => (¬ n < 0 ∧ kc + 1 ≤ MK ∧ ks + n.toNatClampNeg ≤ MS) ∧ K nx ls (.ref (xN h) :: r) (xnw h a n.toNatClampNeg) (kc + 1) (ks + n.toNatClampNeg)
    | _ => False)
  | .anewarray _ => (match st with
    | .int n :: r => (¬ n < 0 ∧ kc + 1 ≤ MK ∧ ks + n.toNatClampNeg ≤ MS) ∧ K nx ls (.ref (xN h) :: r) (xnw h a n.toNatClampNeg) (kc + 1) (ks + n.toNatClampNeg)
    | _ => False)
  | .new _ => (kc + 1 ≤ MK ∧ ks + b ≤ MS) ∧ K nx ls (.ref (xN h) :: st) (xnw h a 0) (kc + 1) (ks + b)
  | .getfield _ => (match st with
    | .ref q :: r => xS h q = (a, 0) ∧ (match c with
      | 0 => K nx ls (.int (xI h q b) :: r) h kc ks
      | 3 => K nx ls (.long (xL h q b) :: r) h kc ks
      | _ => (∀ v, xR h q b = some v → K nx ls (.ref v :: r) h kc ks) ∧ (xR h q b = none → K nx ls (.null :: r) h kc ks))
    | _ => False)
  | .putfield _ => (match st with
    | .int v :: .ref q :: r => (match c with
      | 0 => (64 ≤ q ∧ xS h q = (a, 0)) ∧ K nx ls r (xsI h q b v) kc ks
      | 1 => ((64 ≤ q ∧ xS h q = (a, 0)) ∧ (v = 0 ∨ v = 1)) ∧ K nx ls r (xsI h q b v) kc ks
      | _ => False)
    | .long v :: .ref q :: r => (match c with
      | 3 => (64 ≤ q ∧ xS h q = (a, 0)) ∧ K nx ls r (xsL h q b v) kc ks
      | _ => False)
    | .ref v :: .ref q :: r => (match c with
      | 2 => (64 ≤ q ∧ xS h q = (a, 0)) ∧ K nx ls r (xsR h q b (some v)) kc ks
      | _ => False)
    | .null :: .ref q :: r => (match c with
      | 2 => (64 ≤ q ∧ xS h q = (a, 0)) ∧ K nx ls r (xsR h q b none) kc ks
      | _ => False)
    | _ => False)
  | .getstatic _ => (match e with
    | 0 => K nx ls (.int k :: st) h kc ks
    | 1 => K nx ls (.ref a :: st) h kc ks
    | _ => K nx ls (.ref a :: st) h kc ks ∧ K nx ls (.null :: st) h kc ks)
  | .invokestatic _ => (match c with
    | 9 => (match st with
      | .int n :: .int dp :: .ref d :: .int sp :: .ref s :: r => (match Nat.ble (xcs r) 8 with
        | false => False
        | true => ((64 ≤ d ∧ 64 ≤ s) ∧ ((xS h s).1 = a ∧ (xS h d).1 = a) ∧ (¬ n < 0 ∧ ¬ sp < 0 ∧ ¬ dp < 0) ∧ sp.toNatClampNeg + n.toNatClampNeg ≤ (xS h s).2 ∧ dp.toNatClampNeg + n.toNatClampNeg ≤ (xS h d).2) ∧ K nx ls r (xcp h s sp.toNatClampNeg d dp.toNatClampNeg n.toNatClampNeg) kc ks)
      | _ => False)
    | _ => (match Nat.beq (xpop b [] st).1.length b with
      | false => False
      | true => xcm MC MK MS e a f g (xpop b [] st).1 h (fun st h kc ks => K nx ls st h kc ks) kc ks (xpop b [] st).2))
  | .invokevirtual _ => (match xpop b [] st with
    | (as, .ref q :: r) => xS h q = (c, 0) ∧ xcm MC MK MS e a f g (.ref q :: as) h (fun st h kc ks => K nx ls st h kc ks) kc ks r
    | _ => False)
  | .invokespecial _ => (match xpop b [] st with
    | (as, .ref q :: r) => (match e with
      | 9 => (match Nat.ble (xcs r) 8 with
        | false => False
        | true => K nx ls r h kc ks)
      | _ => xS h q = (c, 0) ∧ xcm MC MK MS e a f g (.ref q :: as) h (fun st h kc ks => K nx ls st h kc ks) kc ks r)
    | _ => False)
  | .ireturn => (match st with
    | .int x :: [] => (match e with
      | 0 => Q (some (.int x)) h
      | _ => xnar e x ∧ Q (some (.int x)) h)
    | _ => False)
  | .lreturn => (match st with
    | .long x :: [] => Q (some (.long x)) h
    | _ => False)
  | .areturn => (match st with
    | .ref x :: [] => Q (some (.ref x)) h
    | .null :: [] => Q (some .null) h
    | _ => False)
  | .return_ => (match st with
    | [] => Q none h
    | _ => False)
  | _ => False
/-- the instruction at a pc: rows of 32 -/
def xat1 : List xop → Nat → xop
  | [], _ => oN
  | o :: _, 0 => o
  | _ :: r, n + 1 => xat1 r n
def xat2 : List (List xop) → Nat → Nat → xop
  | [], _, _ => oN
  | o :: _, 0, k => xat1 o k
  | _ :: r, n + 1, k => xat2 r n k
def xat (cd : List (List xop)) (pc : Nat) : xop := xat2 cd (pc / 32) (pc % 32)
/-- a state from which the method comes to its end with Q -/
def xW (MC : Nat → List Value → xh → (Option Value → xh → Prop) → Prop) (cd : List (List xop)) (MK MS : Nat) (Q : Option Value → xh → Prop) (pc : Nat) (ls : List (Option Value)) (st : List Value) (h : xh) (kc ks : Nat) : Prop :=
  ∀ K : Nat → List (Option Value) → List Value → xh → Nat → Nat → Prop, (∀ pc ls st h kc ks, xF MC MK MS Q K (xat cd pc) ls st h kc ks → K pc ls st h kc ks) → K pc ls st h kc ks
/-- n instructions, then P -/
def xFn (MC : Nat → List Value → xh → (Option Value → xh → Prop) → Prop) (cd : List (List xop)) (MK MS : Nat) (Q : Option Value → xh → Prop) (P : Nat → List (Option Value) → List Value → xh → Nat → Nat → Prop) (n : Nat) : Nat → List (Option Value) → List Value → xh → Nat → Nat → Prop :=
  Nat.rec P (fun _ ih => fun pc ls st h kc ks => xF MC MK MS Q ih (xat cd pc) ls st h kc ks) n
end
section
/-! the transformer is monotone; a state that n instructions bring to good states is good -/
def xMono (MC : Nat → List Value → xh → (Option Value → xh → Prop) → Prop) : Prop := ∀ j as h (Q Q' : Option Value → xh → Prop), (∀ v h', Q v h' → Q' v h') → MC j as h Q → MC j as h Q'
theorem xcall_mono {MC : Nat → List Value → xh → (Option Value → xh → Prop) → Prop} (hM : xMono MC) {e j : Nat} {as : List Value} {h : xh} {K K' : List Value → xh → Prop} (hK : ∀ st h', K st h' → K' st h') {r : List Value} (hc : xcall MC e j as h K r) : xcall MC e j as h K' r := by
  unfold xcall at hc ⊢
  split at hc
  · exact hM _ _ _ _ _ (fun v h' q => by
      cases v with
      | none => exact q
      | some v => cases v <;> first | exact hK _ _ q | exact q) hc
  · exact hM _ _ _ _ _ (fun v h' q => by
      cases v with
      | none => exact q
      | some v => cases v <;> first | exact hK _ _ q | exact q) hc
  · exact hM _ _ _ _ _ (fun v h' q => by
      cases v with
      | none => exact q
      | some v => cases v <;> first | exact ⟨fun a ha => hK _ _ (q.1 a ha), fun ha => hK _ _ (q.2 ha)⟩ | exact q) hc
  · exact hM _ _ _ _ _ (fun v h' q => by
      cases v with
      | none => exact hK _ _ q
      | some v => exact q) hc
theorem xcm_mono {MC : Nat → List Value → xh → (Option Value → xh → Prop) → Prop} (hM : xMono MC) {MK MS e j f g : Nat} {as : List Value} {h : xh} {K K' : List Value → xh → Nat → Nat → Prop} (hK : ∀ st h' kc ks, K st h' kc ks → K' st h' kc ks) {kc ks : Nat} {r : List Value} (hc : xcm MC MK MS e j f g as h K kc ks r) : xcm MC MK MS e j f g as h K' kc ks r := by
  unfold xcm at hc ⊢
  split at hc
  · exact hc
  · split at hc
    · exact xcall_mono hM (fun st h' q => hK _ _ _ _ q) hc
    · exact ⟨hc.1, xcall_mono hM (fun st h' q => hK _ _ _ _ q) hc.2⟩
theorem xsw_mono {x : Int32} {K K' : Nat → Prop} (hK : ∀ t, K t → K' t) : ∀ (ts : List (Int32 × Nat)) (d : Nat), xsw x K ts d → xsw x K' ts d
  | [], d, h => hK _ h
  | _ :: r, d, h => ⟨fun q => hK _ (h.1 q), fun q => xsw_mono hK r d (h.2 q)⟩
set_option maxHeartbeats 16000000 in
set_option maxRecDepth 100000 in
theorem xF_mono {MC : Nat → List Value → xh → (Option Value → xh → Prop) → Prop} (hM : xMono MC) {MK MS : Nat} {Q Q' : Option Value → xh → Prop} (hQ : ∀ v h', Q v h' → Q' v h') {K K' : Nat → List (Option Value) → List Value → xh → Nat → Nat → Prop} (hK : ∀ pc ls st h kc ks, K pc ls st h kc ks → K' pc ls st h kc ks) {o : xop} {ls : List (Option Value)} {st : List Value} {h : xh} {kc ks : Nat} (hF : xF MC MK MS Q K o ls st h kc ks) : xF MC MK MS Q' K' o ls st h kc ks := by
  obtain ⟨i, nx, a, b, c, e, f, g, k, kl, ts⟩ := o
  cases i
  case ifCond cd off =>
    cases cd <;> (revert hF; unfold xF; intro hF; dsimp only at hF ⊢; split at hF <;> first | exact hF.elim | exact ⟨fun q => hK _ _ _ _ _ _ (hF.1 q), fun q => hK _ _ _ _ _ _ (hF.2 q)⟩)
  case if_icmp cd off =>
    cases cd <;> (revert hF; unfold xF; intro hF; dsimp only at hF ⊢; split at hF <;> first | exact hF.elim | exact ⟨fun q => hK _ _ _ _ _ _ (hF.1 q), fun q => hK _ _ _ _ _ _ (hF.2 q)⟩)
  case if_acmp cd off =>
    cases cd <;> (revert hF; unfold xF; intro hF; dsimp only at hF ⊢) <;> first | exact hF.elim | (split at hF <;> first | exact hF.elim | exact hK _ _ _ _ _ _ hF | exact ⟨hF.1, fun q => hK _ _ _ _ _ _ (hF.2.1 q), fun q => hK _ _ _ _ _ _ (hF.2.2 q)⟩)
  all_goals (revert hF; unfold xF; intro hF; dsimp only at hF ⊢)
  all_goals (first
    | exact hF.elim
    | exact hK _ _ _ _ _ _ hF
    | exact ⟨hF.1, hK _ _ _ _ _ _ hF.2⟩
    | exact xcm_mono hM (fun _ _ _ _ q => hK _ _ _ _ _ _ q) hF
    | skip)
  all_goals (repeat' (split at hF))
  all_goals (first
    | exact hF.elim
    | exact hK _ _ _ _ _ _ hF
    | exact ⟨hF.1, hK _ _ _ _ _ _ hF.2⟩
    | exact hQ _ _ hF
    | exact ⟨hF.1, hQ _ _ hF.2⟩
    | exact ⟨fun q => hK _ _ _ _ _ _ (hF.1 q), fun q => hK _ _ _ _ _ _ (hF.2 q)⟩
    | exact ⟨hK _ _ _ _ _ _ hF.1, hK _ _ _ _ _ _ hF.2⟩
    | exact ⟨hF.1, fun v q => hK _ _ _ _ _ _ (hF.2.1 v q), fun q => hK _ _ _ _ _ _ (hF.2.2 q)⟩
    | exact ⟨fun q => hK _ _ _ _ _ _ (hF.1 q), fun q => hK _ _ _ _ _ _ (hF.2.1 q), fun q => hK _ _ _ _ _ _ (hF.2.2 q)⟩
    | exact ⟨hF.1, fun v q => hK _ _ _ _ _ _ (hF.2.1 v q), fun q => hK _ _ _ _ _ _ (hF.2.2 q)⟩
    | exact xsw_mono (fun t q => hK _ _ _ _ _ _ q) _ _ hF
    | exact xcm_mono hM (fun _ _ _ _ q => hK _ _ _ _ _ _ q) hF
    | exact ⟨hF.1, xcm_mono hM (fun _ _ _ _ q => hK _ _ _ _ _ _ q) hF.2⟩
    | skip)
theorem xW_step {MC : Nat → List Value → xh → (Option Value → xh → Prop) → Prop} (hM : xMono MC) {cd : List (List xop)} {MK MS : Nat} {Q : Option Value → xh → Prop} {pc : Nat} {ls : List (Option Value)} {st : List Value} {h : xh} {kc ks : Nat} (hF : xF MC MK MS Q (xW MC cd MK MS Q) (xat cd pc) ls st h kc ks) : xW MC cd MK MS Q pc ls st h kc ks :=
  fun K hK => hK _ _ _ _ _ _ (xF_mono hM (fun _ _ q => q) (fun _ _ _ _ _ _ q => q K hK) hF)
theorem xW_mono {MC : Nat → List Value → xh → (Option Value → xh → Prop) → Prop} (hM : xMono MC) {cd : List (List xop)} {MK MS : Nat} {Q Q' : Option Value → xh → Prop} (hQ : ∀ v h', Q v h' → Q' v h') {pc : Nat} {ls : List (Option Value)} {st : List Value} {h : xh} {kc ks : Nat} (hw : xW MC cd MK MS Q pc ls st h kc ks) : xW MC cd MK MS Q' pc ls st h kc ks :=
  fun K hK => hw K (fun _ _ _ _ _ _ hF => hK _ _ _ _ _ _ (xF_mono hM hQ (fun _ _ _ _ _ _ q => q) hF))
theorem xW_n {MC : Nat → List Value → xh → (Option Value → xh → Prop) → Prop} (hM : xMono MC) {cd : List (List xop)} {MK MS : Nat} {Q : Option Value → xh → Prop} : ∀ (n : Nat) {pc : Nat} {ls : List (Option Value)} {st : List Value} {h : xh} {kc ks : Nat}, xFn MC cd MK MS Q (xW MC cd MK MS Q) n pc ls st h kc ks → xW MC cd MK MS Q pc ls st h kc ks
  | 0, _, _, _, _, _, _, hF => hF
  | n + 1, _, _, _, _, _, _, hF => xW_step hM (xF_mono hM (fun _ _ q => q) (fun _ _ _ _ _ _ q => xW_n hM n q) hF)
end
section
-- PART A is the skeleton's own text (a starting text); the rest is written by wip/tools/gen.py
-- ===== PART A: goes FIRST, ahead of the names: the tables' words, and 'selects' of the private methods out of them =====
/-- a private method of a class that the tables say can be made, by its rows of tables_1 -/
def lw_okq (q : MethodName × Nat) : Prop := (q.1.cls ≠ "java/lang/invoke/MethodHandle" ∧ q.1.cls ≠ "java/lang/invoke/VarHandle") ∧ Cond.instantiable q.1.cls q.2 ∈ tables_1 ∧ Cond.privateMethod q.1 ∈ tables_1 ∧ Cond.instanceMethod q.1 ∈ tables_1
theorem lw_p0 : lw_okq (⟨"SoupNine", "placeFor", "(II)I"⟩, 8) := ⟨⟨by decide +kernel, by decide +kernel⟩, List.mem_of_getElem? (i := 23) (by decide +kernel), List.mem_of_getElem? (i := 501) (by decide +kernel), List.mem_of_getElem? (i := 502) (by decide +kernel)⟩
theorem lw_p1 : lw_okq (⟨"SoupNine$Reader", "begin", "(I)V"⟩, 15) := ⟨⟨by decide +kernel, by decide +kernel⟩, List.mem_of_getElem? (i := 235) (by decide +kernel), List.mem_of_getElem? (i := 509) (by decide +kernel), List.mem_of_getElem? (i := 510) (by decide +kernel)⟩
theorem lw_p2 : lw_okq (⟨"SoupNine$Reader", "advance", "()V"⟩, 15) := ⟨⟨by decide +kernel, by decide +kernel⟩, List.mem_of_getElem? (i := 235) (by decide +kernel), List.mem_of_getElem? (i := 524) (by decide +kernel), List.mem_of_getElem? (i := 525) (by decide +kernel)⟩
theorem lw_p3 : lw_okq (⟨"SoupNine$Reader", "readDigits", "()V"⟩, 15) := ⟨⟨by decide +kernel, by decide +kernel⟩, List.mem_of_getElem? (i := 235) (by decide +kernel), List.mem_of_getElem? (i := 534) (by decide +kernel), List.mem_of_getElem? (i := 535) (by decide +kernel)⟩
theorem lw_p4 : lw_okq (⟨"SoupNine$Reader", "readLine", "(I)Z"⟩, 15) := ⟨⟨by decide +kernel, by decide +kernel⟩, List.mem_of_getElem? (i := 235) (by decide +kernel), List.mem_of_getElem? (i := 538) (by decide +kernel), List.mem_of_getElem? (i := 539) (by decide +kernel)⟩
theorem lw_p5 : lw_okq (⟨"SoupNine$Reader", "codeOf", "(I)I"⟩, 15) := ⟨⟨by decide +kernel, by decide +kernel⟩, List.mem_of_getElem? (i := 235) (by decide +kernel), List.mem_of_getElem? (i := 542) (by decide +kernel), List.mem_of_getElem? (i := 543) (by decide +kernel)⟩
theorem lw_p6 : lw_okq (⟨"SoupNine$Reader", "isWord", "(Ljava/lang/String;)Z"⟩, 15) := ⟨⟨by decide +kernel, by decide +kernel⟩, List.mem_of_getElem? (i := 235) (by decide +kernel), List.mem_of_getElem? (i := 570) (by decide +kernel), List.mem_of_getElem? (i := 571) (by decide +kernel)⟩
theorem lw_p7 : lw_okq (⟨"SoupNine$Reader", "checkRoom", "(I)V"⟩, 15) := ⟨⟨by decide +kernel, by decide +kernel⟩, List.mem_of_getElem? (i := 235) (by decide +kernel), List.mem_of_getElem? (i := 622) (by decide +kernel), List.mem_of_getElem? (i := 623) (by decide +kernel)⟩
theorem lw_p8 : lw_okq (⟨"SoupNine$Reader", "noteFault", "(II)V"⟩, 15) := ⟨⟨by decide +kernel, by decide +kernel⟩, List.mem_of_getElem? (i := 235) (by decide +kernel), List.mem_of_getElem? (i := 626) (by decide +kernel), List.mem_of_getElem? (i := 627) (by decide +kernel)⟩
theorem lw_p9 : lw_okq (⟨"SoupNine$Reader", "readThing", "()Z"⟩, 15) := ⟨⟨by decide +kernel, by decide +kernel⟩, List.mem_of_getElem? (i := 235) (by decide +kernel), List.mem_of_getElem? (i := 630) (by decide +kernel), List.mem_of_getElem? (i := 631) (by decide +kernel)⟩
theorem lw_p10 : lw_okq (⟨"SoupNine$Reader", "readNumbers", "(I)Z"⟩, 15) := ⟨⟨by decide +kernel, by decide +kernel⟩, List.mem_of_getElem? (i := 235) (by decide +kernel), List.mem_of_getElem? (i := 637) (by decide +kernel), List.mem_of_getElem? (i := 638) (by decide +kernel)⟩
theorem lw_p11 : lw_okq (⟨"SoupNine$Reader", "canBe", "(II)Z"⟩, 15) := ⟨⟨by decide +kernel, by decide +kernel⟩, List.mem_of_getElem? (i := 235) (by decide +kernel), List.mem_of_getElem? (i := 643) (by decide +kernel), List.mem_of_getElem? (i := 644) (by decide +kernel)⟩
theorem lw_p12 : lw_okq (⟨"SoupNine$Reader", "tellLine", "(I)V"⟩, 15) := ⟨⟨by decide +kernel, by decide +kernel⟩, List.mem_of_getElem? (i := 235) (by decide +kernel), List.mem_of_getElem? (i := 651) (by decide +kernel), List.mem_of_getElem? (i := 652) (by decide +kernel)⟩
theorem lw_p13 : lw_okq (⟨"SoupNine$Reader", "tellOfTown", "(I)V"⟩, 15) := ⟨⟨by decide +kernel, by decide +kernel⟩, List.mem_of_getElem? (i := 235) (by decide +kernel), List.mem_of_getElem? (i := 659) (by decide +kernel), List.mem_of_getElem? (i := 660) (by decide +kernel)⟩
theorem lw_p14 : lw_okq (⟨"SoupNine", "keepDraft", "(II)V"⟩, 8) := ⟨⟨by decide +kernel, by decide +kernel⟩, List.mem_of_getElem? (i := 23) (by decide +kernel), List.mem_of_getElem? (i := 694) (by decide +kernel), List.mem_of_getElem? (i := 695) (by decide +kernel)⟩
theorem lw_p15 : lw_okq (⟨"SoupNine", "forgetAll", "()V"⟩, 8) := ⟨⟨by decide +kernel, by decide +kernel⟩, List.mem_of_getElem? (i := 23) (by decide +kernel), List.mem_of_getElem? (i := 723) (by decide +kernel), List.mem_of_getElem? (i := 724) (by decide +kernel)⟩
def lw_privs_1 : List (MethodName × Nat) := [(⟨"SoupNine", "placeFor", "(II)I"⟩, 8), (⟨"SoupNine$Reader", "begin", "(I)V"⟩, 15), (⟨"SoupNine$Reader", "advance", "()V"⟩, 15), (⟨"SoupNine$Reader", "readDigits", "()V"⟩, 15), (⟨"SoupNine$Reader", "readLine", "(I)Z"⟩, 15), (⟨"SoupNine$Reader", "codeOf", "(I)I"⟩, 15), (⟨"SoupNine$Reader", "isWord", "(Ljava/lang/String;)Z"⟩, 15), (⟨"SoupNine$Reader", "checkRoom", "(I)V"⟩, 15), (⟨"SoupNine$Reader", "noteFault", "(II)V"⟩, 15), (⟨"SoupNine$Reader", "readThing", "()Z"⟩, 15), (⟨"SoupNine$Reader", "readNumbers", "(I)Z"⟩, 15), (⟨"SoupNine$Reader", "canBe", "(II)Z"⟩, 15), (⟨"SoupNine$Reader", "tellLine", "(I)V"⟩, 15), (⟨"SoupNine$Reader", "tellOfTown", "(I)V"⟩, 15), (⟨"SoupNine", "keepDraft", "(II)V"⟩, 8), (⟨"SoupNine", "forgetAll", "()V"⟩, 8)]
theorem lw_r1 : ∀ q ∈ lw_privs_1, lw_okq q := List.forall_mem_cons.mpr ⟨lw_p0, List.forall_mem_cons.mpr ⟨lw_p1, List.forall_mem_cons.mpr ⟨lw_p2, List.forall_mem_cons.mpr ⟨lw_p3, List.forall_mem_cons.mpr ⟨lw_p4, List.forall_mem_cons.mpr ⟨lw_p5, List.forall_mem_cons.mpr ⟨lw_p6, List.forall_mem_cons.mpr ⟨lw_p7, List.forall_mem_cons.mpr ⟨lw_p8, List.forall_mem_cons.mpr ⟨lw_p9, List.forall_mem_cons.mpr ⟨lw_p10, List.forall_mem_cons.mpr ⟨lw_p11, List.forall_mem_cons.mpr ⟨lw_p12, List.forall_mem_cons.mpr ⟨lw_p13, List.forall_mem_cons.mpr ⟨lw_p14, List.forall_mem_cons.mpr ⟨lw_p15, fun _ h => absurd h List.not_mem_nil⟩⟩⟩⟩⟩⟩⟩⟩⟩⟩⟩⟩⟩⟩⟩⟩
theorem lw_p16 : lw_okq (⟨"SoupNine$Town", "detailOfStop", "(II)I"⟩, 14) := ⟨⟨by decide +kernel, by decide +kernel⟩, List.mem_of_getElem? (i := 38) (by decide +kernel), List.mem_of_getElem? (i := 780) (by decide +kernel), List.mem_of_getElem? (i := 781) (by decide +kernel)⟩
theorem lw_p17 : lw_okq (⟨"SoupNine$Walk", "perform", "(LSoupNine$Town;II)Z"⟩, 12) := ⟨⟨by decide +kernel, by decide +kernel⟩, List.mem_of_getElem? (i := 301) (by decide +kernel), List.mem_of_getElem? (i := 812) (by decide +kernel), List.mem_of_getElem? (i := 813) (by decide +kernel)⟩
theorem lw_p18 : lw_okq (⟨"SoupNine$Walk", "driveTo", "(LSoupNine$Town;I)Z"⟩, 12) := ⟨⟨by decide +kernel, by decide +kernel⟩, List.mem_of_getElem? (i := 301) (by decide +kernel), List.mem_of_getElem? (i := 817) (by decide +kernel), List.mem_of_getElem? (i := 818) (by decide +kernel)⟩
theorem lw_p19 : lw_okq (⟨"SoupNine$Town", "columnOf", "(I)I"⟩, 14) := ⟨⟨by decide +kernel, by decide +kernel⟩, List.mem_of_getElem? (i := 38) (by decide +kernel), List.mem_of_getElem? (i := 825) (by decide +kernel), List.mem_of_getElem? (i := 826) (by decide +kernel)⟩
theorem lw_p20 : lw_okq (⟨"SoupNine$Town", "rowOf", "(I)I"⟩, 14) := ⟨⟨by decide +kernel, by decide +kernel⟩, List.mem_of_getElem? (i := 38) (by decide +kernel), List.mem_of_getElem? (i := 832) (by decide +kernel), List.mem_of_getElem? (i := 833) (by decide +kernel)⟩
theorem lw_p21 : lw_okq (⟨"SoupNine$Walk", "spend", "(I)Z"⟩, 12) := ⟨⟨by decide +kernel, by decide +kernel⟩, List.mem_of_getElem? (i := 301) (by decide +kernel), List.mem_of_getElem? (i := 836) (by decide +kernel), List.mem_of_getElem? (i := 837) (by decide +kernel)⟩
theorem lw_p22 : lw_okq (⟨"SoupNine$Walk", "ladle", "(LSoupNine$Town;I)Z"⟩, 12) := ⟨⟨by decide +kernel, by decide +kernel⟩, List.mem_of_getElem? (i := 301) (by decide +kernel), List.mem_of_getElem? (i := 840) (by decide +kernel), List.mem_of_getElem? (i := 841) (by decide +kernel)⟩
theorem lw_p23 : lw_okq (⟨"SoupNine$Walk", "sendOn", "(LSoupNine$Town;I)V"⟩, 12) := ⟨⟨by decide +kernel, by decide +kernel⟩, List.mem_of_getElem? (i := 301) (by decide +kernel), List.mem_of_getElem? (i := 845) (by decide +kernel), List.mem_of_getElem? (i := 846) (by decide +kernel)⟩
theorem lw_p24 : lw_okq (⟨"SoupNine$Walk", "talk", "(LSoupNine$Town;)Z"⟩, 12) := ⟨⟨by decide +kernel, by decide +kernel⟩, List.mem_of_getElem? (i := 301) (by decide +kernel), List.mem_of_getElem? (i := 850) (by decide +kernel), List.mem_of_getElem? (i := 851) (by decide +kernel)⟩
theorem lw_p25 : lw_okq (⟨"SoupNine$Walk", "detailOfStop", "(II)I"⟩, 12) := ⟨⟨by decide +kernel, by decide +kernel⟩, List.mem_of_getElem? (i := 301) (by decide +kernel), List.mem_of_getElem? (i := 862) (by decide +kernel), List.mem_of_getElem? (i := 863) (by decide +kernel)⟩
theorem lw_p26 : lw_okq (⟨"SoupNine$Walk", "below", "(I)I"⟩, 12) := ⟨⟨by decide +kernel, by decide +kernel⟩, List.mem_of_getElem? (i := 301) (by decide +kernel), List.mem_of_getElem? (i := 874) (by decide +kernel), List.mem_of_getElem? (i := 875) (by decide +kernel)⟩
theorem lw_p27 : lw_okq (⟨"SoupNine$Bowls", "prepare", "(LSoupNine$Town;)V"⟩, 4) := ⟨⟨by decide +kernel, by decide +kernel⟩, List.mem_of_getElem? (i := 344) (by decide +kernel), List.mem_of_getElem? (i := 894) (by decide +kernel), List.mem_of_getElem? (i := 895) (by decide +kernel)⟩
theorem lw_p28 : lw_okq (⟨"SoupNine$Bowls", "countsOverAll", "(LSoupNine$Town;II)J"⟩, 4) := ⟨⟨by decide +kernel, by decide +kernel⟩, List.mem_of_getElem? (i := 344) (by decide +kernel), List.mem_of_getElem? (i := 898) (by decide +kernel), List.mem_of_getElem? (i := 899) (by decide +kernel)⟩
theorem lw_p29 : lw_okq (⟨"SoupNine$Bowls", "countsAfter", "(LSoupNine$Town;IIII)J"⟩, 4) := ⟨⟨by decide +kernel, by decide +kernel⟩, List.mem_of_getElem? (i := 344) (by decide +kernel), List.mem_of_getElem? (i := 909) (by decide +kernel), List.mem_of_getElem? (i := 910) (by decide +kernel)⟩
theorem lw_p30 : lw_okq (⟨"SoupNine$Bowls", "waysTo", "(III)J"⟩, 4) := ⟨⟨by decide +kernel, by decide +kernel⟩, List.mem_of_getElem? (i := 344) (by decide +kernel), List.mem_of_getElem? (i := 956) (by decide +kernel), List.mem_of_getElem? (i := 957) (by decide +kernel)⟩
theorem lw_p31 : lw_okq (⟨"SoupNine$Routes", "measure", "(LSoupNine$Town;)V"⟩, 14) := ⟨⟨by decide +kernel, by decide +kernel⟩, List.mem_of_getElem? (i := 364) (by decide +kernel), List.mem_of_getElem? (i := 968) (by decide +kernel), List.mem_of_getElem? (i := 969) (by decide +kernel)⟩
def lw_privs_2 : List (MethodName × Nat) := [(⟨"SoupNine$Town", "detailOfStop", "(II)I"⟩, 14), (⟨"SoupNine$Walk", "perform", "(LSoupNine$Town;II)Z"⟩, 12), (⟨"SoupNine$Walk", "driveTo", "(LSoupNine$Town;I)Z"⟩, 12), (⟨"SoupNine$Town", "columnOf", "(I)I"⟩, 14), (⟨"SoupNine$Town", "rowOf", "(I)I"⟩, 14), (⟨"SoupNine$Walk", "spend", "(I)Z"⟩, 12), (⟨"SoupNine$Walk", "ladle", "(LSoupNine$Town;I)Z"⟩, 12), (⟨"SoupNine$Walk", "sendOn", "(LSoupNine$Town;I)V"⟩, 12), (⟨"SoupNine$Walk", "talk", "(LSoupNine$Town;)Z"⟩, 12), (⟨"SoupNine$Walk", "detailOfStop", "(II)I"⟩, 12), (⟨"SoupNine$Walk", "below", "(I)I"⟩, 12), (⟨"SoupNine$Bowls", "prepare", "(LSoupNine$Town;)V"⟩, 4), (⟨"SoupNine$Bowls", "countsOverAll", "(LSoupNine$Town;II)J"⟩, 4), (⟨"SoupNine$Bowls", "countsAfter", "(LSoupNine$Town;IIII)J"⟩, 4), (⟨"SoupNine$Bowls", "waysTo", "(III)J"⟩, 4), (⟨"SoupNine$Routes", "measure", "(LSoupNine$Town;)V"⟩, 14)]
theorem lw_r2 : ∀ q ∈ lw_privs_2, lw_okq q := List.forall_mem_cons.mpr ⟨lw_p16, List.forall_mem_cons.mpr ⟨lw_p17, List.forall_mem_cons.mpr ⟨lw_p18, List.forall_mem_cons.mpr ⟨lw_p19, List.forall_mem_cons.mpr ⟨lw_p20, List.forall_mem_cons.mpr ⟨lw_p21, List.forall_mem_cons.mpr ⟨lw_p22, List.forall_mem_cons.mpr ⟨lw_p23, List.forall_mem_cons.mpr ⟨lw_p24, List.forall_mem_cons.mpr ⟨lw_p25, List.forall_mem_cons.mpr ⟨lw_p26, List.forall_mem_cons.mpr ⟨lw_p27, List.forall_mem_cons.mpr ⟨lw_p28, List.forall_mem_cons.mpr ⟨lw_p29, List.forall_mem_cons.mpr ⟨lw_p30, List.forall_mem_cons.mpr ⟨lw_p31, fun _ h => absurd h List.not_mem_nil⟩⟩⟩⟩⟩⟩⟩⟩⟩⟩⟩⟩⟩⟩⟩⟩
theorem lw_p32 : lw_okq (⟨"SoupNine$Routes", "findPaths", "(LSoupNine$Town;)V"⟩, 14) := ⟨⟨by decide +kernel, by decide +kernel⟩, List.mem_of_getElem? (i := 364) (by decide +kernel), List.mem_of_getElem? (i := 974) (by decide +kernel), List.mem_of_getElem? (i := 975) (by decide +kernel)⟩
theorem lw_p33 : lw_okq (⟨"SoupNine$Routes", "shortest", "(LSoupNine$Town;II)I"⟩, 14) := ⟨⟨by decide +kernel, by decide +kernel⟩, List.mem_of_getElem? (i := 364) (by decide +kernel), List.mem_of_getElem? (i := 982) (by decide +kernel), List.mem_of_getElem? (i := 983) (by decide +kernel)⟩
theorem lw_p34 : lw_okq (⟨"SoupNine$Routes", "findRound", "(LSoupNine$Town;)V"⟩, 14) := ⟨⟨by decide +kernel, by decide +kernel⟩, List.mem_of_getElem? (i := 364) (by decide +kernel), List.mem_of_getElem? (i := 987) (by decide +kernel), List.mem_of_getElem? (i := 988) (by decide +kernel)⟩
theorem lw_p35 : lw_okq (⟨"SoupNine$Routes", "findBestOfWay", "(LSoupNine$Town;)V"⟩, 14) := ⟨⟨by decide +kernel, by decide +kernel⟩, List.mem_of_getElem? (i := 364) (by decide +kernel), List.mem_of_getElem? (i := 991) (by decide +kernel), List.mem_of_getElem? (i := 992) (by decide +kernel)⟩
theorem lw_p36 : lw_okq (⟨"SoupNine$Routes", "isPeopled", "(I)Z"⟩, 14) := ⟨⟨by decide +kernel, by decide +kernel⟩, List.mem_of_getElem? (i := 364) (by decide +kernel), List.mem_of_getElem? (i := 995) (by decide +kernel), List.mem_of_getElem? (i := 996) (by decide +kernel)⟩
theorem lw_p37 : lw_okq (⟨"SoupNine$Routes", "fewestMinutes", "(LSoupNine$Town;I)I"⟩, 14) := ⟨⟨by decide +kernel, by decide +kernel⟩, List.mem_of_getElem? (i := 364) (by decide +kernel), List.mem_of_getElem? (i := 999) (by decide +kernel), List.mem_of_getElem? (i := 1000) (by decide +kernel)⟩
theorem lw_p38 : lw_okq (⟨"SoupNine$Routes", "isWarm", "(LSoupNine$Town;II)Z"⟩, 14) := ⟨⟨by decide +kernel, by decide +kernel⟩, List.mem_of_getElem? (i := 364) (by decide +kernel), List.mem_of_getElem? (i := 1003) (by decide +kernel), List.mem_of_getElem? (i := 1004) (by decide +kernel)⟩
theorem lw_p39 : lw_okq (⟨"SoupNine$Routes", "doneAt", "(II)I"⟩, 14) := ⟨⟨by decide +kernel, by decide +kernel⟩, List.mem_of_getElem? (i := 364) (by decide +kernel), List.mem_of_getElem? (i := 1007) (by decide +kernel), List.mem_of_getElem? (i := 1008) (by decide +kernel)⟩
theorem lw_p40 : lw_okq (⟨"SoupNine$Routes", "findWay", "(LSoupNine$Town;)V"⟩, 14) := ⟨⟨by decide +kernel, by decide +kernel⟩, List.mem_of_getElem? (i := 364) (by decide +kernel), List.mem_of_getElem? (i := 1011) (by decide +kernel), List.mem_of_getElem? (i := 1012) (by decide +kernel)⟩
theorem lw_p41 : lw_okq (⟨"SoupNine$Routes", "isBest", "(LSoupNine$Town;II)Z"⟩, 14) := ⟨⟨by decide +kernel, by decide +kernel⟩, List.mem_of_getElem? (i := 364) (by decide +kernel), List.mem_of_getElem? (i := 1015) (by decide +kernel), List.mem_of_getElem? (i := 1016) (by decide +kernel)⟩
theorem lw_p42 : lw_okq (⟨"SoupNine$Routes", "nextOf", "(LSoupNine$Town;II)I"⟩, 14) := ⟨⟨by decide +kernel, by decide +kernel⟩, List.mem_of_getElem? (i := 364) (by decide +kernel), List.mem_of_getElem? (i := 1019) (by decide +kernel), List.mem_of_getElem? (i := 1020) (by decide +kernel)⟩
theorem lw_p43 : lw_okq (⟨"SoupNine$Routes", "talksAheadOfLast", "(LSoupNine$Town;)I"⟩, 14) := ⟨⟨by decide +kernel, by decide +kernel⟩, List.mem_of_getElem? (i := 364) (by decide +kernel), List.mem_of_getElem? (i := 1035) (by decide +kernel), List.mem_of_getElem? (i := 1036) (by decide +kernel)⟩
theorem lw_p44 : lw_okq (⟨"SoupNine$Book", "moreFrom", "(I)I"⟩, 4) := ⟨⟨by decide +kernel, by decide +kernel⟩, List.mem_of_getElem? (i := 132) (by decide +kernel), List.mem_of_getElem? (i := 1124) (by decide +kernel), List.mem_of_getElem? (i := 1125) (by decide +kernel)⟩
theorem lw_p45 : lw_okq (⟨"SoupNine$Book", "seenAheadOf", "(I)I"⟩, 4) := ⟨⟨by decide +kernel, by decide +kernel⟩, List.mem_of_getElem? (i := 132) (by decide +kernel), List.mem_of_getElem? (i := 1128) (by decide +kernel), List.mem_of_getElem? (i := 1129) (by decide +kernel)⟩
theorem lw_p46 : lw_okq (⟨"SoupNine$Book", "maybePick", "(I[I)V"⟩, 4) := ⟨⟨by decide +kernel, by decide +kernel⟩, List.mem_of_getElem? (i := 132) (by decide +kernel), List.mem_of_getElem? (i := 1161) (by decide +kernel), List.mem_of_getElem? (i := 1162) (by decide +kernel)⟩
theorem lw_p47 : lw_okq (⟨"SoupNine$Sheet", "detailOf", "(II)I"⟩, 9) := ⟨⟨by decide +kernel, by decide +kernel⟩, List.mem_of_getElem? (i := 154) (by decide +kernel), List.mem_of_getElem? (i := 1186) (by decide +kernel), List.mem_of_getElem? (i := 1187) (by decide +kernel)⟩
def lw_privs_3 : List (MethodName × Nat) := [(⟨"SoupNine$Routes", "findPaths", "(LSoupNine$Town;)V"⟩, 14), (⟨"SoupNine$Routes", "shortest", "(LSoupNine$Town;II)I"⟩, 14), (⟨"SoupNine$Routes", "findRound", "(LSoupNine$Town;)V"⟩, 14), (⟨"SoupNine$Routes", "findBestOfWay", "(LSoupNine$Town;)V"⟩, 14), (⟨"SoupNine$Routes", "isPeopled", "(I)Z"⟩, 14), (⟨"SoupNine$Routes", "fewestMinutes", "(LSoupNine$Town;I)I"⟩, 14), (⟨"SoupNine$Routes", "isWarm", "(LSoupNine$Town;II)Z"⟩, 14), (⟨"SoupNine$Routes", "doneAt", "(II)I"⟩, 14), (⟨"SoupNine$Routes", "findWay", "(LSoupNine$Town;)V"⟩, 14), (⟨"SoupNine$Routes", "isBest", "(LSoupNine$Town;II)Z"⟩, 14), (⟨"SoupNine$Routes", "nextOf", "(LSoupNine$Town;II)I"⟩, 14), (⟨"SoupNine$Routes", "talksAheadOfLast", "(LSoupNine$Town;)I"⟩, 14), (⟨"SoupNine$Book", "moreFrom", "(I)I"⟩, 4), (⟨"SoupNine$Book", "seenAheadOf", "(I)I"⟩, 4), (⟨"SoupNine$Book", "maybePick", "(I[I)V"⟩, 4), (⟨"SoupNine$Sheet", "detailOf", "(II)I"⟩, 9)]
theorem lw_r3 : ∀ q ∈ lw_privs_3, lw_okq q := List.forall_mem_cons.mpr ⟨lw_p32, List.forall_mem_cons.mpr ⟨lw_p33, List.forall_mem_cons.mpr ⟨lw_p34, List.forall_mem_cons.mpr ⟨lw_p35, List.forall_mem_cons.mpr ⟨lw_p36, List.forall_mem_cons.mpr ⟨lw_p37, List.forall_mem_cons.mpr ⟨lw_p38, List.forall_mem_cons.mpr ⟨lw_p39, List.forall_mem_cons.mpr ⟨lw_p40, List.forall_mem_cons.mpr ⟨lw_p41, List.forall_mem_cons.mpr ⟨lw_p42, List.forall_mem_cons.mpr ⟨lw_p43, List.forall_mem_cons.mpr ⟨lw_p44, List.forall_mem_cons.mpr ⟨lw_p45, List.forall_mem_cons.mpr ⟨lw_p46, List.forall_mem_cons.mpr ⟨lw_p47, fun _ h => absurd h List.not_mem_nil⟩⟩⟩⟩⟩⟩⟩⟩⟩⟩⟩⟩⟩⟩⟩⟩
theorem lw_p48 : lw_okq (⟨"SoupNine$Search", "findNeed", "(LSoupNine$Sheet;)V"⟩, 8) := ⟨⟨by decide +kernel, by decide +kernel⟩, List.mem_of_getElem? (i := 421) (by decide +kernel), List.mem_of_getElem? (i := 1198) (by decide +kernel), List.mem_of_getElem? (i := 1199) (by decide +kernel)⟩
theorem lw_p49 : lw_okq (⟨"SoupNine$Search", "needWith", "(LSoupNine$Sheet;III)I"⟩, 8) := ⟨⟨by decide +kernel, by decide +kernel⟩, List.mem_of_getElem? (i := 421) (by decide +kernel), List.mem_of_getElem? (i := 1202) (by decide +kernel), List.mem_of_getElem? (i := 1203) (by decide +kernel)⟩
theorem lw_p50 : lw_okq (⟨"SoupNine$Search", "findShoes", "(LSoupNine$Sheet;)V"⟩, 8) := ⟨⟨by decide +kernel, by decide +kernel⟩, List.mem_of_getElem? (i := 421) (by decide +kernel), List.mem_of_getElem? (i := 1211) (by decide +kernel), List.mem_of_getElem? (i := 1212) (by decide +kernel)⟩
theorem lw_p51 : lw_okq (⟨"SoupNine$Search", "findWalked", "(LSoupNine$Sheet;)V"⟩, 8) := ⟨⟨by decide +kernel, by decide +kernel⟩, List.mem_of_getElem? (i := 421) (by decide +kernel), List.mem_of_getElem? (i := 1215) (by decide +kernel), List.mem_of_getElem? (i := 1216) (by decide +kernel)⟩
theorem lw_p52 : lw_okq (⟨"SoupNine$Search", "leastWalked", "(LSoupNine$Sheet;II)I"⟩, 8) := ⟨⟨by decide +kernel, by decide +kernel⟩, List.mem_of_getElem? (i := 421) (by decide +kernel), List.mem_of_getElem? (i := 1219) (by decide +kernel), List.mem_of_getElem? (i := 1220) (by decide +kernel)⟩
theorem lw_p53 : lw_okq (⟨"SoupNine$Search", "walkedBy", "(LSoupNine$Sheet;III)I"⟩, 8) := ⟨⟨by decide +kernel, by decide +kernel⟩, List.mem_of_getElem? (i := 421) (by decide +kernel), List.mem_of_getElem? (i := 1224) (by decide +kernel), List.mem_of_getElem? (i := 1225) (by decide +kernel)⟩
theorem lw_p54 : lw_okq (⟨"SoupNine$Search", "findHides", "(LSoupNine$Sheet;)V"⟩, 8) := ⟨⟨by decide +kernel, by decide +kernel⟩, List.mem_of_getElem? (i := 421) (by decide +kernel), List.mem_of_getElem? (i := 1234) (by decide +kernel), List.mem_of_getElem? (i := 1235) (by decide +kernel)⟩
theorem lw_p55 : lw_okq (⟨"SoupNineModel", "four", "(I)V"⟩, 57) := ⟨⟨by decide +kernel, by decide +kernel⟩, List.mem_of_getElem? (i := 1314) (by decide +kernel), List.mem_of_getElem? (i := 1497) (by decide +kernel), List.mem_of_getElem? (i := 1498) (by decide +kernel)⟩
theorem lw_p56 : lw_okq (⟨"SoupNineModel", "is", "(II)Z"⟩, 57) := ⟨⟨by decide +kernel, by decide +kernel⟩, List.mem_of_getElem? (i := 1314) (by decide +kernel), List.mem_of_getElem? (i := 1512) (by decide +kernel), List.mem_of_getElem? (i := 1513) (by decide +kernel)⟩
theorem lw_p57 : lw_okq (⟨"SoupNineModel", "readText", "(I)Z"⟩, 57) := ⟨⟨by decide +kernel, by decide +kernel⟩, List.mem_of_getElem? (i := 1314) (by decide +kernel), List.mem_of_getElem? (i := 1516) (by decide +kernel), List.mem_of_getElem? (i := 1517) (by decide +kernel)⟩
theorem lw_p58 : lw_okq (⟨"SoupNineModel", "blank", "(I)V"⟩, 57) := ⟨⟨by decide +kernel, by decide +kernel⟩, List.mem_of_getElem? (i := 1314) (by decide +kernel), List.mem_of_getElem? (i := 1520) (by decide +kernel), List.mem_of_getElem? (i := 1521) (by decide +kernel)⟩
theorem lw_p59 : lw_okq (⟨"SoupNineModel", "token", "()V"⟩, 57) := ⟨⟨by decide +kernel, by decide +kernel⟩, List.mem_of_getElem? (i := 1314) (by decide +kernel), List.mem_of_getElem? (i := 1524) (by decide +kernel), List.mem_of_getElem? (i := 1525) (by decide +kernel)⟩
theorem lw_p60 : lw_okq (⟨"SoupNineModel", "see", "()I"⟩, 57) := ⟨⟨by decide +kernel, by decide +kernel⟩, List.mem_of_getElem? (i := 1314) (by decide +kernel), List.mem_of_getElem? (i := 1528) (by decide +kernel), List.mem_of_getElem? (i := 1529) (by decide +kernel)⟩
theorem lw_p61 : lw_okq (⟨"SoupNineModel", "lines", "(I)Z"⟩, 57) := ⟨⟨by decide +kernel, by decide +kernel⟩, List.mem_of_getElem? (i := 1314) (by decide +kernel), List.mem_of_getElem? (i := 1532) (by decide +kernel), List.mem_of_getElem? (i := 1533) (by decide +kernel)⟩
theorem lw_p62 : lw_okq (⟨"SoupNineModel", "lineOf", "(IJI)Z"⟩, 57) := ⟨⟨by decide +kernel, by decide +kernel⟩, List.mem_of_getElem? (i := 1314) (by decide +kernel), List.mem_of_getElem? (i := 1536) (by decide +kernel), List.mem_of_getElem? (i := 1537) (by decide +kernel)⟩
theorem lw_p63 : lw_okq (⟨"SoupNineModel", "townLine", "(JI)Z"⟩, 57) := ⟨⟨by decide +kernel, by decide +kernel⟩, List.mem_of_getElem? (i := 1314) (by decide +kernel), List.mem_of_getElem? (i := 1540) (by decide +kernel), List.mem_of_getElem? (i := 1541) (by decide +kernel)⟩
def lw_privs_4 : List (MethodName × Nat) := [(⟨"SoupNine$Search", "findNeed", "(LSoupNine$Sheet;)V"⟩, 8), (⟨"SoupNine$Search", "needWith", "(LSoupNine$Sheet;III)I"⟩, 8), (⟨"SoupNine$Search", "findShoes", "(LSoupNine$Sheet;)V"⟩, 8), (⟨"SoupNine$Search", "findWalked", "(LSoupNine$Sheet;)V"⟩, 8), (⟨"SoupNine$Search", "leastWalked", "(LSoupNine$Sheet;II)I"⟩, 8), (⟨"SoupNine$Search", "walkedBy", "(LSoupNine$Sheet;III)I"⟩, 8), (⟨"SoupNine$Search", "findHides", "(LSoupNine$Sheet;)V"⟩, 8), (⟨"SoupNineModel", "four", "(I)V"⟩, 57), (⟨"SoupNineModel", "is", "(II)Z"⟩, 57), (⟨"SoupNineModel", "readText", "(I)Z"⟩, 57), (⟨"SoupNineModel", "blank", "(I)V"⟩, 57), (⟨"SoupNineModel", "token", "()V"⟩, 57), (⟨"SoupNineModel", "see", "()I"⟩, 57), (⟨"SoupNineModel", "lines", "(I)Z"⟩, 57), (⟨"SoupNineModel", "lineOf", "(IJI)Z"⟩, 57), (⟨"SoupNineModel", "townLine", "(JI)Z"⟩, 57)]
theorem lw_r4 : ∀ q ∈ lw_privs_4, lw_okq q := List.forall_mem_cons.mpr ⟨lw_p48, List.forall_mem_cons.mpr ⟨lw_p49, List.forall_mem_cons.mpr ⟨lw_p50, List.forall_mem_cons.mpr ⟨lw_p51, List.forall_mem_cons.mpr ⟨lw_p52, List.forall_mem_cons.mpr ⟨lw_p53, List.forall_mem_cons.mpr ⟨lw_p54, List.forall_mem_cons.mpr ⟨lw_p55, List.forall_mem_cons.mpr ⟨lw_p56, List.forall_mem_cons.mpr ⟨lw_p57, List.forall_mem_cons.mpr ⟨lw_p58, List.forall_mem_cons.mpr ⟨lw_p59, List.forall_mem_cons.mpr ⟨lw_p60, List.forall_mem_cons.mpr ⟨lw_p61, List.forall_mem_cons.mpr ⟨lw_p62, List.forall_mem_cons.mpr ⟨lw_p63, fun _ h => absurd h List.not_mem_nil⟩⟩⟩⟩⟩⟩⟩⟩⟩⟩⟩⟩⟩⟩⟩⟩
theorem lw_p64 : lw_okq (⟨"SoupNineModel", "fails", "()Z"⟩, 57) := ⟨⟨by decide +kernel, by decide +kernel⟩, List.mem_of_getElem? (i := 1314) (by decide +kernel), List.mem_of_getElem? (i := 1557) (by decide +kernel), List.mem_of_getElem? (i := 1558) (by decide +kernel)⟩
theorem lw_p65 : lw_okq (⟨"SoupNineModel", "full", "(III)V"⟩, 57) := ⟨⟨by decide +kernel, by decide +kernel⟩, List.mem_of_getElem? (i := 1314) (by decide +kernel), List.mem_of_getElem? (i := 1561) (by decide +kernel), List.mem_of_getElem? (i := 1562) (by decide +kernel)⟩
theorem lw_p66 : lw_okq (⟨"SoupNineModel", "later", "(II)V"⟩, 57) := ⟨⟨by decide +kernel, by decide +kernel⟩, List.mem_of_getElem? (i := 1314) (by decide +kernel), List.mem_of_getElem? (i := 1565) (by decide +kernel), List.mem_of_getElem? (i := 1566) (by decide +kernel)⟩
theorem lw_p67 : lw_okq (⟨"SoupNineModel", "stopLine", "(I)Z"⟩, 57) := ⟨⟨by decide +kernel, by decide +kernel⟩, List.mem_of_getElem? (i := 1314) (by decide +kernel), List.mem_of_getElem? (i := 1569) (by decide +kernel), List.mem_of_getElem? (i := 1570) (by decide +kernel)⟩
theorem lw_p68 : lw_okq (⟨"SoupNineModel", "take", "(III)Z"⟩, 57) := ⟨⟨by decide +kernel, by decide +kernel⟩, List.mem_of_getElem? (i := 1314) (by decide +kernel), List.mem_of_getElem? (i := 1573) (by decide +kernel), List.mem_of_getElem? (i := 1574) (by decide +kernel)⟩
theorem lw_p69 : lw_okq (⟨"SoupNineModel", "takeBut", "(IIII)Z"⟩, 57) := ⟨⟨by decide +kernel, by decide +kernel⟩, List.mem_of_getElem? (i := 1314) (by decide +kernel), List.mem_of_getElem? (i := 1577) (by decide +kernel), List.mem_of_getElem? (i := 1578) (by decide +kernel)⟩
theorem lw_p70 : lw_okq (⟨"SoupNineModel", "followLine", "()Z"⟩, 57) := ⟨⟨by decide +kernel, by decide +kernel⟩, List.mem_of_getElem? (i := 1314) (by decide +kernel), List.mem_of_getElem? (i := 1581) (by decide +kernel), List.mem_of_getElem? (i := 1582) (by decide +kernel)⟩
theorem lw_p71 : lw_okq (⟨"SoupNineModel", "homeLine", "()Z"⟩, 57) := ⟨⟨by decide +kernel, by decide +kernel⟩, List.mem_of_getElem? (i := 1314) (by decide +kernel), List.mem_of_getElem? (i := 1588) (by decide +kernel), List.mem_of_getElem? (i := 1589) (by decide +kernel)⟩
theorem lw_p72 : lw_okq (⟨"SoupNineModel", "plainLine", "(III)Z"⟩, 57) := ⟨⟨by decide +kernel, by decide +kernel⟩, List.mem_of_getElem? (i := 1314) (by decide +kernel), List.mem_of_getElem? (i := 1592) (by decide +kernel), List.mem_of_getElem? (i := 1593) (by decide +kernel)⟩
theorem lw_p73 : lw_okq (⟨"SoupNineModel", "dayLine", "(JI)Z"⟩, 57) := ⟨⟨by decide +kernel, by decide +kernel⟩, List.mem_of_getElem? (i := 1314) (by decide +kernel), List.mem_of_getElem? (i := 1596) (by decide +kernel), List.mem_of_getElem? (i := 1597) (by decide +kernel)⟩
theorem lw_p74 : lw_okq (⟨"SoupNineModel", "keep", "(II)V"⟩, 57) := ⟨⟨by decide +kernel, by decide +kernel⟩, List.mem_of_getElem? (i := 1314) (by decide +kernel), List.mem_of_getElem? (i := 1607) (by decide +kernel), List.mem_of_getElem? (i := 1608) (by decide +kernel)⟩
theorem lw_p75 : lw_okq (⟨"SoupNineModel", "bookLine", "(JI)Z"⟩, 57) := ⟨⟨by decide +kernel, by decide +kernel⟩, List.mem_of_getElem? (i := 1314) (by decide +kernel), List.mem_of_getElem? (i := 1611) (by decide +kernel), List.mem_of_getElem? (i := 1612) (by decide +kernel)⟩
theorem lw_p76 : lw_okq (⟨"SoupNineModel", "askedLine", "(I)Z"⟩, 57) := ⟨⟨by decide +kernel, by decide +kernel⟩, List.mem_of_getElem? (i := 1314) (by decide +kernel), List.mem_of_getElem? (i := 1617) (by decide +kernel), List.mem_of_getElem? (i := 1618) (by decide +kernel)⟩
theorem lw_p77 : lw_okq (⟨"SoupNineModel", "listLine", "(JI)Z"⟩, 57) := ⟨⟨by decide +kernel, by decide +kernel⟩, List.mem_of_getElem? (i := 1314) (by decide +kernel), List.mem_of_getElem? (i := 1627) (by decide +kernel), List.mem_of_getElem? (i := 1628) (by decide +kernel)⟩
theorem lw_p78 : lw_okq (⟨"SoupNineModel", "shoeLine", "()Z"⟩, 57) := ⟨⟨by decide +kernel, by decide +kernel⟩, List.mem_of_getElem? (i := 1314) (by decide +kernel), List.mem_of_getElem? (i := 1634) (by decide +kernel), List.mem_of_getElem? (i := 1635) (by decide +kernel)⟩
theorem lw_p79 : lw_okq (⟨"SoupNineModel", "footLine", "()Z"⟩, 57) := ⟨⟨by decide +kernel, by decide +kernel⟩, List.mem_of_getElem? (i := 1314) (by decide +kernel), List.mem_of_getElem? (i := 1638) (by decide +kernel), List.mem_of_getElem? (i := 1639) (by decide +kernel)⟩
def lw_privs_5 : List (MethodName × Nat) := [(⟨"SoupNineModel", "fails", "()Z"⟩, 57), (⟨"SoupNineModel", "full", "(III)V"⟩, 57), (⟨"SoupNineModel", "later", "(II)V"⟩, 57), (⟨"SoupNineModel", "stopLine", "(I)Z"⟩, 57), (⟨"SoupNineModel", "take", "(III)Z"⟩, 57), (⟨"SoupNineModel", "takeBut", "(IIII)Z"⟩, 57), (⟨"SoupNineModel", "followLine", "()Z"⟩, 57), (⟨"SoupNineModel", "homeLine", "()Z"⟩, 57), (⟨"SoupNineModel", "plainLine", "(III)Z"⟩, 57), (⟨"SoupNineModel", "dayLine", "(JI)Z"⟩, 57), (⟨"SoupNineModel", "keep", "(II)V"⟩, 57), (⟨"SoupNineModel", "bookLine", "(JI)Z"⟩, 57), (⟨"SoupNineModel", "askedLine", "(I)Z"⟩, 57), (⟨"SoupNineModel", "listLine", "(JI)Z"⟩, 57), (⟨"SoupNineModel", "shoeLine", "()Z"⟩, 57), (⟨"SoupNineModel", "footLine", "()Z"⟩, 57)]
theorem lw_r5 : ∀ q ∈ lw_privs_5, lw_okq q := List.forall_mem_cons.mpr ⟨lw_p64, List.forall_mem_cons.mpr ⟨lw_p65, List.forall_mem_cons.mpr ⟨lw_p66, List.forall_mem_cons.mpr ⟨lw_p67, List.forall_mem_cons.mpr ⟨lw_p68, List.forall_mem_cons.mpr ⟨lw_p69, List.forall_mem_cons.mpr ⟨lw_p70, List.forall_mem_cons.mpr ⟨lw_p71, List.forall_mem_cons.mpr ⟨lw_p72, List.forall_mem_cons.mpr ⟨lw_p73, List.forall_mem_cons.mpr ⟨lw_p74, List.forall_mem_cons.mpr ⟨lw_p75, List.forall_mem_cons.mpr ⟨lw_p76, List.forall_mem_cons.mpr ⟨lw_p77, List.forall_mem_cons.mpr ⟨lw_p78, List.forall_mem_cons.mpr ⟨lw_p79, fun _ h => absurd h List.not_mem_nil⟩⟩⟩⟩⟩⟩⟩⟩⟩⟩⟩⟩⟩⟩⟩⟩
theorem lw_p80 : lw_okq (⟨"SoupNineModel", "hideLine", "()Z"⟩, 57) := ⟨⟨by decide +kernel, by decide +kernel⟩, List.mem_of_getElem? (i := 1314) (by decide +kernel), List.mem_of_getElem? (i := 1642) (by decide +kernel), List.mem_of_getElem? (i := 1643) (by decide +kernel)⟩
theorem lw_p81 : lw_okq (⟨"SoupNineModel", "storeAll", "(II)V"⟩, 57) := ⟨⟨by decide +kernel, by decide +kernel⟩, List.mem_of_getElem? (i := 1314) (by decide +kernel), List.mem_of_getElem? (i := 1646) (by decide +kernel), List.mem_of_getElem? (i := 1647) (by decide +kernel)⟩
theorem lw_p82 : lw_okq (⟨"SoupNineModel", "store", "([III)V"⟩, 57) := ⟨⟨by decide +kernel, by decide +kernel⟩, List.mem_of_getElem? (i := 1314) (by decide +kernel), List.mem_of_getElem? (i := 1650) (by decide +kernel), List.mem_of_getElem? (i := 1651) (by decide +kernel)⟩
theorem lw_p83 : lw_okq (⟨"SoupNineModel", "hand", "(I)Z"⟩, 57) := ⟨⟨by decide +kernel, by decide +kernel⟩, List.mem_of_getElem? (i := 1314) (by decide +kernel), List.mem_of_getElem? (i := 1662) (by decide +kernel), List.mem_of_getElem? (i := 1663) (by decide +kernel)⟩
theorem lw_p84 : lw_okq (⟨"SoupNineModel", "of", "(I)I"⟩, 57) := ⟨⟨by decide +kernel, by decide +kernel⟩, List.mem_of_getElem? (i := 1314) (by decide +kernel), List.mem_of_getElem? (i := 1666) (by decide +kernel), List.mem_of_getElem? (i := 1667) (by decide +kernel)⟩
theorem lw_p85 : lw_okq (⟨"SoupNineModel", "isStop", "(I)Z"⟩, 57) := ⟨⟨by decide +kernel, by decide +kernel⟩, List.mem_of_getElem? (i := 1314) (by decide +kernel), List.mem_of_getElem? (i := 1670) (by decide +kernel), List.mem_of_getElem? (i := 1671) (by decide +kernel)⟩
theorem lw_p86 : lw_okq (⟨"SoupNineModel", "hasEvening", "(I)Z"⟩, 57) := ⟨⟨by decide +kernel, by decide +kernel⟩, List.mem_of_getElem? (i := 1314) (by decide +kernel), List.mem_of_getElem? (i := 1678) (by decide +kernel), List.mem_of_getElem? (i := 1679) (by decide +kernel)⟩
theorem lw_p87 : lw_okq (⟨"SoupNineModel", "deeds", "()I"⟩, 57) := ⟨⟨by decide +kernel, by decide +kernel⟩, List.mem_of_getElem? (i := 1314) (by decide +kernel), List.mem_of_getElem? (i := 1682) (by decide +kernel), List.mem_of_getElem? (i := 1683) (by decide +kernel)⟩
theorem lw_p88 : lw_okq (⟨"SoupNineModel", "deedOf", "(II)I"⟩, 57) := ⟨⟨by decide +kernel, by decide +kernel⟩, List.mem_of_getElem? (i := 1314) (by decide +kernel), List.mem_of_getElem? (i := 1686) (by decide +kernel), List.mem_of_getElem? (i := 1687) (by decide +kernel)⟩
theorem lw_p89 : lw_okq (⟨"SoupNineModel", "layAll", "(II)Z"⟩, 57) := ⟨⟨by decide +kernel, by decide +kernel⟩, List.mem_of_getElem? (i := 1314) (by decide +kernel), List.mem_of_getElem? (i := 1694) (by decide +kernel), List.mem_of_getElem? (i := 1695) (by decide +kernel)⟩
theorem lw_p90 : lw_okq (⟨"SoupNineModel", "play", "(I)I"⟩, 57) := ⟨⟨by decide +kernel, by decide +kernel⟩, List.mem_of_getElem? (i := 1314) (by decide +kernel), List.mem_of_getElem? (i := 1698) (by decide +kernel), List.mem_of_getElem? (i := 1699) (by decide +kernel)⟩
theorem lw_p91 : lw_okq (⟨"SoupNineModel", "begin", "()V"⟩, 57) := ⟨⟨by decide +kernel, by decide +kernel⟩, List.mem_of_getElem? (i := 1314) (by decide +kernel), List.mem_of_getElem? (i := 1702) (by decide +kernel), List.mem_of_getElem? (i := 1703) (by decide +kernel)⟩
theorem lw_p92 : lw_okq (⟨"SoupNineModel", "middle", "(I)I"⟩, 57) := ⟨⟨by decide +kernel, by decide +kernel⟩, List.mem_of_getElem? (i := 1314) (by decide +kernel), List.mem_of_getElem? (i := 1706) (by decide +kernel), List.mem_of_getElem? (i := 1707) (by decide +kernel)⟩
theorem lw_p93 : lw_okq (⟨"SoupNineModel", "does", "(II)Z"⟩, 57) := ⟨⟨by decide +kernel, by decide +kernel⟩, List.mem_of_getElem? (i := 1314) (by decide +kernel), List.mem_of_getElem? (i := 1710) (by decide +kernel), List.mem_of_getElem? (i := 1711) (by decide +kernel)⟩
theorem lw_p94 : lw_okq (⟨"SoupNineModel", "drivesTo", "(I)Z"⟩, 57) := ⟨⟨by decide +kernel, by decide +kernel⟩, List.mem_of_getElem? (i := 1314) (by decide +kernel), List.mem_of_getElem? (i := 1714) (by decide +kernel), List.mem_of_getElem? (i := 1715) (by decide +kernel)⟩
theorem lw_p95 : lw_okq (⟨"SoupNineModel", "drives", "(II)I"⟩, 57) := ⟨⟨by decide +kernel, by decide +kernel⟩, List.mem_of_getElem? (i := 1314) (by decide +kernel), List.mem_of_getElem? (i := 1718) (by decide +kernel), List.mem_of_getElem? (i := 1719) (by decide +kernel)⟩
def lw_privs_6 : List (MethodName × Nat) := [(⟨"SoupNineModel", "hideLine", "()Z"⟩, 57), (⟨"SoupNineModel", "storeAll", "(II)V"⟩, 57), (⟨"SoupNineModel", "store", "([III)V"⟩, 57), (⟨"SoupNineModel", "hand", "(I)Z"⟩, 57), (⟨"SoupNineModel", "of", "(I)I"⟩, 57), (⟨"SoupNineModel", "isStop", "(I)Z"⟩, 57), (⟨"SoupNineModel", "hasEvening", "(I)Z"⟩, 57), (⟨"SoupNineModel", "deeds", "()I"⟩, 57), (⟨"SoupNineModel", "deedOf", "(II)I"⟩, 57), (⟨"SoupNineModel", "layAll", "(II)Z"⟩, 57), (⟨"SoupNineModel", "play", "(I)I"⟩, 57), (⟨"SoupNineModel", "begin", "()V"⟩, 57), (⟨"SoupNineModel", "middle", "(I)I"⟩, 57), (⟨"SoupNineModel", "does", "(II)Z"⟩, 57), (⟨"SoupNineModel", "drivesTo", "(I)Z"⟩, 57), (⟨"SoupNineModel", "drives", "(II)I"⟩, 57)]
theorem lw_r6 : ∀ q ∈ lw_privs_6, lw_okq q := List.forall_mem_cons.mpr ⟨lw_p80, List.forall_mem_cons.mpr ⟨lw_p81, List.forall_mem_cons.mpr ⟨lw_p82, List.forall_mem_cons.mpr ⟨lw_p83, List.forall_mem_cons.mpr ⟨lw_p84, List.forall_mem_cons.mpr ⟨lw_p85, List.forall_mem_cons.mpr ⟨lw_p86, List.forall_mem_cons.mpr ⟨lw_p87, List.forall_mem_cons.mpr ⟨lw_p88, List.forall_mem_cons.mpr ⟨lw_p89, List.forall_mem_cons.mpr ⟨lw_p90, List.forall_mem_cons.mpr ⟨lw_p91, List.forall_mem_cons.mpr ⟨lw_p92, List.forall_mem_cons.mpr ⟨lw_p93, List.forall_mem_cons.mpr ⟨lw_p94, List.forall_mem_cons.mpr ⟨lw_p95, fun _ h => absurd h List.not_mem_nil⟩⟩⟩⟩⟩⟩⟩⟩⟩⟩⟩⟩⟩⟩⟩⟩
theorem lw_p96 : lw_okq (⟨"SoupNineModel", "placeX", "(I)I"⟩, 57) := ⟨⟨by decide +kernel, by decide +kernel⟩, List.mem_of_getElem? (i := 1314) (by decide +kernel), List.mem_of_getElem? (i := 1722) (by decide +kernel), List.mem_of_getElem? (i := 1723) (by decide +kernel)⟩
theorem lw_p97 : lw_okq (⟨"SoupNineModel", "placeY", "(I)I"⟩, 57) := ⟨⟨by decide +kernel, by decide +kernel⟩, List.mem_of_getElem? (i := 1314) (by decide +kernel), List.mem_of_getElem? (i := 1729) (by decide +kernel), List.mem_of_getElem? (i := 1730) (by decide +kernel)⟩
theorem lw_p98 : lw_okq (⟨"SoupNineModel", "takes", "(I)Z"⟩, 57) := ⟨⟨by decide +kernel, by decide +kernel⟩, List.mem_of_getElem? (i := 1314) (by decide +kernel), List.mem_of_getElem? (i := 1733) (by decide +kernel), List.mem_of_getElem? (i := 1734) (by decide +kernel)⟩
theorem lw_p99 : lw_okq (⟨"SoupNineModel", "ladles", "(I)Z"⟩, 57) := ⟨⟨by decide +kernel, by decide +kernel⟩, List.mem_of_getElem? (i := 1314) (by decide +kernel), List.mem_of_getElem? (i := 1737) (by decide +kernel), List.mem_of_getElem? (i := 1738) (by decide +kernel)⟩
theorem lw_p100 : lw_okq (⟨"SoupNineModel", "chats", "()Z"⟩, 57) := ⟨⟨by decide +kernel, by decide +kernel⟩, List.mem_of_getElem? (i := 1314) (by decide +kernel), List.mem_of_getElem? (i := 1747) (by decide +kernel), List.mem_of_getElem? (i := 1748) (by decide +kernel)⟩
theorem lw_p101 : lw_okq (⟨"SoupNineModel", "ofState", "(I)I"⟩, 57) := ⟨⟨by decide +kernel, by decide +kernel⟩, List.mem_of_getElem? (i := 1314) (by decide +kernel), List.mem_of_getElem? (i := 1755) (by decide +kernel), List.mem_of_getElem? (i := 1756) (by decide +kernel)⟩
theorem lw_p102 : lw_okq (⟨"SoupNineModel", "ofEvening", "(I)I"⟩, 57) := ⟨⟨by decide +kernel, by decide +kernel⟩, List.mem_of_getElem? (i := 1314) (by decide +kernel), List.mem_of_getElem? (i := 1759) (by decide +kernel), List.mem_of_getElem? (i := 1760) (by decide +kernel)⟩
theorem lw_p103 : lw_okq (⟨"SoupNineModel", "mayCome", "(II)Z"⟩, 57) := ⟨⟨by decide +kernel, by decide +kernel⟩, List.mem_of_getElem? (i := 1314) (by decide +kernel), List.mem_of_getElem? (i := 1767) (by decide +kernel), List.mem_of_getElem? (i := 1768) (by decide +kernel)⟩
theorem lw_p104 : lw_okq (⟨"SoupNineModel", "findCounts", "()V"⟩, 57) := ⟨⟨by decide +kernel, by decide +kernel⟩, List.mem_of_getElem? (i := 1314) (by decide +kernel), List.mem_of_getElem? (i := 1771) (by decide +kernel), List.mem_of_getElem? (i := 1772) (by decide +kernel)⟩
theorem lw_p105 : lw_okq (⟨"SoupNineModel", "gives", "(III)I"⟩, 57) := ⟨⟨by decide +kernel, by decide +kernel⟩, List.mem_of_getElem? (i := 1314) (by decide +kernel), List.mem_of_getElem? (i := 1775) (by decide +kernel), List.mem_of_getElem? (i := 1776) (by decide +kernel)⟩
theorem lw_p106 : lw_okq (⟨"SoupNineModel", "countsBy", "(IIII)J"⟩, 57) := ⟨⟨by decide +kernel, by decide +kernel⟩, List.mem_of_getElem? (i := 1314) (by decide +kernel), List.mem_of_getElem? (i := 1779) (by decide +kernel), List.mem_of_getElem? (i := 1780) (by decide +kernel)⟩
theorem lw_p107 : lw_okq (⟨"SoupNineModel", "weight", "(I)I"⟩, 57) := ⟨⟨by decide +kernel, by decide +kernel⟩, List.mem_of_getElem? (i := 1314) (by decide +kernel), List.mem_of_getElem? (i := 1783) (by decide +kernel), List.mem_of_getElem? (i := 1784) (by decide +kernel)⟩
theorem lw_p108 : lw_okq (⟨"SoupNineModel", "findWay", "(I)V"⟩, 57) := ⟨⟨by decide +kernel, by decide +kernel⟩, List.mem_of_getElem? (i := 1314) (by decide +kernel), List.mem_of_getElem? (i := 1806) (by decide +kernel), List.mem_of_getElem? (i := 1807) (by decide +kernel)⟩
theorem lw_p109 : lw_okq (⟨"SoupNineModel", "findOn", "(III)V"⟩, 57) := ⟨⟨by decide +kernel, by decide +kernel⟩, List.mem_of_getElem? (i := 1314) (by decide +kernel), List.mem_of_getElem? (i := 1810) (by decide +kernel), List.mem_of_getElem? (i := 1811) (by decide +kernel)⟩
theorem lw_p110 : lw_okq (⟨"SoupNineModel", "peopleOf", "(I)I"⟩, 57) := ⟨⟨by decide +kernel, by decide +kernel⟩, List.mem_of_getElem? (i := 1314) (by decide +kernel), List.mem_of_getElem? (i := 1814) (by decide +kernel), List.mem_of_getElem? (i := 1815) (by decide +kernel)⟩
theorem lw_p111 : lw_okq (⟨"SoupNineModel", "goOn", "(III)V"⟩, 57) := ⟨⟨by decide +kernel, by decide +kernel⟩, List.mem_of_getElem? (i := 1314) (by decide +kernel), List.mem_of_getElem? (i := 1822) (by decide +kernel), List.mem_of_getElem? (i := 1823) (by decide +kernel)⟩
def lw_privs_7 : List (MethodName × Nat) := [(⟨"SoupNineModel", "placeX", "(I)I"⟩, 57), (⟨"SoupNineModel", "placeY", "(I)I"⟩, 57), (⟨"SoupNineModel", "takes", "(I)Z"⟩, 57), (⟨"SoupNineModel", "ladles", "(I)Z"⟩, 57), (⟨"SoupNineModel", "chats", "()Z"⟩, 57), (⟨"SoupNineModel", "ofState", "(I)I"⟩, 57), (⟨"SoupNineModel", "ofEvening", "(I)I"⟩, 57), (⟨"SoupNineModel", "mayCome", "(II)Z"⟩, 57), (⟨"SoupNineModel", "findCounts", "()V"⟩, 57), (⟨"SoupNineModel", "gives", "(III)I"⟩, 57), (⟨"SoupNineModel", "countsBy", "(IIII)J"⟩, 57), (⟨"SoupNineModel", "weight", "(I)I"⟩, 57), (⟨"SoupNineModel", "findWay", "(I)V"⟩, 57), (⟨"SoupNineModel", "findOn", "(III)V"⟩, 57), (⟨"SoupNineModel", "peopleOf", "(I)I"⟩, 57), (⟨"SoupNineModel", "goOn", "(III)V"⟩, 57)]
theorem lw_r7 : ∀ q ∈ lw_privs_7, lw_okq q := List.forall_mem_cons.mpr ⟨lw_p96, List.forall_mem_cons.mpr ⟨lw_p97, List.forall_mem_cons.mpr ⟨lw_p98, List.forall_mem_cons.mpr ⟨lw_p99, List.forall_mem_cons.mpr ⟨lw_p100, List.forall_mem_cons.mpr ⟨lw_p101, List.forall_mem_cons.mpr ⟨lw_p102, List.forall_mem_cons.mpr ⟨lw_p103, List.forall_mem_cons.mpr ⟨lw_p104, List.forall_mem_cons.mpr ⟨lw_p105, List.forall_mem_cons.mpr ⟨lw_p106, List.forall_mem_cons.mpr ⟨lw_p107, List.forall_mem_cons.mpr ⟨lw_p108, List.forall_mem_cons.mpr ⟨lw_p109, List.forall_mem_cons.mpr ⟨lw_p110, List.forall_mem_cons.mpr ⟨lw_p111, fun _ h => absurd h List.not_mem_nil⟩⟩⟩⟩⟩⟩⟩⟩⟩⟩⟩⟩⟩⟩⟩⟩
theorem lw_p112 : lw_okq (⟨"SoupNineModel", "isSought", "(I)Z"⟩, 57) := ⟨⟨by decide +kernel, by decide +kernel⟩, List.mem_of_getElem? (i := 1314) (by decide +kernel), List.mem_of_getElem? (i := 1826) (by decide +kernel), List.mem_of_getElem? (i := 1827) (by decide +kernel)⟩
theorem lw_p113 : lw_okq (⟨"SoupNineModel", "doneThere", "(III)I"⟩, 57) := ⟨⟨by decide +kernel, by decide +kernel⟩, List.mem_of_getElem? (i := 1314) (by decide +kernel), List.mem_of_getElem? (i := 1830) (by decide +kernel), List.mem_of_getElem? (i := 1831) (by decide +kernel)⟩
theorem lw_p114 : lw_okq (⟨"SoupNineModel", "leads", "(IIIIII)Z"⟩, 57) := ⟨⟨by decide +kernel, by decide +kernel⟩, List.mem_of_getElem? (i := 1314) (by decide +kernel), List.mem_of_getElem? (i := 1834) (by decide +kernel), List.mem_of_getElem? (i := 1835) (by decide +kernel)⟩
theorem lw_p115 : lw_okq (⟨"SoupNineModel", "findRounds", "()V"⟩, 57) := ⟨⟨by decide +kernel, by decide +kernel⟩, List.mem_of_getElem? (i := 1314) (by decide +kernel), List.mem_of_getElem? (i := 1842) (by decide +kernel), List.mem_of_getElem? (i := 1843) (by decide +kernel)⟩
theorem lw_p116 : lw_okq (⟨"SoupNineModel", "areWarm", "(II)Z"⟩, 57) := ⟨⟨by decide +kernel, by decide +kernel⟩, List.mem_of_getElem? (i := 1314) (by decide +kernel), List.mem_of_getElem? (i := 1853) (by decide +kernel), List.mem_of_getElem? (i := 1854) (by decide +kernel)⟩
theorem lw_p117 : lw_okq (⟨"SoupNineModel", "hasBook", "(I)Z"⟩, 57) := ⟨⟨by decide +kernel, by decide +kernel⟩, List.mem_of_getElem? (i := 1314) (by decide +kernel), List.mem_of_getElem? (i := 1865) (by decide +kernel), List.mem_of_getElem? (i := 1866) (by decide +kernel)⟩
theorem lw_p118 : lw_okq (⟨"SoupNineModel", "nights", "()I"⟩, 57) := ⟨⟨by decide +kernel, by decide +kernel⟩, List.mem_of_getElem? (i := 1314) (by decide +kernel), List.mem_of_getElem? (i := 1869) (by decide +kernel), List.mem_of_getElem? (i := 1870) (by decide +kernel)⟩
theorem lw_p119 : lw_okq (⟨"SoupNineModel", "nightOf", "(II)I"⟩, 57) := ⟨⟨by decide +kernel, by decide +kernel⟩, List.mem_of_getElem? (i := 1314) (by decide +kernel), List.mem_of_getElem? (i := 1873) (by decide +kernel), List.mem_of_getElem? (i := 1874) (by decide +kernel)⟩
theorem lw_p120 : lw_okq (⟨"SoupNineModel", "heldBy", "(Z)J"⟩, 57) := ⟨⟨by decide +kernel, by decide +kernel⟩, List.mem_of_getElem? (i := 1314) (by decide +kernel), List.mem_of_getElem? (i := 1881) (by decide +kernel), List.mem_of_getElem? (i := 1882) (by decide +kernel)⟩
theorem lw_p121 : lw_okq (⟨"SoupNineModel", "doorway", "()I"⟩, 57) := ⟨⟨by decide +kernel, by decide +kernel⟩, List.mem_of_getElem? (i := 1314) (by decide +kernel), List.mem_of_getElem? (i := 1885) (by decide +kernel), List.mem_of_getElem? (i := 1886) (by decide +kernel)⟩
theorem lw_p122 : lw_okq (⟨"SoupNineModel", "moreFrom", "(I)I"⟩, 57) := ⟨⟨by decide +kernel, by decide +kernel⟩, List.mem_of_getElem? (i := 1314) (by decide +kernel), List.mem_of_getElem? (i := 1889) (by decide +kernel), List.mem_of_getElem? (i := 1890) (by decide +kernel)⟩
theorem lw_p123 : lw_okq (⟨"SoupNineModel", "seenFrom", "(II)I"⟩, 57) := ⟨⟨by decide +kernel, by decide +kernel⟩, List.mem_of_getElem? (i := 1314) (by decide +kernel), List.mem_of_getElem? (i := 1893) (by decide +kernel), List.mem_of_getElem? (i := 1894) (by decide +kernel)⟩
theorem lw_p124 : lw_okq (⟨"SoupNineModel", "enoughOn", "(II)I"⟩, 57) := ⟨⟨by decide +kernel, by decide +kernel⟩, List.mem_of_getElem? (i := 1314) (by decide +kernel), List.mem_of_getElem? (i := 1901) (by decide +kernel), List.mem_of_getElem? (i := 1902) (by decide +kernel)⟩
theorem lw_p125 : lw_okq (⟨"SoupNineModel", "hasList", "(I)Z"⟩, 57) := ⟨⟨by decide +kernel, by decide +kernel⟩, List.mem_of_getElem? (i := 1314) (by decide +kernel), List.mem_of_getElem? (i := 1913) (by decide +kernel), List.mem_of_getElem? (i := 1914) (by decide +kernel)⟩
theorem lw_p126 : lw_okq (⟨"SoupNineModel", "listOf", "(I)I"⟩, 57) := ⟨⟨by decide +kernel, by decide +kernel⟩, List.mem_of_getElem? (i := 1314) (by decide +kernel), List.mem_of_getElem? (i := 1917) (by decide +kernel), List.mem_of_getElem? (i := 1918) (by decide +kernel)⟩
theorem lw_p127 : lw_okq (⟨"SoupNineModel", "findNeeds", "()V"⟩, 57) := ⟨⟨by decide +kernel, by decide +kernel⟩, List.mem_of_getElem? (i := 1314) (by decide +kernel), List.mem_of_getElem? (i := 1925) (by decide +kernel), List.mem_of_getElem? (i := 1926) (by decide +kernel)⟩
def lw_privs_8 : List (MethodName × Nat) := [(⟨"SoupNineModel", "isSought", "(I)Z"⟩, 57), (⟨"SoupNineModel", "doneThere", "(III)I"⟩, 57), (⟨"SoupNineModel", "leads", "(IIIIII)Z"⟩, 57), (⟨"SoupNineModel", "findRounds", "()V"⟩, 57), (⟨"SoupNineModel", "areWarm", "(II)Z"⟩, 57), (⟨"SoupNineModel", "hasBook", "(I)Z"⟩, 57), (⟨"SoupNineModel", "nights", "()I"⟩, 57), (⟨"SoupNineModel", "nightOf", "(II)I"⟩, 57), (⟨"SoupNineModel", "heldBy", "(Z)J"⟩, 57), (⟨"SoupNineModel", "doorway", "()I"⟩, 57), (⟨"SoupNineModel", "moreFrom", "(I)I"⟩, 57), (⟨"SoupNineModel", "seenFrom", "(II)I"⟩, 57), (⟨"SoupNineModel", "enoughOn", "(II)I"⟩, 57), (⟨"SoupNineModel", "hasList", "(I)Z"⟩, 57), (⟨"SoupNineModel", "listOf", "(I)I"⟩, 57), (⟨"SoupNineModel", "findNeeds", "()V"⟩, 57)]
theorem lw_r8 : ∀ q ∈ lw_privs_8, lw_okq q := List.forall_mem_cons.mpr ⟨lw_p112, List.forall_mem_cons.mpr ⟨lw_p113, List.forall_mem_cons.mpr ⟨lw_p114, List.forall_mem_cons.mpr ⟨lw_p115, List.forall_mem_cons.mpr ⟨lw_p116, List.forall_mem_cons.mpr ⟨lw_p117, List.forall_mem_cons.mpr ⟨lw_p118, List.forall_mem_cons.mpr ⟨lw_p119, List.forall_mem_cons.mpr ⟨lw_p120, List.forall_mem_cons.mpr ⟨lw_p121, List.forall_mem_cons.mpr ⟨lw_p122, List.forall_mem_cons.mpr ⟨lw_p123, List.forall_mem_cons.mpr ⟨lw_p124, List.forall_mem_cons.mpr ⟨lw_p125, List.forall_mem_cons.mpr ⟨lw_p126, List.forall_mem_cons.mpr ⟨lw_p127, fun _ h => absurd h List.not_mem_nil⟩⟩⟩⟩⟩⟩⟩⟩⟩⟩⟩⟩⟩⟩⟩⟩
theorem lw_p128 : lw_okq (⟨"SoupNineModel", "isFit", "(II)Z"⟩, 57) := ⟨⟨by decide +kernel, by decide +kernel⟩, List.mem_of_getElem? (i := 1314) (by decide +kernel), List.mem_of_getElem? (i := 1929) (by decide +kernel), List.mem_of_getElem? (i := 1930) (by decide +kernel)⟩
theorem lw_p129 : lw_okq (⟨"SoupNineModel", "shoeOf", "(I)I"⟩, 57) := ⟨⟨by decide +kernel, by decide +kernel⟩, List.mem_of_getElem? (i := 1314) (by decide +kernel), List.mem_of_getElem? (i := 1933) (by decide +kernel), List.mem_of_getElem? (i := 1934) (by decide +kernel)⟩
theorem lw_p130 : lw_okq (⟨"SoupNineModel", "hides", "()I"⟩, 57) := ⟨⟨by decide +kernel, by decide +kernel⟩, List.mem_of_getElem? (i := 1314) (by decide +kernel), List.mem_of_getElem? (i := 1941) (by decide +kernel), List.mem_of_getElem? (i := 1942) (by decide +kernel)⟩
theorem lw_p131 : lw_okq (⟨"SoupNineModel", "odds", "(I)I"⟩, 57) := ⟨⟨by decide +kernel, by decide +kernel⟩, List.mem_of_getElem? (i := 1314) (by decide +kernel), List.mem_of_getElem? (i := 1945) (by decide +kernel), List.mem_of_getElem? (i := 1946) (by decide +kernel)⟩
theorem lw_p132 : lw_okq (⟨"SoupNineModel", "findLooks", "()V"⟩, 57) := ⟨⟨by decide +kernel, by decide +kernel⟩, List.mem_of_getElem? (i := 1314) (by decide +kernel), List.mem_of_getElem? (i := 1949) (by decide +kernel), List.mem_of_getElem? (i := 1950) (by decide +kernel)⟩
theorem lw_p133 : lw_okq (⟨"SoupNineModel", "looksOn", "(III)I"⟩, 57) := ⟨⟨by decide +kernel, by decide +kernel⟩, List.mem_of_getElem? (i := 1314) (by decide +kernel), List.mem_of_getElem? (i := 1953) (by decide +kernel), List.mem_of_getElem? (i := 1954) (by decide +kernel)⟩
theorem lw_p134 : lw_okq (⟨"SoupNineModel", "hideX", "(I)I"⟩, 57) := ⟨⟨by decide +kernel, by decide +kernel⟩, List.mem_of_getElem? (i := 1314) (by decide +kernel), List.mem_of_getElem? (i := 1957) (by decide +kernel), List.mem_of_getElem? (i := 1958) (by decide +kernel)⟩
theorem lw_p135 : lw_okq (⟨"SoupNineModel", "hideY", "(I)I"⟩, 57) := ⟨⟨by decide +kernel, by decide +kernel⟩, List.mem_of_getElem? (i := 1314) (by decide +kernel), List.mem_of_getElem? (i := 1961) (by decide +kernel), List.mem_of_getElem? (i := 1962) (by decide +kernel)⟩
theorem lw_p136 : lw_okq (⟨"SoupNineModel", "hideAt", "(I)I"⟩, 57) := ⟨⟨by decide +kernel, by decide +kernel⟩, List.mem_of_getElem? (i := 1314) (by decide +kernel), List.mem_of_getElem? (i := 1965) (by decide +kernel), List.mem_of_getElem? (i := 1966) (by decide +kernel)⟩
theorem lw_p137 : lw_okq (⟨"SoupNineModel", "drawDeed", "()V"⟩, 57) := ⟨⟨by decide +kernel, by decide +kernel⟩, List.mem_of_getElem? (i := 1314) (by decide +kernel), List.mem_of_getElem? (i := 2005) (by decide +kernel), List.mem_of_getElem? (i := 2006) (by decide +kernel)⟩
theorem lw_p138 : lw_okq (⟨"SoupNineModel", "draw", "(I)I"⟩, 57) := ⟨⟨by decide +kernel, by decide +kernel⟩, List.mem_of_getElem? (i := 1314) (by decide +kernel), List.mem_of_getElem? (i := 2009) (by decide +kernel), List.mem_of_getElem? (i := 2010) (by decide +kernel)⟩
theorem lw_p139 : lw_okq (⟨"SoupNineModel", "drivenFrom", "(II)I"⟩, 57) := ⟨⟨by decide +kernel, by decide +kernel⟩, List.mem_of_getElem? (i := 1314) (by decide +kernel), List.mem_of_getElem? (i := 2022) (by decide +kernel), List.mem_of_getElem? (i := 2023) (by decide +kernel)⟩
theorem lw_p140 : lw_okq (⟨"SoupNineModel", "picks", "(II)V"⟩, 57) := ⟨⟨by decide +kernel, by decide +kernel⟩, List.mem_of_getElem? (i := 1314) (by decide +kernel), List.mem_of_getElem? (i := 2046) (by decide +kernel), List.mem_of_getElem? (i := 2047) (by decide +kernel)⟩
theorem lw_p141 : lw_okq (⟨"SoupNineModel", "copyAll", "(II)V"⟩, 57) := ⟨⟨by decide +kernel, by decide +kernel⟩, List.mem_of_getElem? (i := 1314) (by decide +kernel), List.mem_of_getElem? (i := 2079) (by decide +kernel), List.mem_of_getElem? (i := 2080) (by decide +kernel)⟩
def lw_privs_9 : List (MethodName × Nat) := [(⟨"SoupNineModel", "isFit", "(II)Z"⟩, 57), (⟨"SoupNineModel", "shoeOf", "(I)I"⟩, 57), (⟨"SoupNineModel", "hides", "()I"⟩, 57), (⟨"SoupNineModel", "odds", "(I)I"⟩, 57), (⟨"SoupNineModel", "findLooks", "()V"⟩, 57), (⟨"SoupNineModel", "looksOn", "(III)I"⟩, 57), (⟨"SoupNineModel", "hideX", "(I)I"⟩, 57), (⟨"SoupNineModel", "hideY", "(I)I"⟩, 57), (⟨"SoupNineModel", "hideAt", "(I)I"⟩, 57), (⟨"SoupNineModel", "drawDeed", "()V"⟩, 57), (⟨"SoupNineModel", "draw", "(I)I"⟩, 57), (⟨"SoupNineModel", "drivenFrom", "(II)I"⟩, 57), (⟨"SoupNineModel", "picks", "(II)V"⟩, 57), (⟨"SoupNineModel", "copyAll", "(II)V"⟩, 57)]
theorem lw_r9 : ∀ q ∈ lw_privs_9, lw_okq q := List.forall_mem_cons.mpr ⟨lw_p128, List.forall_mem_cons.mpr ⟨lw_p129, List.forall_mem_cons.mpr ⟨lw_p130, List.forall_mem_cons.mpr ⟨lw_p131, List.forall_mem_cons.mpr ⟨lw_p132, List.forall_mem_cons.mpr ⟨lw_p133, List.forall_mem_cons.mpr ⟨lw_p134, List.forall_mem_cons.mpr ⟨lw_p135, List.forall_mem_cons.mpr ⟨lw_p136, List.forall_mem_cons.mpr ⟨lw_p137, List.forall_mem_cons.mpr ⟨lw_p138, List.forall_mem_cons.mpr ⟨lw_p139, List.forall_mem_cons.mpr ⟨lw_p140, List.forall_mem_cons.mpr ⟨lw_p141, fun _ h => absurd h List.not_mem_nil⟩⟩⟩⟩⟩⟩⟩⟩⟩⟩⟩⟩⟩⟩
def lw_privs : List (MethodName × Nat) := lw_privs_1 ++ (lw_privs_2 ++ (lw_privs_3 ++ (lw_privs_4 ++ (lw_privs_5 ++ (lw_privs_6 ++ (lw_privs_7 ++ (lw_privs_8 ++ (lw_privs_9))))))))
def lw_tbl : List Cond := k2_sels lw_privs ++ tables_1
theorem lw_privs_ok : ∀ q ∈ lw_privs, lw_okq q := by
  show ∀ q ∈ lw_privs_1 ++ (lw_privs_2 ++ (lw_privs_3 ++ (lw_privs_4 ++ (lw_privs_5 ++ (lw_privs_6 ++ (lw_privs_7 ++ (lw_privs_8 ++ (lw_privs_9)))))))), lw_okq q
  exact List.forall_mem_append.mpr ⟨lw_r1, List.forall_mem_append.mpr ⟨lw_r2, List.forall_mem_append.mpr ⟨lw_r3, List.forall_mem_append.mpr ⟨lw_r4, List.forall_mem_append.mpr ⟨lw_r5, List.forall_mem_append.mpr ⟨lw_r6, List.forall_mem_append.mpr ⟨lw_r7, List.forall_mem_append.mpr ⟨lw_r8, lw_r9⟩⟩⟩⟩⟩⟩⟩⟩
def xT0 : u_T := fun k => match k with
  | 0 => ("SoupNine", "now", "LSoupNine$Told;", true)
  | 1 => ("SoupNine", "images", "[LSoupNine$Told;", true)
  | 2 => ("SoupNine", "reader", "LSoupNine$Reader;", true)
  | 3 => ("SoupNine", "walk", "LSoupNine$Walk;", true)
  | 4 => ("SoupNine", "bowls", "LSoupNine$Bowls;", true)
  | 5 => ("SoupNine", "routes", "LSoupNine$Routes;", true)
  | 6 => ("SoupNine", "search", "LSoupNine$Search;", true)
  | _ => ("SoupNine", "lots", "[I", true)
def xT1 : u_T := fun k => match k with
  | 0 => ("SoupNine$Told", "tape", "[B", true)
  | 1 => ("SoupNine$Told", "length", "I", false)
  | 2 => ("SoupNine$Told", "fault", "I", false)
  | 3 => ("SoupNine$Told", "place", "I", false)
  | 4 => ("SoupNine$Told", "counts", "[I", true)
  | 5 => ("SoupNine$Told", "towns", "[LSoupNine$Town;", true)
  | 6 => ("SoupNine$Told", "evenings", "[LSoupNine$Evening;", true)
  | 7 => ("SoupNine$Told", "books", "[LSoupNine$Book;", true)
  | _ => ("SoupNine$Told", "sheets", "[LSoupNine$Sheet;", true)
def xT2 : u_T := fun k => match k with
  | 0 => ("SoupNine$Town", "homeX", "I", false)
  | 1 => ("SoupNine$Town", "homeY", "I", false)
  | 2 => ("SoupNine$Town", "soup", "I", false)
  | 3 => ("SoupNine$Town", "pace", "I", false)
  | 4 => ("SoupNine$Town", "cold", "I", false)
  | 5 => ("SoupNine$Town", "talk", "I", false)
  | 6 => ("SoupNine$Town", "stops", "I", false)
  | 7 => ("SoupNine$Town", "kind", "[I", true)
  | 8 => ("SoupNine$Town", "x", "[I", true)
  | 9 => ("SoupNine$Town", "y", "[I", true)
  | 10 => ("SoupNine$Town", "least", "[I", true)
  | 11 => ("SoupNine$Town", "most", "[I", true)
  | 12 => ("SoupNine$Town", "followers", "[I", true)
  | _ => ("SoupNine$Town", "follow", "[I", true)
def xT3 : u_T := fun k => match k with
  | 0 => ("SoupNine$Evening", "deeds", "I", false)
  | 1 => ("SoupNine$Evening", "kind", "[I", true)
  | _ => ("SoupNine$Evening", "number", "[I", true)
def xT4 : u_T := fun k => match k with
  | 0 => ("SoupNine$Book", "nights", "I", false)
  | 1 => ("SoupNine$Book", "seen", "[I", true)
  | 2 => ("SoupNine$Book", "again", "[I", true)
  | _ => ("SoupNine$Book", "asked", "[I", true)
def xT5 : u_T := fun k => match k with
  | 0 => ("SoupNine$Sheet", "shoes", "I", false)
  | 1 => ("SoupNine$Sheet", "feet", "I", false)
  | 2 => ("SoupNine$Sheet", "hides", "I", false)
  | 3 => ("SoupNine$Sheet", "shoeSize", "[I", true)
  | 4 => ("SoupNine$Sheet", "footSize", "[I", true)
  | 5 => ("SoupNine$Sheet", "need", "[I", true)
  | 6 => ("SoupNine$Sheet", "x", "[I", true)
  | 7 => ("SoupNine$Sheet", "y", "[I", true)
  | _ => ("SoupNine$Sheet", "odds", "[I", true)
def xT6 : u_T := fun k => match k with
  | 0 => ("SoupNine$Reader", "tape", "[B", true)
  | 1 => ("SoupNine$Reader", "length", "I", false)
  | 2 => ("SoupNine$Reader", "at", "I", false)
  | 3 => ("SoupNine$Reader", "kind", "I", false)
  | 4 => ("SoupNine$Reader", "start", "I", false)
  | 5 => ("SoupNine$Reader", "value", "I", false)
  | 6 => ("SoupNine$Reader", "numbers", "[I", true)
  | 7 => ("SoupNine$Reader", "thing", "I", false)
  | 8 => ("SoupNine$Reader", "toldOf", "I", false)
  | 9 => ("SoupNine$Reader", "fault", "I", false)
  | 10 => ("SoupNine$Reader", "place", "I", false)
  | 11 => ("SoupNine$Reader", "town", "LSoupNine$Town;", true)
  | 12 => ("SoupNine$Reader", "evening", "LSoupNine$Evening;", true)
  | 13 => ("SoupNine$Reader", "book", "LSoupNine$Book;", true)
  | _ => ("SoupNine$Reader", "sheet", "LSoupNine$Sheet;", true)
def xT7 : u_T := fun k => match k with
  | 0 => ("SoupNine$Walk", "minute", "I", false)
  | 1 => ("SoupNine$Walk", "at", "I", false)
  | 2 => ("SoupNine$Walk", "aboard", "I", false)
  | 3 => ("SoupNine$Walk", "fed", "I", false)
  | 4 => ("SoupNine$Walk", "warm", "I", false)
  | 5 => ("SoupNine$Walk", "talked", "I", false)
  | 6 => ("SoupNine$Walk", "fedAgain", "I", false)
  | 7 => ("SoupNine$Walk", "seed", "I", false)
  | 8 => ("SoupNine$Walk", "waiting", "[I", true)
  | 9 => ("SoupNine$Walk", "waitingAgain", "[I", true)
  | 10 => ("SoupNine$Walk", "fedAt", "[I", true)
  | _ => ("SoupNine$Walk", "wentOn", "[I", true)
def xT8 : u_T := fun k => match k with
  | 0 => ("SoupNine$Bowls", "of", "LSoupNine$Town;", false)
  | 1 => ("SoupNine$Bowls", "counts", "[J", true)
  | 2 => ("SoupNine$Bowls", "ways", "[J", true)
  | _ => ("SoupNine$Bowls", "sums", "[J", true)
def xT9 : u_T := fun k => match k with
  | 0 => ("SoupNine$Routes", "of", "LSoupNine$Town;", false)
  | 1 => ("SoupNine$Routes", "full", "I", false)
  | 2 => ("SoupNine$Routes", "apart", "[I", true)
  | 3 => ("SoupNine$Routes", "path", "[I", true)
  | 4 => ("SoupNine$Routes", "tour", "[I", true)
  | 5 => ("SoupNine$Routes", "people", "[I", true)
  | 6 => ("SoupNine$Routes", "feeding", "[I", true)
  | 7 => ("SoupNine$Routes", "good", "[I", true)
  | 8 => ("SoupNine$Routes", "roundRow", "[I", true)
  | 9 => ("SoupNine$Routes", "wayRow", "[I", true)
  | 10 => ("SoupNine$Routes", "wayLength", "I", false)
  | 11 => ("SoupNine$Routes", "wayPeople", "I", false)
  | 12 => ("SoupNine$Routes", "wayMinutes", "I", false)
  | _ => ("SoupNine$Routes", "peopled", "I", false)
def xT10 : u_T := fun k => match k with
  | 0 => ("SoupNine$Search", "of", "LSoupNine$Sheet;", false)
  | 1 => ("SoupNine$Search", "need", "[I", true)
  | 2 => ("SoupNine$Search", "shoeRow", "[I", true)
  | 3 => ("SoupNine$Search", "walked", "[I", true)
  | 4 => ("SoupNine$Search", "oddsOf", "[I", true)
  | 5 => ("SoupNine$Search", "hideRow", "[I", true)
  | 6 => ("SoupNine$Search", "oddsInAll", "I", false)
  | _ => ("SoupNine$Search", "walkedInAll", "I", false)
def xT11 : u_T := fun k => match k with
  | 0 => ("SoupNineModel", "code", "I", false)
  | 1 => ("SoupNineModel", "tape", "[B", true)
  | 2 => ("SoupNineModel", "size", "[I", true)
  | 3 => ("SoupNineModel", "fault", "[I", true)
  | 4 => ("SoupNineModel", "faultPlace", "[I", true)
  | 5 => ("SoupNineModel", "many", "[I", true)
  | 6 => ("SoupNineModel", "towns", "[I", true)
  | 7 => ("SoupNineModel", "days", "[I", true)
  | 8 => ("SoupNineModel", "books", "[I", true)
  | 9 => ("SoupNineModel", "lists", "[I", true)
  | 10 => ("SoupNineModel", "reached", "I", false)
  | 11 => ("SoupNineModel", "length", "I", false)
  | 12 => ("SoupNineModel", "begins", "I", false)
  | 13 => ("SoupNineModel", "sort", "I", false)
  | 14 => ("SoupNineModel", "value", "I", false)
  | 15 => ("SoupNineModel", "word", "J", false)
  | 16 => ("SoupNineModel", "wrongAt", "I", false)
  | 17 => ("SoupNineModel", "laterFault", "I", false)
  | 18 => ("SoupNineModel", "laterPlace", "I", false)
  | 19 => ("SoupNineModel", "told", "[I", true)
  | 20 => ("SoupNineModel", "read", "[I", true)
  | 21 => ("SoupNineModel", "farStop", "I", false)
  | 22 => ("SoupNineModel", "good", "Z", false)
  | 23 => ("SoupNineModel", "town", "I", false)
  | 24 => ("SoupNineModel", "stops", "I", false)
  | 25 => ("SoupNineModel", "pace", "I", false)
  | 26 => ("SoupNineModel", "cold", "I", false)
  | 27 => ("SoupNineModel", "evening", "I", false)
  | 28 => ("SoupNineModel", "wait", "[I", true)
  | 29 => ("SoupNineModel", "again", "[I", true)
  | 30 => ("SoupNineModel", "gone", "[I", true)
  | 31 => ("SoupNineModel", "fedAt", "[I", true)
  | 32 => ("SoupNineModel", "minute", "I", false)
  | 33 => ("SoupNineModel", "where", "I", false)
  | 34 => ("SoupNineModel", "bowls", "I", false)
  | 35 => ("SoupNineModel", "fed", "I", false)
  | 36 => ("SoupNineModel", "warm", "I", false)
  | 37 => ("SoupNineModel", "talked", "I", false)
  | 38 => ("SoupNineModel", "fedAgain", "I", false)
  | 39 => ("SoupNineModel", "counts", "[J", true)
  | 40 => ("SoupNineModel", "wholes", "[J", true)
  | 41 => ("SoupNineModel", "doneBy", "[I", true)
  | 42 => ("SoupNineModel", "row", "[I", true)
  | 43 => ("SoupNineModel", "rowLong", "I", false)
  | 44 => ("SoupNineModel", "without", "I", false)
  | 45 => ("SoupNineModel", "mostPeople", "I", false)
  | 46 => ("SoupNineModel", "fewestMinutes", "I", false)
  | 47 => ("SoupNineModel", "toGo", "[I", true)
  | 48 => ("SoupNineModel", "book", "I", false)
  | 49 => ("SoupNineModel", "list", "I", false)
  | 50 => ("SoupNineModel", "needs", "[I", true)
  | 51 => ("SoupNineModel", "looks", "[I", true)
  | 52 => ("SoupNineModel", "seed", "I", false)
  | 53 => ("SoupNineModel", "sums", "[J", true)
  | 54 => ("SoupNineModel", "then", "[J", true)
  | 55 => ("SoupNineModel", "picks", "[J", true)
  | _ => ("SoupNineModel", "kept", "[Z", true)
def xcls : List vw_C := [("SoupNine", xT0, 8), ("SoupNine$Told", xT1, 9), ("SoupNine$Town", xT2, 14), ("SoupNine$Evening", xT3, 3), ("SoupNine$Book", xT4, 4), ("SoupNine$Sheet", xT5, 9), ("SoupNine$Reader", xT6, 15), ("SoupNine$Walk", xT7, 12), ("SoupNine$Bowls", xT8, 4), ("SoupNine$Routes", xT9, 14), ("SoupNine$Search", xT10, 8), ("SoupNineModel", xT11, 57)]
def xfts : List (List Nat) := [[2, 2, 2, 2, 2, 2, 2, 2], [2, 0, 0, 0, 2, 2, 2, 2, 2], [0, 0, 0, 0, 0, 0, 0, 2, 2, 2, 2, 2, 2, 2], [0, 2, 2], [0, 2, 2, 2], [0, 0, 0, 2, 2, 2, 2, 2, 2], [2, 0, 0, 0, 0, 0, 2, 0, 0, 0, 0, 2, 2, 2, 2], [0, 0, 0, 0, 0, 0, 0, 0, 2, 2, 2, 2], [2, 2, 2, 2], [2, 0, 2, 2, 2, 2, 2, 2, 2, 2, 0, 0, 0, 0], [2, 2, 2, 2, 2, 2, 0, 0], [0, 2, 2, 2, 2, 2, 2, 2, 2, 2, 0, 0, 0, 0, 0, 3, 0, 0, 0, 2, 2, 0, 1, 0, 0, 0, 0, 0, 2, 2, 2, 2, 0, 0, 0, 0, 0, 0, 0, 2, 2, 2, 2, 0, 0, 0, 0, 2, 0, 0, 2, 2, 0, 2, 2, 2, 2]]
def xft (t i : Nat) : Nat := (xfts.getD t []).getD i 0
def xnf (t : Nat) : Nat := (xfts.getD t []).length
def xtyl : List (List FieldType) := [[.object "SoupNine$Told", .array (.object "SoupNine$Told"), .object "SoupNine$Reader", .object "SoupNine$Walk", .object "SoupNine$Bowls", .object "SoupNine$Routes", .object "SoupNine$Search", .array .int], [.array .byte, .int, .int, .int, .array .int, .array (.object "SoupNine$Town"), .array (.object "SoupNine$Evening"), .array (.object "SoupNine$Book"), .array (.object "SoupNine$Sheet")], [.int, .int, .int, .int, .int, .int, .int, .array .int, .array .int, .array .int, .array .int, .array .int, .array .int, .array .int], [.int, .array .int, .array .int], [.int, .array .int, .array .int, .array .int], [.int, .int, .int, .array .int, .array .int, .array .int, .array .int, .array .int, .array .int], [.array .byte, .int, .int, .int, .int, .int, .array .int, .int, .int, .int, .int, .object "SoupNine$Town", .object "SoupNine$Evening", .object "SoupNine$Book", .object "SoupNine$Sheet"], [.int, .int, .int, .int, .int, .int, .int, .int, .array .int, .array .int, .array .int, .array .int], [.object "SoupNine$Town", .array .long, .array .long, .array .long], [.object "SoupNine$Town", .int, .array .int, .array .int, .array .int, .array .int, .array .int, .array .int, .array .int, .array .int, .int, .int, .int, .int], [.object "SoupNine$Sheet", .array .int, .array .int, .array .int, .array .int, .array .int, .int, .int], [.int, .array .byte, .array .int, .array .int, .array .int, .array .int, .array .int, .array .int, .array .int, .array .int, .int, .int, .int, .int, .int, .long, .int, .int, .int, .array .int, .array .int, .int, .boolean, .int, .int, .int, .int, .int, .array .int, .array .int, .array .int, .array .int, .int, .int, .int, .int, .int, .int, .int, .array .long, .array .long, .array .int, .array .int, .int, .int, .int, .int, .array .int, .int, .int, .array .int, .array .int, .int, .array .long, .array .long, .array .long, .array .boolean]]
def xtyf (t i : Nat) : FieldType := (xtyl.getD t []).getD i .int
end
section
-- written by wip/tools/gen.py: the instructions with what they link
def cd_Integer_bitCount : List (List xop) := [[oA (.iload_n 0) 1 0, oA (.iload_n 0) 2 0, oK (.iconst 1) 3 (1), o0 .iushr 4, oC (.ldc_w 265) 7 1223 0 (1431655765), oN, oN, o0 .iand 8, o0 .isub 9, oA (.istore_n 0) 10 0, oA (.iload_n 0) 11 0, oC (.ldc_w 266) 14 1224 0 (858993459), oN, oN, o0 .iand 15, oA (.iload_n 0) 16 0, oK (.iconst 2) 17 (2), o0 .iushr 18, oC (.ldc_w 266) 21 1224 0 (858993459), oN, oN, o0 .iand 22, o0 .iadd 23, oA (.istore_n 0) 24 0, oA (.iload_n 0) 25 0, oA (.iload_n 0) 26 0, oK (.iconst 4) 27 (4), o0 .iushr 28, o0 .iadd 29, oC (.ldc_w 267) 32 1225 0 (252645135), oN, oN],
  [o0 .iand 33, oA (.istore_n 0) 34 0, oA (.iload_n 0) 35 0, oA (.iload_n 0) 36 0, oK (.bipush 8) 38 (8), oN, o0 .iushr 39, o0 .iadd 40, oA (.istore_n 0) 41 0, oA (.iload_n 0) 42 0, oA (.iload_n 0) 43 0, oK (.bipush 16) 45 (16), oN, o0 .iushr 46, o0 .iadd 47, oA (.istore_n 0) 48 0, oA (.iload_n 0) 49 0, oK (.bipush 63) 51 (63), oN, o0 .iand 52, (.ireturn, 53, 0, 0, 0, 0, 0, 0, 0, 0, [])]]
def cd_Math_min_III : List (List xop) := [[oA (.iload_n 0) 1 0, oA (.iload_n 1) 2 1, oA (.if_icmp .gt 7) 5 9, oN, oN, oA (.iload_n 0) 6 0, oA (.goto 4) 9 10, oN, oN, oA (.iload_n 1) 10 1, (.ireturn, 11, 0, 0, 0, 0, 0, 0, 0, 0, [])]]
def cd_Math_max : List (List xop) := [[oA (.iload_n 0) 1 0, oA (.iload_n 1) 2 1, oA (.if_icmp .lt 7) 5 9, oN, oN, oA (.iload_n 0) 6 0, oA (.goto 4) 9 10, oN, oN, oA (.iload_n 1) 10 1, (.ireturn, 11, 0, 0, 0, 0, 0, 0, 0, 0, [])]]
def cd_Math_abs : List (List xop) := [[oA (.iload_n 0) 1 0, oA (.ifCond .ge 8) 4 9, oN, oN, oA (.iload_n 0) 5 0, o0 .ineg 6, oA (.goto 4) 9 10, oN, oN, oA (.iload_n 0) 10 0, (.ireturn, 11, 0, 0, 0, 0, 0, 0, 0, 0, [])]]
def cd_Math_min_JJJ : List (List xop) := [[oA (.lload_n 0) 1 0, oA (.lload_n 2) 2 2, o0 .lcmp 3, oA (.ifCond .gt 7) 6 10, oN, oN, oA (.lload_n 0) 7 0, oA (.goto 4) 10 11, oN, oN, oA (.lload_n 2) 11 2, o0 .lreturn 12]]
def cd_Math_floorMod : List (List xop) := [[oA (.iload_n 0) 1 0, oA (.iload_n 1) 2 1, o0 .irem 3, oA (.istore_n 2) 4 2, oA (.iload_n 0) 5 0, oA (.iload_n 1) 6 1, o0 .ixor 7, oA (.ifCond .ge 11) 10 18, oN, oN, oA (.iload_n 2) 11 2, oA (.ifCond .eq 7) 14 18, oN, oN, oA (.iload_n 2) 15 2, oA (.iload_n 1) 16 1, o0 .iadd 17, (.ireturn, 18, 0, 0, 0, 0, 0, 0, 0, 0, []), oA (.iload_n 2) 19 2, (.ireturn, 20, 0, 0, 0, 0, 0, 0, 0, 0, [])]]
def cd_Arrays_fill_JJV : List (List xop) := [[oK (.iconst 0) 1 (0), oA (.istore_n 3) 2 3, oA (.aload_n 0) 3 0, o0 .arraylength 4, oA (.istore 4) 6 4, oN, oA (.iload_n 3) 7 3, oA (.iload 4) 9 4, oN, oA (.if_icmp .ge 13) 12 22, oN, oN, oA (.aload_n 0) 13 0, oA (.iload_n 3) 14 3, oA (.lload_n 1) 15 1, o0 .lastore 16, oC (.iinc 3 1) 19 3 0 (1), oN, oN, oA (.goto (-13)) 22 6, oN, oN, o0 .return_ 23]]
def cd_Arrays_fill_IIV : List (List xop) := [[oK (.iconst 0) 1 (0), oA (.istore_n 2) 2 2, oA (.aload_n 0) 3 0, o0 .arraylength 4, oA (.istore_n 3) 5 3, oA (.iload_n 2) 6 2, oA (.iload_n 3) 7 3, oA (.if_icmp .ge 13) 10 20, oN, oN, oA (.aload_n 0) 11 0, oA (.iload_n 2) 12 2, oA (.iload_n 1) 13 1, o0 .iastore 14, oC (.iinc 2 1) 17 2 0 (1), oN, oN, oA (.goto (-12)) 20 5, oN, oN, o0 .return_ 21]]
def cd_StringUTF16_charAt : List (List xop) := [[oA (.iload_n 1) 1 1, oA (.aload_n 0) 2 0, (.invokestatic 67, 5, 9, 2, 0, 3, 0, 0, 0, 0, [(0, 747)]), oN, oN, oA (.aload_n 0) 6 0, oA (.iload_n 1) 7 1, (.invokestatic 71, 10, 11, 2, 0, 0, 0, 0, 0, 0, [(0, 754)]), oN, oN, (.ireturn, 11, 0, 0, 0, 3, 0, 0, 0, 0, [])]]
def cd_StringUTF16_checkIndex : List (List xop) := [[oA (.iload_n 0) 1 0, oA (.aload_n 1) 2 1, (.invokestatic 48, 5, 10, 1, 0, 0, 0, 0, 0, 0, [(0, 750)]), oN, oN, (.invokestatic 414, 8, 17, 2, 0, 3, 0, 0, 0, 0, [(0, 753)]), oN, oN, o0 .return_ 9]]
def cd_StringUTF16_length : List (List xop) := [[oA (.aload_n 0) 1 0, o0 .arraylength 2, oK (.iconst 1) 3 (1), o0 .ishr 4, (.ireturn, 5, 0, 0, 0, 0, 0, 0, 0, 0, [])]]
def cd_StringUTF16_getChar : List (List xop) := [[oN, oN, oN, oA (.ifCond .ne 25) 6 28, oN, oN, oA (.iload_n 1) 7 1, oA (.ifCond .lt 11) 10 18, oN, oN, oA (.iload_n 1) 11 1, oA (.aload_n 0) 12 0, (.invokestatic 48, 15, 10, 1, 0, 0, 0, 0, 0, 0, [(0, 750)]), oN, oN, oA (.if_icmp .lt 13) 18 28, oN, oN, oN, oN, oN, o0 .dup 22, oN, oN, oN, oN, oN, oN, oA (.iload_n 1) 29 1, oK (.iconst 1) 30 (1), o0 .ishl 31, oA (.istore_n 1) 32 1],
  [oA (.aload_n 0) 33 0, oA (.iload_n 1) 34 1, oC (.iinc 1 1) 37 1 0 (1), oN, oN, oA (.baload) 38 21, oK (.sipush 255) 41 (255), oN, oN, o0 .iand 42, oN, oN, oN, o0 .ishl 46, oA (.aload_n 0) 47 0, oA (.iload_n 1) 48 1, oA (.baload) 49 21, oK (.sipush 255) 52 (255), oN, oN, o0 .iand 53, oN, oN, oN, o0 .ishl 57, o0 .ior 58, o0 .i2c 59, (.ireturn, 60, 0, 0, 0, 3, 0, 0, 0, 0, [])]]
def cd_StringLatin1_charAt : List (List xop) := [[oA (.iload_n 1) 1 1, oA (.aload_n 0) 2 0, o0 .arraylength 3, (.invokestatic 9, 6, 17, 2, 0, 3, 0, 0, 0, 0, [(0, 736)]), oN, oN, oA (.aload_n 0) 7 0, oA (.iload_n 1) 8 1, oA (.baload) 9 21, oK (.sipush 255) 12 (255), oN, oN, o0 .iand 13, o0 .i2c 14, (.ireturn, 15, 0, 0, 0, 3, 0, 0, 0, 0, [])]]
def cd_String_length : List (List xop) := [[oA (.aload_n 0) 1 0, oF (.getfield 9) 4 30 0 2 2231, oN, oN, o0 .arraylength 5, oA (.aload_n 0) 6 0, (.invokevirtual 335, 9, 14, 0, 30, 0, 0, 0, 0, 0, [(0, 719)]), oN, oN, o0 .ishr 10, (.ireturn, 11, 0, 0, 0, 0, 0, 0, 0, 0, [])]]
def cd_String_coder : List (List xop) := [[(.getstatic 38, 3, 0, 723, 0, 0, 0, 0, 1, 0, []), oN, oN, oA (.ifCond .eq 10) 6 13, oN, oN, oA (.aload_n 0) 7 0, oF (.getfield 15) 10 30 1 0 2232, oN, oN, oA (.goto 4) 13 14, oN, oN, oK (.iconst 1) 14 (1), (.ireturn, 15, 0, 0, 0, 2, 0, 0, 0, 0, [])]]
def cd_String_charAt : List (List xop) := [[oA (.aload_n 0) 1 0, (.invokevirtual 492, 4, 16, 0, 30, 0, 0, 0, 0, 0, [(0, 729)]), oN, oN, oA (.ifCond .eq 12) 7 16, oN, oN, oA (.aload_n 0) 8 0, oF (.getfield 9) 11 30 0 2 2231, oN, oN, oA (.iload_n 1) 12 1, (.invokestatic 495, 15, 12, 2, 0, 0, 0, 0, 0, 0, [(0, 733)]), oN, oN, (.ireturn, 16, 0, 0, 0, 3, 0, 0, 0, 0, []), oA (.aload_n 0) 17 0, oF (.getfield 9) 20 30 0 2 2231, oN, oN, oA (.iload_n 1) 21 1, (.invokestatic 498, 24, 8, 2, 0, 0, 0, 0, 0, 0, [(0, 744)]), oN, oN, (.ireturn, 25, 0, 0, 0, 3, 0, 0, 0, 0, [])]]
def cd_String_isLatin1 : List (List xop) := [[(.getstatic 38, 3, 0, 723, 0, 0, 0, 0, 1, 0, []), oN, oN, oA (.ifCond .eq 14) 6 17, oN, oN, oA (.aload_n 0) 7 0, oF (.getfield 15) 10 30 1 0 2232, oN, oN, oA (.ifCond .ne 7) 13 17, oN, oN, oK (.iconst 1) 14 (1), oA (.goto 4) 17 18, oN, oN, oK (.iconst 0) 18 (0), (.ireturn, 19, 0, 0, 0, 1, 0, 0, 0, 0, [])]]
def cd_String_checkIndex : List (List xop) := [[oA (.iload_n 0) 1 0, oA (.iload_n 1) 2 1, oF (.getstatic 1053) 5 5 739 0 2, oN, oN, (.invokestatic 1059, 8, 18, 3, 0, 0, 0, 0, 0, 0, [(0, 741)]), oN, oN, o0 .pop 9, o0 .return_ 10]]
def cd_Preconditions_checkIndex : List (List xop) := [[oA (.iload_n 0) 1 0, oA (.ifCond .lt 8) 4 9, oN, oN, oA (.iload_n 0) 5 0, oA (.iload_n 1) 6 1, oA (.if_icmp .lt 10) 9 16, oN, oN, oA (.aload_n 2) 10 2, oA (.iload_n 0) 11 0, oA (.iload_n 1) 12 1, oN, oN, oN, oN, oA (.iload_n 0) 17 0, (.ireturn, 18, 0, 0, 0, 0, 0, 0, 0, 0, [])]]
def cd_Fraction_part : List (List xop) := [[oA (.lload_n 0) 1 0, oA (.lload_n 2) 2 2, (.invokestatic 7, 5, 20, 2, 0, 1, 0, 0, 0, 0, [(0, 1066)]), oN, oN, oA (.lstore 5) 7 5, oN, oA (.lload_n 2) 8 2, oL (.lconst 0) 9 0 0, o0 .lcmp 10, oA (.ifCond .eq 10) 13 20, oN, oN, oA (.lload 5) 15 5, oN, oL (.lconst 0) 16 0 0, o0 .lcmp 17, oA (.ifCond .ne 14) 20 31, oN, oN, oA (.iload 4) 22 4, oN, oA (.ifCond .eq 7) 25 29, oN, oN, oL (.lconst 1) 26 0 1, oA (.goto 4) 29 30, oN, oN, oL (.lconst 0) 30 0 0, o0 .lreturn 31, oA (.iload 4) 33 4],
  [oN, oA (.ifCond .eq 7) 36 40, oN, oN, oA (.lload_n 2) 37 2, oA (.goto 4) 40 41, oN, oN, oA (.lload_n 0) 41 0, oA (.lload 5) 43 5, oN, o0 .ldiv 44, o0 .lreturn 45]]
def cd_Fraction_divisor : List (List xop) := [[oK (.iconst 0) 1 (0), oA (.istore 4) 3 4, oN, oA (.iload 4) 5 4, oN, oK (.sipush 200) 8 (200), oN, oN, oA (.if_icmp .ge 25) 11 33, oN, oN, oA (.lload_n 2) 12 2, oL (.lconst 0) 13 0 0, o0 .lcmp 14, oA (.ifCond .eq 19) 17 33, oN, oN, oA (.lload_n 0) 18 0, oA (.lload_n 2) 19 2, o0 .lrem 20, oA (.lstore 5) 22 5, oN, oA (.lload_n 2) 23 2, oA (.lstore_n 0) 24 0, oA (.lload 5) 26 5, oN, oA (.lstore_n 2) 27 2, oC (.iinc 4 1) 30 4 0 (1), oN, oN, oA (.goto (-27)) 33 3, oN],
  [oN, oA (.lload_n 0) 34 0, o0 .lreturn 35]]
def cd_Fraction_power : List (List xop) := [[oL (.lconst 1) 1 0 1, oA (.lstore_n 2) 2 2, oK (.iconst 0) 3 (0), oA (.istore 4) 5 4, oN, oA (.iload 4) 7 4, oN, oA (.iload_n 1) 8 1, oA (.if_icmp .ge 14) 11 22, oN, oN, oA (.lload_n 2) 12 2, oA (.iload_n 0) 13 0, o0 .i2l 14, o0 .lmul 15, oA (.lstore_n 2) 16 2, oC (.iinc 4 1) 19 4 0 (1), oN, oN, oA (.goto (-14)) 22 5, oN, oN, oA (.lload_n 2) 23 2, o0 .lreturn 24]]
def cd_Fraction_share : List (List xop) := [[oA (.lload_n 0) 1 0, oA (.lload_n 0) 2 0, oA (.lload_n 2) 3 2, o0 .ladd 4, oA (.iload 4) 6 4, oN, (.invokestatic 13, 9, 19, 3, 0, 1, 0, 0, 0, 0, [(0, 1406)]), oN, oN, o0 .lreturn 10]]
def cd_Fraction_reaches : List (List xop) := [[oL (.ldc2_w 17) 3 1414 (10), oN, oN, oA (.lload_n 0) 4 0, oA (.lload_n 2) 5 2, oK (.iconst 0) 6 (0), (.invokestatic 19, 9, 22, 3, 0, 1, 0, 0, 0, 0, [(0, 1415)]), oN, oN, o0 .lmul 10, oA (.iload 4) 12 4, oN, o0 .i2l 13, oA (.lload_n 0) 14 0, oA (.lload_n 2) 15 2, oK (.iconst 1) 16 (1), (.invokestatic 19, 19, 22, 3, 0, 1, 0, 0, 0, 0, [(0, 1415)]), oN, oN, o0 .lmul 20, o0 .lcmp 21, oA (.ifCond .lt 7) 24 28, oN, oN, oK (.iconst 1) 25 (1), oA (.goto 4) 28 29, oN, oN, oK (.iconst 0) 29 (0), (.ireturn, 30, 0, 0, 0, 1, 0, 0, 0, 0, [])]]
def cd_Evening_init : List (List xop) := [[oA (.aload_n 0) 1 0, (.invokespecial 3, 4, 0, 0, 0, 9, 0, 0, 0, 0, [(0, 256)]), oN, oN, oA (.aload_n 0) 5 0, oK (.bipush 40) 7 (40), oN, oA (.newarray .int) 9 20, oN, oF (.putfield 9) 12 3 1 2 261, oN, oN, oA (.aload_n 0) 13 0, oK (.bipush 40) 15 (40), oN, oA (.newarray .int) 17 20, oN, oF (.putfield 15) 20 3 2 2 263, oN, oN, o0 .return_ 21]]
def cd_Evening_addDeed : List (List xop) := [[oA (.aload_n 0) 1 0, oF (.getfield 18) 4 3 0 0 257, oN, oN, oK (.bipush 40) 6 (40), oN, oA (.if_icmp .lt 4) 9 10, oN, oN, o0 .return_ 10, oA (.aload_n 0) 11 0, oF (.getfield 9) 14 3 1 2 261, oN, oN, oA (.aload_n 0) 15 0, oF (.getfield 18) 18 3 0 0 257, oN, oN, oA (.iload_n 1) 19 1, o0 .iastore 20, oA (.aload_n 0) 21 0, oF (.getfield 15) 24 3 2 2 263, oN, oN, oA (.aload_n 0) 25 0, oF (.getfield 18) 28 3 0 0 257, oN, oN, oA (.iload_n 2) 29 2, o0 .iastore 30, oA (.aload_n 0) 31 0, o0 .dup 32],
  [oF (.getfield 18) 35 3 0 0 257, oN, oN, oK (.iconst 1) 36 (1), o0 .iadd 37, oF (.putfield 18) 40 3 0 0 257, oN, oN, o0 .return_ 41]]
def cd_Evening_copyFrom : List (List xop) := [[oA (.aload_n 0) 1 0, oA (.aload_n 1) 2 1, oF (.getfield 18) 5 3 0 0 257, oN, oN, oF (.putfield 18) 8 3 0 0 257, oN, oN, oA (.aload_n 1) 9 1, oF (.getfield 9) 12 3 1 2 261, oN, oN, oK (.iconst 0) 13 (0), oA (.aload_n 0) 14 0, oF (.getfield 9) 17 3 1 2 261, oN, oN, oK (.iconst 0) 18 (0), oK (.bipush 40) 20 (40), oN, (.invokestatic 22, 23, 20, 0, 9, 0, 0, 0, 0, 0, [(0, 850)]), oN, oN, oA (.aload_n 1) 24 1, oF (.getfield 15) 27 3 2 2 263, oN, oN, oK (.iconst 0) 28 (0), oA (.aload_n 0) 29 0, oF (.getfield 15) 32 3 2 2 263, oN, oN],
  [oK (.iconst 0) 33 (0), oK (.bipush 40) 35 (40), oN, (.invokestatic 22, 38, 20, 0, 9, 0, 0, 0, 0, 0, [(0, 850)]), oN, oN, o0 .return_ 39]]
def cd_Evening_detail : List (List xop) := [[oA (.iload_n 1) 1 1, oK (.iconst (-1)) 2 (-1), oA (.if_icmp .ne 17) 5 19, oN, oN, oA (.iload_n 2) 6 2, oA (.ifCond .ne 10) 9 16, oN, oN, oA (.aload_n 0) 10 0, oF (.getfield 18) 13 3 0 0 257, oN, oN, oA (.goto 5) 16 18, oN, oN, oK (.bipush (-2)) 18 (-2), oN, (.ireturn, 19, 0, 0, 0, 0, 0, 0, 0, 0, []), oA (.iload_n 1) 20 1, oA (.ifCond .lt 20) 23 40, oN, oN, oA (.iload_n 1) 24 1, oA (.aload_n 0) 25 0, oF (.getfield 18) 28 3 0 0 257, oN, oN, oA (.if_icmp .ge 12) 31 40, oN, oN, oA (.iload_n 2) 32 2],
  [oA (.ifCond .lt 8) 35 40, oN, oN, oA (.iload_n 2) 36 2, oK (.iconst 1) 37 (1), oA (.if_icmp .le 6) 40 43, oN, oN, oK (.bipush (-2)) 42 (-2), oN, (.ireturn, 43, 0, 0, 0, 0, 0, 0, 0, 0, []), oA (.iload_n 2) 44 2, oA (.ifCond .ne 12) 47 56, oN, oN, oA (.aload_n 0) 48 0, oF (.getfield 9) 51 3 1 2 261, oN, oN, oA (.iload_n 1) 52 1, o0 .iaload 53, oA (.goto 9) 56 62, oN, oN, oA (.aload_n 0) 57 0, oF (.getfield 15) 60 3 2 2 263, oN, oN, oA (.iload_n 1) 61 1, o0 .iaload 62, (.ireturn, 63, 0, 0, 0, 0, 0, 0, 0, 0, [])]]
def cd_Sheet_init : List (List xop) := [[oA (.aload_n 0) 1 0, (.invokespecial 3, 4, 0, 0, 0, 9, 0, 0, 0, 0, [(0, 300)]), oN, oN, oA (.aload_n 0) 5 0, oK (.bipush 6) 7 (6), oN, oA (.newarray .int) 9 20, oN, oF (.putfield 9) 12 5 3 2 311, oN, oN, oA (.aload_n 0) 13 0, oK (.bipush 8) 15 (8), oN, oA (.newarray .int) 17 20, oN, oF (.putfield 15) 20 5 4 2 312, oN, oN, oA (.aload_n 0) 21 0, oK (.bipush 8) 23 (8), oN, oA (.newarray .int) 25 20, oN, oF (.putfield 18) 28 5 5 2 313, oN, oN, oA (.aload_n 0) 29 0, oK (.bipush 8) 31 (8), oN, oA (.newarray .int) 33 20],
  [oN, oF (.putfield 21) 36 5 6 2 315, oN, oN, oA (.aload_n 0) 37 0, oK (.bipush 8) 39 (8), oN, oA (.newarray .int) 41 20, oN, oF (.putfield 24) 44 5 7 2 316, oN, oN, oA (.aload_n 0) 45 0, oK (.bipush 8) 47 (8), oN, oA (.newarray .int) 49 20, oN, oF (.putfield 27) 52 5 8 2 317, oN, oN, o0 .return_ 53]]
def cd_Sheet_clear : List (List xop) := [[oA (.aload_n 0) 1 0, oK (.iconst 0) 2 (0), oF (.putfield 30) 5 5 0 0 301, oN, oN, oA (.aload_n 0) 6 0, oK (.iconst 0) 7 (0), oF (.putfield 34) 10 5 1 0 303, oN, oN, oA (.aload_n 0) 11 0, oK (.iconst 0) 12 (0), oF (.putfield 37) 15 5 2 0 307, oN, oN, o0 .return_ 16]]
def cd_Sheet_addShoe : List (List xop) := [[oA (.aload_n 0) 1 0, oF (.getfield 30) 4 5 0 0 301, oN, oN, oK (.bipush 6) 6 (6), oN, oA (.if_icmp .ge 23) 9 29, oN, oN, oA (.aload_n 0) 10 0, oF (.getfield 9) 13 5 3 2 311, oN, oN, oA (.aload_n 0) 14 0, oF (.getfield 30) 17 5 0 0 301, oN, oN, oA (.iload_n 1) 18 1, o0 .iastore 19, oA (.aload_n 0) 20 0, o0 .dup 21, oF (.getfield 30) 24 5 0 0 301, oN, oN, oK (.iconst 1) 25 (1), o0 .iadd 26, oF (.putfield 30) 29 5 0 0 301, oN, oN, o0 .return_ 30]]
def cd_Sheet_addFoot : List (List xop) := [[oA (.aload_n 0) 1 0, oF (.getfield 34) 4 5 1 0 303, oN, oN, oK (.bipush 8) 6 (8), oN, oA (.if_icmp .ge 33) 9 39, oN, oN, oA (.aload_n 0) 10 0, oF (.getfield 15) 13 5 4 2 312, oN, oN, oA (.aload_n 0) 14 0, oF (.getfield 34) 17 5 1 0 303, oN, oN, oA (.iload_n 1) 18 1, o0 .iastore 19, oA (.aload_n 0) 20 0, oF (.getfield 18) 23 5 5 2 313, oN, oN, oA (.aload_n 0) 24 0, oF (.getfield 34) 27 5 1 0 303, oN, oN, oA (.iload_n 2) 28 2, o0 .iastore 29, oA (.aload_n 0) 30 0, o0 .dup 31, oF (.getfield 34) 34 5 1 0 303],
  [oN, oN, oK (.iconst 1) 35 (1), o0 .iadd 36, oF (.putfield 34) 39 5 1 0 303, oN, oN, o0 .return_ 40]]
def cd_Sheet_addHide : List (List xop) := [[oA (.aload_n 0) 1 0, oF (.getfield 37) 4 5 2 0 307, oN, oN, oK (.bipush 8) 6 (8), oN, oA (.if_icmp .ge 43) 9 49, oN, oN, oA (.aload_n 0) 10 0, oF (.getfield 21) 13 5 6 2 315, oN, oN, oA (.aload_n 0) 14 0, oF (.getfield 37) 17 5 2 0 307, oN, oN, oA (.iload_n 1) 18 1, o0 .iastore 19, oA (.aload_n 0) 20 0, oF (.getfield 24) 23 5 7 2 316, oN, oN, oA (.aload_n 0) 24 0, oF (.getfield 37) 27 5 2 0 307, oN, oN, oA (.iload_n 2) 28 2, o0 .iastore 29, oA (.aload_n 0) 30 0, oF (.getfield 27) 33 5 8 2 317, oN],
  [oN, oA (.aload_n 0) 34 0, oF (.getfield 37) 37 5 2 0 307, oN, oN, oA (.iload_n 3) 38 3, o0 .iastore 39, oA (.aload_n 0) 40 0, o0 .dup 41, oF (.getfield 37) 44 5 2 0 307, oN, oN, oK (.iconst 1) 45 (1), o0 .iadd 46, oF (.putfield 37) 49 5 2 0 307, oN, oN, o0 .return_ 50]]
def cd_Sheet_copyFrom : List (List xop) := [[oA (.aload_n 0) 1 0, oA (.aload_n 1) 2 1, oF (.getfield 30) 5 5 0 0 301, oN, oN, oF (.putfield 30) 8 5 0 0 301, oN, oN, oA (.aload_n 0) 9 0, oA (.aload_n 1) 10 1, oF (.getfield 34) 13 5 1 0 303, oN, oN, oF (.putfield 34) 16 5 1 0 303, oN, oN, oA (.aload_n 0) 17 0, oA (.aload_n 1) 18 1, oF (.getfield 37) 21 5 2 0 307, oN, oN, oF (.putfield 37) 24 5 2 0 307, oN, oN, oA (.aload_n 1) 25 1, oF (.getfield 9) 28 5 3 2 311, oN, oN, oK (.iconst 0) 29 (0), oA (.aload_n 0) 30 0, oF (.getfield 9) 33 5 3 2 311, oN],
  [oN, oK (.iconst 0) 34 (0), oK (.bipush 6) 36 (6), oN, (.invokestatic 40, 39, 20, 0, 9, 0, 0, 0, 0, 0, [(0, 860)]), oN, oN, oA (.aload_n 1) 40 1, oF (.getfield 15) 43 5 4 2 312, oN, oN, oK (.iconst 0) 44 (0), oA (.aload_n 0) 45 0, oF (.getfield 15) 48 5 4 2 312, oN, oN, oK (.iconst 0) 49 (0), oK (.bipush 8) 51 (8), oN, (.invokestatic 40, 54, 20, 0, 9, 0, 0, 0, 0, 0, [(0, 860)]), oN, oN, oA (.aload_n 1) 55 1, oF (.getfield 18) 58 5 5 2 313, oN, oN, oK (.iconst 0) 59 (0), oA (.aload_n 0) 60 0, oF (.getfield 18) 63 5 5 2 313, oN, oN, oK (.iconst 0) 64 (0)],
  [oK (.bipush 8) 66 (8), oN, (.invokestatic 40, 69, 20, 0, 9, 0, 0, 0, 0, 0, [(0, 860)]), oN, oN, oA (.aload_n 1) 70 1, oF (.getfield 21) 73 5 6 2 315, oN, oN, oK (.iconst 0) 74 (0), oA (.aload_n 0) 75 0, oF (.getfield 21) 78 5 6 2 315, oN, oN, oK (.iconst 0) 79 (0), oK (.bipush 8) 81 (8), oN, (.invokestatic 40, 84, 20, 0, 9, 0, 0, 0, 0, 0, [(0, 860)]), oN, oN, oA (.aload_n 1) 85 1, oF (.getfield 24) 88 5 7 2 316, oN, oN, oK (.iconst 0) 89 (0), oA (.aload_n 0) 90 0, oF (.getfield 24) 93 5 7 2 316, oN, oN, oK (.iconst 0) 94 (0), oK (.bipush 8) 96 (8), oN],
  [(.invokestatic 40, 99, 20, 0, 9, 0, 0, 0, 0, 0, [(0, 860)]), oN, oN, oA (.aload_n 1) 100 1, oF (.getfield 27) 103 5 8 2 317, oN, oN, oK (.iconst 0) 104 (0), oA (.aload_n 0) 105 0, oF (.getfield 27) 108 5 8 2 317, oN, oN, oK (.iconst 0) 109 (0), oK (.bipush 8) 111 (8), oN, (.invokestatic 40, 114, 20, 0, 9, 0, 0, 0, 0, 0, [(0, 860)]), oN, oN, o0 .return_ 115]]
def cd_Sheet_detail : List (List xop) := [[oA (.iload_n 1) 1 1, oS (.tableswitch 42 0 2 #[27, 32, 37]) 28 43 [((0), 28), ((1), 33), ((2), 38)], oN, oN, oN, oN, oN, oN, oN, oN, oN, oN, oN, oN, oN, oN, oN, oN, oN, oN, oN, oN, oN, oN, oN, oN, oN, oN, oA (.aload_n 0) 29 0, oF (.getfield 30) 32 5 0 0 301, oN, oN],
  [(.ireturn, 33, 0, 0, 0, 0, 0, 0, 0, 0, []), oA (.aload_n 0) 34 0, oF (.getfield 34) 37 5 1 0 303, oN, oN, (.ireturn, 38, 0, 0, 0, 0, 0, 0, 0, 0, []), oA (.aload_n 0) 39 0, oF (.getfield 37) 42 5 2 0 307, oN, oN, (.ireturn, 43, 0, 0, 0, 0, 0, 0, 0, 0, []), oA (.iload_n 1) 44 1, oK (.bipush 10) 46 (10), oN, oA (.if_icmp .ge 7) 49 53, oN, oN, oK (.iconst (-1)) 50 (-1), oA (.goto 15) 53 65, oN, oN, oA (.aload_n 0) 54 0, oA (.iload_n 1) 55 1, oK (.bipush 10) 57 (10), oN, o0 .idiv 58, oA (.iload_n 1) 59 1, oK (.bipush 10) 61 (10), oN, o0 .irem 62, (.invokevirtual 52, 65, 35, 2, 5, 0, 0, 0, 0, 0, [(0, 1327)]), oN],
  [oN, (.ireturn, 66, 0, 0, 0, 0, 0, 0, 0, 0, [])]]
def cd_Sheet_detailOf : List (List xop) := [[oA (.iload_n 1) 1 1, oK (.iconst 1) 2 (1), oA (.if_icmp .ne 22) 5 24, oN, oN, oA (.iload_n 2) 6 2, oA (.aload_n 0) 7 0, oF (.getfield 30) 10 5 0 0 301, oN, oN, oA (.if_icmp .ge 12) 13 22, oN, oN, oA (.aload_n 0) 14 0, oF (.getfield 9) 17 5 3 2 311, oN, oN, oA (.iload_n 2) 18 2, o0 .iaload 19, oA (.goto 4) 22 23, oN, oN, oK (.iconst (-1)) 23 (-1), (.ireturn, 24, 0, 0, 0, 0, 0, 0, 0, 0, []), oA (.iload_n 1) 25 1, oK (.iconst 2) 26 (2), oA (.if_icmp .eq 8) 29 34, oN, oN, oA (.iload_n 1) 30 1, oK (.iconst 3) 31 (3), oA (.if_icmp .ne 36) 34 67],
  [oN, oN, oA (.iload_n 2) 35 2, oA (.aload_n 0) 36 0, oF (.getfield 34) 39 5 1 0 303, oN, oN, oA (.if_icmp .lt 7) 42 46, oN, oN, oK (.iconst (-1)) 43 (-1), oA (.goto 23) 46 66, oN, oN, oA (.iload_n 1) 47 1, oK (.iconst 2) 48 (2), oA (.if_icmp .ne 12) 51 60, oN, oN, oA (.aload_n 0) 52 0, oF (.getfield 15) 55 5 4 2 312, oN, oN, oA (.iload_n 2) 56 2, o0 .iaload 57, oA (.goto 9) 60 66, oN, oN, oA (.aload_n 0) 61 0, oF (.getfield 18) 64 5 5 2 313, oN, oN],
  [oA (.iload_n 2) 65 2, o0 .iaload 66, (.ireturn, 67, 0, 0, 0, 0, 0, 0, 0, 0, []), oA (.iload_n 2) 68 2, oA (.aload_n 0) 69 0, oF (.getfield 37) 72 5 2 0 307, oN, oN, oA (.if_icmp .lt 5) 75 77, oN, oN, oK (.iconst (-1)) 76 (-1), (.ireturn, 77, 0, 0, 0, 0, 0, 0, 0, 0, []), oA (.iload_n 1) 78 1, oS (.tableswitch 47 4 6 #[26, 33, 40]) 104 125 [((4), 104), ((5), 111), ((6), 118)], oN, oN, oN, oN, oN, oN, oN, oN, oN, oN, oN, oN, oN, oN, oN, oN, oN],
  [oN, oN, oN, oN, oN, oN, oN, oN, oA (.aload_n 0) 105 0, oF (.getfield 21) 108 5 6 2 315, oN, oN, oA (.iload_n 2) 109 2, o0 .iaload 110, (.ireturn, 111, 0, 0, 0, 0, 0, 0, 0, 0, []), oA (.aload_n 0) 112 0, oF (.getfield 24) 115 5 7 2 316, oN, oN, oA (.iload_n 2) 116 2, o0 .iaload 117, (.ireturn, 118, 0, 0, 0, 0, 0, 0, 0, 0, []), oA (.aload_n 0) 119 0, oF (.getfield 27) 122 5 8 2 317, oN, oN, oA (.iload_n 2) 123 2, o0 .iaload 124, (.ireturn, 125, 0, 0, 0, 0, 0, 0, 0, 0, []), oK (.iconst (-1)) 126 (-1), (.ireturn, 127, 0, 0, 0, 0, 0, 0, 0, 0, [])]]
def cd_Sheet_fits : List (List xop) := [[oA (.iload_n 1) 1 1, oA (.ifCond .lt 23) 4 24, oN, oN, oA (.iload_n 1) 5 1, oA (.aload_n 0) 6 0, oF (.getfield 30) 9 5 0 0 301, oN, oN, oA (.if_icmp .ge 15) 12 24, oN, oN, oA (.iload_n 2) 13 2, oA (.ifCond .lt 11) 16 24, oN, oN, oA (.iload_n 2) 17 2, oA (.aload_n 0) 18 0, oF (.getfield 34) 21 5 1 0 303, oN, oN, oA (.if_icmp .lt 5) 24 26, oN, oN, oK (.iconst 0) 25 (0), (.ireturn, 26, 0, 0, 0, 1, 0, 0, 0, 0, []), oA (.aload_n 0) 27 0, oF (.getfield 15) 30 5 4 2 312, oN, oN, oA (.iload_n 2) 31 2, o0 .iaload 32],
  [oA (.aload_n 0) 33 0, oF (.getfield 9) 36 5 3 2 311, oN, oN, oA (.iload_n 1) 37 1, o0 .iaload 38, oA (.if_icmp .eq 20) 41 58, oN, oN, oA (.aload_n 0) 42 0, oF (.getfield 15) 45 5 4 2 312, oN, oN, oA (.iload_n 2) 46 2, o0 .iaload 47, oA (.aload_n 0) 48 0, oF (.getfield 9) 51 5 3 2 311, oN, oN, oA (.iload_n 1) 52 1, o0 .iaload 53, oK (.iconst 1) 54 (1), o0 .isub 55, oA (.if_icmp .ne 7) 58 62, oN, oN, oK (.iconst 1) 59 (1), oA (.goto 4) 62 63, oN, oN, oK (.iconst 0) 63 (0), (.ireturn, 64, 0, 0, 0, 1, 0, 0, 0, 0, [])]]
def cd_Sheet_steps : List (List xop) := [[oA (.iload_n 1) 1 1, oA (.ifCond .lt 11) 4 12, oN, oN, oA (.iload_n 1) 5 1, oA (.aload_n 0) 6 0, oF (.getfield 37) 9 5 2 0 307, oN, oN, oA (.if_icmp .lt 7) 12 16, oN, oN, oK (.iconst 0) 13 (0), oA (.goto 9) 16 22, oN, oN, oA (.aload_n 0) 17 0, oF (.getfield 21) 20 5 6 2 315, oN, oN, oA (.iload_n 1) 21 1, o0 .iaload 22, oA (.istore_n 3) 23 3, oA (.iload_n 1) 24 1, oA (.ifCond .lt 11) 27 35, oN, oN, oA (.iload_n 1) 28 1, oA (.aload_n 0) 29 0, oF (.getfield 37) 32 5 2 0 307, oN, oN],
  [oA (.if_icmp .lt 7) 35 39, oN, oN, oK (.iconst 0) 36 (0), oA (.goto 9) 39 45, oN, oN, oA (.aload_n 0) 40 0, oF (.getfield 24) 43 5 7 2 316, oN, oN, oA (.iload_n 1) 44 1, o0 .iaload 45, oA (.istore 4) 47 4, oN, oA (.iload_n 2) 48 2, oA (.ifCond .lt 11) 51 59, oN, oN, oA (.iload_n 2) 52 2, oA (.aload_n 0) 53 0, oF (.getfield 37) 56 5 2 0 307, oN, oN, oA (.if_icmp .lt 7) 59 63, oN, oN, oK (.iconst 0) 60 (0), oA (.goto 27) 63 87, oN, oN, oA (.iload_n 3) 64 3],
  [oA (.aload_n 0) 65 0, oF (.getfield 21) 68 5 6 2 315, oN, oN, oA (.iload_n 2) 69 2, o0 .iaload 70, o0 .isub 71, (.invokestatic 46, 74, 3, 1, 0, 0, 0, 0, 0, 0, [(0, 1373)]), oN, oN, oA (.iload 4) 76 4, oN, oA (.aload_n 0) 77 0, oF (.getfield 24) 80 5 7 2 316, oN, oN, oA (.iload_n 2) 81 2, o0 .iaload 82, o0 .isub 83, (.invokestatic 46, 86, 3, 1, 0, 0, 0, 0, 0, 0, [(0, 1373)]), oN, oN, o0 .iadd 87, (.ireturn, 88, 0, 0, 0, 0, 0, 0, 0, 0, [])]]
def cd_Town_init : List (List xop) := [[oA (.aload_n 0) 1 0, (.invokespecial 3, 4, 0, 0, 0, 9, 0, 0, 0, 0, [(0, 184)]), oN, oN, oA (.aload_n 0) 5 0, oK (.bipush 9) 7 (9), oN, oA (.newarray .int) 9 20, oN, oF (.putfield 9) 12 2 7 2 208, oN, oN, oA (.aload_n 0) 13 0, oK (.bipush 9) 15 (9), oN, oA (.newarray .int) 17 20, oN, oF (.putfield 15) 20 2 8 2 209, oN, oN, oA (.aload_n 0) 21 0, oK (.bipush 9) 23 (9), oN, oA (.newarray .int) 25 20, oN, oF (.putfield 18) 28 2 9 2 210, oN, oN, oA (.aload_n 0) 29 0, oK (.bipush 9) 31 (9), oN, oA (.newarray .int) 33 20],
  [oN, oF (.putfield 21) 36 2 10 2 211, oN, oN, oA (.aload_n 0) 37 0, oK (.bipush 9) 39 (9), oN, oA (.newarray .int) 41 20, oN, oF (.putfield 24) 44 2 11 2 213, oN, oN, oA (.aload_n 0) 45 0, oK (.bipush 9) 47 (9), oN, oA (.newarray .int) 49 20, oN, oF (.putfield 27) 52 2 12 2 215, oN, oN, oA (.aload_n 0) 53 0, oK (.bipush 9) 55 (9), oN, oA (.newarray .int) 57 20, oN, oF (.putfield 30) 60 2 13 2 217, oN, oN, o0 .return_ 61]]
def cd_Town_clear : List (List xop) := [[oA (.aload_n 0) 1 0, oK (.iconst 0) 2 (0), oF (.putfield 33) 5 2 0 0 185, oN, oN, oA (.aload_n 0) 6 0, oK (.iconst 0) 7 (0), oF (.putfield 37) 10 2 1 0 187, oN, oN, oA (.aload_n 0) 11 0, oK (.bipush 60) 13 (60), oN, oF (.putfield 40) 16 2 2 0 190, oN, oN, oA (.aload_n 0) 17 0, oK (.iconst 2) 18 (2), oF (.putfield 43) 21 2 3 0 192, oN, oN, oA (.aload_n 0) 22 0, oK (.bipush 60) 24 (60), oN, oF (.putfield 46) 27 2 4 0 194, oN, oN, oA (.aload_n 0) 28 0, oK (.bipush 9) 30 (9), oN, oF (.putfield 49) 33 2 5 0 198, oN],
  [oN, oA (.aload_n 0) 34 0, oK (.iconst 0) 35 (0), oF (.putfield 52) 38 2 6 0 202, oN, oN, oK (.iconst 0) 39 (0), oA (.istore_n 1) 40 1, oA (.iload_n 1) 41 1, oK (.bipush 9) 43 (9), oN, oA (.if_icmp .ge 23) 46 66, oN, oN, oA (.aload_n 0) 47 0, oF (.getfield 27) 50 2 12 2 215, oN, oN, oA (.iload_n 1) 51 1, oK (.iconst 0) 52 (0), o0 .iastore 53, oA (.aload_n 0) 54 0, oF (.getfield 30) 57 2 13 2 217, oN, oN, oA (.iload_n 1) 58 1, oK (.iconst (-1)) 59 (-1), o0 .iastore 60, oC (.iinc 1 1) 63 1 0 (1), oN, oN, oA (.goto (-23)) 66 40],
  [oN, oN, o0 .return_ 67]]
def cd_Town_addStop : List (List xop) := [[oA (.aload_n 0) 1 0, oF (.getfield 52) 4 2 6 0 202, oN, oN, oK (.bipush 9) 6 (9), oN, oA (.if_icmp .ge 9) 9 15, oN, oN, oA (.aload_n 2) 10 2, o0 .arraylength 11, oK (.iconst 4) 12 (4), oA (.if_icmp .ge 4) 15 16, oN, oN, o0 .return_ 16, oA (.aload_n 0) 17 0, oF (.getfield 9) 20 2 7 2 208, oN, oN, oA (.aload_n 0) 21 0, oF (.getfield 52) 24 2 6 0 202, oN, oN, oA (.iload_n 1) 25 1, o0 .iastore 26, oA (.aload_n 0) 27 0, oF (.getfield 15) 30 2 8 2 209, oN, oN, oA (.aload_n 0) 31 0, oF (.getfield 52) 34 2 6 0 202],
  [oN, oN, oA (.aload_n 2) 35 2, oK (.iconst 0) 36 (0), o0 .iaload 37, o0 .iastore 38, oA (.aload_n 0) 39 0, oF (.getfield 18) 42 2 9 2 210, oN, oN, oA (.aload_n 0) 43 0, oF (.getfield 52) 46 2 6 0 202, oN, oN, oA (.aload_n 2) 47 2, oK (.iconst 1) 48 (1), o0 .iaload 49, o0 .iastore 50, oA (.aload_n 0) 51 0, oF (.getfield 21) 54 2 10 2 211, oN, oN, oA (.aload_n 0) 55 0, oF (.getfield 52) 58 2 6 0 202, oN, oN, oA (.aload_n 2) 59 2, oK (.iconst 2) 60 (2), o0 .iaload 61, o0 .iastore 62, oA (.aload_n 0) 63 0, oF (.getfield 24) 66 2 11 2 213],
  [oN, oN, oA (.aload_n 0) 67 0, oF (.getfield 52) 70 2 6 0 202, oN, oN, oA (.aload_n 2) 71 2, oK (.iconst 3) 72 (3), o0 .iaload 73, o0 .iastore 74, oA (.aload_n 0) 75 0, o0 .dup 76, oF (.getfield 52) 79 2 6 0 202, oN, oN, oK (.iconst 1) 80 (1), o0 .iadd 81, oF (.putfield 52) 84 2 6 0 202, oN, oN, o0 .return_ 85]]
def cd_Town_setFollow : List (List xop) := [[oA (.iload_n 1) 1 1, oA (.ifCond .lt 23) 4 24, oN, oN, oA (.iload_n 1) 5 1, oK (.bipush 9) 7 (9), oN, oA (.if_icmp .ge 17) 10 24, oN, oN, oA (.aload_n 0) 11 0, oF (.getfield 30) 14 2 13 2 217, oN, oN, oA (.iload_n 1) 15 1, oA (.iload_n 2) 16 2, o0 .iastore 17, oA (.aload_n 0) 18 0, oF (.getfield 27) 21 2 12 2 215, oN, oN, oA (.iload_n 1) 22 1, oA (.iload_n 3) 23 3, o0 .iastore 24, o0 .return_ 25]]
def cd_Town_copyFrom : List (List xop) := [[oA (.aload_n 0) 1 0, oA (.aload_n 1) 2 1, oF (.getfield 33) 5 2 0 0 185, oN, oN, oF (.putfield 33) 8 2 0 0 185, oN, oN, oA (.aload_n 0) 9 0, oA (.aload_n 1) 10 1, oF (.getfield 37) 13 2 1 0 187, oN, oN, oF (.putfield 37) 16 2 1 0 187, oN, oN, oA (.aload_n 0) 17 0, oA (.aload_n 1) 18 1, oF (.getfield 40) 21 2 2 0 190, oN, oN, oF (.putfield 40) 24 2 2 0 190, oN, oN, oA (.aload_n 0) 25 0, oA (.aload_n 1) 26 1, oF (.getfield 43) 29 2 3 0 192, oN, oN, oF (.putfield 43) 32 2 3 0 192, oN, oN],
  [oA (.aload_n 0) 33 0, oA (.aload_n 1) 34 1, oF (.getfield 46) 37 2 4 0 194, oN, oN, oF (.putfield 46) 40 2 4 0 194, oN, oN, oA (.aload_n 0) 41 0, oA (.aload_n 1) 42 1, oF (.getfield 49) 45 2 5 0 198, oN, oN, oF (.putfield 49) 48 2 5 0 198, oN, oN, oA (.aload_n 0) 49 0, oA (.aload_n 1) 50 1, oF (.getfield 52) 53 2 6 0 202, oN, oN, oF (.putfield 52) 56 2 6 0 202, oN, oN, oA (.aload_n 1) 57 1, oF (.getfield 9) 60 2 7 2 208, oN, oN, oK (.iconst 0) 61 (0), oA (.aload_n 0) 62 0, oF (.getfield 9) 65 2 7 2 208, oN],
  [oN, oK (.iconst 0) 66 (0), oK (.bipush 9) 68 (9), oN, (.invokestatic 55, 71, 20, 0, 9, 0, 0, 0, 0, 0, [(0, 843)]), oN, oN, oA (.aload_n 1) 72 1, oF (.getfield 15) 75 2 8 2 209, oN, oN, oK (.iconst 0) 76 (0), oA (.aload_n 0) 77 0, oF (.getfield 15) 80 2 8 2 209, oN, oN, oK (.iconst 0) 81 (0), oK (.bipush 9) 83 (9), oN, (.invokestatic 55, 86, 20, 0, 9, 0, 0, 0, 0, 0, [(0, 843)]), oN, oN, oA (.aload_n 1) 87 1, oF (.getfield 18) 90 2 9 2 210, oN, oN, oK (.iconst 0) 91 (0), oA (.aload_n 0) 92 0, oF (.getfield 18) 95 2 9 2 210, oN, oN, oK (.iconst 0) 96 (0)],
  [oK (.bipush 9) 98 (9), oN, (.invokestatic 55, 101, 20, 0, 9, 0, 0, 0, 0, 0, [(0, 843)]), oN, oN, oA (.aload_n 1) 102 1, oF (.getfield 21) 105 2 10 2 211, oN, oN, oK (.iconst 0) 106 (0), oA (.aload_n 0) 107 0, oF (.getfield 21) 110 2 10 2 211, oN, oN, oK (.iconst 0) 111 (0), oK (.bipush 9) 113 (9), oN, (.invokestatic 55, 116, 20, 0, 9, 0, 0, 0, 0, 0, [(0, 843)]), oN, oN, oA (.aload_n 1) 117 1, oF (.getfield 24) 120 2 11 2 213, oN, oN, oK (.iconst 0) 121 (0), oA (.aload_n 0) 122 0, oF (.getfield 24) 125 2 11 2 213, oN, oN, oK (.iconst 0) 126 (0), oK (.bipush 9) 128 (9), oN],
  [(.invokestatic 55, 131, 20, 0, 9, 0, 0, 0, 0, 0, [(0, 843)]), oN, oN, oA (.aload_n 1) 132 1, oF (.getfield 27) 135 2 12 2 215, oN, oN, oK (.iconst 0) 136 (0), oA (.aload_n 0) 137 0, oF (.getfield 27) 140 2 12 2 215, oN, oN, oK (.iconst 0) 141 (0), oK (.bipush 9) 143 (9), oN, (.invokestatic 55, 146, 20, 0, 9, 0, 0, 0, 0, 0, [(0, 843)]), oN, oN, oA (.aload_n 1) 147 1, oF (.getfield 30) 150 2 13 2 217, oN, oN, oK (.iconst 0) 151 (0), oA (.aload_n 0) 152 0, oF (.getfield 30) 155 2 13 2 217, oN, oN, oK (.iconst 0) 156 (0), oK (.bipush 9) 158 (9), oN, (.invokestatic 55, 161, 20, 0, 9, 0, 0, 0, 0, 0, [(0, 843)]), oN],
  [oN, o0 .return_ 162]]
def cd_Town_detail : List (List xop) := [[oA (.iload_n 1) 1 1, oS (.tableswitch 78 0 6 #[43, 48, 53, 58, 63, 68, 73]) 44 79 [((0), 44), ((1), 49), ((2), 54), ((3), 59), ((4), 64), ((5), 69), ((6), 74)], oN, oN, oN, oN, oN, oN, oN, oN, oN, oN, oN, oN, oN, oN, oN, oN, oN, oN, oN, oN, oN, oN, oN, oN, oN, oN, oN, oN, oN, oN],
  [oN, oN, oN, oN, oN, oN, oN, oN, oN, oN, oN, oN, oA (.aload_n 0) 45 0, oF (.getfield 33) 48 2 0 0 185, oN, oN, (.ireturn, 49, 0, 0, 0, 0, 0, 0, 0, 0, []), oA (.aload_n 0) 50 0, oF (.getfield 37) 53 2 1 0 187, oN, oN, (.ireturn, 54, 0, 0, 0, 0, 0, 0, 0, 0, []), oA (.aload_n 0) 55 0, oF (.getfield 40) 58 2 2 0 190, oN, oN, (.ireturn, 59, 0, 0, 0, 0, 0, 0, 0, 0, []), oA (.aload_n 0) 60 0, oF (.getfield 43) 63 2 3 0 192, oN, oN, (.ireturn, 64, 0, 0, 0, 0, 0, 0, 0, 0, [])],
  [oA (.aload_n 0) 65 0, oF (.getfield 46) 68 2 4 0 194, oN, oN, (.ireturn, 69, 0, 0, 0, 0, 0, 0, 0, 0, []), oA (.aload_n 0) 70 0, oF (.getfield 49) 73 2 5 0 198, oN, oN, (.ireturn, 74, 0, 0, 0, 0, 0, 0, 0, 0, []), oA (.aload_n 0) 75 0, oF (.getfield 52) 78 2 6 0 202, oN, oN, (.ireturn, 79, 0, 0, 0, 0, 0, 0, 0, 0, []), oA (.iload_n 1) 80 1, oK (.bipush 10) 82 (10), oN, oA (.if_icmp .lt 14) 85 96, oN, oN, oA (.aload_n 0) 86 0, oA (.iload_n 1) 87 1, oK (.bipush 10) 89 (10), oN, o0 .irem 90, (.invokevirtual 61, 93, 44, 1, 2, 0, 0, 0, 0, 0, [(0, 917)]), oN, oN, oA (.ifCond .ne 8) 96 101, oN, oN],
  [oK (.bipush (-2)) 98 (-2), oN, oA (.goto 15) 101 113, oN, oN, oA (.aload_n 0) 102 0, oA (.iload_n 1) 103 1, oK (.bipush 10) 105 (10), oN, o0 .idiv 106, oA (.iload_n 1) 107 1, oK (.bipush 10) 109 (10), oN, o0 .irem 110, (.invokevirtual 85, 113, 45, 2, 2, 0, 0, 0, 0, 0, [(0, 921)]), oN, oN, (.ireturn, 114, 0, 0, 0, 0, 0, 0, 0, 0, [])]]
def cd_Town_hasStop : List (List xop) := [[oA (.iload_n 1) 1 1, oA (.ifCond .lt 15) 4 16, oN, oN, oA (.iload_n 1) 5 1, oA (.aload_n 0) 6 0, oF (.getfield 52) 9 2 6 0 202, oN, oN, oA (.if_icmp .ge 7) 12 16, oN, oN, oK (.iconst 1) 13 (1), oA (.goto 4) 16 17, oN, oN, oK (.iconst 0) 17 (0), (.ireturn, 18, 0, 0, 0, 1, 0, 0, 0, 0, [])]]
def cd_Town_detailOfStop : List (List xop) := [[oA (.iload_n 1) 1 1, oS (.tableswitch 92 1 7 #[43, 50, 57, 64, 71, 78, 85]) 44 93 [((1), 44), ((2), 51), ((3), 58), ((4), 65), ((5), 72), ((6), 79), ((7), 86)], oN, oN, oN, oN, oN, oN, oN, oN, oN, oN, oN, oN, oN, oN, oN, oN, oN, oN, oN, oN, oN, oN, oN, oN, oN, oN, oN, oN, oN, oN],
  [oN, oN, oN, oN, oN, oN, oN, oN, oN, oN, oN, oN, oA (.aload_n 0) 45 0, oF (.getfield 9) 48 2 7 2 208, oN, oN, oA (.iload_n 2) 49 2, o0 .iaload 50, (.ireturn, 51, 0, 0, 0, 0, 0, 0, 0, 0, []), oA (.aload_n 0) 52 0, oF (.getfield 15) 55 2 8 2 209, oN, oN, oA (.iload_n 2) 56 2, o0 .iaload 57, (.ireturn, 58, 0, 0, 0, 0, 0, 0, 0, 0, []), oA (.aload_n 0) 59 0, oF (.getfield 18) 62 2 9 2 210, oN, oN, oA (.iload_n 2) 63 2, o0 .iaload 64],
  [(.ireturn, 65, 0, 0, 0, 0, 0, 0, 0, 0, []), oA (.aload_n 0) 66 0, oF (.getfield 21) 69 2 10 2 211, oN, oN, oA (.iload_n 2) 70 2, o0 .iaload 71, (.ireturn, 72, 0, 0, 0, 0, 0, 0, 0, 0, []), oA (.aload_n 0) 73 0, oF (.getfield 24) 76 2 11 2 213, oN, oN, oA (.iload_n 2) 77 2, o0 .iaload 78, (.ireturn, 79, 0, 0, 0, 0, 0, 0, 0, 0, []), oA (.aload_n 0) 80 0, oF (.getfield 27) 83 2 12 2 215, oN, oN, oA (.iload_n 2) 84 2, o0 .iaload 85, (.ireturn, 86, 0, 0, 0, 0, 0, 0, 0, 0, []), oA (.aload_n 0) 87 0, oF (.getfield 30) 90 2 13 2 217, oN, oN, oA (.iload_n 2) 91 2, o0 .iaload 92, (.ireturn, 93, 0, 0, 0, 0, 0, 0, 0, 0, []), oK (.bipush (-2)) 95 (-2), oN, (.ireturn, 96, 0, 0, 0, 0, 0, 0, 0, 0, [])]]
def cd_Town_middle : List (List xop) := [[oA (.aload_n 0) 1 0, oA (.iload_n 1) 2 1, (.invokevirtual 61, 5, 44, 1, 2, 0, 0, 0, 0, 0, [(0, 917)]), oN, oN, oA (.ifCond .ne 5) 8 10, oN, oN, oK (.iconst 0) 9 (0), (.ireturn, 10, 0, 0, 0, 0, 0, 0, 0, 0, []), oA (.aload_n 0) 11 0, oF (.getfield 9) 14 2 7 2 208, oN, oN, oA (.iload_n 1) 15 1, o0 .iaload 16, oK (.iconst 1) 17 (1), oA (.if_icmp .ne 10) 20 27, oN, oN, oA (.aload_n 0) 21 0, oF (.getfield 24) 24 2 11 2 213, oN, oN, oA (.iload_n 1) 25 1, o0 .iaload 26, (.ireturn, 27, 0, 0, 0, 0, 0, 0, 0, 0, []), oA (.aload_n 0) 28 0, oF (.getfield 9) 31 2 7 2 208, oN, oN, oA (.iload_n 1) 32 1],
  [o0 .iaload 33, oK (.iconst 2) 34 (2), oA (.if_icmp .ne 12) 37 46, oN, oN, oA (.aload_n 0) 38 0, oF (.getfield 21) 41 2 10 2 211, oN, oN, oA (.iload_n 1) 42 1, o0 .iaload 43, oA (.goto 18) 46 61, oN, oN, oA (.aload_n 0) 47 0, oF (.getfield 21) 50 2 10 2 211, oN, oN, oA (.iload_n 1) 51 1, o0 .iaload 52, oA (.aload_n 0) 53 0, oF (.getfield 24) 56 2 11 2 213, oN, oN, oA (.iload_n 1) 57 1, o0 .iaload 58, o0 .iadd 59, oK (.iconst 2) 60 (2), o0 .idiv 61, (.ireturn, 62, 0, 0, 0, 0, 0, 0, 0, 0, [])]]
def cd_Town_minutes : List (List xop) := [[oA (.aload_n 0) 1 0, oF (.getfield 43) 4 2 3 0 192, oN, oN, oA (.aload_n 0) 5 0, oA (.iload_n 1) 6 1, (.invokevirtual 65, 9, 48, 1, 2, 0, 0, 0, 0, 0, [(0, 966)]), oN, oN, oA (.aload_n 0) 10 0, oA (.iload_n 2) 11 2, (.invokevirtual 65, 14, 48, 1, 2, 0, 0, 0, 0, 0, [(0, 966)]), oN, oN, o0 .isub 15, (.invokestatic 69, 18, 3, 1, 0, 0, 0, 0, 0, 0, [(0, 970)]), oN, oN, oA (.aload_n 0) 19 0, oA (.iload_n 1) 20 1, (.invokevirtual 74, 23, 49, 1, 2, 0, 0, 0, 0, 0, [(0, 973)]), oN, oN, oA (.aload_n 0) 24 0, oA (.iload_n 2) 25 2, (.invokevirtual 74, 28, 49, 1, 2, 0, 0, 0, 0, 0, [(0, 973)]), oN, oN, o0 .isub 29, (.invokestatic 69, 32, 3, 1, 0, 0, 0, 0, 0, 0, [(0, 970)]), oN, oN],
  [o0 .iadd 33, o0 .imul 34, (.ireturn, 35, 0, 0, 0, 0, 0, 0, 0, 0, [])]]
def cd_Town_columnOf : List (List xop) := [[oA (.aload_n 0) 1 0, oA (.iload_n 1) 2 1, (.invokevirtual 61, 5, 44, 1, 2, 0, 0, 0, 0, 0, [(0, 917)]), oN, oN, oA (.ifCond .eq 12) 8 17, oN, oN, oA (.aload_n 0) 9 0, oF (.getfield 15) 12 2 8 2 209, oN, oN, oA (.iload_n 1) 13 1, o0 .iaload 14, oA (.goto 7) 17 21, oN, oN, oA (.aload_n 0) 18 0, oF (.getfield 33) 21 2 0 0 185, oN, oN, (.ireturn, 22, 0, 0, 0, 0, 0, 0, 0, 0, [])]]
def cd_Town_rowOf : List (List xop) := [[oA (.aload_n 0) 1 0, oA (.iload_n 1) 2 1, (.invokevirtual 61, 5, 44, 1, 2, 0, 0, 0, 0, 0, [(0, 917)]), oN, oN, oA (.ifCond .eq 12) 8 17, oN, oN, oA (.aload_n 0) 9 0, oF (.getfield 18) 12 2 9 2 210, oN, oN, oA (.iload_n 1) 13 1, o0 .iaload 14, oA (.goto 7) 17 21, oN, oN, oA (.aload_n 0) 18 0, oF (.getfield 37) 21 2 1 0 187, oN, oN, (.ireturn, 22, 0, 0, 0, 0, 0, 0, 0, 0, [])]]
def cd_Town_mayCome : List (List xop) := [[oA (.aload_n 0) 1 0, oA (.iload_n 1) 2 1, (.invokevirtual 61, 5, 44, 1, 2, 0, 0, 0, 0, 0, [(0, 917)]), oN, oN, oA (.ifCond .eq 27) 8 32, oN, oN, oA (.iload_n 2) 9 2, oA (.aload_n 0) 10 0, oF (.getfield 21) 13 2 10 2 211, oN, oN, oA (.iload_n 1) 14 1, o0 .iaload 15, oA (.if_icmp .lt 17) 18 32, oN, oN, oA (.iload_n 2) 19 2, oA (.aload_n 0) 20 0, oF (.getfield 24) 23 2 11 2 213, oN, oN, oA (.iload_n 1) 24 1, o0 .iaload 25, oA (.if_icmp .gt 7) 28 32, oN, oN, oK (.iconst 1) 29 (1), oA (.goto 4) 32 33, oN, oN],
  [oK (.iconst 0) 33 (0), (.ireturn, 34, 0, 0, 0, 1, 0, 0, 0, 0, [])]]
def cd_Town_weight : List (List xop) := [[oA (.aload_n 0) 1 0, oA (.iload_n 1) 2 1, (.invokevirtual 61, 5, 44, 1, 2, 0, 0, 0, 0, 0, [(0, 917)]), oN, oN, oA (.ifCond .eq 17) 8 22, oN, oN, oA (.aload_n 0) 9 0, oF (.getfield 9) 12 2 7 2 208, oN, oN, oA (.iload_n 1) 13 1, o0 .iaload 14, oK (.iconst 3) 15 (3), oA (.if_icmp .ne 7) 18 22, oN, oN, oK (.iconst 2) 19 (2), oA (.goto 4) 22 23, oN, oN, oK (.iconst 1) 23 (1), (.ireturn, 24, 0, 0, 0, 0, 0, 0, 0, 0, [])]]
def cd_Town_mostInAll : List (List xop) := [[oK (.iconst 0) 1 (0), oA (.istore_n 1) 2 1, oK (.iconst 0) 3 (0), oA (.istore_n 2) 4 2, oA (.iload_n 2) 5 2, oA (.aload_n 0) 6 0, oF (.getfield 52) 9 2 6 0 202, oN, oN, oA (.if_icmp .ge 18) 12 27, oN, oN, oA (.iload_n 1) 13 1, oA (.aload_n 0) 14 0, oF (.getfield 24) 17 2 11 2 213, oN, oN, oA (.iload_n 2) 18 2, o0 .iaload 19, o0 .iadd 20, oA (.istore_n 1) 21 1, oC (.iinc 2 1) 24 2 0 (1), oN, oN, oA (.goto (-20)) 27 4, oN, oN, oA (.iload_n 1) 28 1, (.ireturn, 29, 0, 0, 0, 0, 0, 0, 0, 0, [])]]
def cd_Town_minutesFromPlace : List (List xop) := [[oK (.iconst 0) 1 (0), oA (.istore_n 2) 2 2, oK (.iconst 0) 3 (0), oA (.istore_n 3) 4 3, oA (.iload_n 3) 5 3, oA (.aload_n 0) 6 0, oF (.getfield 52) 9 2 6 0 202, oN, oN, oA (.if_icmp .ge 52) 12 61, oN, oN, oA (.iload_n 2) 13 2, oA (.aload_n 0) 14 0, oA (.iload_n 3) 15 3, (.invokevirtual 77, 18, 46, 1, 2, 0, 0, 0, 0, 0, [(0, 1197)]), oN, oN, oA (.aload_n 0) 19 0, oF (.getfield 43) 22 2 3 0 192, oN, oN, o0 .imul 23, oA (.aload_n 0) 24 0, oF (.getfield 15) 27 2 8 2 209, oN, oN, oA (.iload_n 3) 28 3, o0 .iaload 29, oA (.iload_n 1) 30 1, oK (.bipush 10) 32 (10), oN],
  [o0 .irem 33, o0 .isub 34, (.invokestatic 69, 37, 3, 1, 0, 0, 0, 0, 0, 0, [(0, 970)]), oN, oN, oA (.aload_n 0) 38 0, oF (.getfield 18) 41 2 9 2 210, oN, oN, oA (.iload_n 3) 42 3, o0 .iaload 43, oA (.iload_n 1) 44 1, oK (.bipush 10) 46 (10), oN, o0 .idiv 47, o0 .isub 48, (.invokestatic 69, 51, 3, 1, 0, 0, 0, 0, 0, 0, [(0, 970)]), oN, oN, o0 .iadd 52, o0 .imul 53, o0 .iadd 54, oA (.istore_n 2) 55 2, oC (.iinc 3 1) 58 3 0 (1), oN, oN, oA (.goto (-54)) 61 4, oN, oN, oA (.iload_n 2) 62 2, (.ireturn, 63, 0, 0, 0, 0, 0, 0, 0, 0, [])]]
def cd_Town_trailFrom : List (List xop) := [[oK (.iconst 1) 1 (1), oA (.iload_n 1) 2 1, o0 .ishl 3, oA (.istore_n 3) 4 3, oA (.aload_n 0) 5 0, oF (.getfield 30) 8 2 13 2 217, oN, oN, oA (.iload_n 1) 9 1, o0 .iaload 10, oA (.istore 4) 12 4, oN, oK (.iconst 0) 13 (0), oA (.istore 5) 15 5, oN, oA (.iload 5) 17 5, oN, oK (.bipush 9) 19 (9), oN, oA (.if_icmp .ge 43) 22 62, oN, oN, oA (.aload_n 0) 23 0, oA (.iload 4) 25 4, oN, (.invokevirtual 61, 28, 44, 1, 2, 0, 0, 0, 0, 0, [(0, 917)]), oN, oN, oA (.ifCond .eq 34) 31 62, oN, oN, oA (.iload_n 3) 32 3],
  [oA (.iload 4) 34 4, oN, o0 .ishr 35, oK (.iconst 1) 36 (1), o0 .iand 37, oA (.ifCond .ne 25) 40 62, oN, oN, oA (.iload_n 3) 41 3, oK (.iconst 1) 42 (1), oA (.iload 4) 44 4, oN, o0 .ishl 45, o0 .ior 46, oA (.istore_n 3) 47 3, oA (.aload_n 0) 48 0, oF (.getfield 30) 51 2 13 2 217, oN, oN, oA (.iload 4) 53 4, oN, o0 .iaload 54, oA (.istore 4) 56 4, oN, oC (.iinc 5 1) 59 5 0 (1), oN, oN, oA (.goto (-44)) 62 15, oN, oN, oA (.iload_n 2) 63 2, oA (.ifCond .eq 18) 66 81],
  [oN, oN, oA (.aload_n 0) 67 0, oA (.iload 4) 69 4, oN, (.invokevirtual 61, 72, 44, 1, 2, 0, 0, 0, 0, 0, [(0, 917)]), oN, oN, oA (.ifCond .eq 7) 75 79, oN, oN, oK (.iconst 1) 76 (1), oA (.goto 4) 79 80, oN, oN, oK (.iconst 0) 80 (0), (.ireturn, 81, 0, 0, 0, 0, 0, 0, 0, 0, []), oA (.iload_n 3) 82 3, (.invokestatic 80, 85, 0, 1, 0, 0, 0, 0, 0, 0, [(0, 1220)]), oN, oN, oK (.iconst 1) 86 (1), o0 .isub 87, (.ireturn, 88, 0, 0, 0, 0, 0, 0, 0, 0, [])]]
def cd_Book_init : List (List xop) := [[oA (.aload_n 0) 1 0, (.invokespecial 3, 4, 0, 0, 0, 9, 0, 0, 0, 0, [(0, 278)]), oN, oN, oA (.aload_n 0) 5 0, oK (.bipush 10) 7 (10), oN, oA (.newarray .int) 9 20, oN, oF (.putfield 9) 12 4 1 2 282, oN, oN, oA (.aload_n 0) 13 0, oK (.bipush 10) 15 (10), oN, oA (.newarray .int) 17 20, oN, oF (.putfield 15) 20 4 2 2 283, oN, oN, oA (.aload_n 0) 21 0, oK (.bipush 30) 23 (30), oN, oA (.newarray .int) 25 20, oN, oF (.putfield 18) 28 4 3 2 284, oN, oN, o0 .return_ 29]]
def cd_Book_lotRow : List (List xop) := [[oK (.bipush 99) 2 (99), oN, oA (.iload_n 0) 3 0, o0 .imul 4, oA (.iload_n 0) 5 0, oK (.iconst 1) 6 (1), o0 .isub 7, o0 .imul 8, oK (.iconst 2) 9 (2), o0 .idiv 10, oA (.iload_n 0) 11 0, o0 .iadd 12, (.ireturn, 13, 0, 0, 0, 0, 0, 0, 0, 0, [])]]
def cd_Book_addNight : List (List xop) := [[oA (.aload_n 0) 1 0, oF (.getfield 21) 4 4 0 0 279, oN, oN, oK (.bipush 10) 6 (10), oN, oA (.if_icmp .lt 4) 9 10, oN, oN, o0 .return_ 10, oA (.aload_n 0) 11 0, oF (.getfield 9) 14 4 1 2 282, oN, oN, oA (.aload_n 0) 15 0, oF (.getfield 21) 18 4 0 0 279, oN, oN, oA (.iload_n 1) 19 1, o0 .iastore 20, oA (.aload_n 0) 21 0, oF (.getfield 15) 24 4 2 2 283, oN, oN, oA (.aload_n 0) 25 0, oF (.getfield 21) 28 4 0 0 279, oN, oN, oA (.iload_n 2) 29 2, o0 .iastore 30, oK (.iconst 0) 31 (0), oA (.istore_n 3) 32 3],
  [oA (.iload_n 3) 33 3, oK (.iconst 3) 34 (3), oA (.if_icmp .ge 23) 37 57, oN, oN, oA (.aload_n 0) 38 0, oF (.getfield 18) 41 4 3 2 284, oN, oN, oA (.aload_n 0) 42 0, oF (.getfield 21) 45 4 0 0 279, oN, oN, oK (.iconst 3) 46 (3), o0 .imul 47, oA (.iload_n 3) 48 3, o0 .iadd 49, oK (.iconst 0) 50 (0), o0 .iastore 51, oC (.iinc 3 1) 54 3 0 (1), oN, oN, oA (.goto (-22)) 57 32, oN, oN, oA (.aload_n 0) 58 0, o0 .dup 59, oF (.getfield 21) 62 4 0 0 279, oN, oN, oK (.iconst 1) 63 (1), o0 .iadd 64],
  [oF (.putfield 21) 67 4 0 0 279, oN, oN, o0 .return_ 68]]
def cd_Book_setAsked : List (List xop) := [[oA (.aload_n 0) 1 0, oF (.getfield 21) 4 4 0 0 279, oN, oN, oA (.ifCond .le 26) 7 30, oN, oN, oA (.iload_n 1) 8 1, (.invokestatic 31, 11, 156, 1, 0, 0, 0, 0, 0, 0, [(1, 820)]), oN, oN, oA (.ifCond .eq 19) 14 30, oN, oN, oA (.aload_n 0) 15 0, oF (.getfield 18) 18 4 3 2 284, oN, oN, oA (.aload_n 0) 19 0, oF (.getfield 21) 22 4 0 0 279, oN, oN, oK (.iconst 1) 23 (1), o0 .isub 24, oK (.iconst 3) 25 (3), o0 .imul 26, oA (.iload_n 1) 27 1, o0 .iadd 28, oA (.iload_n 2) 29 2, o0 .iastore 30, o0 .return_ 31]]
def cd_Book_copyFrom : List (List xop) := [[oA (.aload_n 0) 1 0, oA (.aload_n 1) 2 1, oF (.getfield 21) 5 4 0 0 279, oN, oN, oF (.putfield 21) 8 4 0 0 279, oN, oN, oA (.aload_n 1) 9 1, oF (.getfield 9) 12 4 1 2 282, oN, oN, oK (.iconst 0) 13 (0), oA (.aload_n 0) 14 0, oF (.getfield 9) 17 4 1 2 282, oN, oN, oK (.iconst 0) 18 (0), oK (.bipush 10) 20 (10), oN, (.invokestatic 25, 23, 20, 0, 9, 0, 0, 0, 0, 0, [(0, 855)]), oN, oN, oA (.aload_n 1) 24 1, oF (.getfield 15) 27 4 2 2 283, oN, oN, oK (.iconst 0) 28 (0), oA (.aload_n 0) 29 0, oF (.getfield 15) 32 4 2 2 283, oN, oN],
  [oK (.iconst 0) 33 (0), oK (.bipush 10) 35 (10), oN, (.invokestatic 25, 38, 20, 0, 9, 0, 0, 0, 0, 0, [(0, 855)]), oN, oN, oA (.aload_n 1) 39 1, oF (.getfield 18) 42 4 3 2 284, oN, oN, oK (.iconst 0) 43 (0), oA (.aload_n 0) 44 0, oF (.getfield 18) 47 4 3 2 284, oN, oN, oK (.iconst 0) 48 (0), oK (.bipush 30) 50 (30), oN, (.invokestatic 25, 53, 20, 0, 9, 0, 0, 0, 0, 0, [(0, 855)]), oN, oN, o0 .return_ 54]]
def cd_Book_detail : List (List xop) := [[oA (.iload_n 1) 1 1, oK (.iconst (-1)) 2 (-1), oA (.if_icmp .ne 16) 5 18, oN, oN, oA (.iload_n 2) 6 2, oA (.ifCond .ne 10) 9 16, oN, oN, oA (.aload_n 0) 10 0, oF (.getfield 21) 13 4 0 0 279, oN, oN, oA (.goto 4) 16 17, oN, oN, oK (.iconst (-1)) 17 (-1), (.ireturn, 18, 0, 0, 0, 0, 0, 0, 0, 0, []), oA (.iload_n 1) 19 1, oA (.ifCond .lt 20) 22 39, oN, oN, oA (.iload_n 1) 23 1, oA (.aload_n 0) 24 0, oF (.getfield 21) 27 4 0 0 279, oN, oN, oA (.if_icmp .ge 12) 30 39, oN, oN, oA (.iload_n 2) 31 2, oA (.ifCond .lt 8) 34 39],
  [oN, oN, oA (.iload_n 2) 35 2, oK (.iconst 4) 36 (4), oA (.if_icmp .le 5) 39 41, oN, oN, oK (.iconst (-1)) 40 (-1), (.ireturn, 41, 0, 0, 0, 0, 0, 0, 0, 0, []), oA (.iload_n 2) 42 2, oK (.iconst 2) 43 (2), oA (.if_icmp .ge 23) 46 66, oN, oN, oA (.iload_n 2) 47 2, oA (.ifCond .ne 12) 50 59, oN, oN, oA (.aload_n 0) 51 0, oF (.getfield 9) 54 4 1 2 282, oN, oN, oA (.iload_n 1) 55 1, o0 .iaload 56, oA (.goto 9) 59 65, oN, oN, oA (.aload_n 0) 60 0, oF (.getfield 15) 63 4 2 2 283, oN, oN, oA (.iload_n 1) 64 1],
  [o0 .iaload 65, (.ireturn, 66, 0, 0, 0, 0, 0, 0, 0, 0, []), oA (.aload_n 0) 67 0, oF (.getfield 18) 70 4 3 2 284, oN, oN, oA (.iload_n 1) 71 1, oK (.iconst 3) 72 (3), o0 .imul 73, oA (.iload_n 2) 74 2, o0 .iadd 75, oK (.iconst 2) 76 (2), o0 .isub 77, o0 .iaload 78, (.ireturn, 79, 0, 0, 0, 0, 0, 0, 0, 0, [])]]
def cd_Book_unlikeAheadOf : List (List xop) := [[oK (.iconst 0) 1 (0), oA (.istore_n 2) 2 2, oK (.iconst 0) 3 (0), oA (.istore_n 3) 4 3, oA (.iload_n 3) 5 3, oA (.iload_n 1) 6 1, oA (.if_icmp .ge 33) 9 39, oN, oN, oA (.iload_n 3) 10 3, oA (.aload_n 0) 11 0, oF (.getfield 21) 14 4 0 0 279, oN, oN, oA (.if_icmp .ge 25) 17 39, oN, oN, oA (.iload_n 2) 18 2, oA (.aload_n 0) 19 0, oF (.getfield 9) 22 4 1 2 282, oN, oN, oA (.iload_n 3) 23 3, o0 .iaload 24, oA (.aload_n 0) 25 0, oF (.getfield 15) 28 4 2 2 283, oN, oN, oA (.iload_n 3) 29 3, o0 .iaload 30, o0 .isub 31, o0 .iadd 32],
  [oA (.istore_n 2) 33 2, oC (.iinc 3 1) 36 3 0 (1), oN, oN, oA (.goto (-32)) 39 4, oN, oN, oA (.iload_n 2) 40 2, (.ireturn, 41, 0, 0, 0, 0, 0, 0, 0, 0, [])]]
def cd_Book_heldInAll : List (List xop) := [[oK (.iconst 0) 1 (0), oA (.istore_n 2) 2 2, oK (.iconst 0) 3 (0), oA (.istore_n 3) 4 3, oK (.iconst 1) 5 (1), oA (.istore 4) 7 4, oN, oA (.iload 4) 9 4, oN, oA (.aload_n 0) 10 0, oF (.getfield 21) 13 4 0 0 279, oN, oN, oA (.if_icmp .ge 36) 16 49, oN, oN, oA (.iload_n 2) 17 2, oA (.aload_n 0) 18 0, oF (.getfield 9) 21 4 1 2 282, oN, oN, oA (.iload 4) 23 4, oN, o0 .iaload 24, oA (.aload_n 0) 25 0, oA (.iload 4) 27 4, oN, (.invokevirtual 35, 30, 61, 1, 4, 0, 0, 0, 0, 0, [(0, 1259)]), oN, oN, o0 .imul 31, o0 .iadd 32],
  [oA (.istore_n 2) 33 2, oA (.iload_n 3) 34 3, oA (.aload_n 0) 35 0, oF (.getfield 15) 38 4 2 2 283, oN, oN, oA (.iload 4) 40 4, oN, o0 .iaload 41, o0 .iadd 42, oA (.istore_n 3) 43 3, oC (.iinc 4 1) 46 4 0 (1), oN, oN, oA (.goto (-39)) 49 7, oN, oN, oA (.iload_n 3) 50 3, oA (.ifCond .ne 7) 53 57, oN, oN, oK (.iconst (-1)) 54 (-1), oA (.goto 12) 57 66, oN, oN, oA (.iload_n 2) 58 2, o0 .i2l 59, oA (.iload_n 3) 60 3, o0 .i2l 61, oA (.iload_n 1) 62 1, (.invokestatic 39, 65, 19, 3, 0, 1, 0, 0, 0, 0, [(0, 1260)]), oN],
  [oN, o0 .l2i 66, (.ireturn, 67, 0, 0, 0, 0, 0, 0, 0, 0, [])]]
def cd_Book_doorway : List (List xop) := [[oK (.iconst (-1)) 1 (-1), oA (.istore_n 1) 2 1, oK (.iconst 1) 3 (1), oA (.istore_n 2) 4 2, oA (.iload_n 2) 5 2, oA (.aload_n 0) 6 0, oF (.getfield 21) 9 4 0 0 279, oN, oN, oA (.if_icmp .ge 64) 12 73, oN, oN, oA (.iload_n 1) 13 1, oA (.ifCond .ge 7) 16 20, oN, oN, oK (.iconst 0) 17 (0), oA (.goto 8) 20 25, oN, oN, oA (.aload_n 0) 21 0, oA (.iload_n 1) 22 1, (.invokevirtual 45, 25, 64, 1, 4, 0, 0, 0, 0, 0, [(0, 1265)]), oN, oN, oA (.istore_n 3) 26 3, oA (.iload_n 1) 27 1, oA (.ifCond .ge 7) 30 34, oN, oN, oK (.iconst 1) 31 (1), oA (.goto 11) 34 42],
  [oN, oN, oA (.iload_n 1) 35 1, oA (.aload_n 0) 36 0, oF (.getfield 21) 39 4 0 0 279, oN, oN, oA (.iload_n 1) 40 1, o0 .isub 41, o0 .imul 42, oA (.istore 4) 44 4, oN, oA (.aload_n 0) 45 0, oA (.iload_n 2) 46 2, (.invokevirtual 45, 49, 64, 1, 4, 0, 0, 0, 0, 0, [(0, 1265)]), oN, oN, oA (.iload 4) 51 4, oN, o0 .imul 52, oA (.iload_n 3) 53 3, oA (.iload_n 2) 54 2, o0 .imul 55, oA (.aload_n 0) 56 0, oF (.getfield 21) 59 4 0 0 279, oN, oN, oA (.iload_n 2) 60 2, o0 .isub 61, o0 .imul 62, oA (.if_icmp .le 5) 65 67, oN],
  [oN, oA (.iload_n 2) 66 2, oA (.istore_n 1) 67 1, oC (.iinc 2 1) 70 2 0 (1), oN, oN, oA (.goto (-66)) 73 4, oN, oN, oA (.iload_n 1) 74 1, (.ireturn, 75, 0, 0, 0, 0, 0, 0, 0, 0, [])]]
def cd_Book_moreFrom : List (List xop) := [[oA (.aload_n 0) 1 0, oA (.iload_n 1) 2 1, (.invokevirtual 52, 5, 65, 1, 4, 0, 0, 0, 0, 0, [(0, 1269)]), oN, oN, oA (.istore_n 2) 6 2, oA (.aload_n 0) 7 0, oA (.aload_n 0) 8 0, oF (.getfield 21) 11 4 0 0 279, oN, oN, (.invokevirtual 52, 14, 65, 1, 4, 0, 0, 0, 0, 0, [(0, 1269)]), oN, oN, oA (.iload_n 2) 15 2, o0 .isub 16, oA (.iload_n 1) 17 1, o0 .imul 18, oA (.iload_n 2) 19 2, oA (.aload_n 0) 20 0, oF (.getfield 21) 23 4 0 0 279, oN, oN, oA (.iload_n 1) 24 1, o0 .isub 25, o0 .imul 26, o0 .isub 27, (.ireturn, 28, 0, 0, 0, 0, 0, 0, 0, 0, [])]]
def cd_Book_seenAheadOf : List (List xop) := [[oK (.iconst 0) 1 (0), oA (.istore_n 2) 2 2, oK (.iconst 0) 3 (0), oA (.istore_n 3) 4 3, oA (.iload_n 3) 5 3, oA (.iload_n 1) 6 1, oA (.if_icmp .ge 26) 9 32, oN, oN, oA (.iload_n 3) 10 3, oA (.aload_n 0) 11 0, oF (.getfield 21) 14 4 0 0 279, oN, oN, oA (.if_icmp .ge 18) 17 32, oN, oN, oA (.iload_n 2) 18 2, oA (.aload_n 0) 19 0, oF (.getfield 9) 22 4 1 2 282, oN, oN, oA (.iload_n 3) 23 3, o0 .iaload 24, o0 .iadd 25, oA (.istore_n 2) 26 2, oC (.iinc 3 1) 29 3 0 (1), oN, oN, oA (.goto (-25)) 32 4, oN, oN],
  [oA (.iload_n 2) 33 2, (.ireturn, 34, 0, 0, 0, 0, 0, 0, 0, 0, [])]]
def cd_Book_doorwayDifference : List (List xop) := [[oA (.aload_n 0) 1 0, (.invokevirtual 48, 4, 63, 0, 4, 0, 0, 0, 0, 0, [(0, 1277)]), oN, oN, oA (.istore_n 2) 5 2, oA (.iload_n 2) 6 2, oA (.ifCond .ge 7) 9 13, oN, oN, oK (.iconst (-1)) 10 (-1), oA (.goto 23) 13 33, oN, oN, oA (.aload_n 0) 14 0, oA (.iload_n 2) 15 2, (.invokevirtual 45, 18, 64, 1, 4, 0, 0, 0, 0, 0, [(0, 1265)]), oN, oN, o0 .i2l 19, oA (.iload_n 2) 20 2, oA (.aload_n 0) 21 0, oF (.getfield 21) 24 4 0 0 279, oN, oN, oA (.iload_n 2) 25 2, o0 .isub 26, o0 .imul 27, o0 .i2l 28, oA (.iload_n 1) 29 1, (.invokestatic 39, 32, 19, 3, 0, 1, 0, 0, 0, 0, [(0, 1260)]), oN, oN],
  [o0 .l2i 33, (.ireturn, 34, 0, 0, 0, 0, 0, 0, 0, 0, [])]]
def cd_Book_enoughOn : List (List xop) := [[oK (.iconst 0) 1 (0), oA (.istore_n 3) 2 3, oA (.iload_n 3) 3 3, oK (.bipush 100) 5 (100), oN, oA (.if_icmp .ge 63) 8 68, oN, oN, oK (.iconst 0) 9 (0), oA (.istore 4) 11 4, oN, oK (.iconst 0) 12 (0), oA (.istore 5) 14 5, oN, oA (.iload 5) 16 5, oN, oA (.aload_n 0) 17 0, oF (.getfield 21) 20 4 0 0 279, oN, oN, oA (.if_icmp .ge 34) 23 54, oN, oN, oA (.iload 4) 25 4, oN, oA (.aload_n 0) 26 0, oF (.getfield 18) 29 4 3 2 284, oN, oN, oA (.iload 5) 31 5, oN, oK (.iconst 3) 32 (3)],
  [o0 .imul 33, oA (.iload_n 1) 34 1, o0 .iadd 35, o0 .iaload 36, oA (.iload_n 3) 37 3, oA (.if_icmp .gt 7) 40 44, oN, oN, oK (.iconst 1) 41 (1), oA (.goto 4) 44 45, oN, oN, oK (.iconst 0) 45 (0), o0 .iadd 46, oA (.istore 4) 48 4, oN, oC (.iinc 5 1) 51 5 0 (1), oN, oN, oA (.goto (-37)) 54 14, oN, oN, oA (.iload 4) 56 4, oN, oA (.iload_n 2) 57 2, oA (.if_icmp .lt 5) 60 62, oN, oN, oA (.iload_n 3) 61 3, (.ireturn, 62, 0, 0, 0, 0, 0, 0, 0, 0, []), oC (.iinc 3 1) 65 3 0 (1), oN],
  [oN, oA (.goto (-63)) 68 2, oN, oN, oK (.iconst (-1)) 69 (-1), (.ireturn, 70, 0, 0, 0, 0, 0, 0, 0, 0, [])]]
def cd_Book_chanceOfAsMany : List (List xop) := [[oA (.aload_n 2) 1 2, oK (.iconst 0) 2 (0), (.invokestatic 55, 5, 7, 2, 0, 3, 0, 0, 0, 0, [(0, 1299)]), oN, oN, oA (.aload_n 2) 6 2, oK (.iconst 0) 7 (0), oK (.iconst 1) 8 (1), o0 .iastore 9, oK (.iconst 0) 10 (0), oA (.istore 4) 12 4, oN, oA (.iload 4) 14 4, oN, oA (.aload_n 0) 15 0, oF (.getfield 21) 18 4 0 0 279, oN, oN, oA (.if_icmp .ge 21) 21 39, oN, oN, oA (.aload_n 0) 22 0, oA (.aload_n 0) 23 0, oF (.getfield 9) 26 4 1 2 282, oN, oN, oA (.iload 4) 28 4, oN, o0 .iaload 29, oA (.aload_n 2) 30 2, (.invokevirtual 61, 33, 69, 2, 4, 3, 0, 0, 0, 0, [(0, 1302)]), oN],
  [oN, oC (.iinc 4 1) 36 4 0 (1), oN, oN, oA (.goto (-24)) 39 12, oN, oN, oK (.iconst 0) 40 (0), oA (.istore 4) 42 4, oN, oA (.iload 4) 44 4, oN, oA (.aload_n 1) 45 1, oF (.getfield 21) 48 4 0 0 279, oN, oN, oA (.if_icmp .ge 21) 51 69, oN, oN, oA (.aload_n 0) 52 0, oA (.aload_n 1) 53 1, oF (.getfield 9) 56 4 1 2 282, oN, oN, oA (.iload 4) 58 4, oN, o0 .iaload 59, oA (.aload_n 2) 60 2, (.invokevirtual 61, 63, 69, 2, 4, 3, 0, 0, 0, 0, [(0, 1302)]), oN, oN, oC (.iinc 4 1) 66 4 0 (1)],
  [oN, oN, oA (.goto (-24)) 69 42, oN, oN, oL (.lconst 0) 70 0 0, oA (.lstore 4) 72 4, oN, oL (.lconst 0) 73 0 0, oA (.lstore 6) 75 6, oN, oA (.aload_n 0) 76 0, oA (.aload_n 0) 77 0, oF (.getfield 21) 80 4 0 0 279, oN, oN, (.invokevirtual 52, 83, 65, 1, 4, 0, 0, 0, 0, 0, [(0, 1269)]), oN, oN, oA (.istore 8) 85 8, oN, oA (.aload_n 0) 86 0, oF (.getfield 21) 89 4 0 0 279, oN, oN, (.invokestatic 65, 92, 56, 1, 0, 0, 0, 0, 0, 0, [(0, 1306)]), oN, oN, oA (.istore 9) 94 9, oN, oK (.iconst 0) 95 (0), oA (.istore 10) 97 10],
  [oN, oA (.iload 10) 99 10, oN, oK (.bipush 99) 101 (99), oN, oA (.aload_n 0) 102 0, oF (.getfield 21) 105 4 0 0 279, oN, oN, o0 .imul 106, oA (.if_icmp .gt 46) 109 152, oN, oN, oA (.lload 6) 111 6, oN, oA (.aload_n 2) 112 2, oA (.iload 9) 114 9, oN, oA (.iload 10) 116 10, oN, o0 .iadd 117, o0 .iaload 118, o0 .i2l 119, o0 .ladd 120, oA (.lstore 6) 122 6, oN, oA (.lload 4) 124 4, oN, oA (.iload 10) 126 10, oN, oA (.iload 8) 128 8, oN],
  [oA (.if_icmp .lt 14) 131 142, oN, oN, oA (.aload_n 2) 132 2, oA (.iload 9) 134 9, oN, oA (.iload 10) 136 10, oN, o0 .iadd 137, o0 .iaload 138, o0 .i2l 139, oA (.goto 4) 142 143, oN, oN, oL (.lconst 0) 143 0 0, o0 .ladd 144, oA (.lstore 4) 146 4, oN, oC (.iinc 10 1) 149 10 0 (1), oN, oN, oA (.goto (-52)) 152 97, oN, oN, oA (.lload 4) 154 4, oN, oA (.lload 6) 156 6, oN, oA (.iload_n 3) 157 3, (.invokestatic 39, 160, 19, 3, 0, 1, 0, 0, 0, 0, [(0, 1260)]), oN, oN],
  [o0 .lreturn 161]]
def cd_Book_maybePick : List (List xop) := [[oA (.aload_n 0) 1 0, oF (.getfield 21) 4 4 0 0 279, oN, oN, oK (.iconst 1) 5 (1), o0 .isub 6, oA (.istore_n 3) 7 3, oA (.iload_n 3) 8 3, oA (.ifCond .lt 60) 11 68, oN, oN, oA (.iload_n 3) 12 3, (.invokestatic 65, 15, 56, 1, 0, 0, 0, 0, 0, 0, [(0, 1306)]), oN, oN, oA (.istore 4) 17 4, oN, oA (.iload_n 3) 18 3, oK (.iconst 1) 19 (1), o0 .iadd 20, (.invokestatic 65, 23, 56, 1, 0, 0, 0, 0, 0, 0, [(0, 1306)]), oN, oN, oA (.iload_n 1) 24 1, o0 .iadd 25, oA (.istore 5) 27 5, oN, oK (.iconst 0) 28 (0), oA (.istore 6) 30 6, oN, oA (.iload 6) 32 6, oN],
  [oK (.bipush 99) 34 (99), oN, oA (.iload_n 3) 35 3, o0 .imul 36, oA (.if_icmp .gt 26) 39 62, oN, oN, oA (.aload_n 2) 40 2, oA (.iload 5) 42 5, oN, oA (.iload 6) 44 6, oN, o0 .iadd 45, o0 .dup2 46, o0 .iaload 47, oA (.aload_n 2) 48 2, oA (.iload 4) 50 4, oN, oA (.iload 6) 52 6, oN, o0 .iadd 53, o0 .iaload 54, o0 .iadd 55, o0 .iastore 56, oC (.iinc 6 1) 59 6 0 (1), oN, oN, oA (.goto (-29)) 62 30, oN, oN, oC (.iinc 3 (-1)) 65 3 0 (-1), oN],
  [oN, oA (.goto (-58)) 68 7, oN, oN, o0 .return_ 69]]
def cd_Book_couplesWith : List (List xop) := [[oK (.iconst 0) 1 (0), oA (.istore_n 3) 2 3, oK (.iconst 0) 3 (0), oA (.istore 4) 5 4, oN, oA (.iload 4) 7 4, oN, oA (.aload_n 0) 8 0, oF (.getfield 21) 11 4 0 0 279, oN, oN, oA (.if_icmp .ge 60) 14 71, oN, oN, oK (.iconst 0) 15 (0), oA (.istore 5) 17 5, oN, oA (.iload 5) 19 5, oN, oA (.aload_n 1) 20 1, oF (.getfield 21) 23 4 0 0 279, oN, oN, oA (.if_icmp .ge 42) 26 65, oN, oN, oA (.iload_n 3) 27 3, oA (.aload_n 0) 28 0, oF (.getfield 18) 31 4 3 2 284, oN, oN, oA (.iload 4) 33 4],
  [oN, oK (.iconst 3) 34 (3), o0 .imul 35, oA (.iload_n 2) 36 2, o0 .iadd 37, o0 .iaload 38, oA (.aload_n 1) 39 1, oF (.getfield 18) 42 4 3 2 284, oN, oN, oA (.iload 5) 44 5, oN, oK (.iconst 3) 45 (3), o0 .imul 46, oA (.iload_n 2) 47 2, o0 .iadd 48, o0 .iaload 49, oA (.if_icmp .ne 7) 52 56, oN, oN, oK (.iconst 1) 53 (1), oA (.goto 4) 56 57, oN, oN, oK (.iconst 0) 57 (0), o0 .iadd 58, oA (.istore_n 3) 59 3, oC (.iinc 5 1) 62 5 0 (1), oN, oN, oA (.goto (-45)) 65 17, oN],
  [oN, oC (.iinc 4 1) 68 4 0 (1), oN, oN, oA (.goto (-63)) 71 5, oN, oN, oA (.iload_n 3) 72 3, (.ireturn, 73, 0, 0, 0, 0, 0, 0, 0, 0, [])]]
def cd_Bowls_init : List (List xop) := [[oA (.aload_n 0) 1 0, (.invokespecial 3, 4, 0, 0, 0, 9, 0, 0, 0, 0, [(0, 490)]), oN, oN, oA (.aload_n 0) 5 0, oK (.sipush 1000) 8 (1000), oN, oN, oA (.newarray .long) 10 22, oN, oF (.putfield 9) 13 8 1 2 492, oN, oN, oA (.aload_n 0) 14 0, oK (.bipush 10) 16 (10), oN, oA (.newarray .long) 18 22, oN, oF (.putfield 15) 21 8 2 2 493, oN, oN, oA (.aload_n 0) 22 0, oK (.sipush 181) 25 (181), oN, oN, oA (.newarray .long) 27 22, oN, oF (.putfield 18) 30 8 3 2 494, oN, oN, o0 .return_ 31]]
def cd_Bowls_forget : List (List xop) := [[oA (.aload_n 0) 1 0, o0 .aconst_null 2, oF (.putfield 21) 5 8 0 2 491, oN, oN, o0 .return_ 6]]
def cd_Bowls_bestGift : List (List xop) := [[oA (.aload_n 0) 1 0, oA (.aload_n 1) 2 1, (.invokevirtual 25, 5, 74, 1, 8, 3, 0, 0, 0, 0, [(0, 1035)]), oN, oN, oK (.iconst 0) 6 (0), oA (.istore 5) 8 5, oN, oK (.iconst 1) 9 (1), oA (.istore 6) 11 6, oN, oA (.iload 6) 13 6, oN, oA (.iload 4) 15 4, oN, oA (.if_icmp .gt 45) 18 60, oN, oN, oA (.iload 6) 20 6, oN, oA (.iload_n 3) 21 3, oA (.if_icmp .gt 39) 24 60, oN, oN, oA (.aload_n 0) 25 0, oA (.aload_n 1) 26 1, oA (.iload_n 2) 27 2, oA (.iload_n 3) 28 3, oA (.iload 4) 30 4, oN, oA (.iload 6) 32 6, oN],
  [(.invokevirtual 29, 35, 76, 5, 8, 1, 0, 0, 0, 0, [(0, 1050)]), oN, oN, oA (.aload_n 0) 36 0, oA (.aload_n 1) 37 1, oA (.iload_n 2) 38 2, oA (.iload_n 3) 39 3, oA (.iload 4) 41 4, oN, oA (.iload 5) 43 5, oN, (.invokevirtual 29, 46, 76, 5, 8, 1, 0, 0, 0, 0, [(0, 1050)]), oN, oN, o0 .lcmp 47, oA (.ifCond .gt 7) 50 54, oN, oN, oA (.iload 6) 52 6, oN, oA (.istore 5) 54 5, oN, oC (.iinc 6 1) 57 6 0 (1), oN, oN, oA (.goto (-46)) 60 11, oN, oN, oA (.iload 5) 62 5, oN, (.ireturn, 63, 0, 0, 0, 0, 0, 0, 0, 0, [])]]
def cd_Bowls_prepare : List (List xop) := [[oA (.aload_n 0) 1 0, oF (.getfield 21) 4 8 0 2 491, oN, oN, oA (.aload_n 1) 5 1, oA (.if_acmp .ne 4) 8 9, oN, oN, o0 .return_ 9, oA (.aload_n 0) 10 0, oA (.aload_n 1) 11 1, oF (.putfield 21) 14 8 0 2 491, oN, oN, oA (.aload_n 0) 15 0, oF (.getfield 15) 18 8 2 2 493, oN, oN, oA (.aload_n 1) 19 1, oF (.getfield 49) 22 2 6 0 206, oN, oN, oL (.lconst 1) 23 0 1, o0 .lastore 24, oK (.iconst 0) 25 (0), oA (.istore_n 2) 26 2, oA (.iload_n 2) 27 2, oK (.bipush 100) 29 (100), oN, oA (.if_icmp .ge 24) 32 53, oN, oN],
  [oA (.aload_n 0) 33 0, oF (.getfield 9) 36 8 1 2 492, oN, oN, oA (.aload_n 1) 37 1, oF (.getfield 49) 40 2 6 0 206, oN, oN, oK (.bipush 100) 42 (100), oN, o0 .imul 43, oA (.iload_n 2) 44 2, o0 .iadd 45, oL (.lconst 0) 46 0 0, o0 .lastore 47, oC (.iinc 2 1) 50 2 0 (1), oN, oN, oA (.goto (-24)) 53 26, oN, oN, oA (.aload_n 1) 54 1, oF (.getfield 49) 57 2 6 0 206, oN, oN, oK (.iconst 1) 58 (1), o0 .isub 59, oA (.istore_n 2) 60 2, oA (.iload_n 2) 61 2, oA (.ifCond .lt 72) 64 133, oN, oN],
  [oA (.aload_n 0) 65 0, oF (.getfield 15) 68 8 2 2 493, oN, oN, oA (.iload_n 2) 69 2, oA (.aload_n 0) 70 0, oF (.getfield 15) 73 8 2 2 493, oN, oN, oA (.iload_n 2) 74 2, oK (.iconst 1) 75 (1), o0 .iadd 76, o0 .laload 77, oA (.aload_n 1) 78 1, oF (.getfield 53) 81 2 11 2 214, oN, oN, oA (.iload_n 2) 82 2, o0 .iaload 83, oA (.aload_n 1) 84 1, oF (.getfield 57) 87 2 10 2 212, oN, oN, oA (.iload_n 2) 88 2, o0 .iaload 89, o0 .isub 90, oK (.iconst 1) 91 (1), o0 .iadd 92, o0 .i2l 93, o0 .lmul 94, o0 .lastore 95, oK (.iconst 0) 96 (0)],
  [oA (.istore_n 3) 97 3, oA (.iload_n 3) 98 3, oK (.bipush 100) 100 (100), oN, oA (.if_icmp .ge 27) 103 127, oN, oN, oA (.aload_n 0) 104 0, oF (.getfield 9) 107 8 1 2 492, oN, oN, oA (.iload_n 2) 108 2, oK (.bipush 100) 110 (100), oN, o0 .imul 111, oA (.iload_n 3) 112 3, o0 .iadd 113, oA (.aload_n 0) 114 0, oA (.aload_n 1) 115 1, oA (.iload_n 2) 116 2, oA (.iload_n 3) 117 3, (.invokevirtual 60, 120, 75, 3, 8, 1, 0, 0, 0, 0, [(0, 1039)]), oN, oN, o0 .lastore 121, oC (.iinc 3 1) 124 3 0 (1), oN, oN, oA (.goto (-27)) 127 97, oN, oN, oC (.iinc 2 (-1)) 130 2 0 (-1)],
  [oN, oN, oA (.goto (-70)) 133 60, oN, oN, o0 .return_ 134]]
def cd_Bowls_countsOverAll : List (List xop) := [[oA (.aload_n 1) 1 1, oA (.iload_n 2) 2 2, (.invokevirtual 43, 5, 51, 1, 2, 0, 0, 0, 0, 0, [(0, 1043)]), oN, oN, o0 .i2l 6, oA (.aload_n 0) 7 0, oF (.getfield 15) 10 8 2 2 493, oN, oN, oA (.iload_n 2) 11 2, oK (.iconst 1) 12 (1), o0 .iadd 13, o0 .laload 14, o0 .lmul 15, oA (.lstore 4) 17 4, oN, oA (.iload_n 2) 18 2, oK (.iconst 1) 19 (1), o0 .iadd 20, oK (.bipush 100) 22 (100), oN, o0 .imul 23, oA (.istore 6) 25 6, oN, oA (.lload 4) 27 4, oN, oA (.iload_n 3) 28 3, o0 .i2l 29, o0 .lmul 30, oA (.aload_n 0) 31 0, oF (.getfield 9) 34 8 1 2 492],
  [oN, oN, oA (.iload 6) 36 6, oN, oA (.iload_n 3) 37 3, o0 .iadd 38, o0 .laload 39, o0 .ladd 40, oA (.lstore 7) 42 7, oN, oL (.lconst 0) 43 0 0, oA (.lstore 9) 45 9, oN, oK (.iconst 0) 46 (0), oA (.istore 11) 48 11, oN, oA (.iload 11) 50 11, oN, oA (.aload_n 1) 51 1, oF (.getfield 53) 54 2 11 2 214, oN, oN, oA (.iload_n 2) 55 2, o0 .iaload 56, oA (.if_icmp .gt 71) 59 127, oN, oN, oA (.iload_n 3) 60 3, oA (.iload 11) 62 11, oN, o0 .isub 63, oA (.istore 12) 65 12],
  [oN, oA (.iload 12) 67 12, oN, oA (.ifCond .lt 27) 70 94, oN, oN, oA (.lload 7) 72 7, oN, oA (.lload 4) 74 4, oN, oA (.iload 12) 76 12, oN, o0 .i2l 77, o0 .lmul 78, oA (.aload_n 0) 79 0, oF (.getfield 9) 82 8 1 2 492, oN, oN, oA (.iload 6) 84 6, oN, oA (.iload 12) 86 12, oN, o0 .iadd 87, o0 .laload 88, o0 .ladd 89, (.invokestatic 64, 92, 4, 2, 0, 1, 0, 0, 0, 0, [(0, 1047)]), oN, oN, oA (.lstore 7) 94 7, oN, oA (.iload 11) 96 11, oN],
  [oA (.aload_n 1) 97 1, oF (.getfield 57) 100 2 10 2 212, oN, oN, oA (.iload_n 2) 101 2, o0 .iaload 102, oA (.if_icmp .lt 19) 105 121, oN, oN, oA (.lload 9) 107 9, oN, oA (.lload 7) 109 7, oN, oA (.lload 4) 111 4, oN, oA (.iload 11) 113 11, oN, oA (.iload_n 3) 114 3, o0 .isub 115, o0 .i2l 116, o0 .lmul 117, o0 .ladd 118, o0 .ladd 119, oA (.lstore 9) 121 9, oN, oC (.iinc 11 1) 124 11 0 (1), oN, oN, oA (.goto (-76)) 127 48, oN, oN, oA (.lload 9) 129 9],
  [oN, o0 .lreturn 130]]
def cd_Bowls_countsAfter : List (List xop) := [[oA (.aload_n 1) 1 1, oA (.iload_n 2) 2 2, (.invokevirtual 43, 5, 51, 1, 2, 0, 0, 0, 0, 0, [(0, 1043)]), oN, oN, oA (.iload 4) 7 4, oN, oA (.iload 5) 9 5, oN, o0 .isub 10, o0 .imul 11, o0 .i2l 12, oA (.aload_n 0) 13 0, oF (.getfield 15) 16 8 2 2 493, oN, oN, oA (.iload_n 2) 17 2, oK (.iconst 1) 18 (1), o0 .iadd 19, o0 .laload 20, o0 .lmul 21, oA (.aload_n 0) 22 0, oF (.getfield 9) 25 8 1 2 492, oN, oN, oA (.iload_n 2) 26 2, oK (.iconst 1) 27 (1), o0 .iadd 28, oK (.bipush 100) 30 (100), oN, o0 .imul 31, oA (.iload_n 3) 32 3],
  [o0 .iadd 33, oA (.iload 5) 35 5, oN, o0 .isub 36, o0 .laload 37, o0 .ladd 38, o0 .lreturn 39]]
def cd_Bowls_meanFrom : List (List xop) := [[oA (.aload_n 0) 1 0, oA (.aload_n 1) 2 1, (.invokevirtual 25, 5, 74, 1, 8, 3, 0, 0, 0, 0, [(0, 1035)]), oN, oN, oA (.aload_n 0) 6 0, oF (.getfield 9) 9 8 1 2 492, oN, oN, oA (.iload_n 2) 10 2, oK (.bipush 100) 12 (100), oN, o0 .imul 13, oA (.iload_n 3) 14 3, o0 .iadd 15, o0 .laload 16, oA (.aload_n 0) 17 0, oF (.getfield 15) 20 8 2 2 493, oN, oN, oA (.iload_n 2) 21 2, o0 .laload 22, oA (.iload 4) 24 4, oN, (.invokestatic 33, 27, 19, 3, 0, 1, 0, 0, 0, 0, [(0, 1063)]), oN, oN, o0 .lreturn 28]]
def cd_Bowls_meanOnceTold : List (List xop) := [[oA (.aload_n 0) 1 0, oA (.aload_n 1) 2 1, oK (.iconst 0) 3 (0), oA (.iload_n 2) 4 2, oA (.iload_n 3) 5 3, (.invokevirtual 39, 8, 73, 4, 8, 0, 0, 0, 0, 0, [(0, 1085)]), oN, oN, oA (.istore 5) 10 5, oN, oA (.aload_n 0) 11 0, oA (.aload_n 1) 12 1, oK (.iconst 0) 13 (0), oA (.iload_n 2) 14 2, oA (.iload_n 3) 15 3, oA (.iload 5) 17 5, oN, (.invokevirtual 29, 20, 76, 5, 8, 1, 0, 0, 0, 0, [(0, 1050)]), oN, oN, oA (.aload_n 0) 21 0, oF (.getfield 15) 24 8 2 2 493, oN, oN, oK (.iconst 1) 25 (1), o0 .laload 26, oA (.iload 4) 28 4, oN, (.invokestatic 33, 31, 19, 3, 0, 1, 0, 0, 0, 0, [(0, 1063)]), oN, oN, o0 .lreturn 32]]
def cd_Bowls_chanceOfMore : List (List xop) := [[oA (.aload_n 0) 1 0, oA (.aload_n 1) 2 1, (.invokevirtual 25, 5, 74, 1, 8, 3, 0, 0, 0, 0, [(0, 1035)]), oN, oN, oA (.aload_n 0) 6 0, oF (.getfield 18) 9 8 3 2 494, oN, oN, oL (.lconst 0) 10 0 0, (.invokestatic 70, 13, 6, 2, 0, 3, 0, 0, 0, 0, [(0, 1094)]), oN, oN, oA (.aload_n 0) 14 0, oF (.getfield 18) 17 8 3 2 494, oN, oN, oK (.iconst 0) 18 (0), oL (.lconst 1) 19 0 1, o0 .lastore 20, oK (.iconst 0) 21 (0), oA (.istore 4) 23 4, oN, oA (.iload 4) 25 4, oN, oA (.aload_n 1) 26 1, oF (.getfield 49) 29 2 6 0 206, oN, oN, oA (.if_icmp .ge 56) 32 85, oN, oN],
  [oA (.aload_n 0) 33 0, oF (.getfield 18) 36 8 3 2 494, oN, oN, o0 .arraylength 37, oK (.iconst 1) 38 (1), o0 .isub 39, oA (.istore 5) 41 5, oN, oA (.iload 5) 43 5, oN, oA (.ifCond .lt 36) 46 79, oN, oN, oA (.aload_n 0) 47 0, oF (.getfield 18) 50 8 3 2 494, oN, oN, oA (.iload 5) 52 5, oN, oA (.aload_n 0) 53 0, oA (.iload 5) 55 5, oN, oA (.aload_n 1) 56 1, oF (.getfield 57) 59 2 10 2 212, oN, oN, oA (.iload 4) 61 4, oN, o0 .iaload 62, oA (.aload_n 1) 63 1, oF (.getfield 53) 66 2 11 2 214],
  [oN, oN, oA (.iload 4) 68 4, oN, o0 .iaload 69, (.invokevirtual 76, 72, 80, 3, 8, 1, 0, 0, 0, 0, [(0, 1097)]), oN, oN, o0 .lastore 73, oC (.iinc 5 (-1)) 76 5 0 (-1), oN, oN, oA (.goto (-35)) 79 41, oN, oN, oC (.iinc 4 1) 82 4 0 (1), oN, oN, oA (.goto (-59)) 85 23, oN, oN, oL (.lconst 0) 86 0 0, oA (.lstore 4) 88 4, oN, oA (.iload_n 2) 89 2, oK (.iconst 1) 90 (1), o0 .iadd 91, oA (.istore 6) 93 6, oN, oA (.iload 6) 95 6, oN, oA (.aload_n 0) 96 0],
  [oF (.getfield 18) 99 8 3 2 494, oN, oN, o0 .arraylength 100, oA (.if_icmp .ge 21) 103 121, oN, oN, oA (.lload 4) 105 4, oN, oA (.aload_n 0) 106 0, oF (.getfield 18) 109 8 3 2 494, oN, oN, oA (.iload 6) 111 6, oN, o0 .laload 112, o0 .ladd 113, oA (.lstore 4) 115 4, oN, oC (.iinc 6 1) 118 6 0 (1), oN, oN, oA (.goto (-25)) 121 93, oN, oN, oA (.lload 4) 123 4, oN, oA (.aload_n 0) 124 0, oF (.getfield 15) 127 8 2 2 493, oN, oN, oK (.iconst 0) 128 (0)],
  [o0 .laload 129, oA (.iload_n 3) 130 3, (.invokestatic 33, 133, 19, 3, 0, 1, 0, 0, 0, 0, [(0, 1063)]), oN, oN, o0 .lreturn 134]]
def cd_Bowls_waysTo : List (List xop) := [[oL (.lconst 0) 1 0 0, oA (.lstore 4) 3 4, oN, oA (.iload_n 2) 4 2, oA (.istore 6) 6 6, oN, oA (.iload 6) 8 6, oN, oA (.iload_n 3) 9 3, oA (.if_icmp .gt 29) 12 38, oN, oN, oA (.iload 6) 14 6, oN, oA (.iload_n 1) 15 1, oA (.if_icmp .gt 23) 18 38, oN, oN, oA (.lload 4) 20 4, oN, oA (.aload_n 0) 21 0, oF (.getfield 18) 24 8 3 2 494, oN, oN, oA (.iload_n 1) 25 1, oA (.iload 6) 27 6, oN, o0 .isub 28, o0 .laload 29, o0 .ladd 30, oA (.lstore 4) 32 4, oN],
  [oC (.iinc 6 1) 35 6 0 (1), oN, oN, oA (.goto (-29)) 38 6, oN, oN, oA (.lload 4) 40 4, oN, o0 .lreturn 41]]
def cd_Routes_init : List (List xop) := [[oA (.aload_n 0) 1 0, (.invokespecial 3, 4, 0, 0, 0, 9, 0, 0, 0, 0, [(0, 510)]), oN, oN, oA (.aload_n 0) 5 0, oK (.bipush 90) 7 (90), oN, oA (.newarray .int) 9 20, oN, oF (.putfield 9) 12 9 2 2 514, oN, oN, oA (.aload_n 0) 13 0, oK (.sipush 4608) 16 (4608), oN, oN, oA (.newarray .int) 18 20, oN, oF (.putfield 15) 21 9 3 2 515, oN, oN, oA (.aload_n 0) 22 0, oK (.sipush 512) 25 (512), oN, oN, oA (.newarray .int) 27 20, oN, oF (.putfield 18) 30 9 4 2 516, oN, oN, oA (.aload_n 0) 31 0, oK (.sipush 512) 34 (512)],
  [oN, oN, oA (.newarray .int) 36 20, oN, oF (.putfield 21) 39 9 5 2 518, oN, oN, oA (.aload_n 0) 40 0, oK (.sipush 512) 43 (512), oN, oN, oA (.newarray .int) 45 20, oN, oF (.putfield 24) 48 9 6 2 520, oN, oN, oA (.aload_n 0) 49 0, oK (.sipush 512) 52 (512), oN, oN, oA (.newarray .int) 54 20, oN, oF (.putfield 27) 57 9 7 2 521, oN, oN, oA (.aload_n 0) 58 0, oK (.bipush 9) 60 (9), oN, oA (.newarray .int) 62 20, oN, oF (.putfield 30) 65 9 8 2 522, oN],
  [oN, oA (.aload_n 0) 66 0, oK (.bipush 9) 68 (9), oN, oA (.newarray .int) 70 20, oN, oF (.putfield 33) 73 9 9 2 524, oN, oN, o0 .return_ 74]]
def cd_Routes_forget : List (List xop) := [[oA (.aload_n 0) 1 0, o0 .aconst_null 2, oF (.putfield 36) 5 9 0 2 511, oN, oN, o0 .return_ 6]]
def cd_Routes_prepare : List (List xop) := [[oA (.aload_n 0) 1 0, oF (.getfield 36) 4 9 0 2 511, oN, oN, oA (.aload_n 1) 5 1, oA (.if_acmp .ne 4) 8 9, oN, oN, o0 .return_ 9, oA (.aload_n 0) 10 0, oA (.aload_n 1) 11 1, oF (.putfield 36) 14 9 0 2 511, oN, oN, oA (.aload_n 0) 15 0, oK (.iconst 1) 16 (1), oA (.aload_n 1) 17 1, oF (.getfield 40) 20 2 6 0 204, oN, oN, o0 .ishl 21, oK (.iconst 1) 22 (1), o0 .isub 23, oF (.putfield 46) 26 9 1 0 512, oN, oN, oA (.aload_n 0) 27 0, oA (.aload_n 1) 28 1, (.invokevirtual 49, 31, 84, 1, 9, 3, 0, 0, 0, 0, [(0, 1109)]), oN, oN, oA (.aload_n 0) 32 0],
  [oA (.aload_n 1) 33 1, (.invokevirtual 53, 36, 85, 1, 9, 3, 0, 0, 0, 0, [(0, 1115)]), oN, oN, oA (.aload_n 0) 37 0, oA (.aload_n 1) 38 1, (.invokevirtual 56, 41, 88, 1, 9, 3, 0, 0, 0, 0, [(0, 1128)]), oN, oN, oA (.aload_n 0) 42 0, oA (.aload_n 1) 43 1, (.invokevirtual 59, 46, 89, 1, 9, 3, 0, 0, 0, 0, [(0, 1132)]), oN, oN, oA (.aload_n 0) 47 0, oA (.aload_n 1) 48 1, (.invokevirtual 62, 51, 94, 1, 9, 3, 0, 0, 0, 0, [(0, 1152)]), oN, oN, o0 .return_ 52]]
def cd_Routes_measure : List (List xop) := [[oA (.aload_n 0) 1 0, oK (.iconst 0) 2 (0), oF (.putfield 65) 5 9 13 0 532, oN, oN, oK (.iconst 0) 6 (0), oA (.istore_n 2) 7 2, oA (.iload_n 2) 8 2, oA (.aload_n 1) 9 1, oF (.getfield 40) 12 2 6 0 204, oN, oN, oA (.if_icmp .ge 144) 15 156, oN, oN, oK (.iconst 0) 16 (0), oA (.istore_n 3) 17 3, oA (.iload_n 3) 18 3, oA (.aload_n 1) 19 1, oF (.getfield 40) 22 2 6 0 204, oN, oN, oA (.if_icmp .ge 26) 25 48, oN, oN, oA (.aload_n 0) 26 0, oF (.getfield 9) 29 9 2 2 514, oN, oN, oA (.iload_n 3) 30 3, oK (.bipush 9) 32 (9), oN],
  [o0 .imul 33, oA (.iload_n 2) 34 2, o0 .iadd 35, oA (.aload_n 1) 36 1, oA (.iload_n 3) 37 3, oA (.iload_n 2) 38 2, (.invokevirtual 68, 41, 47, 2, 2, 0, 0, 0, 0, 0, [(0, 1113)]), oN, oN, o0 .iastore 42, oC (.iinc 3 1) 45 3 0 (1), oN, oN, oA (.goto (-28)) 48 17, oN, oN, oA (.aload_n 0) 49 0, oF (.getfield 9) 52 9 2 2 514, oN, oN, oK (.bipush 81) 54 (81), oN, oA (.iload_n 2) 55 2, o0 .iadd 56, oA (.aload_n 1) 57 1, oK (.iconst (-1)) 58 (-1), oA (.iload_n 2) 59 2, (.invokevirtual 68, 62, 47, 2, 2, 0, 0, 0, 0, 0, [(0, 1113)]), oN, oN, o0 .iastore 63, oA (.aload_n 0) 64 0],
  [o0 .dup 65, oF (.getfield 65) 68 9 13 0 532, oN, oN, oA (.aload_n 1) 69 1, oA (.iload_n 2) 70 2, (.invokevirtual 72, 73, 46, 1, 2, 0, 0, 0, 0, 0, [(0, 1114)]), oN, oN, oA (.ifCond .le 9) 76 82, oN, oN, oK (.iconst 1) 77 (1), oA (.iload_n 2) 78 2, o0 .ishl 79, oA (.goto 4) 82 83, oN, oN, oK (.iconst 0) 83 (0), o0 .ior 84, oF (.putfield 65) 87 9 13 0 532, oN, oN, oK (.iconst 0) 88 (0), oA (.istore_n 3) 89 3, oA (.iload_n 3) 90 3, oK (.iconst 1) 91 (1), oA (.iload_n 2) 92 2, o0 .ishl 93, oA (.if_icmp .ge 57) 96 150, oN, oN],
  [oA (.aload_n 0) 97 0, oF (.getfield 21) 100 9 5 2 518, oN, oN, oA (.iload_n 3) 101 3, oK (.iconst 1) 102 (1), oA (.iload_n 2) 103 2, o0 .ishl 104, o0 .ior 105, oA (.aload_n 0) 106 0, oF (.getfield 21) 109 9 5 2 518, oN, oN, oA (.iload_n 3) 110 3, o0 .iaload 111, oA (.aload_n 1) 112 1, oA (.iload_n 2) 113 2, (.invokevirtual 72, 116, 46, 1, 2, 0, 0, 0, 0, 0, [(0, 1114)]), oN, oN, o0 .iadd 117, o0 .iastore 118, oA (.aload_n 0) 119 0, oF (.getfield 24) 122 9 6 2 520, oN, oN, oA (.iload_n 3) 123 3, oK (.iconst 1) 124 (1), oA (.iload_n 2) 125 2, o0 .ishl 126, o0 .ior 127, oA (.aload_n 0) 128 0],
  [oF (.getfield 24) 131 9 6 2 520, oN, oN, oA (.iload_n 3) 132 3, o0 .iaload 133, oA (.aload_n 1) 134 1, oA (.iload_n 2) 135 2, (.invokevirtual 72, 138, 46, 1, 2, 0, 0, 0, 0, 0, [(0, 1114)]), oN, oN, oK (.iconst 1) 139 (1), o0 .iadd 140, oK (.iconst 2) 141 (2), o0 .idiv 142, o0 .iadd 143, o0 .iastore 144, oC (.iinc 3 1) 147 3 0 (1), oN, oN, oA (.goto (-58)) 150 89, oN, oN, oC (.iinc 2 1) 153 2 0 (1), oN, oN, oA (.goto (-146)) 156 7, oN, oN, o0 .return_ 157]]
def cd_Routes_findPaths : List (List xop) := [[oK (.iconst 1) 1 (1), oA (.istore_n 2) 2 2, oA (.iload_n 2) 3 2, oA (.aload_n 0) 4 0, oF (.getfield 46) 7 9 1 0 512, oN, oN, oA (.if_icmp .gt 96) 10 103, oN, oN, oA (.aload_n 0) 11 0, oF (.getfield 18) 14 9 4 2 516, oN, oN, oA (.iload_n 2) 15 2, oC (.ldc 76) 17 1119 0 (1000000), oN, o0 .iastore 18, oK (.iconst 0) 19 (0), oA (.istore_n 3) 20 3, oA (.iload_n 3) 21 3, oA (.aload_n 1) 22 1, oF (.getfield 40) 25 2 6 0 204, oN, oN, oA (.if_icmp .ge 72) 28 97, oN, oN, oA (.iload_n 2) 29 2, oA (.iload_n 3) 30 3, (.invokestatic 77, 33, 86, 2, 0, 0, 0, 0, 0, 0, [(0, 1120)]), oN],
  [oN, oA (.ifCond .eq 58) 36 91, oN, oN, oA (.aload_n 0) 37 0, oA (.aload_n 1) 38 1, oA (.iload_n 2) 39 2, oK (.iconst 1) 40 (1), oA (.iload_n 3) 41 3, o0 .ishl 42, oK (.iconst (-1)) 43 (-1), o0 .ixor 44, o0 .iand 45, oA (.iload_n 3) 46 3, (.invokevirtual 81, 49, 87, 3, 9, 0, 0, 0, 0, 0, [(0, 1123)]), oN, oN, oA (.istore 4) 51 4, oN, oA (.aload_n 0) 52 0, oF (.getfield 15) 55 9 3 2 515, oN, oN, oA (.iload_n 2) 56 2, oK (.bipush 9) 58 (9), oN, o0 .imul 59, oA (.iload_n 3) 60 3, o0 .iadd 61, oA (.iload 4) 63 4, oN, o0 .iastore 64],
  [oA (.aload_n 0) 65 0, oF (.getfield 18) 68 9 4 2 516, oN, oN, oA (.iload_n 2) 69 2, oA (.aload_n 0) 70 0, oF (.getfield 18) 73 9 4 2 516, oN, oN, oA (.iload_n 2) 74 2, o0 .iaload 75, oA (.iload 4) 77 4, oN, oA (.aload_n 0) 78 0, oF (.getfield 9) 81 9 2 2 514, oN, oN, oK (.bipush 81) 83 (81), oN, oA (.iload_n 3) 84 3, o0 .iadd 85, o0 .iaload 86, o0 .iadd 87, (.invokestatic 85, 90, 1, 2, 0, 0, 0, 0, 0, 0, [(0, 1127)]), oN, oN, o0 .iastore 91, oC (.iinc 3 1) 94 3 0 (1), oN, oN, oA (.goto (-74)) 97 20, oN],
  [oN, oC (.iinc 2 1) 100 2 0 (1), oN, oN, oA (.goto (-98)) 103 2, oN, oN, o0 .return_ 104]]
def cd_Routes_has : List (List xop) := [[oA (.iload_n 0) 1 0, oA (.iload_n 1) 2 1, o0 .ishr 3, oK (.iconst 1) 4 (1), o0 .iand 5, oK (.iconst 1) 6 (1), oA (.if_icmp .ne 7) 9 13, oN, oN, oK (.iconst 1) 10 (1), oA (.goto 4) 13 14, oN, oN, oK (.iconst 0) 14 (0), (.ireturn, 15, 0, 0, 0, 1, 0, 0, 0, 0, [])]]
def cd_Routes_shortest : List (List xop) := [[oA (.iload_n 2) 1 2, oA (.ifCond .ne 13) 4 14, oN, oN, oA (.aload_n 0) 5 0, oF (.getfield 9) 8 9 2 2 514, oN, oN, oK (.bipush 81) 10 (81), oN, oA (.iload_n 3) 11 3, o0 .iadd 12, o0 .iaload 13, (.ireturn, 14, 0, 0, 0, 0, 0, 0, 0, 0, []), oC (.ldc 76) 16 1119 0 (1000000), oN, oA (.istore 4) 18 4, oN, oK (.iconst 0) 19 (0), oA (.istore 5) 21 5, oN, oA (.iload 5) 23 5, oN, oA (.aload_n 1) 24 1, oF (.getfield 40) 27 2 6 0 204, oN, oN, oA (.if_icmp .ge 50) 30 77, oN, oN, oA (.iload_n 2) 31 2, oA (.iload 5) 33 5],
  [oN, (.invokestatic 77, 36, 86, 2, 0, 0, 0, 0, 0, 0, [(0, 1120)]), oN, oN, oA (.ifCond .eq 35) 39 71, oN, oN, oA (.iload 4) 41 4, oN, oA (.aload_n 0) 42 0, oF (.getfield 15) 45 9 3 2 515, oN, oN, oA (.iload_n 2) 46 2, oK (.bipush 9) 48 (9), oN, o0 .imul 49, oA (.iload 5) 51 5, oN, o0 .iadd 52, o0 .iaload 53, oA (.aload_n 0) 54 0, oF (.getfield 9) 57 9 2 2 514, oN, oN, oA (.iload 5) 59 5, oN, oK (.bipush 9) 61 (9), oN, o0 .imul 62, oA (.iload_n 3) 63 3, o0 .iadd 64],
  [o0 .iaload 65, o0 .iadd 66, (.invokestatic 85, 69, 1, 2, 0, 0, 0, 0, 0, 0, [(0, 1127)]), oN, oN, oA (.istore 4) 71 4, oN, oC (.iinc 5 1) 74 5 0 (1), oN, oN, oA (.goto (-53)) 77 21, oN, oN, oA (.iload 4) 79 4, oN, (.ireturn, 80, 0, 0, 0, 0, 0, 0, 0, 0, [])]]
def cd_Routes_findRound : List (List xop) := [[oA (.aload_n 0) 1 0, oF (.getfield 46) 4 9 1 0 512, oN, oN, oA (.istore_n 2) 5 2, oK (.bipush 9) 7 (9), oN, oA (.istore_n 3) 8 3, oA (.aload_n 0) 9 0, oF (.getfield 18) 12 9 4 2 516, oN, oN, oA (.aload_n 0) 13 0, oF (.getfield 46) 16 9 1 0 512, oN, oN, o0 .iaload 17, oA (.istore 4) 19 4, oN, oK (.iconst 0) 20 (0), oA (.istore 5) 22 5, oN, oA (.iload 5) 24 5, oN, oA (.aload_n 1) 25 1, oF (.getfield 40) 28 2 6 0 204, oN, oN, oA (.if_icmp .ge 112) 31 140, oN, oN, oK (.iconst 0) 32 (0)],
  [oA (.istore 6) 34 6, oN, oA (.aload_n 1) 35 1, oF (.getfield 40) 38 2 6 0 204, oN, oN, oK (.iconst 1) 39 (1), o0 .isub 40, oA (.istore 7) 42 7, oN, oA (.iload 7) 44 7, oN, oA (.ifCond .lt 52) 47 96, oN, oN, oA (.iload_n 2) 48 2, oA (.iload 7) 50 7, oN, (.invokestatic 77, 53, 86, 2, 0, 0, 0, 0, 0, 0, [(0, 1120)]), oN, oN, oA (.ifCond .eq 37) 56 90, oN, oN, oA (.aload_n 0) 57 0, oF (.getfield 9) 60 9 2 2 514, oN, oN, oA (.iload_n 3) 61 3, oK (.bipush 9) 63 (9), oN, o0 .imul 64],
  [oA (.iload 7) 66 7, oN, o0 .iadd 67, o0 .iaload 68, oA (.aload_n 0) 69 0, oF (.getfield 15) 72 9 3 2 515, oN, oN, oA (.iload_n 2) 73 2, oK (.bipush 9) 75 (9), oN, o0 .imul 76, oA (.iload 7) 78 7, oN, o0 .iadd 79, o0 .iaload 80, o0 .iadd 81, oA (.iload 4) 83 4, oN, oA (.if_icmp .ne 7) 86 90, oN, oN, oA (.iload 7) 88 7, oN, oA (.istore 6) 90 6, oN, oC (.iinc 7 (-1)) 93 7 0 (-1), oN, oN, oA (.goto (-51)) 96 42, oN, oN],
  [oA (.aload_n 0) 97 0, oF (.getfield 30) 100 9 8 2 522, oN, oN, oA (.iload 5) 102 5, oN, oA (.iload 6) 104 6, oN, o0 .iastore 105, oA (.iload 4) 107 4, oN, oA (.aload_n 0) 108 0, oF (.getfield 9) 111 9 2 2 514, oN, oN, oA (.iload_n 3) 112 3, oK (.bipush 9) 114 (9), oN, o0 .imul 115, oA (.iload 6) 117 6, oN, o0 .iadd 118, o0 .iaload 119, o0 .isub 120, oA (.istore 4) 122 4, oN, oA (.iload_n 2) 123 2, oK (.iconst 1) 124 (1), oA (.iload 6) 126 6, oN, o0 .ishl 127, oK (.iconst (-1)) 128 (-1)],
  [o0 .ixor 129, o0 .iand 130, oA (.istore_n 2) 131 2, oA (.iload 6) 133 6, oN, oA (.istore_n 3) 134 3, oC (.iinc 5 1) 137 5 0 (1), oN, oN, oA (.goto (-115)) 140 22, oN, oN, o0 .return_ 141]]
def cd_Routes_findBestOfWay : List (List xop) := [[oA (.aload_n 0) 1 0, oK (.iconst 0) 2 (0), oF (.putfield 96) 5 9 11 0 528, oN, oN, oA (.aload_n 0) 6 0, oK (.iconst 0) 7 (0), oF (.putfield 99) 10 9 12 0 530, oN, oN, oK (.iconst 1) 11 (1), oA (.istore_n 2) 12 2, oA (.iload_n 2) 13 2, oA (.aload_n 0) 14 0, oF (.getfield 46) 17 9 1 0 512, oN, oN, oA (.if_icmp .gt 84) 20 101, oN, oN, oA (.aload_n 0) 21 0, oA (.iload_n 2) 22 2, (.invokevirtual 102, 25, 90, 1, 9, 0, 0, 0, 0, 0, [(0, 1136)]), oN, oN, oA (.ifCond .eq 12) 28 37, oN, oN, oA (.aload_n 0) 29 0, oA (.aload_n 1) 30 1, oA (.iload_n 2) 31 2, (.invokevirtual 106, 34, 91, 2, 9, 0, 0, 0, 0, 0, [(0, 1140)])],
  [oN, oN, oA (.goto 5) 37 39, oN, oN, oC (.ldc 76) 39 1119 0 (1000000), oN, oA (.istore_n 3) 40 3, oA (.iload_n 3) 41 3, oC (.ldc 76) 43 1119 0 (1000000), oN, oA (.if_icmp .ge 52) 46 95, oN, oN, oA (.aload_n 0) 47 0, oF (.getfield 21) 50 9 5 2 518, oN, oN, oA (.iload_n 2) 51 2, o0 .iaload 52, oA (.aload_n 0) 53 0, oF (.getfield 96) 56 9 11 0 528, oN, oN, oA (.if_icmp .gt 24) 59 80, oN, oN, oA (.aload_n 0) 60 0, oF (.getfield 21) 63 9 5 2 518, oN, oN, oA (.iload_n 2) 64 2],
  [o0 .iaload 65, oA (.aload_n 0) 66 0, oF (.getfield 96) 69 9 11 0 528, oN, oN, oA (.if_icmp .ne 26) 72 95, oN, oN, oA (.iload_n 3) 73 3, oA (.aload_n 0) 74 0, oF (.getfield 99) 77 9 12 0 530, oN, oN, oA (.if_icmp .ge 18) 80 95, oN, oN, oA (.aload_n 0) 81 0, oA (.aload_n 0) 82 0, oF (.getfield 21) 85 9 5 2 518, oN, oN, oA (.iload_n 2) 86 2, o0 .iaload 87, oF (.putfield 96) 90 9 11 0 528, oN, oN, oA (.aload_n 0) 91 0, oA (.iload_n 3) 92 3, oF (.putfield 99) 95 9 12 0 530, oN, oN, oC (.iinc 2 1) 98 2 0 (1)],
  [oN, oN, oA (.goto (-86)) 101 12, oN, oN, o0 .return_ 102]]
def cd_Routes_isPeopled : List (List xop) := [[oA (.iload_n 1) 1 1, oA (.aload_n 0) 2 0, oF (.getfield 65) 5 9 13 0 532, oN, oN, oK (.iconst (-1)) 6 (-1), o0 .ixor 7, o0 .iand 8, oA (.ifCond .ne 7) 11 15, oN, oN, oK (.iconst 1) 12 (1), oA (.goto 4) 15 16, oN, oN, oK (.iconst 0) 16 (0), (.ireturn, 17, 0, 0, 0, 1, 0, 0, 0, 0, [])]]
def cd_Routes_fewestMinutes : List (List xop) := [[oC (.ldc 76) 2 1119 0 (1000000), oN, oA (.istore_n 3) 3 3, oK (.iconst 0) 4 (0), oA (.istore 4) 6 4, oN, oA (.iload 4) 8 4, oN, oA (.aload_n 1) 9 1, oF (.getfield 40) 12 2 6 0 204, oN, oN, oA (.if_icmp .ge 41) 15 53, oN, oN, oA (.iload_n 2) 16 2, oA (.iload 4) 18 4, oN, (.invokestatic 77, 21, 86, 2, 0, 0, 0, 0, 0, 0, [(0, 1120)]), oN, oN, oA (.ifCond .eq 26) 24 47, oN, oN, oA (.aload_n 0) 25 0, oA (.aload_n 1) 26 1, oA (.iload_n 2) 27 2, oA (.iload 4) 29 4, oN, (.invokevirtual 110, 32, 92, 3, 9, 0, 0, 0, 0, 0, [(0, 1144)]), oN, oN],
  [oA (.ifCond .eq 15) 35 47, oN, oN, oA (.iload_n 3) 36 3, oA (.aload_n 0) 37 0, oA (.iload_n 2) 38 2, oA (.iload 4) 40 4, oN, (.invokevirtual 90, 43, 93, 2, 9, 0, 0, 0, 0, 0, [(0, 1148)]), oN, oN, (.invokestatic 85, 46, 1, 2, 0, 0, 0, 0, 0, 0, [(0, 1127)]), oN, oN, oA (.istore_n 3) 47 3, oC (.iinc 4 1) 50 4 0 (1), oN, oN, oA (.goto (-44)) 53 6, oN, oN, oA (.iload_n 3) 54 3, (.ireturn, 55, 0, 0, 0, 0, 0, 0, 0, 0, [])]]
def cd_Routes_isWarm : List (List xop) := [[oA (.aload_n 0) 1 0, oA (.iload_n 2) 2 2, oA (.iload_n 3) 3 3, (.invokevirtual 90, 6, 93, 2, 9, 0, 0, 0, 0, 0, [(0, 1148)]), oN, oN, oA (.aload_n 0) 7 0, oF (.getfield 24) 10 9 6 2 520, oN, oN, oK (.iconst 1) 11 (1), oA (.iload_n 3) 12 3, o0 .ishl 13, o0 .iaload 14, o0 .isub 15, oA (.aload_n 1) 16 1, oF (.getfield 93) 19 2 4 0 195, oN, oN, oA (.if_icmp .ge 7) 22 26, oN, oN, oK (.iconst 1) 23 (1), oA (.goto 4) 26 27, oN, oN, oK (.iconst 0) 27 (0), (.ireturn, 28, 0, 0, 0, 1, 0, 0, 0, 0, [])]]
def cd_Routes_doneAt : List (List xop) := [[oA (.aload_n 0) 1 0, oF (.getfield 15) 4 9 3 2 515, oN, oN, oA (.iload_n 1) 5 1, oK (.bipush 9) 7 (9), oN, o0 .imul 8, oA (.iload_n 2) 9 2, o0 .iadd 10, o0 .iaload 11, oA (.aload_n 0) 12 0, oF (.getfield 24) 15 9 6 2 520, oN, oN, oA (.iload_n 1) 16 1, o0 .iaload 17, o0 .iadd 18, (.ireturn, 19, 0, 0, 0, 0, 0, 0, 0, 0, [])]]
def cd_Routes_findWay : List (List xop) := [[oA (.aload_n 0) 1 0, oF (.getfield 46) 4 9 1 0 512, oN, oN, oA (.istore_n 2) 5 2, oA (.iload_n 2) 6 2, oA (.ifCond .le 80) 9 86, oN, oN, oA (.aload_n 0) 10 0, oF (.getfield 27) 13 9 7 2 521, oN, oN, oA (.iload_n 2) 14 2, oK (.iconst 0) 15 (0), o0 .iastore 16, oK (.iconst 0) 17 (0), oA (.istore_n 3) 18 3, oA (.iload_n 3) 19 3, oA (.aload_n 1) 20 1, oF (.getfield 40) 23 2 6 0 204, oN, oN, oA (.if_icmp .ge 57) 26 80, oN, oN, oA (.aload_n 0) 27 0, oA (.iload_n 2) 28 2, (.invokevirtual 102, 31, 90, 1, 9, 0, 0, 0, 0, 0, [(0, 1136)]), oN, oN, oA (.ifCond .eq 43) 34 74],
  [oN, oN, oA (.iload_n 2) 35 2, oA (.iload_n 3) 36 3, (.invokestatic 77, 39, 86, 2, 0, 0, 0, 0, 0, 0, [(0, 1120)]), oN, oN, oA (.ifCond .eq 35) 42 74, oN, oN, oA (.aload_n 0) 43 0, oA (.aload_n 1) 44 1, oA (.iload_n 2) 45 2, oA (.iload_n 3) 46 3, (.invokevirtual 114, 49, 95, 3, 9, 0, 0, 0, 0, 0, [(0, 1156)]), oN, oN, oA (.ifCond .ne 13) 52 62, oN, oN, oA (.aload_n 0) 53 0, oA (.aload_n 1) 54 1, oA (.iload_n 2) 55 2, oA (.iload_n 3) 56 3, (.invokevirtual 117, 59, 96, 3, 9, 0, 0, 0, 0, 0, [(0, 1160)]), oN, oN, oA (.ifCond .lt 15) 62 74, oN, oN, oA (.aload_n 0) 63 0, oF (.getfield 27) 66 9 7 2 521],
  [oN, oN, oA (.iload_n 2) 67 2, o0 .dup2 68, o0 .iaload 69, oK (.iconst 1) 70 (1), oA (.iload_n 3) 71 3, o0 .ishl 72, o0 .ior 73, o0 .iastore 74, oC (.iinc 3 1) 77 3 0 (1), oN, oN, oA (.goto (-59)) 80 18, oN, oN, oC (.iinc 2 (-1)) 83 2 0 (-1), oN, oN, oA (.goto (-78)) 86 5, oN, oN, oA (.aload_n 0) 87 0, oK (.iconst 0) 88 (0), oF (.putfield 120) 91 9 10 0 526, oN, oN, oK (.iconst 0) 92 (0), oA (.istore_n 2) 93 2, oK (.bipush 9) 95 (9), oN, oA (.istore_n 3) 96 3],
  [oK (.iconst 0) 97 (0), oA (.istore 4) 99 4, oN, oA (.iload 4) 101 4, oN, oA (.aload_n 1) 102 1, oF (.getfield 40) 105 2 6 0 204, oN, oN, oA (.if_icmp .ge 64) 108 169, oN, oN, oA (.aload_n 0) 109 0, oF (.getfield 21) 112 9 5 2 518, oN, oN, oA (.iload_n 2) 113 2, o0 .iaload 114, oA (.aload_n 0) 115 0, oF (.getfield 96) 118 9 11 0 528, oN, oN, oA (.if_icmp .ge 51) 121 169, oN, oN, oA (.aload_n 0) 122 0, oA (.aload_n 1) 123 1, oA (.iload_n 2) 124 2, oA (.iload_n 3) 125 3, (.invokevirtual 117, 128, 96, 3, 9, 0, 0, 0, 0, 0, [(0, 1160)]), oN, oN],
  [oA (.istore 5) 130 5, oN, oA (.iload 5) 132 5, oN, oA (.ifCond .ge 4) 135 136, oN, oN, o0 .return_ 136, oA (.aload_n 0) 137 0, oF (.getfield 33) 140 9 9 2 524, oN, oN, oA (.iload 4) 142 4, oN, oA (.iload 5) 144 5, oN, o0 .iastore 145, oA (.aload_n 0) 146 0, oA (.iload 4) 148 4, oN, oK (.iconst 1) 149 (1), o0 .iadd 150, oF (.putfield 120) 153 9 10 0 526, oN, oN, oA (.iload_n 2) 154 2, oK (.iconst 1) 155 (1), oA (.iload 5) 157 5, oN, o0 .ishl 158, o0 .ior 159, oA (.istore_n 2) 160 2],
  [oA (.iload 5) 162 5, oN, oA (.istore_n 3) 163 3, oC (.iinc 4 1) 166 4 0 (1), oN, oN, oA (.goto (-67)) 169 99, oN, oN, o0 .return_ 170]]
def cd_Routes_isBest : List (List xop) := [[oA (.aload_n 0) 1 0, oF (.getfield 21) 4 9 5 2 518, oN, oN, oA (.iload_n 2) 5 2, o0 .iaload 6, oA (.aload_n 0) 7 0, oF (.getfield 96) 10 9 11 0 528, oN, oN, oA (.if_icmp .ne 30) 13 40, oN, oN, oA (.aload_n 0) 14 0, oA (.iload_n 2) 15 2, oA (.iload_n 3) 16 3, (.invokevirtual 90, 19, 93, 2, 9, 0, 0, 0, 0, 0, [(0, 1148)]), oN, oN, oA (.aload_n 0) 20 0, oF (.getfield 99) 23 9 12 0 530, oN, oN, oA (.if_icmp .ne 17) 26 40, oN, oN, oA (.aload_n 0) 27 0, oA (.aload_n 1) 28 1, oA (.iload_n 2) 29 2, oA (.iload_n 3) 30 3, (.invokevirtual 110, 33, 92, 3, 9, 0, 0, 0, 0, 0, [(0, 1144)]), oN],
  [oN, oA (.ifCond .eq 7) 36 40, oN, oN, oK (.iconst 1) 37 (1), oA (.goto 4) 40 41, oN, oN, oK (.iconst 0) 41 (0), (.ireturn, 42, 0, 0, 0, 1, 0, 0, 0, 0, [])]]
def cd_Routes_nextOf : List (List xop) := [[oA (.iload_n 2) 1 2, oA (.ifCond .ne 7) 4 8, oN, oN, oK (.iconst 0) 5 (0), oA (.goto 14) 8 19, oN, oN, oA (.aload_n 0) 9 0, oF (.getfield 15) 12 9 3 2 515, oN, oN, oA (.iload_n 2) 13 2, oK (.bipush 9) 15 (9), oN, o0 .imul 16, oA (.iload_n 3) 17 3, o0 .iadd 18, o0 .iaload 19, oA (.istore 4) 21 4, oN, oK (.iconst 0) 22 (0), oA (.istore 5) 24 5, oN, oA (.iload 5) 26 5, oN, oA (.aload_n 1) 27 1, oF (.getfield 40) 30 2 6 0 204, oN, oN, oA (.if_icmp .ge 72) 33 102, oN],
  [oN, oA (.iload_n 2) 34 2, oK (.iconst 1) 35 (1), oA (.iload 5) 37 5, oN, o0 .ishl 38, o0 .ior 39, oA (.istore 6) 41 6, oN, oA (.iload 6) 43 6, oN, oA (.iload_n 2) 44 2, oA (.if_icmp .eq 52) 47 96, oN, oN, oA (.aload_n 0) 48 0, oF (.getfield 27) 51 9 7 2 521, oN, oN, oA (.iload 6) 53 6, oN, o0 .iaload 54, oA (.iload 5) 56 5, oN, (.invokestatic 77, 59, 86, 2, 0, 0, 0, 0, 0, 0, [(0, 1120)]), oN, oN, oA (.ifCond .eq 37) 62 96, oN, oN, oA (.iload 4) 64 4, oN],
  [oA (.aload_n 0) 65 0, oF (.getfield 9) 68 9 2 2 514, oN, oN, oA (.iload_n 3) 69 3, oK (.bipush 9) 71 (9), oN, o0 .imul 72, oA (.iload 5) 74 5, oN, o0 .iadd 75, o0 .iaload 76, o0 .iadd 77, oA (.aload_n 0) 78 0, oF (.getfield 15) 81 9 3 2 515, oN, oN, oA (.iload 6) 83 6, oN, oK (.bipush 9) 85 (9), oN, o0 .imul 86, oA (.iload 5) 88 5, oN, o0 .iadd 89, o0 .iaload 90, oA (.if_icmp .ne 6) 93 96, oN, oN, oA (.iload 5) 95 5, oN, (.ireturn, 96, 0, 0, 0, 0, 0, 0, 0, 0, [])],
  [oC (.iinc 5 1) 99 5 0 (1), oN, oN, oA (.goto (-75)) 102 24, oN, oN, oK (.iconst (-1)) 103 (-1), (.ireturn, 104, 0, 0, 0, 0, 0, 0, 0, 0, [])]]
def cd_Routes_talksAtFirst : List (List xop) := [[oA (.aload_n 0) 1 0, oF (.getfield 120) 4 9 10 0 526, oN, oN, oA (.ifCond .ne 5) 7 9, oN, oN, oK (.iconst (-1)) 8 (-1), (.ireturn, 9, 0, 0, 0, 0, 0, 0, 0, 0, []), oA (.aload_n 0) 10 0, oF (.getfield 120) 13 9 10 0 526, oN, oN, oK (.iconst 1) 14 (1), oA (.if_icmp .ne 6) 17 20, oN, oN, oK (.bipush 9) 19 (9), oN, (.ireturn, 20, 0, 0, 0, 0, 0, 0, 0, 0, []), oK (.bipush 9) 22 (9), oN, oA (.aload_n 0) 23 0, oA (.aload_n 1) 24 1, (.invokevirtual 123, 27, 98, 1, 9, 0, 0, 0, 0, 0, [(0, 1176)]), oN, oN, (.invokestatic 85, 30, 1, 2, 0, 0, 0, 0, 0, 0, [(0, 1127)]), oN, oN, (.ireturn, 31, 0, 0, 0, 0, 0, 0, 0, 0, [])]]
def cd_Routes_talksAheadOfLast : List (List xop) := [[oA (.aload_n 0) 1 0, oF (.getfield 120) 4 9 10 0 526, oN, oN, oA (.ifCond .eq 10) 7 14, oN, oN, oA (.aload_n 1) 8 1, oF (.getfield 127) 11 2 5 0 201, oN, oN, oA (.ifCond .gt 5) 14 16, oN, oN, oK (.iconst 0) 15 (0), (.ireturn, 16, 0, 0, 0, 0, 0, 0, 0, 0, []), oA (.aload_n 0) 17 0, oF (.getfield 99) 20 9 12 0 530, oN, oN, oA (.aload_n 0) 21 0, oF (.getfield 24) 24 9 6 2 520, oN, oN, oK (.iconst 1) 25 (1), oA (.aload_n 0) 26 0, oF (.getfield 33) 29 9 9 2 524, oN, oN, oA (.aload_n 0) 30 0, oF (.getfield 120) 33 9 10 0 526, oN],
  [oN, oK (.iconst 1) 34 (1), o0 .isub 35, o0 .iaload 36, o0 .ishl 37, o0 .iaload 38, o0 .isub 39, oA (.istore_n 2) 40 2, oA (.aload_n 1) 41 1, oF (.getfield 93) 44 2 4 0 195, oN, oN, oK (.iconst 1) 45 (1), o0 .isub 46, oA (.iload_n 2) 47 2, o0 .isub 48, oA (.aload_n 1) 49 1, oF (.getfield 127) 52 2 5 0 201, oN, oN, o0 .idiv 53, (.ireturn, 54, 0, 0, 0, 0, 0, 0, 0, 0, [])]]
def cd_Routes_mostWarmWithout : List (List xop) := [[oK (.iconst 0) 1 (0), oA (.istore_n 3) 2 3, oK (.iconst 1) 3 (1), oA (.istore 4) 5 4, oN, oA (.iload 4) 7 4, oN, oA (.aload_n 0) 8 0, oF (.getfield 46) 11 9 1 0 512, oN, oN, oA (.if_icmp .gt 58) 14 69, oN, oN, oA (.aload_n 0) 15 0, oA (.iload 4) 17 4, oN, (.invokevirtual 102, 20, 90, 1, 9, 0, 0, 0, 0, 0, [(0, 1136)]), oN, oN, oA (.ifCond .eq 43) 23 63, oN, oN, oA (.iload 4) 25 4, oN, oA (.iload_n 2) 26 2, (.invokestatic 77, 29, 86, 2, 0, 0, 0, 0, 0, 0, [(0, 1120)]), oN, oN, oA (.ifCond .ne 34) 32 63, oN, oN],
  [oA (.aload_n 0) 33 0, oF (.getfield 21) 36 9 5 2 518, oN, oN, oA (.iload 4) 38 4, oN, o0 .iaload 39, oA (.iload_n 3) 40 3, oA (.if_icmp .le 23) 43 63, oN, oN, oA (.aload_n 0) 44 0, oA (.aload_n 1) 45 1, oA (.iload 4) 47 4, oN, (.invokevirtual 106, 50, 91, 2, 9, 0, 0, 0, 0, 0, [(0, 1140)]), oN, oN, oC (.ldc 76) 52 1119 0 (1000000), oN, oA (.if_icmp .ge 11) 55 63, oN, oN, oA (.aload_n 0) 56 0, oF (.getfield 21) 59 9 5 2 518, oN, oN, oA (.iload 4) 61 4, oN, o0 .iaload 62, oA (.istore_n 3) 63 3, oC (.iinc 4 1) 66 4 0 (1)],
  [oN, oN, oA (.goto (-61)) 69 5, oN, oN, oA (.iload_n 3) 70 3, (.ireturn, 71, 0, 0, 0, 0, 0, 0, 0, 0, [])]]
def cd_Routes_stopsOfFirstVan : List (List xop) := [[oK (.iconst 0) 1 (0), oA (.istore_n 1) 2 1, oK (.iconst 1) 3 (1), oA (.istore_n 2) 4 2, oA (.iload_n 2) 5 2, oA (.aload_n 0) 6 0, oF (.getfield 46) 9 9 1 0 512, oN, oN, oA (.if_icmp .gt 24) 12 33, oN, oN, oA (.aload_n 0) 13 0, oA (.iload_n 2) 14 2, (.invokevirtual 138, 17, 101, 1, 9, 0, 0, 0, 0, 0, [(0, 1206)]), oN, oN, oA (.aload_n 0) 18 0, oA (.iload_n 1) 19 1, (.invokevirtual 138, 22, 101, 1, 9, 0, 0, 0, 0, 0, [(0, 1206)]), oN, oN, oA (.if_icmp .ge 5) 25 27, oN, oN, oA (.iload_n 2) 26 2, oA (.istore_n 1) 27 1, oC (.iinc 2 1) 30 2 0 (1), oN, oN, oA (.goto (-26)) 33 4, oN],
  [oN, oA (.iload_n 1) 34 1, (.ireturn, 35, 0, 0, 0, 0, 0, 0, 0, 0, [])]]
def cd_Routes_homeLast : List (List xop) := [[oA (.aload_n 0) 1 0, oF (.getfield 18) 4 9 4 2 516, oN, oN, oA (.iload_n 1) 5 1, o0 .iaload 6, oA (.aload_n 0) 7 0, oF (.getfield 18) 10 9 4 2 516, oN, oN, oA (.aload_n 0) 11 0, oF (.getfield 46) 14 9 1 0 512, oN, oN, oA (.iload_n 1) 15 1, oK (.iconst (-1)) 16 (-1), o0 .ixor 17, o0 .iand 18, o0 .iaload 19, (.invokestatic 135, 22, 2, 2, 0, 0, 0, 0, 0, 0, [(0, 1210)]), oN, oN, (.ireturn, 23, 0, 0, 0, 0, 0, 0, 0, 0, [])]]
def cd_Routes_stopsToTalkAt : List (List xop) := [[oA (.aload_n 0) 1 0, oF (.getfield 120) 4 9 10 0 526, oN, oN, oA (.ifCond .ne 5) 7 9, oN, oN, oK (.iconst 0) 8 (0), (.ireturn, 9, 0, 0, 0, 0, 0, 0, 0, 0, []), oK (.iconst 0) 10 (0), oA (.istore_n 2) 11 2, oK (.iconst 0) 12 (0), oA (.istore_n 3) 13 3, oA (.iload_n 3) 14 3, oA (.aload_n 0) 15 0, oF (.getfield 120) 18 9 10 0 526, oN, oN, oA (.if_icmp .ge 20) 21 38, oN, oN, oA (.iload_n 2) 22 2, oK (.iconst 1) 23 (1), oA (.aload_n 0) 24 0, oF (.getfield 33) 27 9 9 2 524, oN, oN, oA (.iload_n 3) 28 3, o0 .iaload 29, o0 .ishl 30, o0 .ior 31, oA (.istore_n 2) 32 2],
  [oC (.iinc 3 1) 35 3 0 (1), oN, oN, oA (.goto (-22)) 38 13, oN, oN, oA (.iload_n 2) 39 2, oK (.iconst 1) 40 (1), oA (.aload_n 0) 41 0, oF (.getfield 33) 44 9 9 2 524, oN, oN, oA (.aload_n 0) 45 0, oF (.getfield 120) 48 9 10 0 526, oN, oN, oK (.iconst 1) 49 (1), o0 .isub 50, o0 .iaload 51, o0 .ishl 52, oK (.iconst (-1)) 53 (-1), o0 .ixor 54, o0 .iand 55, oA (.istore_n 3) 56 3, oA (.aload_n 0) 57 0, oA (.aload_n 1) 58 1, (.invokevirtual 123, 61, 98, 1, 9, 0, 0, 0, 0, 0, [(0, 1176)]), oN, oN, oA (.istore 4) 63 4, oN, oK (.iconst 0) 64 (0)],
  [oA (.istore 5) 66 5, oN, oK (.iconst 1) 67 (1), oA (.istore 6) 69 6, oN, oA (.iload 6) 71 6, oN, oA (.aload_n 0) 72 0, oF (.getfield 46) 75 9 1 0 512, oN, oN, oA (.if_icmp .gt 51) 78 126, oN, oN, oA (.iload 6) 80 6, oN, oA (.iload_n 2) 81 2, oK (.iconst (-1)) 82 (-1), o0 .ixor 83, o0 .iand 84, oA (.ifCond .ne 36) 87 120, oN, oN, oA (.iload 6) 89 6, oN, oA (.iload_n 3) 90 3, o0 .iand 91, (.invokestatic 130, 94, 0, 1, 0, 0, 0, 0, 0, 0, [(0, 1234)]), oN, oN, oA (.iload 4) 96 4, oN],
  [oA (.if_icmp .gt 24) 99 120, oN, oN, oA (.aload_n 0) 100 0, oF (.getfield 21) 103 9 5 2 518, oN, oN, oA (.iload 6) 105 6, oN, o0 .iaload 106, oA (.aload_n 0) 107 0, oF (.getfield 21) 110 9 5 2 518, oN, oN, oA (.iload 5) 112 5, oN, o0 .iaload 113, oA (.if_icmp .le 7) 116 120, oN, oN, oA (.iload 6) 118 6, oN, oA (.istore 5) 120 5, oN, oC (.iinc 6 1) 123 6 0 (1), oN, oN, oA (.goto (-54)) 126 69, oN, oN, oA (.iload 5) 128 5, oN],
  [(.ireturn, 129, 0, 0, 0, 0, 0, 0, 0, 0, [])]]
def cd_Search_init : List (List xop) := [[oA (.aload_n 0) 1 0, (.invokespecial 3, 4, 0, 0, 0, 9, 0, 0, 0, 0, [(0, 567)]), oN, oN, oA (.aload_n 0) 5 0, oK (.sipush 576) 8 (576), oN, oN, oA (.newarray .int) 10 20, oN, oF (.putfield 11) 13 10 1 2 569, oN, oN, oA (.aload_n 0) 14 0, oK (.bipush 8) 16 (8), oN, oA (.newarray .int) 18 20, oN, oF (.putfield 15) 21 10 2 2 571, oN, oN, oA (.aload_n 0) 22 0, oK (.sipush 2048) 25 (2048), oN, oN, oA (.newarray .int) 27 20, oN, oF (.putfield 18) 30 10 3 2 573, oN, oN, oA (.aload_n 0) 31 0, oK (.sipush 256) 34 (256)],
  [oN, oN, oA (.newarray .int) 36 20, oN, oF (.putfield 21) 39 10 4 2 574, oN, oN, oA (.aload_n 0) 40 0, oK (.bipush 8) 42 (8), oN, oA (.newarray .int) 44 20, oN, oF (.putfield 24) 47 10 5 2 575, oN, oN, o0 .return_ 48]]
def cd_Search_forget : List (List xop) := [[oA (.aload_n 0) 1 0, o0 .aconst_null 2, oF (.putfield 27) 5 10 0 2 568, oN, oN, o0 .return_ 6]]
def cd_Search_prepare : List (List xop) := [[oA (.aload_n 0) 1 0, oF (.getfield 27) 4 10 0 2 568, oN, oN, oA (.aload_n 1) 5 1, oA (.if_acmp .ne 4) 8 9, oN, oN, o0 .return_ 9, oA (.aload_n 0) 10 0, oA (.aload_n 1) 11 1, oF (.putfield 27) 14 10 0 2 568, oN, oN, oA (.aload_n 0) 15 0, oA (.aload_n 1) 16 1, (.invokevirtual 31, 19, 106, 1, 10, 3, 0, 0, 0, 0, [(0, 1339)]), oN, oN, oA (.aload_n 0) 20 0, oA (.aload_n 1) 21 1, (.invokevirtual 35, 24, 108, 1, 10, 3, 0, 0, 0, 0, [(0, 1352)]), oN, oN, oA (.aload_n 0) 25 0, oA (.aload_n 1) 26 1, (.invokevirtual 38, 29, 109, 1, 10, 3, 0, 0, 0, 0, [(0, 1356)]), oN, oN, oA (.aload_n 0) 30 0, oA (.aload_n 1) 31 1, (.invokevirtual 41, 34, 112, 1, 10, 3, 0, 0, 0, 0, [(0, 1375)])],
  [oN, oN, o0 .return_ 35]]
def cd_Search_findNeed : List (List xop) := [[oK (.iconst 0) 1 (0), oA (.istore_n 2) 2 2, oA (.iload_n 2) 3 2, oK (.bipush 64) 5 (64), oN, oA (.if_icmp .ge 24) 8 29, oN, oN, oA (.aload_n 0) 9 0, oF (.getfield 11) 12 10 1 2 569, oN, oN, oA (.aload_n 1) 13 1, oF (.getfield 44) 16 5 1 0 304, oN, oN, oK (.bipush 64) 18 (64), oN, o0 .imul 19, oA (.iload_n 2) 20 2, o0 .iadd 21, oK (.iconst 0) 22 (0), o0 .iastore 23, oC (.iinc 2 1) 26 2 0 (1), oN, oN, oA (.goto (-24)) 29 2, oN, oN, oA (.aload_n 1) 30 1, oF (.getfield 44) 33 5 1 0 304, oN],
  [oN, oK (.iconst 1) 34 (1), o0 .isub 35, oA (.istore_n 2) 36 2, oA (.iload_n 2) 37 2, oA (.ifCond .lt 71) 40 108, oN, oN, oK (.iconst 0) 41 (0), oA (.istore_n 3) 42 3, oA (.iload_n 3) 43 3, oK (.bipush 64) 45 (64), oN, oA (.if_icmp .ge 57) 48 102, oN, oN, oK (.iconst 0) 49 (0), oA (.istore 4) 51 4, oN, oK (.iconst 0) 52 (0), oA (.istore 5) 54 5, oN, oA (.iload 5) 56 5, oN, oK (.bipush 6) 58 (6), oN, oA (.if_icmp .gt 25) 61 83, oN, oN, oA (.iload 4) 63 4, oN, oA (.aload_n 0) 64 0],
  [oA (.aload_n 1) 65 1, oA (.iload_n 2) 66 2, oA (.iload_n 3) 67 3, oA (.iload 5) 69 5, oN, (.invokevirtual 50, 72, 107, 4, 10, 0, 0, 0, 0, 0, [(0, 1343)]), oN, oN, (.invokestatic 54, 75, 2, 2, 0, 0, 0, 0, 0, 0, [(0, 1351)]), oN, oN, oA (.istore 4) 77 4, oN, oC (.iinc 5 1) 80 5 0 (1), oN, oN, oA (.goto (-26)) 83 54, oN, oN, oA (.aload_n 0) 84 0, oF (.getfield 11) 87 10 1 2 569, oN, oN, oA (.iload_n 2) 88 2, oK (.bipush 64) 90 (64), oN, o0 .imul 91, oA (.iload_n 3) 92 3, o0 .iadd 93, oA (.iload 4) 95 4, oN, o0 .iastore 96],
  [oC (.iinc 3 1) 99 3 0 (1), oN, oN, oA (.goto (-57)) 102 42, oN, oN, oC (.iinc 2 (-1)) 105 2 0 (-1), oN, oN, oA (.goto (-69)) 108 36, oN, oN, o0 .return_ 109]]
def cd_Search_needWith : List (List xop) := [[oA (.iload_n 2) 1 2, oK (.iconst 1) 2 (1), o0 .iadd 3, oK (.bipush 64) 5 (64), oN, o0 .imul 6, oA (.iload_n 3) 7 3, o0 .iadd 8, oA (.istore 5) 10 5, oN, oA (.iload 4) 12 4, oN, oK (.bipush 6) 14 (6), oN, oA (.if_icmp .ne 11) 17 25, oN, oN, oA (.aload_n 0) 18 0, oF (.getfield 11) 21 10 1 2 569, oN, oN, oA (.iload 5) 23 5, oN, o0 .iaload 24, (.ireturn, 25, 0, 0, 0, 0, 0, 0, 0, 0, []), oA (.iload_n 3) 26 3, oA (.iload 4) 28 4, oN, o0 .ishr 29, oK (.iconst 1) 30 (1), o0 .iand 31, oK (.iconst 1) 32 (1)],
  [oA (.if_icmp .eq 13) 35 45, oN, oN, oA (.aload_n 1) 36 1, oA (.iload 4) 38 4, oN, oA (.iload_n 2) 39 2, (.invokevirtual 60, 42, 36, 2, 5, 0, 0, 0, 0, 0, [(0, 1347)]), oN, oN, oA (.ifCond .ne 5) 45 47, oN, oN, oK (.iconst (-1)) 46 (-1), (.ireturn, 47, 0, 0, 0, 0, 0, 0, 0, 0, []), oA (.aload_n 1) 48 1, oF (.getfield 64) 51 5 5 2 314, oN, oN, oA (.iload_n 2) 52 2, o0 .iaload 53, oA (.aload_n 0) 54 0, oF (.getfield 11) 57 10 1 2 569, oN, oN, oA (.iload 5) 59 5, oN, oK (.iconst 1) 60 (1), oA (.iload 4) 62 4, oN, o0 .ishl 63, o0 .iadd 64],
  [o0 .iaload 65, o0 .iadd 66, (.ireturn, 67, 0, 0, 0, 0, 0, 0, 0, 0, [])]]
def cd_Search_findShoes : List (List xop) := [[oK (.iconst 0) 1 (0), oA (.istore_n 2) 2 2, oK (.iconst 0) 3 (0), oA (.istore_n 3) 4 3, oA (.iload_n 3) 5 3, oA (.aload_n 1) 6 1, oF (.getfield 44) 9 5 1 0 304, oN, oN, oA (.if_icmp .ge 74) 12 83, oN, oN, oK (.iconst 0) 13 (0), oA (.istore 4) 15 4, oN, oA (.iload 4) 17 4, oN, oK (.bipush 6) 19 (6), oN, oA (.if_icmp .ge 32) 22 51, oN, oN, oA (.aload_n 0) 23 0, oA (.aload_n 1) 24 1, oA (.iload_n 3) 25 3, oA (.iload_n 2) 26 2, oA (.iload 4) 28 4, oN, (.invokevirtual 50, 31, 107, 4, 10, 0, 0, 0, 0, 0, [(0, 1343)]), oN, oN, oA (.aload_n 0) 32 0],
  [oF (.getfield 11) 35 10 1 2 569, oN, oN, oA (.iload_n 3) 36 3, oK (.bipush 64) 38 (64), oN, o0 .imul 39, oA (.iload_n 2) 40 2, o0 .iadd 41, o0 .iaload 42, oA (.if_icmp .eq 9) 45 51, oN, oN, oC (.iinc 4 1) 48 4 0 (1), oN, oN, oA (.goto (-33)) 51 15, oN, oN, oA (.aload_n 0) 52 0, oF (.getfield 15) 55 10 2 2 571, oN, oN, oA (.iload_n 3) 56 3, oA (.iload 4) 58 4, oN, o0 .iastore 59, oA (.iload_n 2) 60 2, oA (.iload 4) 62 4, oN, oK (.bipush 6) 64 (6), oN],
  [oA (.if_icmp .ge 10) 67 74, oN, oN, oK (.iconst 1) 68 (1), oA (.iload 4) 70 4, oN, o0 .ishl 71, oA (.goto 4) 74 75, oN, oN, oK (.iconst 0) 75 (0), o0 .ior 76, oA (.istore_n 2) 77 2, oC (.iinc 3 1) 80 3 0 (1), oN, oN, oA (.goto (-76)) 83 4, oN, oN, o0 .return_ 84]]
def cd_Search_findWalked : List (List xop) := [[oK (.iconst 1) 1 (1), oA (.aload_n 1) 2 1, oF (.getfield 65) 5 5 2 0 308, oN, oN, o0 .ishl 6, oK (.iconst 1) 7 (1), o0 .isub 8, oA (.istore_n 2) 9 2, oK (.iconst 0) 10 (0), oA (.istore_n 3) 11 3, oA (.iload_n 3) 12 3, oA (.aload_n 1) 13 1, oF (.getfield 65) 16 5 2 0 308, oN, oN, oA (.if_icmp .ge 51) 19 67, oN, oN, oK (.iconst 0) 20 (0), oA (.istore 4) 22 4, oN, oA (.iload 4) 24 4, oN, oK (.iconst 1) 25 (1), oA (.iload_n 3) 26 3, o0 .ishl 27, oA (.if_icmp .ge 34) 30 61, oN, oN, oA (.aload_n 0) 31 0, oF (.getfield 21) 34 10 4 2 574],
  [oN, oN, oA (.iload 4) 36 4, oN, oK (.iconst 1) 37 (1), oA (.iload_n 3) 38 3, o0 .ishl 39, o0 .ior 40, oA (.aload_n 0) 41 0, oF (.getfield 21) 44 10 4 2 574, oN, oN, oA (.iload 4) 46 4, oN, o0 .iaload 47, oA (.aload_n 1) 48 1, oF (.getfield 68) 51 5 8 2 318, oN, oN, oA (.iload_n 3) 52 3, o0 .iaload 53, o0 .iadd 54, o0 .iastore 55, oC (.iinc 4 1) 58 4 0 (1), oN, oN, oA (.goto (-36)) 61 22, oN, oN, oC (.iinc 3 1) 64 3 0 (1), oN, oN],
  [oA (.goto (-53)) 67 11, oN, oN, oA (.aload_n 0) 68 0, oA (.aload_n 0) 69 0, oF (.getfield 21) 72 10 4 2 574, oN, oN, oA (.iload_n 2) 73 2, o0 .iaload 74, oF (.putfield 71) 77 10 6 0 577, oN, oN, oA (.iload_n 2) 78 2, oA (.istore_n 3) 79 3, oA (.iload_n 3) 80 3, oA (.ifCond .le 66) 83 146, oN, oN, oK (.iconst 0) 84 (0), oA (.istore 4) 86 4, oN, oA (.iload 4) 88 4, oN, oA (.aload_n 1) 89 1, oF (.getfield 65) 92 5 2 0 308, oN, oN, oA (.if_icmp .ge 48) 95 140, oN, oN, oA (.iload_n 3) 96 3],
  [oA (.iload 4) 98 4, oN, o0 .ishr 99, oK (.iconst 1) 100 (1), o0 .iand 101, oK (.iconst 1) 102 (1), oA (.if_icmp .ne 32) 105 134, oN, oN, oA (.aload_n 0) 106 0, oF (.getfield 18) 109 10 3 2 573, oN, oN, oA (.iload_n 3) 110 3, oK (.bipush 8) 112 (8), oN, o0 .imul 113, oA (.iload 4) 115 4, oN, o0 .iadd 116, oA (.iload_n 3) 117 3, oA (.iload_n 2) 118 2, oA (.if_icmp .ne 7) 121 125, oN, oN, oK (.iconst 0) 122 (0), oA (.goto 11) 125 133, oN, oN, oA (.aload_n 0) 126 0, oA (.aload_n 1) 127 1, oA (.iload_n 3) 128 3],
  [oA (.iload 4) 130 4, oN, (.invokevirtual 74, 133, 110, 3, 10, 0, 0, 0, 0, 0, [(0, 1360)]), oN, oN, o0 .iastore 134, oC (.iinc 4 1) 137 4 0 (1), oN, oN, oA (.goto (-51)) 140 86, oN, oN, oC (.iinc 3 (-1)) 143 3 0 (-1), oN, oN, oA (.goto (-64)) 146 79, oN, oN, oA (.aload_n 0) 147 0, oA (.iload_n 2) 148 2, oA (.ifCond .ne 7) 151 155, oN, oN, oK (.iconst 0) 152 (0), oA (.goto 10) 155 162, oN, oN, oA (.aload_n 0) 156 0, oA (.aload_n 1) 157 1, oK (.iconst 0) 158 (0), oK (.iconst (-1)) 159 (-1), (.invokevirtual 74, 162, 110, 3, 10, 0, 0, 0, 0, 0, [(0, 1360)])],
  [oN, oN, oF (.putfield 78) 165 10 7 0 579, oN, oN, o0 .return_ 166]]
def cd_Search_leastWalked : List (List xop) := [[oC (.ldc 81) 2 1364 0 (1000000), oN, oA (.istore 4) 4 4, oN, oK (.iconst 0) 5 (0), oA (.istore 5) 7 5, oN, oA (.iload 5) 9 5, oN, oA (.aload_n 1) 10 1, oF (.getfield 65) 13 5 2 0 308, oN, oN, oA (.if_icmp .ge 34) 16 47, oN, oN, oA (.iload_n 2) 17 2, oA (.iload 5) 19 5, oN, o0 .ishr 20, oK (.iconst 1) 21 (1), o0 .iand 22, oA (.ifCond .ne 19) 25 41, oN, oN, oA (.iload 4) 27 4, oN, oA (.aload_n 0) 28 0, oA (.aload_n 1) 29 1, oA (.iload_n 2) 30 2, oA (.iload_n 3) 31 3, oA (.iload 5) 33 5],
  [oN, (.invokevirtual 82, 36, 111, 4, 10, 0, 0, 0, 0, 0, [(0, 1365)]), oN, oN, (.invokestatic 85, 39, 1, 2, 0, 0, 0, 0, 0, 0, [(0, 1374)]), oN, oN, oA (.istore 4) 41 4, oN, oC (.iinc 5 1) 44 5 0 (1), oN, oN, oA (.goto (-37)) 47 7, oN, oN, oA (.iload 4) 49 4, oN, (.ireturn, 50, 0, 0, 0, 0, 0, 0, 0, 0, [])]]
def cd_Search_walkedBy : List (List xop) := [[oA (.aload_n 1) 1 1, oA (.iload_n 3) 2 3, oA (.iload 4) 4 4, oN, (.invokevirtual 88, 7, 37, 2, 5, 0, 0, 0, 0, 0, [(0, 1369)]), oN, oN, oA (.aload_n 0) 8 0, oF (.getfield 71) 11 10 6 0 577, oN, oN, oA (.aload_n 0) 12 0, oF (.getfield 21) 15 10 4 2 574, oN, oN, oA (.iload_n 2) 16 2, o0 .iaload 17, o0 .isub 18, o0 .imul 19, oA (.aload_n 0) 20 0, oF (.getfield 18) 23 10 3 2 573, oN, oN, oA (.iload_n 2) 24 2, oK (.iconst 1) 25 (1), oA (.iload 4) 27 4, oN, o0 .ishl 28, o0 .ior 29, oK (.bipush 8) 31 (8), oN, o0 .imul 32],
  [oA (.iload 4) 34 4, oN, o0 .iadd 35, o0 .iaload 36, o0 .iadd 37, (.ireturn, 38, 0, 0, 0, 0, 0, 0, 0, 0, [])]]
def cd_Search_findHides : List (List xop) := [[oK (.iconst 0) 1 (0), oA (.istore_n 2) 2 2, oK (.iconst (-1)) 3 (-1), oA (.istore_n 3) 4 3, oK (.iconst 0) 5 (0), oA (.istore 4) 7 4, oN, oA (.iload 4) 9 4, oN, oA (.aload_n 1) 10 1, oF (.getfield 65) 13 5 2 0 308, oN, oN, oA (.if_icmp .ge 86) 16 99, oN, oN, oA (.aload_n 0) 17 0, oA (.aload_n 1) 18 1, oA (.iload_n 2) 19 2, oA (.iload_n 3) 20 3, (.invokevirtual 74, 23, 110, 3, 10, 0, 0, 0, 0, 0, [(0, 1360)]), oN, oN, oA (.istore 5) 25 5, oN, oK (.iconst 0) 26 (0), oA (.istore 6) 28 6, oN, oA (.aload_n 1) 29 1, oF (.getfield 65) 32 5 2 0 308, oN, oN],
  [oK (.iconst 1) 33 (1), o0 .isub 34, oA (.istore 7) 36 7, oN, oA (.iload 7) 38 7, oN, oA (.ifCond .lt 36) 41 74, oN, oN, oA (.iload_n 2) 42 2, oA (.iload 7) 44 7, oN, o0 .ishr 45, oK (.iconst 1) 46 (1), o0 .iand 47, oA (.ifCond .ne 21) 50 68, oN, oN, oA (.aload_n 0) 51 0, oA (.aload_n 1) 52 1, oA (.iload_n 2) 53 2, oA (.iload_n 3) 54 3, oA (.iload 7) 56 7, oN, (.invokevirtual 82, 59, 111, 4, 10, 0, 0, 0, 0, 0, [(0, 1365)]), oN, oN, oA (.iload 5) 61 5, oN, oA (.if_icmp .ne 7) 64 68, oN, oN],
  [oA (.iload 7) 66 7, oN, oA (.istore 6) 68 6, oN, oC (.iinc 7 (-1)) 71 7 0 (-1), oN, oN, oA (.goto (-35)) 74 36, oN, oN, oA (.aload_n 0) 75 0, oF (.getfield 24) 78 10 5 2 575, oN, oN, oA (.iload 4) 80 4, oN, oA (.iload 6) 82 6, oN, o0 .iastore 83, oA (.iload_n 2) 84 2, oK (.iconst 1) 85 (1), oA (.iload 6) 87 6, oN, o0 .ishl 88, o0 .ior 89, oA (.istore_n 2) 90 2, oA (.iload 6) 92 6, oN, oA (.istore_n 3) 93 3, oC (.iinc 4 1) 96 4 0 (1), oN, oN],
  [oA (.goto (-89)) 99 7, oN, oN, o0 .return_ 100]]
def cd_Walk_init : List (List xop) := [[oA (.aload_n 0) 1 0, (.invokespecial 3, 4, 0, 0, 0, 9, 0, 0, 0, 0, [(0, 447)]), oN, oN, oA (.aload_n 0) 5 0, oK (.bipush 9) 7 (9), oN, oA (.newarray .int) 9 20, oN, oF (.putfield 9) 12 7 8 2 456, oN, oN, oA (.aload_n 0) 13 0, oK (.bipush 9) 15 (9), oN, oA (.newarray .int) 17 20, oN, oF (.putfield 15) 20 7 9 2 457, oN, oN, oA (.aload_n 0) 21 0, oK (.bipush 9) 23 (9), oN, oA (.newarray .int) 25 20, oN, oF (.putfield 18) 28 7 10 2 458, oN, oN, oA (.aload_n 0) 29 0, oK (.bipush 9) 31 (9), oN, oA (.newarray .int) 33 20],
  [oN, oF (.putfield 21) 36 7 11 2 459, oN, oN, o0 .return_ 37]]
def cd_Walk_begin : List (List xop) := [[oA (.aload_n 0) 1 0, oK (.iconst 0) 2 (0), oF (.putfield 24) 5 7 0 0 448, oN, oN, oA (.aload_n 0) 6 0, oK (.iconst (-1)) 7 (-1), oF (.putfield 28) 10 7 1 0 449, oN, oN, oA (.aload_n 0) 11 0, oA (.aload_n 1) 12 1, oF (.getfield 31) 15 2 2 0 189, oN, oN, oF (.putfield 36) 18 7 2 0 450, oN, oN, oA (.aload_n 0) 19 0, oK (.iconst 0) 20 (0), oF (.putfield 39) 23 7 3 0 451, oN, oN, oA (.aload_n 0) 24 0, oK (.iconst 0) 25 (0), oF (.putfield 42) 28 7 4 0 452, oN, oN, oA (.aload_n 0) 29 0, oK (.iconst 0) 30 (0), oF (.putfield 45) 33 7 5 0 453, oN],
  [oN, oA (.aload_n 0) 34 0, oK (.iconst 0) 35 (0), oF (.putfield 48) 38 7 6 0 454, oN, oN, oK (.iconst 0) 39 (0), oA (.istore_n 2) 40 2, oA (.iload_n 2) 41 2, oK (.bipush 9) 43 (9), oN, oA (.if_icmp .ge 41) 46 84, oN, oN, oA (.aload_n 0) 47 0, oF (.getfield 9) 50 7 8 2 456, oN, oN, oA (.iload_n 2) 51 2, oA (.aload_n 1) 52 1, oA (.iload_n 2) 53 2, (.invokevirtual 51, 56, 46, 1, 2, 0, 0, 0, 0, 0, [(0, 945)]), oN, oN, o0 .iastore 57, oA (.aload_n 0) 58 0, oF (.getfield 15) 61 7 9 2 457, oN, oN, oA (.iload_n 2) 62 2, oK (.iconst 0) 63 (0), o0 .iastore 64],
  [oA (.aload_n 0) 65 0, oF (.getfield 18) 68 7 10 2 458, oN, oN, oA (.iload_n 2) 69 2, oK (.iconst 0) 70 (0), o0 .iastore 71, oA (.aload_n 0) 72 0, oF (.getfield 21) 75 7 11 2 459, oN, oN, oA (.iload_n 2) 76 2, oK (.iconst 0) 77 (0), o0 .iastore 78, oC (.iinc 2 1) 81 2 0 (1), oN, oN, oA (.goto (-41)) 84 40, oN, oN, o0 .return_ 85]]
def cd_Walk_follow : List (List xop) := [[oK (.iconst 0) 1 (0), oA (.istore 4) 3 4, oN, oA (.iload 4) 5 4, oN, oA (.iload_n 3) 6 3, oA (.if_icmp .ge 43) 9 49, oN, oN, oA (.iload 4) 11 4, oN, oA (.aload_n 2) 12 2, oF (.getfield 55) 15 3 0 0 258, oN, oN, oA (.if_icmp .ge 34) 18 49, oN, oN, oA (.aload_n 0) 19 0, oA (.aload_n 1) 20 1, oA (.aload_n 2) 21 2, oF (.getfield 60) 24 3 1 2 262, oN, oN, oA (.iload 4) 26 4, oN, o0 .iaload 27, oA (.aload_n 2) 28 2, oF (.getfield 63) 31 3 2 2 264, oN, oN, oA (.iload 4) 33 4],
  [oN, o0 .iaload 34, (.invokevirtual 66, 37, 116, 3, 7, 0, 0, 0, 0, 0, [(0, 953)]), oN, oN, oA (.ifCond .ne 6) 40 43, oN, oN, oA (.iload 4) 42 4, oN, (.ireturn, 43, 0, 0, 0, 0, 0, 0, 0, 0, []), oC (.iinc 4 1) 46 4 0 (1), oN, oN, oA (.goto (-43)) 49 3, oN, oN, oA (.iload_n 3) 50 3, oA (.aload_n 2) 51 2, oF (.getfield 55) 54 3 0 0 258, oN, oN, (.invokestatic 70, 57, 1, 2, 0, 0, 0, 0, 0, 0, [(0, 990)]), oN, oN, (.ireturn, 58, 0, 0, 0, 0, 0, 0, 0, 0, [])]]
def cd_Walk_perform : List (List xop) := [[oA (.iload_n 2) 1 2, oS (.tableswitch 73 0 3 #[31, 54, 61, 67]) 32 74 [((0), 32), ((1), 55), ((2), 62), ((3), 68)], oN, oN, oN, oN, oN, oN, oN, oN, oN, oN, oN, oN, oN, oN, oN, oN, oN, oN, oN, oN, oN, oN, oN, oN, oN, oN, oN, oN, oN, oN],
  [oA (.aload_n 1) 33 1, oA (.iload_n 3) 34 3, (.invokevirtual 86, 37, 44, 1, 2, 0, 0, 0, 0, 0, [(0, 957)]), oN, oN, oA (.ifCond .eq 16) 40 53, oN, oN, oA (.aload_n 0) 41 0, oA (.aload_n 1) 42 1, oA (.iload_n 3) 43 3, (.invokevirtual 90, 46, 117, 2, 7, 0, 0, 0, 0, 0, [(0, 958)]), oN, oN, oA (.ifCond .eq 7) 49 53, oN, oN, oK (.iconst 1) 50 (1), oA (.goto 4) 53 54, oN, oN, oK (.iconst 0) 54 (0), (.ireturn, 55, 0, 0, 0, 1, 0, 0, 0, 0, []), oA (.aload_n 0) 56 0, oA (.aload_n 1) 57 1, oA (.iload_n 3) 58 3, (.invokevirtual 94, 61, 119, 2, 7, 0, 0, 0, 0, 0, [(0, 981)]), oN, oN, (.ireturn, 62, 0, 0, 0, 1, 0, 0, 0, 0, []), oA (.aload_n 0) 63 0, oA (.iload_n 3) 64 3],
  [(.invokevirtual 97, 67, 118, 1, 7, 0, 0, 0, 0, 0, [(0, 977)]), oN, oN, (.ireturn, 68, 0, 0, 0, 1, 0, 0, 0, 0, []), oA (.aload_n 0) 69 0, oA (.aload_n 1) 70 1, (.invokevirtual 100, 73, 121, 1, 7, 0, 0, 0, 0, 0, [(0, 991)]), oN, oN, (.ireturn, 74, 0, 0, 0, 1, 0, 0, 0, 0, []), oA (.aload_n 0) 75 0, oA (.aload_n 1) 76 1, oK (.iconst (-1)) 77 (-1), (.invokevirtual 90, 80, 117, 2, 7, 0, 0, 0, 0, 0, [(0, 958)]), oN, oN, (.ireturn, 81, 0, 0, 0, 1, 0, 0, 0, 0, [])]]
def cd_Walk_driveTo : List (List xop) := [[oA (.aload_n 0) 1 0, oA (.aload_n 1) 2 1, oA (.aload_n 0) 3 0, oF (.getfield 28) 6 7 1 0 449, oN, oN, oA (.iload_n 2) 7 2, (.invokevirtual 104, 10, 47, 2, 2, 0, 0, 0, 0, 0, [(0, 962)]), oN, oN, (.invokevirtual 97, 13, 118, 1, 7, 0, 0, 0, 0, 0, [(0, 977)]), oN, oN, oA (.ifCond .ne 5) 16 18, oN, oN, oK (.iconst 0) 17 (0), (.ireturn, 18, 0, 0, 0, 1, 0, 0, 0, 0, []), oA (.aload_n 0) 19 0, oA (.iload_n 2) 20 2, oF (.putfield 28) 23 7 1 0 449, oN, oN, oK (.iconst 1) 24 (1), (.ireturn, 25, 0, 0, 0, 1, 0, 0, 0, 0, [])]]
def cd_Walk_spend : List (List xop) := [[oA (.aload_n 0) 1 0, oF (.getfield 24) 4 7 0 0 448, oN, oN, oA (.iload_n 1) 5 1, o0 .iadd 6, oK (.sipush 300) 9 (300), oN, oN, oA (.if_icmp .le 5) 12 14, oN, oN, oK (.iconst 0) 13 (0), (.ireturn, 14, 0, 0, 0, 1, 0, 0, 0, 0, []), oA (.aload_n 0) 15 0, o0 .dup 16, oF (.getfield 24) 19 7 0 0 448, oN, oN, oA (.iload_n 1) 20 1, o0 .iadd 21, oF (.putfield 24) 24 7 0 0 448, oN, oN, oK (.iconst 1) 25 (1), (.ireturn, 26, 0, 0, 0, 1, 0, 0, 0, 0, [])]]
def cd_Walk_ladle : List (List xop) := [[oA (.aload_n 0) 1 0, oF (.getfield 24) 4 7 0 0 448, oN, oN, oA (.aload_n 1) 5 1, oF (.getfield 109) 8 2 4 0 196, oN, oN, oA (.if_icmp .ge 7) 11 15, oN, oN, oK (.iconst 1) 12 (1), oA (.goto 4) 15 16, oN, oN, oK (.iconst 0) 16 (0), oA (.istore_n 3) 17 3, oA (.aload_n 1) 18 1, oA (.aload_n 0) 19 0, oF (.getfield 28) 22 7 1 0 449, oN, oN, (.invokevirtual 86, 25, 44, 1, 2, 0, 0, 0, 0, 0, [(0, 957)]), oN, oN, oA (.ifCond .eq 36) 28 61, oN, oN, oA (.iload_n 2) 29 2, oA (.aload_n 0) 30 0, oF (.getfield 36) 33 7 2 0 450, oN],
  [oN, oA (.if_icmp .gt 28) 36 61, oN, oN, oA (.iload_n 2) 37 2, oA (.aload_n 0) 38 0, oF (.getfield 9) 41 7 8 2 456, oN, oN, oA (.aload_n 0) 42 0, oF (.getfield 28) 45 7 1 0 449, oN, oN, o0 .iaload 46, oA (.if_icmp .gt 15) 49 61, oN, oN, oA (.aload_n 0) 50 0, oA (.iload_n 2) 51 2, oK (.iconst 1) 52 (1), o0 .iadd 53, oK (.iconst 2) 54 (2), o0 .idiv 55, (.invokevirtual 97, 58, 118, 1, 7, 0, 0, 0, 0, 0, [(0, 977)]), oN, oN, oA (.ifCond .ne 5) 61 63, oN, oN, oK (.iconst 0) 62 (0), (.ireturn, 63, 0, 0, 0, 1, 0, 0, 0, 0, []), oA (.aload_n 0) 64 0],
  [oF (.getfield 9) 67 7 8 2 456, oN, oN, oA (.aload_n 0) 68 0, oF (.getfield 28) 71 7 1 0 449, oN, oN, o0 .iaload 72, oA (.aload_n 0) 73 0, oF (.getfield 15) 76 7 9 2 457, oN, oN, oA (.aload_n 0) 77 0, oF (.getfield 28) 80 7 1 0 449, oN, oN, o0 .iaload 81, o0 .isub 82, oA (.istore 4) 84 4, oN, oK (.iconst 0) 85 (0), oA (.iload_n 2) 86 2, oA (.iload 4) 88 4, oN, o0 .isub 89, (.invokestatic 112, 92, 2, 2, 0, 0, 0, 0, 0, 0, [(0, 985)]), oN, oN, oA (.istore 5) 94 5, oN, oA (.aload_n 0) 95 0, o0 .dup 96],
  [oF (.getfield 36) 99 7 2 0 450, oN, oN, oA (.iload_n 2) 100 2, o0 .isub 101, oF (.putfield 36) 104 7 2 0 450, oN, oN, oA (.aload_n 0) 105 0, o0 .dup 106, oF (.getfield 39) 109 7 3 0 451, oN, oN, oA (.iload_n 2) 110 2, o0 .iadd 111, oF (.putfield 39) 114 7 3 0 451, oN, oN, oA (.aload_n 0) 115 0, o0 .dup 116, oF (.getfield 42) 119 7 4 0 452, oN, oN, oA (.iload_n 3) 120 3, oA (.ifCond .eq 7) 123 127, oN, oN, oA (.iload_n 2) 124 2, oA (.goto 4) 127 128, oN, oN, oK (.iconst 0) 128 (0)],
  [o0 .iadd 129, oF (.putfield 42) 132 7 4 0 452, oN, oN, oA (.aload_n 0) 133 0, o0 .dup 134, oF (.getfield 48) 137 7 6 0 454, oN, oN, oA (.iload 5) 139 5, oN, o0 .iadd 140, oF (.putfield 48) 143 7 6 0 454, oN, oN, oA (.aload_n 0) 144 0, oF (.getfield 18) 147 7 10 2 458, oN, oN, oA (.aload_n 0) 148 0, oF (.getfield 28) 151 7 1 0 449, oN, oN, o0 .dup2 152, o0 .iaload 153, oA (.iload_n 2) 154 2, o0 .iadd 155, o0 .iastore 156, oA (.aload_n 0) 157 0, oF (.getfield 9) 160 7 8 2 456, oN, oN],
  [oA (.aload_n 0) 161 0, oF (.getfield 28) 164 7 1 0 449, oN, oN, o0 .dup2 165, o0 .iaload 166, oA (.iload_n 2) 167 2, o0 .isub 168, o0 .iastore 169, oA (.aload_n 0) 170 0, oF (.getfield 15) 173 7 9 2 457, oN, oN, oA (.aload_n 0) 174 0, oF (.getfield 28) 177 7 1 0 449, oN, oN, o0 .dup2 178, o0 .iaload 179, oA (.iload 5) 181 5, oN, o0 .isub 182, o0 .iastore 183, oA (.aload_n 0) 184 0, oA (.aload_n 1) 185 1, oA (.iload_n 2) 186 2, (.invokevirtual 115, 189, 120, 2, 7, 3, 0, 0, 0, 0, [(0, 986)]), oN, oN, oK (.iconst 1) 190 (1), (.ireturn, 191, 0, 0, 0, 1, 0, 0, 0, 0, [])]]
def cd_Walk_sendOn : List (List xop) := [[oA (.aload_n 1) 1 1, oF (.getfield 119) 4 2 13 2 218, oN, oN, oA (.aload_n 0) 5 0, oF (.getfield 28) 8 7 1 0 449, oN, oN, o0 .iaload 9, oA (.istore_n 3) 10 3, oA (.aload_n 1) 11 1, oA (.iload_n 3) 12 3, (.invokevirtual 86, 15, 44, 1, 2, 0, 0, 0, 0, 0, [(0, 957)]), oN, oN, oA (.ifCond .ne 4) 18 19, oN, oN, o0 .return_ 19, oA (.iload_n 2) 20 2, oA (.aload_n 1) 21 1, oF (.getfield 122) 24 2 12 2 216, oN, oN, oA (.aload_n 0) 25 0, oF (.getfield 28) 28 7 1 0 449, oN, oN, o0 .iaload 29, oA (.aload_n 0) 30 0, oF (.getfield 21) 33 7 11 2 459, oN],
  [oN, oA (.aload_n 0) 34 0, oF (.getfield 28) 37 7 1 0 449, oN, oN, o0 .iaload 38, o0 .isub 39, (.invokestatic 70, 42, 1, 2, 0, 0, 0, 0, 0, 0, [(0, 990)]), oN, oN, oA (.istore 4) 44 4, oN, oA (.aload_n 0) 45 0, oF (.getfield 21) 48 7 11 2 459, oN, oN, oA (.aload_n 0) 49 0, oF (.getfield 28) 52 7 1 0 449, oN, oN, o0 .dup2 53, o0 .iaload 54, oA (.iload 4) 56 4, oN, o0 .iadd 57, o0 .iastore 58, oA (.aload_n 0) 59 0, oF (.getfield 9) 62 7 8 2 456, oN, oN, oA (.iload_n 3) 63 3, o0 .dup2 64],
  [o0 .iaload 65, oA (.iload 4) 67 4, oN, o0 .iadd 68, o0 .iastore 69, oA (.aload_n 0) 70 0, oF (.getfield 15) 73 7 9 2 457, oN, oN, oA (.iload_n 3) 74 3, o0 .dup2 75, o0 .iaload 76, oA (.iload 4) 78 4, oN, o0 .iadd 79, o0 .iastore 80, o0 .return_ 81]]
def cd_Walk_talk : List (List xop) := [[oA (.aload_n 1) 1 1, oA (.aload_n 0) 2 0, oF (.getfield 28) 5 7 1 0 449, oN, oN, (.invokevirtual 86, 8, 44, 1, 2, 0, 0, 0, 0, 0, [(0, 957)]), oN, oN, oA (.ifCond .eq 14) 11 22, oN, oN, oA (.aload_n 0) 12 0, oA (.aload_n 1) 13 1, oF (.getfield 107) 16 2 5 0 199, oN, oN, (.invokevirtual 97, 19, 118, 1, 7, 0, 0, 0, 0, 0, [(0, 977)]), oN, oN, oA (.ifCond .ne 5) 22 24, oN, oN, oK (.iconst 0) 23 (0), (.ireturn, 24, 0, 0, 0, 1, 0, 0, 0, 0, []), oA (.aload_n 0) 25 0, o0 .dup 26, oF (.getfield 45) 29 7 5 0 453, oN, oN, oK (.iconst 1) 30 (1), o0 .iadd 31, oF (.putfield 45) 34 7 5 0 453],
  [oN, oN, oK (.iconst 1) 35 (1), (.ireturn, 36, 0, 0, 0, 1, 0, 0, 0, 0, [])]]
def cd_Walk_detail : List (List xop) := [[oA (.iload_n 2) 1 2, oS (.tableswitch 78 0 6 #[43, 48, 53, 58, 63, 68, 73]) 44 79 [((0), 44), ((1), 49), ((2), 54), ((3), 59), ((4), 64), ((5), 69), ((6), 74)], oN, oN, oN, oN, oN, oN, oN, oN, oN, oN, oN, oN, oN, oN, oN, oN, oN, oN, oN, oN, oN, oN, oN, oN, oN, oN, oN, oN, oN, oN],
  [oN, oN, oN, oN, oN, oN, oN, oN, oN, oN, oN, oN, oA (.aload_n 0) 45 0, oF (.getfield 24) 48 7 0 0 448, oN, oN, (.ireturn, 49, 0, 0, 0, 0, 0, 0, 0, 0, []), oA (.aload_n 0) 50 0, oF (.getfield 28) 53 7 1 0 449, oN, oN, (.ireturn, 54, 0, 0, 0, 0, 0, 0, 0, 0, []), oA (.aload_n 0) 55 0, oF (.getfield 36) 58 7 2 0 450, oN, oN, (.ireturn, 59, 0, 0, 0, 0, 0, 0, 0, 0, []), oA (.aload_n 0) 60 0, oF (.getfield 39) 63 7 3 0 451, oN, oN, (.ireturn, 64, 0, 0, 0, 0, 0, 0, 0, 0, [])],
  [oA (.aload_n 0) 65 0, oF (.getfield 42) 68 7 4 0 452, oN, oN, (.ireturn, 69, 0, 0, 0, 0, 0, 0, 0, 0, []), oA (.aload_n 0) 70 0, oF (.getfield 45) 73 7 5 0 453, oN, oN, (.ireturn, 74, 0, 0, 0, 0, 0, 0, 0, 0, []), oA (.aload_n 0) 75 0, oF (.getfield 48) 78 7 6 0 454, oN, oN, (.ireturn, 79, 0, 0, 0, 0, 0, 0, 0, 0, []), oA (.iload_n 2) 80 2, oK (.bipush 10) 82 (10), oN, oA (.if_icmp .lt 14) 85 96, oN, oN, oA (.aload_n 1) 86 1, oA (.iload_n 2) 87 2, oK (.bipush 10) 89 (10), oN, o0 .irem 90, (.invokevirtual 86, 93, 44, 1, 2, 0, 0, 0, 0, 0, [(0, 957)]), oN, oN, oA (.ifCond .ne 8) 96 101, oN, oN],
  [oK (.bipush (-2)) 98 (-2), oN, oA (.goto 15) 101 113, oN, oN, oA (.aload_n 0) 102 0, oA (.iload_n 2) 103 2, oK (.bipush 10) 105 (10), oN, o0 .idiv 106, oA (.iload_n 2) 107 2, oK (.bipush 10) 109 (10), oN, o0 .irem 110, (.invokevirtual 125, 113, 123, 2, 7, 0, 0, 0, 0, 0, [(0, 1003)]), oN, oN, (.ireturn, 114, 0, 0, 0, 0, 0, 0, 0, 0, [])]]
def cd_Walk_detailOfStop : List (List xop) := [[oA (.iload_n 1) 1 1, oS (.tableswitch 48 1 3 #[27, 34, 41]) 28 49 [((1), 28), ((2), 35), ((3), 42)], oN, oN, oN, oN, oN, oN, oN, oN, oN, oN, oN, oN, oN, oN, oN, oN, oN, oN, oN, oN, oN, oN, oN, oN, oN, oN, oA (.aload_n 0) 29 0, oF (.getfield 9) 32 7 8 2 456, oN, oN],
  [oA (.iload_n 2) 33 2, o0 .iaload 34, (.ireturn, 35, 0, 0, 0, 0, 0, 0, 0, 0, []), oA (.aload_n 0) 36 0, oF (.getfield 15) 39 7 9 2 457, oN, oN, oA (.iload_n 2) 40 2, o0 .iaload 41, (.ireturn, 42, 0, 0, 0, 0, 0, 0, 0, 0, []), oA (.aload_n 0) 43 0, oF (.getfield 18) 46 7 10 2 458, oN, oN, oA (.iload_n 2) 47 2, o0 .iaload 48, (.ireturn, 49, 0, 0, 0, 0, 0, 0, 0, 0, []), oK (.bipush (-2)) 51 (-2), oN, (.ireturn, 52, 0, 0, 0, 0, 0, 0, 0, 0, [])]]
def cd_Walk_draw : List (List xop) := [[oA (.aload_n 0) 1 0, oA (.iload_n 2) 2 2, oF (.putfield 76) 5 7 7 0 455, oN, oN, oK (.iconst 0) 6 (0), oA (.istore 4) 8 4, oN, oA (.iload 4) 10 4, oN, oA (.iload_n 3) 11 3, oA (.if_icmp .ge 92) 14 103, oN, oN, oA (.aload_n 0) 15 0, oK (.bipush 8) 17 (8), oN, (.invokevirtual 79, 20, 125, 1, 7, 0, 0, 0, 0, 0, [(0, 1015)]), oN, oN, oA (.istore 5) 22 5, oN, oA (.iload 5) 24 5, oN, oK (.iconst 3) 25 (3), oA (.if_icmp .ge 28) 28 53, oN, oN, oA (.aload_n 1) 29 1, oF (.getfield 82) 32 2 6 0 205, oN, oN],
  [oA (.ifCond .le 65) 35 97, oN, oN, oA (.aload_n 0) 36 0, oA (.aload_n 1) 37 1, oK (.iconst 0) 38 (0), oA (.aload_n 0) 39 0, oA (.aload_n 1) 40 1, oF (.getfield 82) 43 2 6 0 205, oN, oN, (.invokevirtual 79, 46, 125, 1, 7, 0, 0, 0, 0, 0, [(0, 1015)]), oN, oN, (.invokevirtual 66, 49, 116, 3, 7, 0, 0, 0, 0, 0, [(0, 953)]), oN, oN, o0 .pop 50, oA (.goto 47) 53 97, oN, oN, oA (.iload 5) 55 5, oN, oK (.bipush 6) 57 (6), oN, oA (.if_icmp .ge 21) 60 78, oN, oN, oA (.aload_n 0) 61 0, oA (.aload_n 1) 62 1, oK (.iconst 1) 63 (1), oK (.iconst 1) 64 (1)],
  [oA (.aload_n 0) 65 0, oK (.bipush 8) 67 (8), oN, (.invokevirtual 79, 70, 125, 1, 7, 0, 0, 0, 0, 0, [(0, 1015)]), oN, oN, o0 .iadd 71, (.invokevirtual 66, 74, 116, 3, 7, 0, 0, 0, 0, 0, [(0, 953)]), oN, oN, o0 .pop 75, oA (.goto 22) 78 97, oN, oN, oA (.aload_n 0) 79 0, oA (.aload_n 1) 80 1, oA (.iload 5) 82 5, oN, oK (.bipush 6) 84 (6), oN, oA (.if_icmp .ne 7) 87 91, oN, oN, oK (.iconst 3) 88 (3), oA (.goto 4) 91 92, oN, oN, oK (.iconst 4) 92 (4), oK (.iconst (-1)) 93 (-1), (.invokevirtual 66, 96, 116, 3, 7, 0, 0, 0, 0, 0, [(0, 953)]), oN, oN],
  [o0 .pop 97, oC (.iinc 4 1) 100 4 0 (1), oN, oN, oA (.goto (-92)) 103 8, oN, oN, o0 .return_ 104]]
def cd_Walk_below : List (List xop) := [[oA (.aload_n 0) 1 0, oA (.aload_n 0) 2 0, oF (.getfield 76) 5 7 7 0 455, oN, oN, oC (.ldc 85) 7 1019 0 (1103515245), oN, o0 .imul 8, oK (.sipush 12345) 11 (12345), oN, oN, o0 .iadd 12, oF (.putfield 76) 15 7 7 0 455, oN, oN, oA (.iload_n 1) 16 1, oA (.ifCond .gt 7) 19 23, oN, oN, oK (.iconst 0) 20 (0), oA (.goto 12) 23 32, oN, oN, oA (.aload_n 0) 24 0, oF (.getfield 76) 27 7 7 0 455, oN, oN, oK (.bipush 16) 29 (16), oN, o0 .iushr 30, oA (.iload_n 1) 31 1, o0 .irem 32],
  [(.ireturn, 33, 0, 0, 0, 0, 0, 0, 0, 0, [])]]
def cd_Reader_init : List (List xop) := [[oA (.aload_n 0) 1 0, (.invokespecial 3, 4, 0, 0, 0, 9, 0, 0, 0, 0, [(0, 381)]), oN, oN, oA (.aload_n 0) 5 0, oK (.iconst 4) 6 (4), oA (.newarray .int) 8 20, oN, oF (.putfield 9) 11 6 6 2 396, oN, oN, oA (.aload_n 0) 12 0, oM (.new 15) 15 2 14 382 0 0 0, oN, oN, o0 .dup 16, (.invokespecial 17, 19, 38, 0, 2, 3, 7, 63, 0, 0, [(1, 383)]), oN, oN, oF (.putfield 18) 22 6 11 2 403, oN, oN, oA (.aload_n 0) 23 0, oM (.new 22) 26 3 3 384 0 0 0, oN, oN, o0 .dup 27, (.invokespecial 24, 30, 24, 0, 3, 3, 2, 80, 0, 0, [(1, 385)]), oN, oN, oF (.putfield 25) 33 6 12 2 405, oN],
  [oN, oA (.aload_n 0) 34 0, oM (.new 29) 37 4 4 386 0 0 0, oN, oN, o0 .dup 38, (.invokespecial 31, 41, 55, 0, 4, 3, 3, 50, 0, 0, [(1, 387)]), oN, oN, oF (.putfield 32) 44 6 13 2 407, oN, oN, oA (.aload_n 0) 45 0, oM (.new 36) 48 5 9 388 0 0 0, oN, oN, o0 .dup 49, (.invokespecial 38, 52, 28, 0, 5, 3, 6, 46, 0, 0, [(1, 389)]), oN, oN, oF (.putfield 39) 55 6 14 2 409, oN, oN, oA (.aload_n 0) 56 0, oA (.aload_n 1) 57 1, oF (.putfield 43) 60 6 0 2 390, oN, oN, o0 .return_ 61]]
def cd_Reader_readText : List (List xop) := [[oA (.aload_n 0) 1 0, oA (.iload_n 2) 2 2, (.invokevirtual 47, 5, 128, 1, 6, 3, 0, 0, 0, 0, [(0, 650)]), oN, oN, oK (.iconst 0) 6 (0), oA (.istore_n 3) 7 3, oA (.iload_n 3) 8 3, oK (.sipush 600) 11 (600), oN, oN, oA (.if_icmp .gt 38) 14 49, oN, oN, oA (.aload_n 0) 15 0, oF (.getfield 51) 18 6 3 0 393, oN, oN, oA (.ifCond .eq 31) 21 49, oN, oN, oA (.aload_n 0) 22 0, oA (.iload_n 1) 23 1, (.invokevirtual 55, 26, 133, 1, 6, 0, 0, 0, 0, 0, [(0, 679)]), oN, oN, oA (.ifCond .ne 17) 29 43, oN, oN, oA (.aload_n 0) 30 0, oK (.iconst 1) 31 (1), oF (.putfield 59) 34 6 9 0 399],
  [oN, oN, oA (.aload_n 0) 35 0, oA (.aload_n 0) 36 0, oF (.getfield 62) 39 6 4 0 394, oN, oN, oF (.putfield 65) 42 6 10 0 401, oN, oN, o0 .return_ 43, oC (.iinc 3 1) 46 3 0 (1), oN, oN, oA (.goto (-39)) 49 7, oN, oN, oA (.aload_n 0) 50 0, oF (.getfield 68) 53 6 8 0 398, oN, oN, oA (.aload_n 0) 54 0, oF (.getfield 18) 57 6 11 2 403, oN, oN, oF (.getfield 71) 60 2 6 0 203, oN, oN, o0 .ishr 61, oA (.ifCond .eq 12) 64 73, oN, oN],
  [oA (.aload_n 0) 65 0, oK (.iconst 5) 66 (5), oA (.aload_n 0) 67 0, oF (.getfield 74) 70 6 1 0 391, oN, oN, (.invokevirtual 77, 73, 138, 2, 6, 3, 0, 0, 0, 0, [(0, 767)]), oN, oN, o0 .return_ 74]]
def cd_Reader_begin : List (List xop) := [[oA (.aload_n 0) 1 0, oA (.iload_n 1) 2 1, oA (.aload_n 0) 3 0, oF (.getfield 43) 6 6 0 2 390, oN, oN, o0 .arraylength 7, (.invokestatic 81, 10, 1, 2, 0, 0, 0, 0, 0, 0, [(0, 654)]), oN, oN, oF (.putfield 74) 13 6 1 0 391, oN, oN, oA (.aload_n 0) 14 0, oK (.iconst 0) 15 (0), oF (.putfield 87) 18 6 2 0 392, oN, oN, oA (.aload_n 0) 19 0, oK (.iconst 0) 20 (0), oF (.putfield 68) 23 6 8 0 398, oN, oN, oA (.aload_n 0) 24 0, oK (.iconst 0) 25 (0), oF (.putfield 59) 28 6 9 0 399, oN, oN, oA (.aload_n 0) 29 0, oK (.iconst (-1)) 30 (-1), oF (.putfield 65) 33 6 10 0 401, oN],
  [oN, oA (.aload_n 0) 34 0, oF (.getfield 18) 37 6 11 2 403, oN, oN, (.invokevirtual 90, 40, 39, 0, 2, 3, 0, 0, 0, 0, [(0, 657)]), oN, oN, oA (.aload_n 0) 41 0, oF (.getfield 25) 44 6 12 2 405, oN, oN, oK (.iconst 0) 45 (0), oF (.putfield 93) 48 3 0 0 259, oN, oN, oA (.aload_n 0) 49 0, oF (.getfield 32) 52 6 13 2 407, oN, oN, oK (.iconst 0) 53 (0), oF (.putfield 96) 56 4 0 0 280, oN, oN, oA (.aload_n 0) 57 0, oF (.getfield 39) 60 6 14 2 409, oN, oN, (.invokevirtual 99, 63, 29, 0, 5, 3, 0, 0, 0, 0, [(0, 661)]), oN, oN, oA (.aload_n 0) 64 0],
  [(.invokevirtual 100, 67, 129, 0, 6, 3, 0, 0, 0, 0, [(0, 665)]), oN, oN, o0 .return_ 68]]
def cd_Reader_advance : List (List xop) := [[oA (.aload_n 0) 1 0, oA (.aload_n 0) 2 0, oF (.getfield 87) 5 6 2 0 392, oN, oN, oF (.putfield 62) 8 6 4 0 394, oN, oN, oA (.aload_n 0) 9 0, oF (.getfield 62) 12 6 4 0 394, oN, oN, oA (.aload_n 0) 13 0, oF (.getfield 74) 16 6 1 0 391, oN, oN, oA (.if_icmp .ge 44) 19 60, oN, oN, oA (.aload_n 0) 20 0, oF (.getfield 43) 23 6 0 2 390, oN, oN, oA (.aload_n 0) 24 0, oF (.getfield 62) 27 6 4 0 394, oN, oN, oA (.baload) 28 21, oK (.bipush 32) 30 (32), oN, oA (.if_icmp .eq 17) 33 47, oN],
  [oN, oA (.aload_n 0) 34 0, oF (.getfield 43) 37 6 0 2 390, oN, oN, oA (.aload_n 0) 38 0, oF (.getfield 62) 41 6 4 0 394, oN, oN, oA (.baload) 42 21, oK (.bipush 10) 44 (10), oN, oA (.if_icmp .ne 16) 47 60, oN, oN, oA (.aload_n 0) 48 0, o0 .dup 49, oF (.getfield 62) 52 6 4 0 394, oN, oN, oK (.iconst 1) 53 (1), o0 .iadd 54, oF (.putfield 62) 57 6 4 0 394, oN, oN, oA (.goto (-49)) 60 8, oN, oN, oA (.aload_n 0) 61 0, oA (.aload_n 0) 62 0, oF (.getfield 62) 65 6 4 0 394, oN],
  [oN, oF (.putfield 87) 68 6 2 0 392, oN, oN, oA (.aload_n 0) 69 0, oF (.getfield 87) 72 6 2 0 392, oN, oN, oA (.aload_n 0) 73 0, oF (.getfield 74) 76 6 1 0 391, oN, oN, oA (.if_icmp .lt 11) 79 87, oN, oN, oA (.aload_n 0) 80 0, oK (.iconst 0) 81 (0), oF (.putfield 51) 84 6 3 0 393, oN, oN, oA (.goto 117) 87 201, oN, oN, oA (.aload_n 0) 88 0, oF (.getfield 43) 91 6 0 2 390, oN, oN, oA (.aload_n 0) 92 0, oF (.getfield 87) 95 6 2 0 392, oN, oN, oA (.baload) 96 21],
  [(.invokestatic 255, 99, 130, 1, 0, 0, 0, 0, 0, 0, [(0, 669)]), oN, oN, oA (.ifCond .eq 47) 102 146, oN, oN, oA (.aload_n 0) 103 0, oK (.iconst 1) 104 (1), oF (.putfield 51) 107 6 3 0 393, oN, oN, oA (.aload_n 0) 108 0, oF (.getfield 87) 111 6 2 0 392, oN, oN, oA (.aload_n 0) 112 0, oF (.getfield 74) 115 6 1 0 391, oN, oN, oA (.if_icmp .ge 86) 118 201, oN, oN, oA (.aload_n 0) 119 0, oF (.getfield 43) 122 6 0 2 390, oN, oN, oA (.aload_n 0) 123 0, oF (.getfield 87) 126 6 2 0 392, oN, oN, oA (.baload) 127 21, (.invokestatic 255, 130, 130, 1, 0, 0, 0, 0, 0, 0, [(0, 669)])],
  [oN, oN, oA (.ifCond .eq 71) 133 201, oN, oN, oA (.aload_n 0) 134 0, o0 .dup 135, oF (.getfield 87) 138 6 2 0 392, oN, oN, oK (.iconst 1) 139 (1), o0 .iadd 140, oF (.putfield 87) 143 6 2 0 392, oN, oN, oA (.goto (-36)) 146 107, oN, oN, oA (.aload_n 0) 147 0, oF (.getfield 43) 150 6 0 2 390, oN, oN, oA (.aload_n 0) 151 0, oF (.getfield 87) 154 6 2 0 392, oN, oN, oA (.baload) 155 21, (.invokestatic 259, 158, 131, 1, 0, 0, 0, 0, 0, 0, [(0, 672)]), oN, oN, oA (.ifCond .eq 10) 161 168, oN],
  [oN, oA (.aload_n 0) 162 0, (.invokevirtual 262, 165, 132, 0, 6, 3, 0, 0, 0, 0, [(0, 675)]), oN, oN, oA (.goto 36) 168 201, oN, oN, oA (.aload_n 0) 169 0, oA (.aload_n 0) 170 0, oF (.getfield 43) 173 6 0 2 390, oN, oN, oA (.aload_n 0) 174 0, oF (.getfield 87) 177 6 2 0 392, oN, oN, oA (.baload) 178 21, oK (.bipush 59) 180 (59), oN, oA (.if_icmp .ne 7) 183 187, oN, oN, oK (.iconst 3) 184 (3), oA (.goto 4) 187 188, oN, oN, oK (.iconst 4) 188 (4), oF (.putfield 51) 191 6 3 0 393, oN, oN, oA (.aload_n 0) 192 0],
  [o0 .dup 193, oF (.getfield 87) 196 6 2 0 392, oN, oN, oK (.iconst 1) 197 (1), o0 .iadd 198, oF (.putfield 87) 201 6 2 0 392, oN, oN, o0 .return_ 202]]
def cd_Reader_isLetter : List (List xop) := [[oA (.iload_n 0) 1 0, oK (.bipush 97) 3 (97), oN, oA (.if_icmp .lt 13) 6 16, oN, oN, oA (.iload_n 0) 7 0, oK (.bipush 122) 9 (122), oN, oA (.if_icmp .gt 7) 12 16, oN, oN, oK (.iconst 1) 13 (1), oA (.goto 4) 16 17, oN, oN, oK (.iconst 0) 17 (0), (.ireturn, 18, 0, 0, 0, 1, 0, 0, 0, 0, [])]]
def cd_Reader_isDigit : List (List xop) := [[oA (.iload_n 0) 1 0, oK (.bipush 48) 3 (48), oN, oA (.if_icmp .lt 13) 6 16, oN, oN, oA (.iload_n 0) 7 0, oK (.bipush 57) 9 (57), oN, oA (.if_icmp .gt 7) 12 16, oN, oN, oK (.iconst 1) 13 (1), oA (.goto 4) 16 17, oN, oN, oK (.iconst 0) 17 (0), (.ireturn, 18, 0, 0, 0, 1, 0, 0, 0, 0, [])]]
def cd_Reader_readDigits : List (List xop) := [[oA (.aload_n 0) 1 0, oK (.iconst 0) 2 (0), oF (.putfield 152) 5 6 5 0 395, oN, oN, oA (.aload_n 0) 6 0, oF (.getfield 87) 9 6 2 0 392, oN, oN, oA (.aload_n 0) 10 0, oF (.getfield 74) 13 6 1 0 391, oN, oN, oA (.if_icmp .ge 55) 16 68, oN, oN, oA (.aload_n 0) 17 0, oF (.getfield 43) 20 6 0 2 390, oN, oN, oA (.aload_n 0) 21 0, oF (.getfield 87) 24 6 2 0 392, oN, oN, oA (.baload) 25 21, (.invokestatic 259, 28, 131, 1, 0, 0, 0, 0, 0, 0, [(0, 672)]), oN, oN, oA (.ifCond .eq 40) 31 68, oN, oN, oA (.aload_n 0) 32 0],
  [oA (.aload_n 0) 33 0, oF (.getfield 152) 36 6 5 0 395, oN, oN, oK (.bipush 10) 38 (10), oN, o0 .imul 39, oA (.aload_n 0) 40 0, oF (.getfield 43) 43 6 0 2 390, oN, oN, oA (.aload_n 0) 44 0, oF (.getfield 87) 47 6 2 0 392, oN, oN, oA (.baload) 48 21, o0 .iadd 49, oK (.bipush 48) 51 (48), oN, o0 .isub 52, oF (.putfield 152) 55 6 5 0 395, oN, oN, oA (.aload_n 0) 56 0, o0 .dup 57, oF (.getfield 87) 60 6 2 0 392, oN, oN, oK (.iconst 1) 61 (1), o0 .iadd 62, oF (.putfield 87) 65 6 2 0 392, oN],
  [oN, oA (.goto (-60)) 68 5, oN, oN, oA (.aload_n 0) 69 0, oA (.aload_n 0) 70 0, oF (.getfield 87) 73 6 2 0 392, oN, oN, oA (.aload_n 0) 74 0, oF (.getfield 62) 77 6 4 0 394, oN, oN, o0 .isub 78, oK (.iconst 2) 79 (2), oA (.if_icmp .le 7) 82 86, oN, oN, oK (.iconst 4) 83 (4), oA (.goto 4) 86 87, oN, oN, oK (.iconst 2) 87 (2), oF (.putfield 51) 90 6 3 0 393, oN, oN, o0 .return_ 91]]
def cd_Reader_readLine : List (List xop) := [[oA (.aload_n 0) 1 0, oA (.iload_n 1) 2 1, (.invokevirtual 103, 5, 134, 1, 6, 0, 0, 0, 0, 0, [(0, 683)]), oN, oN, oA (.istore_n 2) 6 2, oA (.iload_n 2) 7 2, oA (.ifCond .ge 5) 10 12, oN, oN, oK (.iconst 0) 11 (0), (.ireturn, 12, 0, 0, 0, 1, 0, 0, 0, 0, []), oA (.aload_n 0) 13 0, oA (.iload_n 2) 14 2, (.invokevirtual 107, 17, 137, 1, 6, 3, 0, 0, 0, 0, [(0, 763)]), oN, oN, oA (.aload_n 0) 18 0, (.invokevirtual 100, 21, 129, 0, 6, 3, 0, 0, 0, 0, [(0, 665)]), oN, oN, oA (.iload_n 2) 22 2, oK (.bipush 16) 24 (16), oN, oA (.if_icmp .ne 12) 27 36, oN, oN, oA (.aload_n 0) 28 0, (.invokevirtual 110, 31, 139, 0, 6, 0, 0, 0, 0, 0, [(0, 771)]), oN, oN, oA (.ifCond .ne 5) 34 36],
  [oN, oN, oK (.iconst 0) 35 (0), (.ireturn, 36, 0, 0, 0, 1, 0, 0, 0, 0, []), oA (.aload_n 0) 37 0, oA (.iload_n 2) 38 2, (.invokevirtual 114, 41, 140, 1, 6, 0, 0, 0, 0, 0, [(0, 778)]), oN, oN, oA (.ifCond .eq 11) 44 52, oN, oN, oA (.aload_n 0) 45 0, oF (.getfield 51) 48 6 3 0 393, oN, oN, oK (.iconst 3) 49 (3), oA (.if_icmp .eq 5) 52 54, oN, oN, oK (.iconst 0) 53 (0), (.ireturn, 54, 0, 0, 0, 1, 0, 0, 0, 0, []), oA (.aload_n 0) 55 0, (.invokevirtual 100, 58, 129, 0, 6, 3, 0, 0, 0, 0, [(0, 665)]), oN, oN, oA (.aload_n 0) 59 0, oA (.iload_n 2) 60 2, (.invokevirtual 117, 63, 142, 1, 6, 3, 0, 0, 0, 0, [(0, 792)]), oN, oN, oK (.iconst 1) 64 (1)],
  [(.ireturn, 65, 0, 0, 0, 1, 0, 0, 0, 0, [])]]
def cd_Reader_codeOf : List (List xop) := [[oA (.aload_n 0) 1 0, oF (.getfield 51) 4 6 3 0 393, oN, oN, oK (.iconst 1) 5 (1), oA (.if_icmp .ne 12) 8 17, oN, oN, oA (.iload_n 1) 9 1, oA (.ifCond .lt 8) 12 17, oN, oN, oA (.iload_n 1) 13 1, oK (.iconst 4) 14 (4), oA (.if_icmp .lt 5) 17 19, oN, oN, oK (.iconst (-1)) 18 (-1), (.ireturn, 19, 0, 0, 0, 0, 0, 0, 0, 0, []), oF (.getstatic 120) 22 1 687 0 1, oN, oN, oA (.iload_n 1) 23 1, o0 .iaload 24, oA (.istore_n 2) 25 2, oA (.iload_n 2) 26 2, oF (.getstatic 120) 29 1 687 0 1, oN, oN, oA (.iload_n 1) 30 1, oK (.iconst 1) 31 (1), o0 .iadd 32],
  [o0 .iaload 33, oA (.if_icmp .ge 22) 36 55, oN, oN, oA (.aload_n 0) 37 0, oA (.iload_n 2) 38 2, (.invokestatic 123, 41, 135, 1, 0, 2, 0, 0, 0, 0, [(0, 689)]), oN, oN, (.invokevirtual 127, 44, 136, 1, 6, 0, 0, 0, 0, 0, [(0, 711)]), oN, oN, oA (.ifCond .eq 5) 47 49, oN, oN, oA (.iload_n 2) 48 2, (.ireturn, 49, 0, 0, 0, 0, 0, 0, 0, 0, []), oC (.iinc 2 1) 52 2 0 (1), oN, oN, oA (.goto (-27)) 55 25, oN, oN, oK (.iconst (-1)) 56 (-1), (.ireturn, 57, 0, 0, 0, 0, 0, 0, 0, 0, [])]]
def cd_Reader_wordOf : List (List xop) := [[oA (.iload_n 0) 1 0, oS (.tableswitch 145 0 18 #[91, 94, 97, 100, 103, 106, 109, 112, 115, 118, 121, 124, 127, 118, 130, 133, 136, 139, 142]) 92 146 [((0), 92), ((1), 95), ((2), 98), ((3), 101), ((4), 104), ((5), 107), ((6), 110), ((7), 113), ((8), 116), ((9), 119), ((10), 122), ((11), 125), ((12), 128), ((13), 119), ((14), 131), ((15), 134), ((16), 137), ((17), 140), ((18), 143)], oN, oN, oN, oN, oN, oN, oN, oN, oN, oN, oN, oN, oN, oN, oN, oN, oN, oN, oN, oN, oN, oN, oN, oN, oN, oN, oN, oN, oN, oN],
  [oN, oN, oN, oN, oN, oN, oN, oN, oN, oN, oN, oN, oN, oN, oN, oN, oN, oN, oN, oN, oN, oN, oN, oN, oN, oN, oN, oN, oN, oN, oN, oN],
  [oN, oN, oN, oN, oN, oN, oN, oN, oN, oN, oN, oN, oN, oN, oN, oN, oN, oN, oN, oN, oN, oN, oN, oN, oN, oN, oN, oN, oF (.ldc 212) 94 0 11 0 1, oN, o0 .areturn 95, oF (.ldc 214) 97 0 12 0 1],
  [oN, o0 .areturn 98, oF (.ldc 216) 100 0 13 0 1, oN, o0 .areturn 101, oF (.ldc 218) 103 0 14 0 1, oN, o0 .areturn 104, oF (.ldc 220) 106 0 15 0 1, oN, o0 .areturn 107, oF (.ldc 222) 109 0 16 0 1, oN, o0 .areturn 110, oF (.ldc 224) 112 0 17 0 1, oN, o0 .areturn 113, oF (.ldc 225) 115 0 18 0 1, oN, o0 .areturn 116, oF (.ldc 226) 118 0 19 0 1, oN, o0 .areturn 119, oF (.ldc 227) 121 0 20 0 1, oN, o0 .areturn 122, oF (.ldc 228) 124 0 21 0 1, oN, o0 .areturn 125, oF (.ldc 230) 127 0 22 0 1, oN, o0 .areturn 128],
  [oF (.ldc 232) 130 0 23 0 1, oN, o0 .areturn 131, oF (.ldc 234) 133 0 24 0 1, oN, o0 .areturn 134, oF (.ldc 236) 136 0 25 0 1, oN, o0 .areturn 137, oF (.ldc 238) 139 0 26 0 1, oN, o0 .areturn 140, oF (.ldc 240) 142 0 27 0 1, oN, o0 .areturn 143, oF (.ldc 242) 145 0 28 0 1, oN, o0 .areturn 146, oF (.ldc 244) 148 0 29 0 1, oN, o0 .areturn 149]]
def cd_Reader_isWord : List (List xop) := [[oA (.aload_n 0) 1 0, oF (.getfield 51) 4 6 3 0 393, oN, oN, oK (.iconst 1) 5 (1), oA (.if_icmp .ne 19) 8 24, oN, oN, oA (.aload_n 0) 9 0, oF (.getfield 87) 12 6 2 0 392, oN, oN, oA (.aload_n 0) 13 0, oF (.getfield 62) 16 6 4 0 394, oN, oN, o0 .isub 17, oA (.aload_n 1) 18 1, (.invokevirtual 246, 21, 13, 0, 30, 0, 0, 0, 0, 0, [(0, 715)]), oN, oN, oA (.if_icmp .eq 5) 24 26, oN, oN, oK (.iconst 0) 25 (0), (.ireturn, 26, 0, 0, 0, 1, 0, 0, 0, 0, []), oK (.iconst 0) 27 (0), oA (.istore_n 2) 28 2, oA (.iload_n 2) 29 2, oA (.aload_n 1) 30 1, (.invokevirtual 246, 33, 13, 0, 30, 0, 0, 0, 0, 0, [(0, 715)]), oN],
  [oN, oA (.if_icmp .ge 30) 36 63, oN, oN, oA (.aload_n 0) 37 0, oF (.getfield 43) 40 6 0 2 390, oN, oN, oA (.aload_n 0) 41 0, oF (.getfield 62) 44 6 4 0 394, oN, oN, oA (.iload_n 2) 45 2, o0 .iadd 46, oA (.baload) 47 21, oA (.aload_n 1) 48 1, oA (.iload_n 2) 49 2, (.invokevirtual 251, 52, 15, 1, 30, 0, 0, 0, 0, 0, [(0, 725)]), oN, oN, oA (.if_icmp .eq 5) 55 57, oN, oN, oK (.iconst 0) 56 (0), (.ireturn, 57, 0, 0, 0, 1, 0, 0, 0, 0, []), oC (.iinc 2 1) 60 2 0 (1), oN, oN, oA (.goto (-32)) 63 28, oN, oN, oK (.iconst 1) 64 (1)],
  [(.ireturn, 65, 0, 0, 0, 1, 0, 0, 0, 0, [])]]
def cd_Reader_checkRoom : List (List xop) := [[oA (.iload_n 1) 1 1, oK (.iconst 4) 2 (4), oA (.if_icmp .ge 15) 5 17, oN, oN, oA (.aload_n 0) 6 0, oF (.getfield 18) 9 6 11 2 403, oN, oN, oF (.getfield 71) 12 2 6 0 203, oN, oN, oK (.bipush 9) 14 (9), oN, oA (.if_icmp .ge 99) 17 113, oN, oN, oA (.iload_n 1) 18 1, oK (.bipush 10) 20 (10), oN, oA (.if_icmp .lt 21) 23 41, oN, oN, oA (.iload_n 1) 24 1, oK (.bipush 15) 26 (15), oN, oA (.if_icmp .ge 15) 29 41, oN, oN, oA (.aload_n 0) 30 0, oF (.getfield 25) 33 6 12 2 405, oN],
  [oN, oF (.getfield 93) 36 3 0 0 259, oN, oN, oK (.bipush 40) 38 (40), oN, oA (.if_icmp .ge 75) 41 113, oN, oN, oA (.iload_n 1) 42 1, oK (.bipush 15) 44 (15), oN, oA (.if_icmp .ne 15) 47 59, oN, oN, oA (.aload_n 0) 48 0, oF (.getfield 32) 51 6 13 2 407, oN, oN, oF (.getfield 96) 54 4 0 0 280, oN, oN, oK (.bipush 10) 56 (10), oN, oA (.if_icmp .ge 57) 59 113, oN, oN, oA (.iload_n 1) 60 1, oK (.bipush 17) 62 (17), oN, oA (.if_icmp .ne 15) 65 77, oN],
  [oN, oA (.aload_n 0) 66 0, oF (.getfield 39) 69 6 14 2 409, oN, oN, oF (.getfield 131) 72 5 0 0 302, oN, oN, oK (.bipush 6) 74 (6), oN, oA (.if_icmp .ge 39) 77 113, oN, oN, oA (.iload_n 1) 78 1, oK (.bipush 18) 80 (18), oN, oA (.if_icmp .ne 15) 83 95, oN, oN, oA (.aload_n 0) 84 0, oF (.getfield 39) 87 6 14 2 409, oN, oN, oF (.getfield 134) 90 5 1 0 305, oN, oN, oK (.bipush 8) 92 (8), oN, oA (.if_icmp .ge 21) 95 113, oN, oN, oA (.iload_n 1) 96 1],
  [oK (.bipush 19) 98 (19), oN, oA (.if_icmp .ne 24) 101 122, oN, oN, oA (.aload_n 0) 102 0, oF (.getfield 39) 105 6 14 2 409, oN, oN, oF (.getfield 137) 108 5 2 0 309, oN, oN, oK (.bipush 8) 110 (8), oN, oA (.if_icmp .lt 12) 113 122, oN, oN, oA (.aload_n 0) 114 0, oK (.iconst 3) 115 (3), oA (.aload_n 0) 116 0, oF (.getfield 62) 119 6 4 0 394, oN, oN, (.invokevirtual 77, 122, 138, 2, 6, 3, 0, 0, 0, 0, [(0, 767)]), oN, oN, oA (.iload_n 1) 123 1, oK (.bipush 16) 125 (16), oN, oA (.if_icmp .ne 22) 128 147, oN, oN],
  [oA (.aload_n 0) 129 0, oF (.getfield 32) 132 6 13 2 407, oN, oN, oF (.getfield 96) 135 4 0 0 280, oN, oN, oA (.ifCond .ne 12) 138 147, oN, oN, oA (.aload_n 0) 139 0, oK (.iconst 4) 140 (4), oA (.aload_n 0) 141 0, oF (.getfield 62) 144 6 4 0 394, oN, oN, (.invokevirtual 77, 147, 138, 2, 6, 3, 0, 0, 0, 0, [(0, 767)]), oN, oN, o0 .return_ 148]]
def cd_Reader_noteFault : List (List xop) := [[oA (.aload_n 0) 1 0, oF (.getfield 59) 4 6 9 0 399, oN, oN, oA (.ifCond .ne 13) 7 17, oN, oN, oA (.aload_n 0) 8 0, oA (.iload_n 1) 9 1, oF (.putfield 59) 12 6 9 0 399, oN, oN, oA (.aload_n 0) 13 0, oA (.iload_n 2) 14 2, oF (.putfield 65) 17 6 10 0 401, oN, oN, o0 .return_ 18]]
def cd_Reader_readThing : List (List xop) := [[oA (.aload_n 0) 1 0, oF (.ldc 140) 3 0 8 0 1, oN, (.invokevirtual 127, 6, 136, 1, 6, 0, 0, 0, 0, 0, [(0, 711)]), oN, oN, oA (.ifCond .eq 11) 9 17, oN, oN, oA (.aload_n 0) 10 0, oK (.iconst 0) 11 (0), oF (.putfield 142) 14 6 7 0 397, oN, oN, oA (.goto 39) 17 53, oN, oN, oA (.aload_n 0) 18 0, oF (.ldc 145) 20 0 9 0 1, oN, (.invokevirtual 127, 23, 136, 1, 6, 0, 0, 0, 0, 0, [(0, 711)]), oN, oN, oA (.ifCond .eq 11) 26 34, oN, oN, oA (.aload_n 0) 27 0, oK (.iconst 1) 28 (1), oF (.putfield 142) 31 6 7 0 397, oN, oN, oA (.goto 22) 34 53],
  [oN, oN, oA (.aload_n 0) 35 0, oF (.ldc 147) 37 0 10 0 1, oN, (.invokevirtual 127, 40, 136, 1, 6, 0, 0, 0, 0, 0, [(0, 711)]), oN, oN, oA (.ifCond .eq 11) 43 51, oN, oN, oA (.aload_n 0) 44 0, oK (.iconst 2) 45 (2), oF (.putfield 142) 48 6 7 0 397, oN, oN, oA (.goto 5) 51 53, oN, oN, oK (.iconst 0) 52 (0), (.ireturn, 53, 0, 0, 0, 1, 0, 0, 0, 0, []), oA (.aload_n 0) 54 0, (.invokevirtual 100, 57, 129, 0, 6, 3, 0, 0, 0, 0, [(0, 665)]), oN, oN, oK (.iconst 1) 58 (1), (.ireturn, 59, 0, 0, 0, 1, 0, 0, 0, 0, [])]]
def cd_Reader_readNumbers : List (List xop) := [[oA (.aload_n 0) 1 0, oF (.getfield 9) 4 6 6 2 396, oN, oN, oK (.iconst 0) 5 (0), oK (.iconst (-1)) 6 (-1), o0 .iastore 7, oK (.iconst 0) 8 (0), oA (.istore_n 2) 9 2, oA (.iload_n 2) 10 2, oF (.getstatic 149) 13 2 782 0 1, oN, oN, oA (.iload_n 1) 14 1, o0 .iaload 15, oA (.if_icmp .ge 51) 18 66, oN, oN, oA (.aload_n 0) 19 0, oF (.getfield 51) 22 6 3 0 393, oN, oN, oK (.iconst 2) 23 (2), oA (.if_icmp .eq 5) 26 28, oN, oN, oK (.iconst 0) 27 (0), (.ireturn, 28, 0, 0, 0, 1, 0, 0, 0, 0, []), oA (.aload_n 0) 29 0, oF (.getfield 9) 32 6 6 2 396, oN, oN],
  [oA (.iload_n 2) 33 2, oA (.aload_n 0) 34 0, oF (.getfield 152) 37 6 5 0 395, oN, oN, o0 .iastore 38, oA (.aload_n 0) 39 0, oA (.iload_n 1) 40 1, oA (.iload_n 2) 41 2, (.invokevirtual 155, 44, 141, 2, 6, 0, 0, 0, 0, 0, [(0, 784)]), oN, oN, oA (.ifCond .ne 12) 47 56, oN, oN, oA (.aload_n 0) 48 0, oK (.iconst 2) 49 (2), oA (.aload_n 0) 50 0, oF (.getfield 62) 53 6 4 0 394, oN, oN, (.invokevirtual 77, 56, 138, 2, 6, 3, 0, 0, 0, 0, [(0, 767)]), oN, oN, oA (.aload_n 0) 57 0, (.invokevirtual 100, 60, 129, 0, 6, 3, 0, 0, 0, 0, [(0, 665)]), oN, oN, oC (.iinc 2 1) 63 2 0 (1), oN, oN, oA (.goto (-54)) 66 9],
  [oN, oN, oK (.iconst 1) 67 (1), (.ireturn, 68, 0, 0, 0, 1, 0, 0, 0, 0, [])]]
def cd_Reader_canBe : List (List xop) := [[oA (.aload_n 0) 1 0, oF (.getfield 152) 4 6 5 0 395, oN, oN, oF (.getstatic 159) 7 3 788 0 1, oN, oN, oA (.iload_n 1) 8 1, oK (.iconst 4) 9 (4), o0 .imul 10, oA (.iload_n 2) 11 2, o0 .iadd 12, o0 .iaload 13, oA (.if_icmp .lt 19) 16 32, oN, oN, oA (.aload_n 0) 17 0, oF (.getfield 152) 20 6 5 0 395, oN, oN, oF (.getstatic 162) 23 4 790 0 1, oN, oN, oA (.iload_n 1) 24 1, oK (.iconst 4) 25 (4), o0 .imul 26, oA (.iload_n 2) 27 2, o0 .iadd 28, o0 .iaload 29, oA (.if_icmp .le 5) 32 34, oN, oN],
  [oK (.iconst 0) 33 (0), (.ireturn, 34, 0, 0, 0, 1, 0, 0, 0, 0, []), oA (.iload_n 1) 35 1, oK (.iconst 4) 36 (4), oA (.if_icmp .ge 27) 39 63, oN, oN, oA (.iload_n 2) 40 2, oK (.iconst 3) 41 (3), oA (.if_icmp .ne 22) 44 63, oN, oN, oA (.aload_n 0) 45 0, oF (.getfield 152) 48 6 5 0 395, oN, oN, oA (.aload_n 0) 49 0, oF (.getfield 9) 52 6 6 2 396, oN, oN, oK (.iconst 2) 53 (2), o0 .iaload 54, oA (.if_icmp .lt 7) 57 61, oN, oN, oK (.iconst 1) 58 (1), oA (.goto 4) 61 62, oN, oN, oK (.iconst 0) 62 (0), (.ireturn, 63, 0, 0, 0, 1, 0, 0, 0, 0, []), oA (.iload_n 1) 64 1],
  [oK (.iconst 4) 65 (4), oA (.if_icmp .ne 27) 68 92, oN, oN, oA (.iload_n 2) 69 2, oK (.iconst 1) 70 (1), oA (.if_icmp .ne 22) 73 92, oN, oN, oA (.aload_n 0) 74 0, oF (.getfield 152) 77 6 5 0 395, oN, oN, oA (.aload_n 0) 78 0, oF (.getfield 9) 81 6 6 2 396, oN, oN, oK (.iconst 0) 82 (0), o0 .iaload 83, oA (.if_icmp .eq 7) 86 90, oN, oN, oK (.iconst 1) 87 (1), oA (.goto 4) 90 91, oN, oN, oK (.iconst 0) 91 (0), (.ireturn, 92, 0, 0, 0, 1, 0, 0, 0, 0, []), oA (.iload_n 1) 93 1, oK (.bipush 15) 95 (15), oN, oA (.if_icmp .ne 20) 98 115],
  [oN, oN, oA (.iload_n 2) 99 2, oA (.ifCond .eq 16) 102 115, oN, oN, oA (.aload_n 0) 103 0, oF (.getfield 152) 106 6 5 0 395, oN, oN, oA (.aload_n 0) 107 0, oF (.getfield 9) 110 6 6 2 396, oN, oN, oK (.iconst 0) 111 (0), o0 .iaload 112, oA (.if_icmp .gt 7) 115 119, oN, oN, oK (.iconst 1) 116 (1), oA (.goto 4) 119 120, oN, oN, oK (.iconst 0) 120 (0), (.ireturn, 121, 0, 0, 0, 1, 0, 0, 0, 0, [])]]
def cd_Reader_tellLine : List (List xop) := [[oA (.iload_n 1) 1 1, oK (.iconst 4) 2 (4), oA (.if_icmp .ge 18) 5 20, oN, oN, oA (.aload_n 0) 6 0, oF (.getfield 18) 9 6 11 2 403, oN, oN, oA (.iload_n 1) 10 1, oA (.aload_n 0) 11 0, oF (.getfield 9) 14 6 6 2 396, oN, oN, (.invokevirtual 165, 17, 40, 2, 2, 3, 0, 0, 0, 0, [(0, 796)]), oN, oN, oA (.goto 172) 20 189, oN, oN, oA (.iload_n 1) 21 1, oK (.bipush 10) 23 (10), oN, oA (.if_icmp .ge 11) 26 34, oN, oN, oA (.aload_n 0) 27 0, oA (.iload_n 1) 28 1, (.invokevirtual 169, 31, 143, 1, 6, 3, 0, 0, 0, 0, [(0, 800)]), oN, oN, oA (.goto 158) 34 189],
  [oN, oN, oA (.iload_n 1) 35 1, oK (.bipush 15) 37 (15), oN, oA (.if_icmp .ge 23) 40 60, oN, oN, oA (.aload_n 0) 41 0, oF (.getfield 25) 44 6 12 2 405, oN, oN, oA (.iload_n 1) 45 1, oK (.bipush 10) 47 (10), oN, o0 .isub 48, oA (.aload_n 0) 49 0, oF (.getfield 9) 52 6 6 2 396, oN, oN, oK (.iconst 0) 53 (0), o0 .iaload 54, (.invokevirtual 172, 57, 25, 2, 3, 3, 0, 0, 0, 0, [(0, 808)]), oN, oN, oA (.goto 132) 60 189, oN, oN, oA (.iload_n 1) 61 1, oK (.bipush 15) 63 (15), oN, oA (.if_icmp .ne 25) 66 88],
  [oN, oN, oA (.aload_n 0) 67 0, oF (.getfield 32) 70 6 13 2 407, oN, oN, oA (.aload_n 0) 71 0, oF (.getfield 9) 74 6 6 2 396, oN, oN, oK (.iconst 0) 75 (0), o0 .iaload 76, oA (.aload_n 0) 77 0, oF (.getfield 9) 80 6 6 2 396, oN, oN, oK (.iconst 1) 81 (1), o0 .iaload 82, (.invokevirtual 175, 85, 57, 2, 4, 3, 0, 0, 0, 0, [(0, 812)]), oN, oN, oA (.goto 104) 88 189, oN, oN, oA (.iload_n 1) 89 1, oK (.bipush 16) 91 (16), oN, oA (.if_icmp .ne 23) 94 114, oN, oN, oA (.aload_n 0) 95 0, oF (.getfield 32) 98 6 13 2 407],
  [oN, oN, oA (.aload_n 0) 99 0, oF (.getfield 142) 102 6 7 0 397, oN, oN, oA (.aload_n 0) 103 0, oF (.getfield 9) 106 6 6 2 396, oN, oN, oK (.iconst 0) 107 (0), o0 .iaload 108, (.invokevirtual 178, 111, 58, 2, 4, 3, 0, 0, 0, 0, [(0, 816)]), oN, oN, oA (.goto 78) 114 189, oN, oN, oA (.iload_n 1) 115 1, oK (.bipush 17) 117 (17), oN, oA (.if_icmp .ne 19) 120 136, oN, oN, oA (.aload_n 0) 121 0, oF (.getfield 39) 124 6 14 2 409, oN, oN, oA (.aload_n 0) 125 0, oF (.getfield 9) 128 6 6 2 396, oN, oN],
  [oK (.iconst 0) 129 (0), o0 .iaload 130, (.invokevirtual 181, 133, 30, 1, 5, 3, 0, 0, 0, 0, [(0, 823)]), oN, oN, oA (.goto 56) 136 189, oN, oN, oA (.iload_n 1) 137 1, oK (.bipush 18) 139 (18), oN, oA (.if_icmp .ne 25) 142 164, oN, oN, oA (.aload_n 0) 143 0, oF (.getfield 39) 146 6 14 2 409, oN, oN, oA (.aload_n 0) 147 0, oF (.getfield 9) 150 6 6 2 396, oN, oN, oK (.iconst 0) 151 (0), o0 .iaload 152, oA (.aload_n 0) 153 0, oF (.getfield 9) 156 6 6 2 396, oN, oN, oK (.iconst 1) 157 (1), o0 .iaload 158, (.invokevirtual 184, 161, 31, 2, 5, 3, 0, 0, 0, 0, [(0, 827)]), oN],
  [oN, oA (.goto 28) 164 189, oN, oN, oA (.aload_n 0) 165 0, oF (.getfield 39) 168 6 14 2 409, oN, oN, oA (.aload_n 0) 169 0, oF (.getfield 9) 172 6 6 2 396, oN, oN, oK (.iconst 0) 173 (0), o0 .iaload 174, oA (.aload_n 0) 175 0, oF (.getfield 9) 178 6 6 2 396, oN, oN, oK (.iconst 1) 179 (1), o0 .iaload 180, oA (.aload_n 0) 181 0, oF (.getfield 9) 184 6 6 2 396, oN, oN, oK (.iconst 2) 185 (2), o0 .iaload 186, (.invokevirtual 187, 189, 32, 3, 5, 3, 0, 0, 0, 0, [(0, 831)]), oN, oN, o0 .return_ 190]]
def cd_Reader_tellOfTown : List (List xop) := [[oA (.iload_n 1) 1 1, oS (.tableswitch 166 4 8 #[35, 89, 118, 134, 150]) 36 167 [((4), 36), ((5), 90), ((6), 119), ((7), 135), ((8), 151)], oN, oN, oN, oN, oN, oN, oN, oN, oN, oN, oN, oN, oN, oN, oN, oN, oN, oN, oN, oN, oN, oN, oN, oN, oN, oN, oN, oN, oN, oN],
  [oN, oN, oN, oN, oA (.aload_n 0) 37 0, o0 .dup 38, oF (.getfield 68) 41 6 8 0 398, oN, oN, oK (.iconst 1) 42 (1), oA (.aload_n 0) 43 0, oF (.getfield 9) 46 6 6 2 396, oN, oN, oK (.iconst 0) 47 (0), o0 .iaload 48, o0 .ishl 49, oK (.iconst 1) 50 (1), oA (.aload_n 0) 51 0, oF (.getfield 9) 54 6 6 2 396, oN, oN, oK (.iconst 1) 55 (1), o0 .iaload 56, o0 .ishl 57, o0 .ior 58, o0 .ior 59, oF (.putfield 68) 62 6 8 0 398, oN, oN, oA (.aload_n 0) 63 0, oF (.getfield 18) 66 6 11 2 403],
  [oN, oN, oA (.aload_n 0) 67 0, oF (.getfield 9) 70 6 6 2 396, oN, oN, oK (.iconst 0) 71 (0), o0 .iaload 72, oA (.aload_n 0) 73 0, oF (.getfield 9) 76 6 6 2 396, oN, oN, oK (.iconst 1) 77 (1), o0 .iaload 78, oA (.aload_n 0) 79 0, oF (.getfield 9) 82 6 6 2 396, oN, oN, oK (.iconst 2) 83 (2), o0 .iaload 84, (.invokevirtual 191, 87, 41, 3, 2, 3, 0, 0, 0, 0, [(0, 804)]), oN, oN, oA (.goto 93) 90 180, oN, oN, oA (.aload_n 0) 91 0, oF (.getfield 18) 94 6 11 2 403, oN, oN, oA (.aload_n 0) 95 0, oF (.getfield 9) 98 6 6 2 396],
  [oN, oN, oK (.iconst 0) 99 (0), o0 .iaload 100, oF (.putfield 194) 103 2 0 0 186, oN, oN, oA (.aload_n 0) 104 0, oF (.getfield 18) 107 6 11 2 403, oN, oN, oA (.aload_n 0) 108 0, oF (.getfield 9) 111 6 6 2 396, oN, oN, oK (.iconst 1) 112 (1), o0 .iaload 113, oF (.putfield 197) 116 2 1 0 188, oN, oN, oA (.goto 64) 119 180, oN, oN, oA (.aload_n 0) 120 0, oF (.getfield 18) 123 6 11 2 403, oN, oN, oA (.aload_n 0) 124 0, oF (.getfield 9) 127 6 6 2 396, oN, oN, oK (.iconst 0) 128 (0)],
  [o0 .iaload 129, oF (.putfield 200) 132 2 2 0 191, oN, oN, oA (.goto 48) 135 180, oN, oN, oA (.aload_n 0) 136 0, oF (.getfield 18) 139 6 11 2 403, oN, oN, oA (.aload_n 0) 140 0, oF (.getfield 9) 143 6 6 2 396, oN, oN, oK (.iconst 0) 144 (0), o0 .iaload 145, oF (.putfield 203) 148 2 3 0 193, oN, oN, oA (.goto 32) 151 180, oN, oN, oA (.aload_n 0) 152 0, oF (.getfield 18) 155 6 11 2 403, oN, oN, oA (.aload_n 0) 156 0, oF (.getfield 9) 159 6 6 2 396, oN, oN, oK (.iconst 0) 160 (0)],
  [o0 .iaload 161, oF (.putfield 206) 164 2 4 0 197, oN, oN, oA (.goto 16) 167 180, oN, oN, oA (.aload_n 0) 168 0, oF (.getfield 18) 171 6 11 2 403, oN, oN, oA (.aload_n 0) 172 0, oF (.getfield 9) 175 6 6 2 396, oN, oN, oK (.iconst 0) 176 (0), o0 .iaload 177, oF (.putfield 209) 180 2 5 0 200, oN, oN, o0 .return_ 181]]
def cd_Told_init : List (List xop) := [[oA (.aload_n 0) 1 0, (.invokespecial 3, 4, 0, 0, 0, 9, 0, 0, 0, 0, [(0, 177)]), oN, oN, oA (.aload_n 0) 5 0, oK (.sipush 600) 8 (600), oN, oN, oA (.newarray .byte) 10 21, oN, oF (.putfield 9) 13 1 0 2 338, oN, oN, oA (.aload_n 0) 14 0, oK (.iconst (-1)) 15 (-1), oF (.putfield 15) 18 1 3 0 344, oN, oN, oA (.aload_n 0) 19 0, oK (.iconst 4) 20 (4), oA (.newarray .int) 22 20, oN, oF (.putfield 19) 25 1 4 2 346, oN, oN, oA (.aload_n 0) 26 0, oK (.iconst 2) 27 (2), oF (.anewarray 23) 30 25 178 0 0, oN, oN, o0 .dup 31, oK (.iconst 0) 32 (0)],
  [oM (.new 23) 35 2 14 178 0 0 0, oN, oN, o0 .dup 36, (.invokespecial 25, 39, 38, 0, 2, 3, 7, 63, 0, 0, [(1, 181)]), oN, oN, oF (.aastore) 40 25 2 0 0, o0 .dup 41, oK (.iconst 1) 42 (1), oM (.new 23) 45 2 14 178 0 0 0, oN, oN, o0 .dup 46, (.invokespecial 25, 49, 38, 0, 2, 3, 7, 63, 0, 0, [(1, 181)]), oN, oN, oF (.aastore) 50 25 2 0 0, oF (.putfield 26) 53 1 5 2 348, oN, oN, oA (.aload_n 0) 54 0, oK (.iconst 2) 55 (2), oF (.anewarray 30) 58 26 250 0 0, oN, oN, o0 .dup 59, oK (.iconst 0) 60 (0), oM (.new 30) 63 3 3 250 0 0 0, oN, oN, o0 .dup 64],
  [(.invokespecial 32, 67, 24, 0, 3, 3, 2, 80, 0, 0, [(1, 253)]), oN, oN, oF (.aastore) 68 26 3 0 0, o0 .dup 69, oK (.iconst 1) 70 (1), oM (.new 30) 73 3 3 250 0 0 0, oN, oN, o0 .dup 74, (.invokespecial 32, 77, 24, 0, 3, 3, 2, 80, 0, 0, [(1, 253)]), oN, oN, oF (.aastore) 78 26 3 0 0, oF (.putfield 33) 81 1 6 2 350, oN, oN, oA (.aload_n 0) 82 0, oK (.iconst 2) 83 (2), oF (.anewarray 37) 86 27 272 0 0, oN, oN, o0 .dup 87, oK (.iconst 0) 88 (0), oM (.new 37) 91 4 4 272 0 0 0, oN, oN, o0 .dup 92, (.invokespecial 39, 95, 55, 0, 4, 3, 3, 50, 0, 0, [(1, 275)]), oN, oN, oF (.aastore) 96 27 4 0 0],
  [o0 .dup 97, oK (.iconst 1) 98 (1), oM (.new 37) 101 4 4 272 0 0 0, oN, oN, o0 .dup 102, (.invokespecial 39, 105, 55, 0, 4, 3, 3, 50, 0, 0, [(1, 275)]), oN, oN, oF (.aastore) 106 27 4 0 0, oF (.putfield 40) 109 1 7 2 352, oN, oN, oA (.aload_n 0) 110 0, oK (.iconst 2) 111 (2), oF (.anewarray 44) 114 28 294 0 0, oN, oN, o0 .dup 115, oK (.iconst 0) 116 (0), oM (.new 44) 119 5 9 294 0 0 0, oN, oN, o0 .dup 120, (.invokespecial 46, 123, 28, 0, 5, 3, 6, 46, 0, 0, [(1, 297)]), oN, oN, oF (.aastore) 124 28 5 0 0, o0 .dup 125, oK (.iconst 1) 126 (1), oM (.new 44) 129 5 9 294 0 0 0, oN],
  [oN, o0 .dup 130, (.invokespecial 46, 133, 28, 0, 5, 3, 6, 46, 0, 0, [(1, 297)]), oN, oN, oF (.aastore) 134 28 5 0 0, oF (.putfield 47) 137 1 8 2 354, oN, oN, o0 .return_ 138]]
def cd_Told_addBytes : List (List xop) := [[oK (.bipush 24) 2 (24), oN, oA (.istore_n 2) 3 2, oA (.iload_n 2) 4 2, oA (.ifCond .lt 42) 7 46, oN, oN, oA (.aload_n 0) 8 0, oF (.getfield 51) 11 1 1 0 341, oN, oN, oK (.sipush 600) 14 (600), oN, oN, oA (.if_icmp .ge 32) 17 46, oN, oN, oA (.aload_n 0) 18 0, oF (.getfield 9) 21 1 0 2 338, oN, oN, oA (.aload_n 0) 22 0, oF (.getfield 51) 25 1 1 0 341, oN, oN, oA (.iload_n 1) 26 1, oA (.iload_n 2) 27 2, o0 .iushr 28, o0 .i2b 29, oF (.bastore) 30 21 2 0 0, oA (.aload_n 0) 31 0, o0 .dup 32],
  [oF (.getfield 51) 35 1 1 0 341, oN, oN, oK (.iconst 1) 36 (1), o0 .iadd 37, oF (.putfield 51) 40 1 1 0 341, oN, oN, oC (.iinc 2 (-8)) 43 2 0 (-8), oN, oN, oA (.goto (-40)) 46 3, oN, oN, o0 .return_ 47]]
end
section
-- written by wip/tools/gen.py: the instructions with what they link
def cd_Told_copyFrom : List (List xop) := [[oA (.aload_n 1) 1 1, oF (.getfield 9) 4 1 0 2 338, oN, oN, oK (.iconst 0) 5 (0), oA (.aload_n 0) 6 0, oF (.getfield 9) 9 1 0 2 338, oN, oN, oK (.iconst 0) 10 (0), oK (.sipush 600) 13 (600), oN, oN, (.invokestatic 54, 16, 21, 0, 9, 0, 0, 0, 0, 0, [(0, 896)]), oN, oN, oA (.aload_n 0) 17 0, oA (.aload_n 1) 18 1, oF (.getfield 51) 21 1 1 0 341, oN, oN, oF (.putfield 51) 24 1 1 0 341, oN, oN, oA (.aload_n 0) 25 0, oA (.aload_n 1) 26 1, oF (.getfield 60) 29 1 2 0 342, oN, oN, oF (.putfield 60) 32 1 2 0 342, oN, oN],
  [oA (.aload_n 0) 33 0, oA (.aload_n 1) 34 1, oF (.getfield 15) 37 1 3 0 344, oN, oN, oF (.putfield 15) 40 1 3 0 344, oN, oN, oA (.aload_n 1) 41 1, oF (.getfield 19) 44 1 4 2 346, oN, oN, oK (.iconst 0) 45 (0), oA (.aload_n 0) 46 0, oF (.getfield 19) 49 1 4 2 346, oN, oN, oK (.iconst 0) 50 (0), oK (.iconst 4) 51 (4), (.invokestatic 54, 54, 20, 0, 9, 0, 0, 0, 0, 0, [(0, 896)]), oN, oN, oK (.iconst 0) 55 (0), oA (.istore_n 2) 56 2, oA (.iload_n 2) 57 2, oK (.iconst 2) 58 (2), oA (.if_icmp .ge 69) 61 127, oN, oN, oA (.aload_n 0) 62 0, oF (.getfield 26) 65 1 5 2 348, oN],
  [oN, oA (.iload_n 2) 66 2, oA (.aaload) 67 25, oA (.aload_n 1) 68 1, oF (.getfield 26) 71 1 5 2 348, oN, oN, oA (.iload_n 2) 72 2, oA (.aaload) 73 25, (.invokevirtual 63, 76, 42, 1, 2, 3, 0, 0, 0, 0, [(0, 897)]), oN, oN, oA (.aload_n 0) 77 0, oF (.getfield 33) 80 1 6 2 350, oN, oN, oA (.iload_n 2) 81 2, oA (.aaload) 82 26, oA (.aload_n 1) 83 1, oF (.getfield 33) 86 1 6 2 350, oN, oN, oA (.iload_n 2) 87 2, oA (.aaload) 88 26, (.invokevirtual 67, 91, 26, 1, 3, 3, 0, 0, 0, 0, [(0, 898)]), oN, oN, oA (.aload_n 0) 92 0, oF (.getfield 40) 95 1 7 2 352, oN, oN, oA (.iload_n 2) 96 2],
  [oA (.aaload) 97 27, oA (.aload_n 1) 98 1, oF (.getfield 40) 101 1 7 2 352, oN, oN, oA (.iload_n 2) 102 2, oA (.aaload) 103 27, (.invokevirtual 70, 106, 59, 1, 4, 3, 0, 0, 0, 0, [(0, 899)]), oN, oN, oA (.aload_n 0) 107 0, oF (.getfield 47) 110 1 8 2 354, oN, oN, oA (.iload_n 2) 111 2, oA (.aaload) 112 28, oA (.aload_n 1) 113 1, oF (.getfield 47) 116 1 8 2 354, oN, oN, oA (.iload_n 2) 117 2, oA (.aaload) 118 28, (.invokevirtual 73, 121, 33, 1, 5, 3, 0, 0, 0, 0, [(0, 900)]), oN, oN, oC (.iinc 2 1) 124 2 0 (1), oN, oN, oA (.goto (-68)) 127 56, oN, oN, o0 .return_ 128]]
def cd_Told_townAt : List (List xop) := [[oA (.iload_n 1) 1 1, oA (.ifCond .lt 13) 4 14, oN, oN, oA (.iload_n 1) 5 1, oA (.aload_n 0) 6 0, oF (.getfield 19) 9 1 4 2 346, oN, oN, oK (.iconst 0) 10 (0), o0 .iaload 11, oA (.if_icmp .lt 7) 14 18, oN, oN, o0 .aconst_null 15, oA (.goto 9) 18 24, oN, oN, oA (.aload_n 0) 19 0, oF (.getfield 26) 22 1 5 2 348, oN, oN, oA (.iload_n 1) 23 1, oA (.aaload) 24 25, o0 .areturn 25]]
def cd_Told_eveningAt : List (List xop) := [[oA (.iload_n 1) 1 1, oA (.ifCond .lt 13) 4 14, oN, oN, oA (.iload_n 1) 5 1, oA (.aload_n 0) 6 0, oF (.getfield 19) 9 1 4 2 346, oN, oN, oK (.iconst 1) 10 (1), o0 .iaload 11, oA (.if_icmp .lt 7) 14 18, oN, oN, o0 .aconst_null 15, oA (.goto 9) 18 24, oN, oN, oA (.aload_n 0) 19 0, oF (.getfield 33) 22 1 6 2 350, oN, oN, oA (.iload_n 1) 23 1, oA (.aaload) 24 26, o0 .areturn 25]]
def cd_Told_bookAt : List (List xop) := [[oA (.iload_n 1) 1 1, oA (.ifCond .lt 13) 4 14, oN, oN, oA (.iload_n 1) 5 1, oA (.aload_n 0) 6 0, oF (.getfield 19) 9 1 4 2 346, oN, oN, oK (.iconst 2) 10 (2), o0 .iaload 11, oA (.if_icmp .lt 7) 14 18, oN, oN, o0 .aconst_null 15, oA (.goto 9) 18 24, oN, oN, oA (.aload_n 0) 19 0, oF (.getfield 40) 22 1 7 2 352, oN, oN, oA (.iload_n 1) 23 1, oA (.aaload) 24 27, o0 .areturn 25]]
def cd_Told_sheetAt : List (List xop) := [[oA (.iload_n 1) 1 1, oA (.ifCond .lt 13) 4 14, oN, oN, oA (.iload_n 1) 5 1, oA (.aload_n 0) 6 0, oF (.getfield 19) 9 1 4 2 346, oN, oN, oK (.iconst 3) 10 (3), o0 .iaload 11, oA (.if_icmp .lt 7) 14 18, oN, oN, o0 .aconst_null 15, oA (.goto 9) 18 24, oN, oN, oA (.aload_n 0) 19 0, oF (.getfield 47) 22 1 8 2 354, oN, oN, oA (.iload_n 1) 23 1, oA (.aaload) 24 28, o0 .areturn 25]]
def cd_So_init : List (List xop) := [[oA (.aload_n 0) 1 0, (.invokespecial 1, 4, 0, 0, 0, 9, 0, 0, 0, 0, [(0, 169)]), oN, oN, oA (.aload_n 0) 5 0, oM (.new 7) 8 1 9 172 0 0 0, oN, oN, o0 .dup 9, (.invokespecial 9, 12, 144, 0, 1, 3, 50, 1150, 0, 0, [(1, 174)]), oN, oN, oF (.putfield 10) 15 0 0 2 601, oN, oN, oA (.aload_n 0) 16 0, oK (.iconst 3) 17 (3), oF (.anewarray 7) 20 24 172 0 0, oN, oN, oF (.putfield 16) 23 0 1 2 602, oN, oN, oA (.aload_n 0) 24 0, oM (.new 20) 27 6 15 376 0 0 0, oN, oN, o0 .dup 28, oA (.aload_n 0) 29 0, oF (.getfield 10) 32 0 0 2 601, oN, oN],
  [oF (.getfield 22) 35 1 0 2 339, oN, oN, (.invokespecial 26, 38, 126, 1, 6, 3, 23, 273, 0, 0, [(0, 378)]), oN, oN, oF (.putfield 29) 41 0 2 2 603, oN, oN, oA (.aload_n 0) 42 0, oM (.new 33) 45 7 12 442 0 0 0, oN, oN, o0 .dup 46, (.invokespecial 35, 49, 113, 0, 7, 3, 4, 36, 0, 0, [(1, 444)]), oN, oN, oF (.putfield 36) 52 0 3 2 604, oN, oN, oA (.aload_n 0) 53 0, oM (.new 40) 56 8 4 485 0 0 0, oN, oN, o0 .dup 57, (.invokespecial 42, 60, 71, 0, 8, 3, 3, 1191, 0, 0, [(1, 487)]), oN, oN, oF (.putfield 43) 63 0 4 2 605, oN, oN, oA (.aload_n 0) 64 0],
  [oM (.new 47) 67 9 14 505 0 0 0, oN, oN, o0 .dup 68, (.invokespecial 49, 71, 81, 0, 9, 3, 8, 6764, 0, 0, [(1, 507)]), oN, oN, oF (.putfield 50) 74 0 5 2 606, oN, oN, oA (.aload_n 0) 75 0, oM (.new 54) 78 10 8 562 0 0 0, oN, oN, o0 .dup 79, (.invokespecial 56, 82, 103, 0, 10, 3, 5, 2896, 0, 0, [(1, 564)]), oN, oN, oF (.putfield 57) 85 0 6 2 607, oN, oN, oA (.aload_n 0) 86 0, oK (.bipush 11) 88 (11), oN, (.invokestatic 61, 91, 56, 1, 0, 0, 0, 0, 0, 0, [(0, 598)]), oN, oN, oA (.newarray .int) 93 20, oN, oF (.putfield 67) 96 0 7 2 608, oN, oN],
  [o0 .return_ 97]]
def cd_So_feed : List (List xop) := [[oA (.aload_n 0) 1 0, oF (.getfield 10) 4 0 0 2 601, oN, oN, oF (.getfield 71) 7 1 1 0 340, oN, oN, oK (.sipush 580) 10 (580), oN, oN, oA (.if_icmp .le 5) 13 15, oN, oN, oK (.iconst (-1)) 14 (-1), (.ireturn, 15, 0, 0, 0, 0, 0, 0, 0, 0, []), oA (.aload_n 0) 16 0, oF (.getfield 10) 19 0 0 2 601, oN, oN, oA (.iload_n 1) 20 1, (.invokevirtual 75, 23, 145, 1, 1, 3, 0, 0, 0, 0, [(0, 630)]), oN, oN, oA (.aload_n 0) 24 0, oF (.getfield 10) 27 0 0 2 601, oN, oN, oA (.iload_n 2) 28 2, (.invokevirtual 75, 31, 145, 1, 1, 3, 0, 0, 0, 0, [(0, 630)]), oN, oN, oA (.aload_n 0) 32 0],
  [oF (.getfield 10) 35 0 0 2 601, oN, oN, oA (.iload_n 3) 36 3, (.invokevirtual 75, 39, 145, 1, 1, 3, 0, 0, 0, 0, [(0, 630)]), oN, oN, oA (.aload_n 0) 40 0, oF (.getfield 10) 43 0 0 2 601, oN, oN, oA (.iload 4) 45 4, oN, (.invokevirtual 75, 48, 145, 1, 1, 3, 0, 0, 0, 0, [(0, 630)]), oN, oN, oA (.aload_n 0) 49 0, oF (.getfield 10) 52 0 0 2 601, oN, oN, oA (.iload 5) 54 5, oN, (.invokevirtual 75, 57, 145, 1, 1, 3, 0, 0, 0, 0, [(0, 630)]), oN, oN, oA (.aload_n 0) 58 0, oF (.getfield 10) 61 0 0 2 601, oN, oN, oF (.getfield 71) 64 1 1 0 340, oN, oN],
  [(.ireturn, 65, 0, 0, 0, 0, 0, 0, 0, 0, [])]]
def cd_So_end : List (List xop) := [[oA (.iload_n 1) 1 1, oA (.ifCond .lt 14) 4 15, oN, oN, oA (.iload_n 1) 5 1, oA (.aload_n 0) 6 0, oF (.getfield 10) 9 0 0 2 601, oN, oN, oF (.getfield 71) 12 1 1 0 340, oN, oN, oA (.if_icmp .le 5) 15 17, oN, oN, oK (.iconst (-1)) 16 (-1), (.ireturn, 17, 0, 0, 0, 0, 0, 0, 0, 0, []), oA (.aload_n 0) 18 0, oF (.getfield 10) 21 0 0 2 601, oN, oN, oA (.iload_n 1) 22 1, oF (.putfield 71) 25 1 1 0 340, oN, oN, oA (.iload_n 1) 26 1, (.ireturn, 27, 0, 0, 0, 0, 0, 0, 0, 0, [])]]
def cd_So_text : List (List xop) := [[oA (.aload_n 0) 1 0, oF (.getfield 10) 4 0 0 2 601, oN, oN, oF (.getfield 71) 7 1 1 0 340, oN, oN, oA (.istore_n 3) 8 3, oA (.aload_n 0) 9 0, oF (.getfield 10) 12 0 0 2 601, oN, oN, oK (.iconst 0) 13 (0), oF (.putfield 71) 16 1 1 0 340, oN, oN, oA (.aload_n 0) 17 0, oF (.getfield 10) 20 0 0 2 601, oN, oN, oK (.iconst 0) 21 (0), oF (.putfield 79) 24 1 2 0 343, oN, oN, oA (.aload_n 0) 25 0, oF (.getfield 10) 28 0 0 2 601, oN, oN, oK (.iconst (-1)) 29 (-1), oF (.putfield 82) 32 1 3 0 345, oN, oN],
  [oA (.aload_n 0) 33 0, oA (.iload_n 1) 34 1, oA (.iload_n 2) 35 2, (.invokevirtual 85, 38, 155, 2, 0, 0, 0, 0, 0, 0, [(0, 642)]), oN, oN, oA (.istore 4) 40 4, oN, oA (.iload 4) 42 4, oN, oK (.bipush (-2)) 44 (-2), oN, oA (.if_icmp .ne 6) 47 50, oN, oN, oK (.bipush (-2)) 49 (-2), oN, (.ireturn, 50, 0, 0, 0, 0, 0, 0, 0, 0, []), oA (.aload_n 0) 51 0, oF (.getfield 29) 54 0 2 2 603, oN, oN, oA (.iload_n 1) 55 1, oA (.iload_n 3) 56 3, (.invokevirtual 89, 59, 127, 2, 6, 3, 0, 0, 0, 0, [(0, 646)]), oN, oN, oA (.aload_n 0) 60 0, oF (.getfield 10) 63 0 0 2 601, oN, oN, oA (.aload_n 0) 64 0],
  [oF (.getfield 29) 67 0 2 2 603, oN, oN, oF (.getfield 93) 70 6 9 0 400, oN, oN, oF (.putfield 79) 73 1 2 0 343, oN, oN, oA (.aload_n 0) 74 0, oF (.getfield 10) 77 0 0 2 601, oN, oN, oA (.aload_n 0) 78 0, oF (.getfield 29) 81 0 2 2 603, oN, oN, oF (.getfield 94) 84 6 10 0 402, oN, oN, oF (.putfield 82) 87 1 3 0 345, oN, oN, oA (.aload_n 0) 88 0, oF (.getfield 29) 91 0 2 2 603, oN, oN, oF (.getfield 93) 94 6 9 0 400, oN, oN, oA (.ifCond .eq 5) 97 99, oN],
  [oN, oK (.iconst (-1)) 98 (-1), (.ireturn, 99, 0, 0, 0, 0, 0, 0, 0, 0, []), oA (.aload_n 0) 100 0, oA (.iload_n 1) 101 1, oA (.iload 4) 103 4, oN, (.invokevirtual 95, 106, 157, 2, 0, 3, 0, 0, 0, 0, [(0, 835)]), oN, oN, oA (.iload 4) 108 4, oN, (.ireturn, 109, 0, 0, 0, 0, 0, 0, 0, 0, [])]]
def cd_So_placeFor : List (List xop) := [[oA (.iload_n 1) 1 1, oA (.ifCond .lt 8) 4 9, oN, oN, oA (.iload_n 1) 5 1, oK (.iconst 4) 6 (4), oA (.if_icmp .lt 6) 9 12, oN, oN, oK (.bipush (-2)) 11 (-2), oN, (.ireturn, 12, 0, 0, 0, 0, 0, 0, 0, 0, []), oA (.aload_n 0) 13 0, oF (.getfield 10) 16 0 0 2 601, oN, oN, oF (.getfield 98) 19 1 4 2 347, oN, oN, oA (.iload_n 1) 20 1, o0 .iaload 21, oA (.istore_n 3) 22 3, oA (.iload_n 2) 23 2, oK (.iconst (-1)) 24 (-1), oA (.if_icmp .ne 15) 27 39, oN, oN, oA (.iload_n 3) 28 3, oK (.iconst 2) 29 (2), oA (.if_icmp .ge 7) 32 36, oN, oN],
  [oA (.iload_n 3) 33 3, oA (.goto 5) 36 38, oN, oN, oK (.bipush (-2)) 38 (-2), oN, (.ireturn, 39, 0, 0, 0, 0, 0, 0, 0, 0, []), oA (.iload_n 2) 40 2, oA (.ifCond .lt 12) 43 52, oN, oN, oA (.iload_n 2) 44 2, oA (.iload_n 3) 45 3, oA (.if_icmp .ge 7) 48 52, oN, oN, oA (.iload_n 2) 49 2, oA (.goto 5) 52 54, oN, oN, oK (.bipush (-2)) 54 (-2), oN, (.ireturn, 55, 0, 0, 0, 0, 0, 0, 0, 0, [])]]
def cd_So_isThing : List (List xop) := [[oA (.iload_n 0) 1 0, oA (.ifCond .lt 12) 4 13, oN, oN, oA (.iload_n 0) 5 0, oK (.iconst 3) 6 (3), oA (.if_icmp .ge 7) 9 13, oN, oN, oK (.iconst 1) 10 (1), oA (.goto 4) 13 14, oN, oN, oK (.iconst 0) 14 (0), (.ireturn, 15, 0, 0, 0, 1, 0, 0, 0, 0, [])]]
def cd_So_keepDraft : List (List xop) := [[oA (.iload_n 1) 1 1, oS (.tableswitch 93 0 2 #[27, 49, 71]) 28 94 [((0), 28), ((1), 50), ((2), 72)], oN, oN, oN, oN, oN, oN, oN, oN, oN, oN, oN, oN, oN, oN, oN, oN, oN, oN, oN, oN, oN, oN, oN, oN, oN, oN, oA (.aload_n 0) 29 0, oF (.getfield 10) 32 0 0 2 601, oN, oN],
  [oF (.getfield 101) 35 1 5 2 349, oN, oN, oA (.iload_n 2) 36 2, oA (.aaload) 37 25, oA (.aload_n 0) 38 0, oF (.getfield 29) 41 0 2 2 603, oN, oN, oF (.getfield 105) 44 6 11 2 404, oN, oN, (.invokevirtual 109, 47, 42, 1, 2, 3, 0, 0, 0, 0, [(0, 839)]), oN, oN, oA (.goto 66) 50 113, oN, oN, oA (.aload_n 0) 51 0, oF (.getfield 10) 54 0 0 2 601, oN, oN, oF (.getfield 115) 57 1 6 2 351, oN, oN, oA (.iload_n 2) 58 2, oA (.aaload) 59 26, oA (.aload_n 0) 60 0, oF (.getfield 29) 63 0 2 2 603, oN, oN, oF (.getfield 119) 66 6 12 2 406],
  [oN, oN, (.invokevirtual 123, 69, 26, 1, 3, 3, 0, 0, 0, 0, [(0, 846)]), oN, oN, oA (.goto 44) 72 113, oN, oN, oA (.aload_n 0) 73 0, oF (.getfield 10) 76 0 0 2 601, oN, oN, oF (.getfield 128) 79 1 7 2 353, oN, oN, oA (.iload_n 2) 80 2, oA (.aaload) 81 27, oA (.aload_n 0) 82 0, oF (.getfield 29) 85 0 2 2 603, oN, oN, oF (.getfield 132) 88 6 13 2 408, oN, oN, (.invokevirtual 136, 91, 59, 1, 4, 3, 0, 0, 0, 0, [(0, 851)]), oN, oN, oA (.goto 22) 94 113, oN, oN, oA (.aload_n 0) 95 0, oF (.getfield 10) 98 0 0 2 601],
  [oN, oN, oF (.getfield 139) 101 1 8 2 355, oN, oN, oA (.iload_n 2) 102 2, oA (.aaload) 103 28, oA (.aload_n 0) 104 0, oF (.getfield 29) 107 0 2 2 603, oN, oN, oF (.getfield 143) 110 6 14 2 410, oN, oN, (.invokevirtual 147, 113, 33, 1, 5, 3, 0, 0, 0, 0, [(0, 856)]), oN, oN, oA (.aload_n 0) 114 0, oF (.getfield 10) 117 0 0 2 601, oN, oN, oF (.getfield 98) 120 1 4 2 347, oN, oN, oA (.iload_n 1) 121 1, oA (.aload_n 0) 122 0, oF (.getfield 10) 125 0 0 2 601, oN, oN, oF (.getfield 98) 128 1 4 2 347, oN, oN],
  [oA (.iload_n 1) 129 1, o0 .iaload 130, oA (.iload_n 2) 131 2, oK (.iconst 1) 132 (1), o0 .iadd 133, (.invokestatic 152, 136, 2, 2, 0, 0, 0, 0, 0, 0, [(0, 861)]), oN, oN, o0 .iastore 137, oA (.aload_n 0) 138 0, (.invokevirtual 157, 141, 158, 0, 0, 3, 0, 0, 0, 0, [(0, 864)]), oN, oN, o0 .return_ 142]]
def cd_So_forgetAll : List (List xop) := [[oA (.aload_n 0) 1 0, oF (.getfield 43) 4 0 4 2 605, oN, oN, (.invokevirtual 160, 7, 72, 0, 8, 3, 0, 0, 0, 0, [(0, 868)]), oN, oN, oA (.aload_n 0) 8 0, oF (.getfield 50) 11 0 5 2 606, oN, oN, (.invokevirtual 163, 14, 82, 0, 9, 3, 0, 0, 0, 0, [(0, 872)]), oN, oN, oA (.aload_n 0) 15 0, oF (.getfield 57) 18 0 6 2 607, oN, oN, (.invokevirtual 164, 21, 104, 0, 10, 3, 0, 0, 0, 0, [(0, 876)]), oN, oN, o0 .return_ 22]]
def cd_So_fault : List (List xop) := [[oA (.iload_n 1) 1 1, oA (.ifCond .ne 11) 4 12, oN, oN, oA (.aload_n 0) 5 0, oF (.getfield 10) 8 0 0 2 601, oN, oN, oF (.getfield 79) 11 1 2 0 343, oN, oN, (.ireturn, 12, 0, 0, 0, 0, 0, 0, 0, 0, []), oA (.iload_n 1) 13 1, oK (.iconst 1) 14 (1), oA (.if_icmp .ne 13) 17 27, oN, oN, oA (.aload_n 0) 18 0, oF (.getfield 10) 21 0 0 2 601, oN, oN, oF (.getfield 82) 24 1 3 0 345, oN, oN, oA (.goto 4) 27 28, oN, oN, oK (.iconst (-1)) 28 (-1), (.ireturn, 29, 0, 0, 0, 0, 0, 0, 0, 0, [])]]
def cd_So_count : List (List xop) := [[oA (.iload_n 1) 1 1, oA (.ifCond .lt 8) 4 9, oN, oN, oA (.iload_n 1) 5 1, oK (.iconst 4) 6 (4), oA (.if_icmp .lt 8) 9 14, oN, oN, oK (.bipush (-2)) 11 (-2), oN, oA (.goto 12) 14 23, oN, oN, oA (.aload_n 0) 15 0, oF (.getfield 10) 18 0 0 2 601, oN, oN, oF (.getfield 98) 21 1 4 2 347, oN, oN, oA (.iload_n 1) 22 1, o0 .iaload 23, (.ireturn, 24, 0, 0, 0, 0, 0, 0, 0, 0, [])]]
def cd_So_image : List (List xop) := [[oA (.iload_n 1) 1 1, oA (.ifCond .lt 8) 4 9, oN, oN, oA (.iload_n 1) 5 1, oK (.iconst 3) 6 (3), oA (.if_icmp .lt 5) 9 11, oN, oN, oK (.iconst 0) 10 (0), (.ireturn, 11, 0, 0, 0, 1, 0, 0, 0, 0, []), oA (.aload_n 0) 12 0, oF (.getfield 16) 15 0 1 2 602, oN, oN, oA (.iload_n 1) 16 1, oA (.aaload) 17 24, oA (.astore_n 2) 18 2, oA (.aload_n 2) 19 2, oA (.ifnonnull 18) 22 37, oN, oN, oM (.new 7) 25 1 9 172 0 0 0, oN, oN, o0 .dup 26, (.invokespecial 9, 29, 144, 0, 1, 3, 50, 1150, 0, 0, [(1, 174)]), oN, oN, oA (.astore_n 2) 30 2, oA (.aload_n 0) 31 0, oF (.getfield 16) 34 0 1 2 602],
  [oN, oN, oA (.iload_n 1) 35 1, oA (.aload_n 2) 36 2, oF (.aastore) 37 24 1 0 0, oA (.aload_n 2) 38 2, oA (.aload_n 0) 39 0, oF (.getfield 10) 42 0 0 2 601, oN, oN, (.invokevirtual 165, 45, 146, 1, 1, 3, 0, 0, 0, 0, [(0, 892)]), oN, oN, oK (.iconst 1) 46 (1), (.ireturn, 47, 0, 0, 0, 1, 0, 0, 0, 0, [])]]
def cd_So_again : List (List xop) := [[oA (.iload_n 1) 1 1, oA (.ifCond .lt 8) 4 9, oN, oN, oA (.iload_n 1) 5 1, oK (.iconst 3) 6 (3), oA (.if_icmp .lt 5) 9 11, oN, oN, oK (.iconst 0) 10 (0), (.ireturn, 11, 0, 0, 0, 1, 0, 0, 0, 0, []), oA (.aload_n 0) 12 0, oF (.getfield 16) 15 0 1 2 602, oN, oN, oA (.iload_n 1) 16 1, oA (.aaload) 17 24, oA (.astore_n 2) 18 2, oA (.aload_n 2) 19 2, oA (.ifnonnull 5) 22 24, oN, oN, oK (.iconst 0) 23 (0), (.ireturn, 24, 0, 0, 0, 1, 0, 0, 0, 0, []), oA (.aload_n 0) 25 0, oF (.getfield 10) 28 0 0 2 601, oN, oN, oA (.aload_n 2) 29 2, (.invokevirtual 165, 32, 146, 1, 1, 3, 0, 0, 0, 0, [(0, 892)]), oN, oN],
  [oA (.aload_n 0) 33 0, (.invokevirtual 157, 36, 158, 0, 0, 3, 0, 0, 0, 0, [(0, 864)]), oN, oN, oK (.iconst 1) 37 (1), (.ireturn, 38, 0, 0, 0, 1, 0, 0, 0, 0, [])]]
def cd_So_town : List (List xop) := [[oA (.aload_n 0) 1 0, oF (.getfield 10) 4 0 0 2 601, oN, oN, oA (.iload_n 1) 5 1, (.invokevirtual 168, 8, 147, 1, 1, 2, 0, 0, 0, 0, [(0, 909)]), oN, oN, oA (.astore_n 3) 9 3, oA (.aload_n 3) 10 3, oA (.ifnonnull 8) 13 18, oN, oN, oK (.bipush (-2)) 15 (-2), oN, oA (.goto 8) 18 23, oN, oN, oA (.aload_n 3) 19 3, oA (.iload_n 2) 20 2, (.invokevirtual 172, 23, 43, 1, 2, 0, 0, 0, 0, 0, [(0, 913)]), oN, oN, (.ireturn, 24, 0, 0, 0, 0, 0, 0, 0, 0, [])]]
def cd_So_deed : List (List xop) := [[oA (.aload_n 0) 1 0, oF (.getfield 10) 4 0 0 2 601, oN, oN, oA (.iload_n 1) 5 1, (.invokevirtual 175, 8, 148, 1, 1, 2, 0, 0, 0, 0, [(0, 929)]), oN, oN, oA (.astore 4) 10 4, oN, oA (.aload 4) 12 4, oN, oA (.ifnonnull 8) 15 20, oN, oN, oK (.bipush (-2)) 17 (-2), oN, oA (.goto 10) 20 27, oN, oN, oA (.aload 4) 22 4, oN, oA (.iload_n 2) 23 2, oA (.iload_n 3) 24 3, (.invokevirtual 179, 27, 27, 2, 3, 0, 0, 0, 0, 0, [(0, 933)]), oN, oN, (.ireturn, 28, 0, 0, 0, 0, 0, 0, 0, 0, [])]]
def cd_So_till : List (List xop) := [[oA (.aload_n 0) 1 0, oF (.getfield 10) 4 0 0 2 601, oN, oN, oA (.iload_n 1) 5 1, (.invokevirtual 168, 8, 147, 1, 1, 2, 0, 0, 0, 0, [(0, 909)]), oN, oN, oA (.astore_n 3) 9 3, oA (.aload_n 0) 10 0, oF (.getfield 10) 13 0 0 2 601, oN, oN, oA (.iload_n 2) 14 2, (.invokevirtual 175, 17, 148, 1, 1, 2, 0, 0, 0, 0, [(0, 929)]), oN, oN, oA (.astore 4) 19 4, oN, oA (.aload_n 3) 20 3, oA (.ifnull 8) 23 28, oN, oN, oA (.aload 4) 25 4, oN, oA (.ifnonnull 5) 28 30, oN, oN, oK (.iconst (-1)) 29 (-1), (.ireturn, 30, 0, 0, 0, 0, 0, 0, 0, 0, []), oA (.aload_n 0) 31 0, oF (.getfield 36) 34 0 3 2 604],
  [oN, oN, oA (.aload_n 3) 35 3, (.invokevirtual 181, 38, 114, 1, 7, 3, 0, 0, 0, 0, [(0, 941)]), oN, oN, oA (.aload_n 0) 39 0, oF (.getfield 36) 42 0 3 2 604, oN, oN, oA (.aload_n 3) 43 3, oA (.aload 4) 45 4, oN, oA (.aload 4) 47 4, oN, oF (.getfield 184) 50 3 0 0 260, oN, oN, (.invokevirtual 187, 53, 115, 3, 7, 0, 0, 0, 0, 0, [(0, 949)]), oN, oN, (.ireturn, 54, 0, 0, 0, 0, 0, 0, 0, 0, [])]]
def cd_So_state : List (List xop) := [[oA (.aload_n 0) 1 0, oF (.getfield 10) 4 0 0 2 601, oN, oN, oA (.iload_n 1) 5 1, (.invokevirtual 168, 8, 147, 1, 1, 2, 0, 0, 0, 0, [(0, 909)]), oN, oN, oA (.astore 5) 10 5, oN, oA (.aload_n 0) 11 0, oF (.getfield 10) 14 0 0 2 601, oN, oN, oA (.iload_n 2) 15 2, (.invokevirtual 175, 18, 148, 1, 1, 2, 0, 0, 0, 0, [(0, 929)]), oN, oN, oA (.astore 6) 20 6, oN, oA (.aload 5) 22 5, oN, oA (.ifnull 21) 25 43, oN, oN, oA (.aload 6) 27 6, oN, oA (.ifnull 16) 30 43, oN, oN, oA (.iload_n 3) 31 3, oA (.ifCond .lt 12) 34 43],
  [oN, oN, oA (.iload_n 3) 35 3, oA (.aload 6) 37 6, oN, oF (.getfield 184) 40 3 0 0 260, oN, oN, oA (.if_icmp .le 6) 43 46, oN, oN, oK (.bipush (-2)) 45 (-2), oN, (.ireturn, 46, 0, 0, 0, 0, 0, 0, 0, 0, []), oA (.aload_n 0) 47 0, oF (.getfield 36) 50 0 3 2 604, oN, oN, oA (.aload 5) 52 5, oN, (.invokevirtual 181, 55, 114, 1, 7, 3, 0, 0, 0, 0, [(0, 941)]), oN, oN, oA (.aload_n 0) 56 0, oF (.getfield 36) 59 0 3 2 604, oN, oN, oA (.aload 5) 61 5, oN, oA (.aload 6) 63 6, oN, oA (.iload_n 3) 64 3],
  [(.invokevirtual 187, 67, 115, 3, 7, 0, 0, 0, 0, 0, [(0, 949)]), oN, oN, oA (.iload_n 3) 68 3, oA (.if_icmp .ge 8) 71 76, oN, oN, oK (.bipush (-2)) 73 (-2), oN, oA (.goto 14) 76 87, oN, oN, oA (.aload_n 0) 77 0, oF (.getfield 36) 80 0 3 2 604, oN, oN, oA (.aload 5) 82 5, oN, oA (.iload 4) 84 4, oN, (.invokevirtual 191, 87, 122, 2, 7, 0, 0, 0, 0, 0, [(0, 999)]), oN, oN, (.ireturn, 88, 0, 0, 0, 0, 0, 0, 0, 0, [])]]
def cd_So_drawn : List (List xop) := [[oA (.aload_n 0) 1 0, oF (.getfield 10) 4 0 0 2 601, oN, oN, oA (.iload_n 1) 5 1, (.invokevirtual 168, 8, 147, 1, 1, 2, 0, 0, 0, 0, [(0, 909)]), oN, oN, oA (.astore 5) 10 5, oN, oA (.aload 5) 12 5, oN, oA (.ifnull 13) 15 25, oN, oN, oA (.iload_n 3) 16 3, oA (.ifCond .lt 9) 19 25, oN, oN, oA (.iload_n 3) 20 3, oK (.bipush 60) 22 (60), oN, oA (.if_icmp .le 6) 25 28, oN, oN, oK (.bipush (-2)) 27 (-2), oN, (.ireturn, 28, 0, 0, 0, 0, 0, 0, 0, 0, []), oA (.aload_n 0) 29 0, oF (.getfield 36) 32 0 3 2 604, oN, oN],
  [oA (.aload 5) 34 5, oN, (.invokevirtual 181, 37, 114, 1, 7, 3, 0, 0, 0, 0, [(0, 941)]), oN, oN, oA (.aload_n 0) 38 0, oF (.getfield 36) 41 0 3 2 604, oN, oN, oA (.aload 5) 43 5, oN, oA (.iload_n 2) 44 2, oA (.iload_n 3) 45 3, (.invokevirtual 194, 48, 124, 3, 7, 3, 0, 0, 0, 0, [(0, 1011)]), oN, oN, oA (.aload_n 0) 49 0, oF (.getfield 36) 52 0 3 2 604, oN, oN, oA (.aload 5) 54 5, oN, oA (.iload 4) 56 4, oN, (.invokevirtual 191, 59, 122, 2, 7, 0, 0, 0, 0, 0, [(0, 999)]), oN, oN, (.ireturn, 60, 0, 0, 0, 0, 0, 0, 0, 0, [])]]
def cd_So_give : List (List xop) := [[oA (.aload_n 0) 1 0, oF (.getfield 10) 4 0 0 2 601, oN, oN, oA (.iload_n 1) 5 1, (.invokevirtual 168, 8, 147, 1, 1, 2, 0, 0, 0, 0, [(0, 909)]), oN, oN, oA (.astore 5) 10 5, oN, oA (.aload 5) 12 5, oN, oA (.ifnull 21) 15 33, oN, oN, oA (.iload_n 3) 16 3, (.invokestatic 198, 19, 169, 1, 0, 0, 0, 0, 0, 0, [(0, 1024)]), oN, oN, oA (.ifCond .eq 14) 22 33, oN, oN, oA (.aload 5) 24 5, oN, oA (.iload_n 2) 25 2, oA (.iload 4) 27 4, oN, (.invokevirtual 202, 30, 50, 2, 2, 0, 0, 0, 0, 0, [(0, 1027)]), oN, oN, oA (.ifCond .ne 5) 33 35, oN],
  [oN, oK (.iconst (-1)) 34 (-1), (.ireturn, 35, 0, 0, 0, 0, 0, 0, 0, 0, []), oA (.aload_n 0) 36 0, oF (.getfield 43) 39 0 4 2 605, oN, oN, oA (.aload 5) 41 5, oN, oA (.iload_n 2) 42 2, oA (.iload_n 3) 43 3, oA (.iload 4) 45 4, oN, (.invokevirtual 206, 48, 73, 4, 8, 0, 0, 0, 0, 0, [(0, 1031)]), oN, oN, (.ireturn, 49, 0, 0, 0, 0, 0, 0, 0, 0, [])]]
def cd_So_isSoup : List (List xop) := [[oA (.iload_n 0) 1 0, oA (.ifCond .lt 13) 4 14, oN, oN, oA (.iload_n 0) 5 0, oK (.bipush 100) 7 (100), oN, oA (.if_icmp .ge 7) 10 14, oN, oN, oK (.iconst 1) 11 (1), oA (.goto 4) 14 15, oN, oN, oK (.iconst 0) 15 (0), (.ireturn, 16, 0, 0, 0, 1, 0, 0, 0, 0, [])]]
def cd_So_mean : List (List xop) := [[oA (.aload_n 0) 1 0, oF (.getfield 10) 4 0 0 2 601, oN, oN, oA (.iload_n 1) 5 1, (.invokevirtual 168, 8, 147, 1, 1, 2, 0, 0, 0, 0, [(0, 909)]), oN, oN, oA (.astore 5) 10 5, oN, oA (.aload 5) 12 5, oN, oA (.ifnull 23) 15 35, oN, oN, oA (.iload_n 3) 16 3, (.invokestatic 198, 19, 169, 1, 0, 0, 0, 0, 0, 0, [(0, 1024)]), oN, oN, oA (.ifCond .eq 16) 22 35, oN, oN, oA (.iload_n 2) 23 2, oA (.ifCond .lt 12) 26 35, oN, oN, oA (.iload_n 2) 27 2, oA (.aload 5) 29 5, oN, oF (.getfield 210) 32 2 6 0 207, oN, oN],
  [oA (.if_icmp .le 7) 35 39, oN, oN, oL (.ldc2_w 213) 38 1058 (-1), oN, oN, o0 .lreturn 39, oA (.aload_n 0) 40 0, oF (.getfield 43) 43 0 4 2 605, oN, oN, oA (.aload 5) 45 5, oN, oA (.iload_n 2) 46 2, oA (.iload_n 3) 47 3, oA (.iload 4) 49 4, oN, (.invokevirtual 215, 52, 77, 4, 8, 1, 0, 0, 0, 0, [(0, 1059)]), oN, oN, o0 .lreturn 53]]
def cd_So_safe : List (List xop) := [[oA (.aload_n 0) 1 0, oF (.getfield 10) 4 0 0 2 601, oN, oN, oA (.iload_n 1) 5 1, (.invokevirtual 168, 8, 147, 1, 1, 2, 0, 0, 0, 0, [(0, 909)]), oN, oN, oA (.astore_n 2) 9 2, oA (.aload_n 2) 10 2, oA (.ifnonnull 7) 13 17, oN, oN, oK (.iconst (-1)) 14 (-1), oA (.goto 7) 17 21, oN, oN, oA (.aload_n 2) 18 2, (.invokevirtual 219, 21, 52, 0, 2, 0, 0, 0, 0, 0, [(0, 1073)]), oN, oN, (.ireturn, 22, 0, 0, 0, 0, 0, 0, 0, 0, [])]]
def cd_So_tells : List (List xop) := [[oA (.aload_n 0) 1 0, oF (.getfield 10) 4 0 0 2 601, oN, oN, oA (.iload_n 1) 5 1, (.invokevirtual 168, 8, 147, 1, 1, 2, 0, 0, 0, 0, [(0, 909)]), oN, oN, oA (.astore 5) 10 5, oN, oA (.aload 5) 12 5, oN, oA (.ifnull 20) 15 32, oN, oN, oA (.iload_n 2) 16 2, (.invokestatic 198, 19, 169, 1, 0, 0, 0, 0, 0, 0, [(0, 1024)]), oN, oN, oA (.ifCond .eq 13) 22 32, oN, oN, oA (.aload 5) 24 5, oN, oK (.iconst 0) 25 (0), oA (.iload_n 3) 26 3, (.invokevirtual 202, 29, 50, 2, 2, 0, 0, 0, 0, 0, [(0, 1027)]), oN, oN, oA (.ifCond .ne 7) 32 36, oN, oN],
  [oL (.ldc2_w 213) 35 1058 (-1), oN, oN, o0 .lreturn 36, oA (.aload_n 0) 37 0, oF (.getfield 43) 40 0 4 2 605, oN, oN, oA (.aload 5) 42 5, oN, oA (.iload_n 2) 43 2, oA (.iload_n 3) 44 3, oA (.iload 4) 46 4, oN, (.invokevirtual 223, 49, 78, 4, 8, 1, 0, 0, 0, 0, [(0, 1081)]), oN, oN, o0 .lreturn 50]]
def cd_So_lack : List (List xop) := [[oA (.aload_n 0) 1 0, oF (.getfield 10) 4 0 0 2 601, oN, oN, oA (.iload_n 1) 5 1, (.invokevirtual 168, 8, 147, 1, 1, 2, 0, 0, 0, 0, [(0, 909)]), oN, oN, oA (.astore 4) 10 4, oN, oA (.aload 4) 12 4, oN, oA (.ifnull 10) 15 22, oN, oN, oA (.iload_n 2) 16 2, (.invokestatic 198, 19, 169, 1, 0, 0, 0, 0, 0, 0, [(0, 1024)]), oN, oN, oA (.ifCond .ne 9) 22 28, oN, oN, oL (.ldc2_w 213) 25 1058 (-1), oN, oN, oA (.goto 14) 28 39, oN, oN, oA (.aload_n 0) 29 0, oF (.getfield 43) 32 0 4 2 605, oN, oN],
  [oA (.aload 4) 34 4, oN, oA (.iload_n 2) 35 2, oA (.iload_n 3) 36 3, (.invokevirtual 226, 39, 79, 3, 8, 1, 0, 0, 0, 0, [(0, 1090)]), oN, oN, o0 .lreturn 40]]
def cd_So_way : List (List xop) := [[oA (.aload_n 0) 1 0, oF (.getfield 10) 4 0 0 2 601, oN, oN, oA (.iload_n 1) 5 1, (.invokevirtual 168, 8, 147, 1, 1, 2, 0, 0, 0, 0, [(0, 909)]), oN, oN, oA (.astore_n 3) 9 3, oA (.aload_n 3) 10 3, oA (.ifnonnull 5) 13 15, oN, oN, oK (.iconst (-1)) 14 (-1), (.ireturn, 15, 0, 0, 0, 0, 0, 0, 0, 0, []), oA (.aload_n 0) 16 0, oF (.getfield 50) 19 0 5 2 606, oN, oN, oA (.aload_n 3) 20 3, (.invokevirtual 230, 23, 83, 1, 9, 3, 0, 0, 0, 0, [(0, 1105)]), oN, oN, oA (.iload_n 2) 24 2, oK (.iconst (-1)) 25 (-1), oA (.if_icmp .ne 11) 28 36, oN, oN, oA (.aload_n 0) 29 0, oF (.getfield 50) 32 0 5 2 606, oN, oN],
  [oF (.getfield 233) 35 9 11 0 529, oN, oN, (.ireturn, 36, 0, 0, 0, 0, 0, 0, 0, 0, []), oA (.iload_n 2) 37 2, oK (.bipush (-2)) 39 (-2), oN, oA (.if_icmp .ne 11) 42 50, oN, oN, oA (.aload_n 0) 43 0, oF (.getfield 50) 46 0 5 2 606, oN, oN, oF (.getfield 236) 49 9 12 0 531, oN, oN, (.ireturn, 50, 0, 0, 0, 0, 0, 0, 0, 0, []), oA (.iload_n 2) 51 2, oA (.ifCond .lt 14) 54 65, oN, oN, oA (.iload_n 2) 55 2, oA (.aload_n 0) 56 0, oF (.getfield 50) 59 0 5 2 606, oN, oN, oF (.getfield 239) 62 9 10 0 527, oN, oN, oA (.if_icmp .lt 7) 65 69, oN],
  [oN, oK (.iconst (-1)) 66 (-1), oA (.goto 12) 69 78, oN, oN, oA (.aload_n 0) 70 0, oF (.getfield 50) 73 0 5 2 606, oN, oN, oF (.getfield 242) 76 9 9 2 525, oN, oN, oA (.iload_n 2) 77 2, o0 .iaload 78, (.ireturn, 79, 0, 0, 0, 0, 0, 0, 0, 0, [])]]
def cd_So_round : List (List xop) := [[oA (.aload_n 0) 1 0, oF (.getfield 10) 4 0 0 2 601, oN, oN, oA (.iload_n 1) 5 1, (.invokevirtual 168, 8, 147, 1, 1, 2, 0, 0, 0, 0, [(0, 909)]), oN, oN, oA (.astore_n 3) 9 3, oA (.aload_n 3) 10 3, oA (.ifnonnull 5) 13 15, oN, oN, oK (.iconst (-1)) 14 (-1), (.ireturn, 15, 0, 0, 0, 0, 0, 0, 0, 0, []), oA (.aload_n 0) 16 0, oF (.getfield 50) 19 0 5 2 606, oN, oN, oA (.aload_n 3) 20 3, (.invokevirtual 230, 23, 83, 1, 9, 3, 0, 0, 0, 0, [(0, 1105)]), oN, oN, oA (.iload_n 2) 24 2, oK (.iconst (-1)) 25 (-1), oA (.if_icmp .ne 19) 28 44, oN, oN, oA (.aload_n 0) 29 0, oF (.getfield 50) 32 0 5 2 606, oN, oN],
  [oF (.getfield 245) 35 9 4 2 517, oN, oN, oA (.aload_n 0) 36 0, oF (.getfield 50) 39 0 5 2 606, oN, oN, oF (.getfield 248) 42 9 1 0 513, oN, oN, o0 .iaload 43, (.ireturn, 44, 0, 0, 0, 0, 0, 0, 0, 0, []), oA (.iload_n 2) 45 2, oA (.ifCond .lt 11) 48 56, oN, oN, oA (.iload_n 2) 49 2, oA (.aload_n 3) 50 3, oF (.getfield 210) 53 2 6 0 207, oN, oN, oA (.if_icmp .lt 7) 56 60, oN, oN, oK (.iconst (-1)) 57 (-1), oA (.goto 12) 60 69, oN, oN, oA (.aload_n 0) 61 0, oF (.getfield 50) 64 0 5 2 606, oN, oN],
  [oF (.getfield 251) 67 9 8 2 523, oN, oN, oA (.iload_n 2) 68 2, o0 .iaload 69, (.ireturn, 70, 0, 0, 0, 0, 0, 0, 0, 0, [])]]
def cd_So_talks : List (List xop) := [[oA (.aload_n 0) 1 0, oF (.getfield 10) 4 0 0 2 601, oN, oN, oA (.iload_n 1) 5 1, (.invokevirtual 168, 8, 147, 1, 1, 2, 0, 0, 0, 0, [(0, 909)]), oN, oN, oA (.astore_n 2) 9 2, oA (.aload_n 2) 10 2, oA (.ifnonnull 5) 13 15, oN, oN, oK (.iconst (-1)) 14 (-1), (.ireturn, 15, 0, 0, 0, 0, 0, 0, 0, 0, []), oA (.aload_n 0) 16 0, oF (.getfield 50) 19 0 5 2 606, oN, oN, oA (.aload_n 2) 20 2, (.invokevirtual 230, 23, 83, 1, 9, 3, 0, 0, 0, 0, [(0, 1105)]), oN, oN, oA (.aload_n 0) 24 0, oF (.getfield 50) 27 0 5 2 606, oN, oN, oA (.aload_n 2) 28 2, (.invokevirtual 254, 31, 97, 1, 9, 0, 0, 0, 0, 0, [(0, 1172)]), oN, oN, (.ireturn, 32, 0, 0, 0, 0, 0, 0, 0, 0, [])]]
def cd_So_lost : List (List xop) := [[oA (.aload_n 0) 1 0, oF (.getfield 10) 4 0 0 2 601, oN, oN, oA (.iload_n 1) 5 1, (.invokevirtual 168, 8, 147, 1, 1, 2, 0, 0, 0, 0, [(0, 909)]), oN, oN, oA (.astore_n 3) 9 3, oA (.aload_n 3) 10 3, oA (.ifnull 11) 13 21, oN, oN, oA (.aload_n 3) 14 3, oA (.iload_n 2) 15 2, (.invokevirtual 258, 18, 44, 1, 2, 0, 0, 0, 0, 0, [(0, 1184)]), oN, oN, oA (.ifCond .ne 5) 21 23, oN, oN, oK (.iconst (-1)) 22 (-1), (.ireturn, 23, 0, 0, 0, 0, 0, 0, 0, 0, []), oA (.aload_n 0) 24 0, oF (.getfield 50) 27 0 5 2 606, oN, oN, oA (.aload_n 3) 28 3, (.invokevirtual 230, 31, 83, 1, 9, 3, 0, 0, 0, 0, [(0, 1105)]), oN, oN, oA (.aload_n 0) 32 0],
  [oF (.getfield 50) 35 0 5 2 606, oN, oN, oF (.getfield 233) 38 9 11 0 529, oN, oN, oA (.aload_n 0) 39 0, oF (.getfield 50) 42 0 5 2 606, oN, oN, oA (.aload_n 3) 43 3, oA (.iload_n 2) 44 2, (.invokevirtual 261, 47, 99, 2, 9, 0, 0, 0, 0, 0, [(0, 1185)]), oN, oN, o0 .isub 48, (.ireturn, 49, 0, 0, 0, 0, 0, 0, 0, 0, [])]]
def cd_So_depot : List (List xop) := [[oA (.aload_n 0) 1 0, oF (.getfield 10) 4 0 0 2 601, oN, oN, oA (.iload_n 1) 5 1, (.invokevirtual 168, 8, 147, 1, 1, 2, 0, 0, 0, 0, [(0, 909)]), oN, oN, oA (.astore_n 3) 9 3, oA (.aload_n 3) 10 3, oA (.ifnonnull 5) 13 15, oN, oN, oK (.iconst (-1)) 14 (-1), (.ireturn, 15, 0, 0, 0, 0, 0, 0, 0, 0, []), oK (.iconst 0) 16 (0), oA (.istore 4) 18 4, oN, oA (.aload_n 3) 19 3, oK (.iconst 0) 20 (0), (.invokevirtual 264, 23, 53, 1, 2, 0, 0, 0, 0, 0, [(0, 1193)]), oN, oN, oA (.istore 5) 25 5, oN, oK (.iconst 1) 26 (1), oA (.istore 6) 28 6, oN, oA (.iload 6) 30 6, oN, oK (.bipush 100) 32 (100), oN],
  [oA (.if_icmp .ge 32) 35 64, oN, oN, oA (.aload_n 3) 36 3, oA (.iload 6) 38 6, oN, (.invokevirtual 264, 41, 53, 1, 2, 0, 0, 0, 0, 0, [(0, 1193)]), oN, oN, oA (.istore 7) 43 7, oN, oA (.iload 7) 45 7, oN, oA (.iload 5) 47 5, oN, oA (.if_icmp .ge 11) 50 58, oN, oN, oA (.iload 7) 52 7, oN, oA (.istore 5) 54 5, oN, oA (.iload 6) 56 6, oN, oA (.istore 4) 58 4, oN, oC (.iinc 6 1) 61 6 0 (1), oN, oN, oA (.goto (-33)) 64 28, oN, oN],
  [oA (.iload_n 2) 65 2, oA (.ifCond .eq 8) 68 73, oN, oN, oA (.iload 5) 70 5, oN, oA (.goto 5) 73 75, oN, oN, oA (.iload 4) 75 4, oN, (.ireturn, 76, 0, 0, 0, 0, 0, 0, 0, 0, [])]]
def cd_So_vans : List (List xop) := [[oA (.aload_n 0) 1 0, oF (.getfield 10) 4 0 0 2 601, oN, oN, oA (.iload_n 1) 5 1, (.invokevirtual 168, 8, 147, 1, 1, 2, 0, 0, 0, 0, [(0, 909)]), oN, oN, oA (.astore_n 3) 9 3, oA (.aload_n 3) 10 3, oA (.ifnonnull 5) 13 15, oN, oN, oK (.iconst (-1)) 14 (-1), (.ireturn, 15, 0, 0, 0, 0, 0, 0, 0, 0, []), oA (.aload_n 0) 16 0, oF (.getfield 50) 19 0 5 2 606, oN, oN, oA (.aload_n 3) 20 3, (.invokevirtual 230, 23, 83, 1, 9, 3, 0, 0, 0, 0, [(0, 1105)]), oN, oN, oA (.aload_n 0) 24 0, oF (.getfield 50) 27 0 5 2 606, oN, oN, (.invokevirtual 267, 30, 100, 0, 9, 0, 0, 0, 0, 0, [(0, 1202)]), oN, oN, oA (.istore 4) 32 4, oN],
  [oA (.iload_n 2) 33 2, oA (.ifCond .eq 8) 36 41, oN, oN, oA (.iload 4) 38 4, oN, oA (.goto 12) 41 50, oN, oN, oA (.aload_n 0) 42 0, oF (.getfield 50) 45 0 5 2 606, oN, oN, oA (.iload 4) 47 4, oN, (.invokevirtual 270, 50, 101, 1, 9, 0, 0, 0, 0, 0, [(0, 1211)]), oN, oN, (.ireturn, 51, 0, 0, 0, 0, 0, 0, 0, 0, [])]]
def cd_So_trail : List (List xop) := [[oA (.aload_n 0) 1 0, oF (.getfield 10) 4 0 0 2 601, oN, oN, oA (.iload_n 1) 5 1, (.invokevirtual 168, 8, 147, 1, 1, 2, 0, 0, 0, 0, [(0, 909)]), oN, oN, oA (.astore 4) 10 4, oN, oA (.aload 4) 12 4, oN, oA (.ifnull 12) 15 24, oN, oN, oA (.aload 4) 17 4, oN, oA (.iload_n 2) 18 2, (.invokevirtual 258, 21, 44, 1, 2, 0, 0, 0, 0, 0, [(0, 1184)]), oN, oN, oA (.ifCond .ne 7) 24 28, oN, oN, oK (.iconst (-1)) 25 (-1), oA (.goto 10) 28 35, oN, oN, oA (.aload 4) 30 4, oN, oA (.iload_n 2) 31 2, oA (.iload_n 3) 32 3],
  [(.invokevirtual 273, 35, 54, 2, 2, 0, 0, 0, 0, 0, [(0, 1216)]), oN, oN, (.ireturn, 36, 0, 0, 0, 0, 0, 0, 0, 0, [])]]
def cd_So_chat : List (List xop) := [[oA (.aload_n 0) 1 0, oF (.getfield 10) 4 0 0 2 601, oN, oN, oA (.iload_n 1) 5 1, (.invokevirtual 168, 8, 147, 1, 1, 2, 0, 0, 0, 0, [(0, 909)]), oN, oN, oA (.astore_n 3) 9 3, oA (.aload_n 3) 10 3, oA (.ifnonnull 5) 13 15, oN, oN, oK (.iconst (-1)) 14 (-1), (.ireturn, 15, 0, 0, 0, 0, 0, 0, 0, 0, []), oA (.aload_n 0) 16 0, oF (.getfield 50) 19 0 5 2 606, oN, oN, oA (.aload_n 3) 20 3, (.invokevirtual 230, 23, 83, 1, 9, 3, 0, 0, 0, 0, [(0, 1105)]), oN, oN, oA (.aload_n 0) 24 0, oF (.getfield 50) 27 0 5 2 606, oN, oN, oA (.aload_n 3) 28 3, (.invokevirtual 277, 31, 102, 1, 9, 0, 0, 0, 0, 0, [(0, 1230)]), oN, oN, oA (.istore 4) 33 4],
  [oN, oA (.iload_n 2) 34 2, oA (.ifCond .eq 8) 37 42, oN, oN, oA (.iload 4) 39 4, oN, oA (.goto 13) 42 52, oN, oN, oA (.aload_n 0) 43 0, oF (.getfield 50) 46 0 5 2 606, oN, oN, oF (.getfield 280) 49 9 5 2 519, oN, oN, oA (.iload 4) 51 4, oN, o0 .iaload 52, (.ireturn, 53, 0, 0, 0, 0, 0, 0, 0, 0, [])]]
def cd_So_book : List (List xop) := [[oA (.aload_n 0) 1 0, oF (.getfield 10) 4 0 0 2 601, oN, oN, oA (.iload_n 1) 5 1, (.invokevirtual 283, 8, 149, 1, 1, 2, 0, 0, 0, 0, [(0, 1239)]), oN, oN, oA (.astore 4) 10 4, oN, oA (.aload 4) 12 4, oN, oA (.ifnonnull 7) 15 19, oN, oN, oK (.iconst (-1)) 16 (-1), oA (.goto 10) 19 26, oN, oN, oA (.aload 4) 21 4, oN, oA (.iload_n 2) 22 2, oA (.iload_n 3) 23 3, (.invokevirtual 287, 26, 60, 2, 4, 0, 0, 0, 0, 0, [(0, 1243)]), oN, oN, (.ireturn, 27, 0, 0, 0, 0, 0, 0, 0, 0, [])]]
def cd_So_held : List (List xop) := [[oA (.aload_n 0) 1 0, oF (.getfield 10) 4 0 0 2 601, oN, oN, oA (.iload_n 1) 5 1, (.invokevirtual 283, 8, 149, 1, 1, 2, 0, 0, 0, 0, [(0, 1239)]), oN, oN, oA (.astore_n 3) 9 3, oA (.aload_n 3) 10 3, oA (.ifnonnull 6) 13 16, oN, oN, oK (.bipush (-2)) 15 (-2), oN, (.ireturn, 16, 0, 0, 0, 0, 0, 0, 0, 0, []), oA (.iload_n 2) 17 2, oS (.tableswitch 83 0 5 #[39, 48, 48, 63, 68, 68]) 56 100 [((0), 56), ((1), 65), ((2), 65), ((3), 80), ((4), 85), ((5), 85)], oN, oN, oN, oN, oN, oN, oN, oN, oN, oN, oN, oN, oN, oN],
  [oN, oN, oN, oN, oN, oN, oN, oN, oN, oN, oN, oN, oN, oN, oN, oN, oN, oN, oN, oN, oN, oN, oN, oN, oA (.aload_n 3) 57 3, oA (.aload_n 3) 58 3, oF (.getfield 288) 61 4 0 0 281, oN, oN, (.invokevirtual 291, 64, 61, 1, 4, 0, 0, 0, 0, 0, [(0, 1251)]), oN, oN],
  [(.ireturn, 65, 0, 0, 0, 0, 0, 0, 0, 0, []), oA (.aload_n 3) 66 3, oA (.iload_n 2) 67 2, oK (.iconst 2) 68 (2), oA (.if_icmp .ne 7) 71 75, oN, oN, oK (.iconst 1) 72 (1), oA (.goto 4) 75 76, oN, oN, oK (.iconst 0) 76 (0), (.invokevirtual 294, 79, 62, 1, 4, 0, 0, 0, 0, 0, [(0, 1255)]), oN, oN, (.ireturn, 80, 0, 0, 0, 0, 0, 0, 0, 0, []), oA (.aload_n 3) 81 3, (.invokevirtual 298, 84, 63, 0, 4, 0, 0, 0, 0, 0, [(0, 1261)]), oN, oN, (.ireturn, 85, 0, 0, 0, 0, 0, 0, 0, 0, []), oA (.aload_n 3) 86 3, oA (.iload_n 2) 87 2, oK (.iconst 5) 88 (5), oA (.if_icmp .ne 7) 91 95, oN, oN, oK (.iconst 1) 92 (1), oA (.goto 4) 95 96, oN, oN, oK (.iconst 0) 96 (0)],
  [(.invokevirtual 301, 99, 66, 1, 4, 0, 0, 0, 0, 0, [(0, 1273)]), oN, oN, (.ireturn, 100, 0, 0, 0, 0, 0, 0, 0, 0, []), oK (.bipush (-2)) 102 (-2), oN, (.ireturn, 103, 0, 0, 0, 0, 0, 0, 0, 0, [])]]
def cd_So_bring : List (List xop) := [[oA (.aload_n 0) 1 0, oF (.getfield 10) 4 0 0 2 601, oN, oN, oA (.iload_n 1) 5 1, (.invokevirtual 283, 8, 149, 1, 1, 2, 0, 0, 0, 0, [(0, 1239)]), oN, oN, oA (.astore 4) 10 4, oN, oA (.aload 4) 12 4, oN, oA (.ifnull 24) 15 36, oN, oN, oA (.iload_n 2) 16 2, (.invokestatic 304, 19, 156, 1, 0, 0, 0, 0, 0, 0, [(0, 1282)]), oN, oN, oA (.ifCond .eq 17) 22 36, oN, oN, oA (.iload_n 3) 23 3, oK (.iconst 1) 24 (1), oA (.if_icmp .lt 12) 27 36, oN, oN, oA (.iload_n 3) 28 3, oA (.aload 4) 30 4, oN, oF (.getfield 288) 33 4 0 0 281, oN],
  [oN, oA (.if_icmp .le 5) 36 38, oN, oN, oK (.iconst (-1)) 37 (-1), (.ireturn, 38, 0, 0, 0, 0, 0, 0, 0, 0, []), oA (.aload 4) 40 4, oN, oA (.iload_n 2) 41 2, oA (.iload_n 3) 42 3, (.invokevirtual 307, 45, 67, 2, 4, 0, 0, 0, 0, 0, [(0, 1283)]), oN, oN, (.ireturn, 46, 0, 0, 0, 0, 0, 0, 0, 0, [])]]
def cd_So_span : List (List xop) := [[oA (.aload_n 0) 1 0, oF (.getfield 10) 4 0 0 2 601, oN, oN, oA (.iload_n 1) 5 1, (.invokevirtual 283, 8, 149, 1, 1, 2, 0, 0, 0, 0, [(0, 1239)]), oN, oN, oA (.astore 4) 10 4, oN, oA (.aload 4) 12 4, oN, oA (.ifnull 18) 15 30, oN, oN, oA (.iload_n 2) 16 2, (.invokestatic 304, 19, 156, 1, 0, 0, 0, 0, 0, 0, [(0, 1282)]), oN, oN, oA (.ifCond .eq 11) 22 30, oN, oN, oA (.aload 4) 24 4, oN, oF (.getfield 288) 27 4 0 0 281, oN, oN, oA (.ifCond .ne 5) 30 32, oN, oN, oK (.iconst (-1)) 31 (-1), (.ireturn, 32, 0, 0, 0, 0, 0, 0, 0, 0, [])],
  [oA (.aload 4) 34 4, oN, oA (.iload_n 2) 35 2, oA (.iload_n 3) 36 3, oA (.ifCond .eq 11) 39 47, oN, oN, oA (.aload 4) 41 4, oN, oF (.getfield 288) 44 4 0 0 281, oN, oN, oA (.goto 4) 47 48, oN, oN, oK (.iconst 1) 48 (1), (.invokevirtual 307, 51, 67, 2, 4, 0, 0, 0, 0, 0, [(0, 1283)]), oN, oN, (.ireturn, 52, 0, 0, 0, 0, 0, 0, 0, 0, [])]]
def cd_So_lot : List (List xop) := [[oA (.aload_n 0) 1 0, oF (.getfield 10) 4 0 0 2 601, oN, oN, oA (.iload_n 1) 5 1, (.invokevirtual 283, 8, 149, 1, 1, 2, 0, 0, 0, 0, [(0, 1239)]), oN, oN, oA (.astore 4) 10 4, oN, oA (.aload_n 0) 11 0, oF (.getfield 10) 14 0 0 2 601, oN, oN, oA (.iload_n 2) 15 2, (.invokevirtual 283, 18, 149, 1, 1, 2, 0, 0, 0, 0, [(0, 1239)]), oN, oN, oA (.astore 5) 20 5, oN, oA (.aload 4) 22 4, oN, oA (.ifnull 8) 25 30, oN, oN, oA (.aload 5) 27 5, oN, oA (.ifnonnull 9) 30 36, oN, oN, oL (.ldc2_w 213) 33 1058 (-1), oN],
  [oN, oA (.goto 15) 36 48, oN, oN, oA (.aload 4) 38 4, oN, oA (.aload 5) 40 5, oN, oA (.aload_n 0) 41 0, oF (.getfield 67) 44 0 7 2 608, oN, oN, oA (.iload_n 3) 45 3, (.invokevirtual 310, 48, 68, 3, 4, 1, 0, 0, 0, 0, [(0, 1295)]), oN, oN, o0 .lreturn 49]]
def cd_So_like : List (List xop) := [[oA (.aload_n 0) 1 0, oF (.getfield 10) 4 0 0 2 601, oN, oN, oA (.iload_n 1) 5 1, (.invokevirtual 283, 8, 149, 1, 1, 2, 0, 0, 0, 0, [(0, 1239)]), oN, oN, oA (.astore 4) 10 4, oN, oA (.aload_n 0) 11 0, oF (.getfield 10) 14 0 0 2 601, oN, oN, oA (.iload_n 2) 15 2, (.invokevirtual 283, 18, 149, 1, 1, 2, 0, 0, 0, 0, [(0, 1239)]), oN, oN, oA (.astore 5) 20 5, oN, oA (.aload 4) 22 4, oN, oA (.ifnull 15) 25 37, oN, oN, oA (.aload 5) 27 5, oN, oA (.ifnull 10) 30 37, oN, oN, oA (.iload_n 3) 31 3, (.invokestatic 304, 34, 156, 1, 0, 0, 0, 0, 0, 0, [(0, 1282)])],
  [oN, oN, oA (.ifCond .ne 5) 37 39, oN, oN, oK (.iconst (-1)) 38 (-1), (.ireturn, 39, 0, 0, 0, 0, 0, 0, 0, 0, []), oA (.aload 4) 41 4, oN, oA (.aload 5) 43 5, oN, oA (.iload_n 3) 44 3, (.invokevirtual 314, 47, 70, 2, 4, 0, 0, 0, 0, 0, [(0, 1311)]), oN, oN, (.ireturn, 48, 0, 0, 0, 0, 0, 0, 0, 0, [])]]
def cd_So_list : List (List xop) := [[oA (.aload_n 0) 1 0, oF (.getfield 10) 4 0 0 2 601, oN, oN, oA (.iload_n 1) 5 1, (.invokevirtual 318, 8, 150, 1, 1, 2, 0, 0, 0, 0, [(0, 1319)]), oN, oN, oA (.astore_n 3) 9 3, oA (.aload_n 3) 10 3, oA (.ifnonnull 7) 13 17, oN, oN, oK (.iconst (-1)) 14 (-1), oA (.goto 8) 17 22, oN, oN, oA (.aload_n 3) 18 3, oA (.iload_n 2) 19 2, (.invokevirtual 322, 22, 34, 1, 5, 0, 0, 0, 0, 0, [(0, 1323)]), oN, oN, (.ireturn, 23, 0, 0, 0, 0, 0, 0, 0, 0, [])]]
def cd_So_shod : List (List xop) := [[oA (.aload_n 0) 1 0, oF (.getfield 10) 4 0 0 2 601, oN, oN, oA (.iload_n 1) 5 1, (.invokevirtual 318, 8, 150, 1, 1, 2, 0, 0, 0, 0, [(0, 1319)]), oN, oN, oA (.astore_n 3) 9 3, oA (.aload_n 3) 10 3, oA (.ifnonnull 5) 13 15, oN, oN, oK (.iconst (-1)) 14 (-1), (.ireturn, 15, 0, 0, 0, 0, 0, 0, 0, 0, []), oA (.aload_n 0) 16 0, oF (.getfield 57) 19 0 6 2 607, oN, oN, oA (.aload_n 3) 20 3, (.invokevirtual 323, 23, 105, 1, 10, 3, 0, 0, 0, 0, [(0, 1335)]), oN, oN, oA (.iload_n 2) 24 2, oK (.iconst (-1)) 25 (-1), oA (.if_icmp .ne 13) 28 38, oN, oN, oA (.aload_n 0) 29 0, oF (.getfield 57) 32 0 6 2 607, oN, oN],
  [oF (.getfield 325) 35 10 1 2 570, oN, oN, oK (.iconst 0) 36 (0), o0 .iaload 37, (.ireturn, 38, 0, 0, 0, 0, 0, 0, 0, 0, []), oA (.iload_n 2) 39 2, oA (.ifCond .lt 11) 42 50, oN, oN, oA (.iload_n 2) 43 2, oA (.aload_n 3) 44 3, oF (.getfield 328) 47 5 1 0 306, oN, oN, oA (.if_icmp .lt 7) 50 54, oN, oN, oK (.iconst (-1)) 51 (-1), oA (.goto 12) 54 63, oN, oN, oA (.aload_n 0) 55 0, oF (.getfield 57) 58 0 6 2 607, oN, oN, oF (.getfield 331) 61 10 2 2 572, oN, oN, oA (.iload_n 2) 62 2, o0 .iaload 63, (.ireturn, 64, 0, 0, 0, 0, 0, 0, 0, 0, [])]]
def cd_So_look : List (List xop) := [[oA (.aload_n 0) 1 0, oF (.getfield 10) 4 0 0 2 601, oN, oN, oA (.iload_n 1) 5 1, (.invokevirtual 318, 8, 150, 1, 1, 2, 0, 0, 0, 0, [(0, 1319)]), oN, oN, oA (.astore_n 3) 9 3, oA (.aload_n 3) 10 3, oA (.ifnonnull 5) 13 15, oN, oN, oK (.iconst (-1)) 14 (-1), (.ireturn, 15, 0, 0, 0, 0, 0, 0, 0, 0, []), oA (.aload_n 0) 16 0, oF (.getfield 57) 19 0 6 2 607, oN, oN, oA (.aload_n 3) 20 3, (.invokevirtual 323, 23, 105, 1, 10, 3, 0, 0, 0, 0, [(0, 1335)]), oN, oN, oA (.aload_n 0) 24 0, oF (.getfield 57) 27 0 6 2 607, oN, oN, oF (.getfield 334) 30 10 6 0 578, oN, oN, oA (.ifCond .ne 5) 33 35, oN],
  [oN, oK (.iconst (-1)) 34 (-1), (.ireturn, 35, 0, 0, 0, 0, 0, 0, 0, 0, []), oA (.iload_n 2) 36 2, oK (.iconst (-1)) 37 (-1), oA (.if_icmp .eq 9) 40 46, oN, oN, oA (.iload_n 2) 41 2, oK (.bipush (-2)) 43 (-2), oN, oA (.if_icmp .ne 35) 46 78, oN, oN, oA (.aload_n 0) 47 0, oF (.getfield 57) 50 0 6 2 607, oN, oN, oF (.getfield 337) 53 10 7 0 580, oN, oN, o0 .i2l 54, oA (.aload_n 0) 55 0, oF (.getfield 57) 58 0 6 2 607, oN, oN, oF (.getfield 334) 61 10 6 0 578, oN, oN, o0 .i2l 62, oA (.iload_n 2) 63 2, oK (.bipush (-2)) 65 (-2)],
  [oN, oA (.if_icmp .ne 7) 68 72, oN, oN, oK (.iconst 1) 69 (1), oA (.goto 4) 72 73, oN, oN, oK (.iconst 0) 73 (0), (.invokestatic 340, 76, 19, 3, 0, 1, 0, 0, 0, 0, [(0, 1383)]), oN, oN, o0 .l2i 77, (.ireturn, 78, 0, 0, 0, 0, 0, 0, 0, 0, []), oA (.iload_n 2) 79 2, oA (.ifCond .lt 11) 82 90, oN, oN, oA (.iload_n 2) 83 2, oA (.aload_n 3) 84 3, oF (.getfield 346) 87 5 2 0 310, oN, oN, oA (.if_icmp .lt 7) 90 94, oN, oN, oK (.iconst (-1)) 91 (-1), oA (.goto 12) 94 103, oN, oN, oA (.aload_n 0) 95 0, oF (.getfield 57) 98 0 6 2 607],
  [oN, oN, oF (.getfield 349) 101 10 5 2 576, oN, oN, oA (.iload_n 2) 102 2, o0 .iaload 103, (.ireturn, 104, 0, 0, 0, 0, 0, 0, 0, 0, [])]]
def cd_So_worry : List (List xop) := [[oA (.iload_n 1) 1 1, (.invokestatic 352, 4, 192, 1, 0, 0, 0, 0, 0, 0, [(0, 1388)]), oN, oN, oA (.ifCond .eq 20) 7 24, oN, oN, oA (.iload_n 2) 8 2, (.invokestatic 355, 11, 193, 1, 0, 0, 0, 0, 0, 0, [(0, 1391)]), oN, oN, oA (.ifCond .eq 13) 14 24, oN, oN, oA (.iload_n 3) 15 3, oA (.ifCond .lt 9) 18 24, oN, oN, oA (.iload_n 3) 19 3, oK (.bipush 9) 21 (9), oN, oA (.if_icmp .le 7) 24 28, oN, oN, oL (.ldc2_w 213) 27 1058 (-1), oN, oN, o0 .lreturn 28, oA (.iload_n 2) 29 2, oA (.iload_n 3) 30 3, (.invokestatic 358, 33, 194, 2, 0, 1, 0, 0, 0, 0, [(0, 1394)]), oN],
  [oN, oA (.iload_n 1) 34 1, oA (.iload_n 2) 35 2, oA (.iload_n 3) 36 3, (.invokestatic 362, 39, 195, 3, 0, 1, 0, 0, 0, 0, [(0, 1400)]), oN, oN, oA (.iload 4) 41 4, oN, (.invokestatic 366, 44, 22, 3, 0, 1, 0, 0, 0, 0, [(0, 1403)]), oN, oN, o0 .lreturn 45]]
def cd_So_isOfTen : List (List xop) := [[oA (.iload_n 0) 1 0, oA (.ifCond .lt 13) 4 14, oN, oN, oA (.iload_n 0) 5 0, oK (.bipush 10) 7 (10), oN, oA (.if_icmp .gt 7) 10 14, oN, oN, oK (.iconst 1) 11 (1), oA (.goto 4) 14 15, oN, oN, oK (.iconst 0) 15 (0), (.ireturn, 16, 0, 0, 0, 1, 0, 0, 0, 0, [])]]
def cd_So_isOfHundred : List (List xop) := [[oA (.iload_n 0) 1 0, oA (.ifCond .lt 13) 4 14, oN, oN, oA (.iload_n 0) 5 0, oK (.bipush 100) 7 (100), oN, oA (.if_icmp .gt 7) 10 14, oN, oN, oK (.iconst 1) 11 (1), oA (.goto 4) 14 15, oN, oN, oK (.iconst 0) 15 (0), (.ireturn, 16, 0, 0, 0, 1, 0, 0, 0, 0, [])]]
def cd_So_unwell : List (List xop) := [[oA (.iload_n 0) 1 0, o0 .i2l 2, oK (.bipush 10) 4 (10), oN, oA (.iload_n 1) 5 1, (.invokestatic 373, 8, 21, 2, 0, 1, 0, 0, 0, 0, [(0, 1397)]), oN, oN, o0 .lmul 9, o0 .lreturn 10]]
def cd_So_wellButAway : List (List xop) := [[oK (.bipush 100) 2 (100), oN, oA (.iload_n 1) 3 1, o0 .isub 4, o0 .i2l 5, oK (.bipush 10) 7 (10), oN, oA (.iload_n 0) 8 0, o0 .isub 9, oA (.iload_n 2) 10 2, (.invokestatic 373, 13, 21, 2, 0, 1, 0, 0, 0, 0, [(0, 1397)]), oN, oN, o0 .lmul 14, o0 .lreturn 15]]
def cd_So_when : List (List xop) := [[oA (.iload_n 1) 1 1, (.invokestatic 352, 4, 192, 1, 0, 0, 0, 0, 0, 0, [(0, 1388)]), oN, oN, oA (.ifCond .eq 17) 7 21, oN, oN, oA (.iload_n 2) 8 2, (.invokestatic 355, 11, 193, 1, 0, 0, 0, 0, 0, 0, [(0, 1391)]), oN, oN, oA (.ifCond .eq 10) 14 21, oN, oN, oA (.iload_n 3) 15 3, (.invokestatic 352, 18, 192, 1, 0, 0, 0, 0, 0, 0, [(0, 1388)]), oN, oN, oA (.ifCond .ne 5) 21 23, oN, oN, oK (.iconst (-1)) 22 (-1), (.ireturn, 23, 0, 0, 0, 0, 0, 0, 0, 0, []), oK (.iconst 0) 24 (0), oA (.istore 4) 26 4, oN, oA (.iload 4) 28 4, oN, oK (.bipush 9) 30 (9), oN, oA (.if_icmp .gt 32) 33 62, oN],
  [oN, oA (.iload_n 2) 34 2, oA (.iload 4) 36 4, oN, (.invokestatic 358, 39, 194, 2, 0, 1, 0, 0, 0, 0, [(0, 1394)]), oN, oN, oA (.iload_n 1) 40 1, oA (.iload_n 2) 41 2, oA (.iload 4) 43 4, oN, (.invokestatic 362, 46, 195, 3, 0, 1, 0, 0, 0, 0, [(0, 1400)]), oN, oN, oA (.iload_n 3) 47 3, (.invokestatic 369, 50, 23, 3, 0, 0, 0, 0, 0, 0, [(0, 1411)]), oN, oN, oA (.ifCond .eq 6) 53 56, oN, oN, oA (.iload 4) 55 4, oN, (.ireturn, 56, 0, 0, 0, 0, 0, 0, 0, 0, []), oC (.iinc 4 1) 59 4 0 (1), oN, oN, oA (.goto (-33)) 62 26, oN, oN, oK (.iconst (-1)) 63 (-1), (.ireturn, 64, 0, 0, 0, 0, 0, 0, 0, 0, [])]]
def cd_So_sick : List (List xop) := [[oA (.iload_n 1) 1 1, oA (.iload_n 2) 2 2, oA (.iload_n 3) 3 3, oA (.iload 4) 5 4, oN, (.invokestatic 376, 8, 198, 4, 0, 0, 0, 0, 0, 0, [(0, 1420)]), oN, oN, oA (.ifCond .eq 14) 11 22, oN, oN, oA (.iload 5) 13 5, oN, oA (.ifCond .lt 9) 16 22, oN, oN, oA (.iload 5) 18 5, oN, oA (.iload_n 2) 19 2, oA (.if_icmp .le 7) 22 26, oN, oN, oL (.ldc2_w 213) 25 1058 (-1), oN, oN, o0 .lreturn 26, oA (.iload_n 1) 27 1, o0 .i2l 28, oA (.iload_n 3) 29 3, oA (.iload_n 2) 30 2, oA (.iload 5) 32 5, oN],
  [(.invokestatic 380, 35, 199, 3, 0, 1, 0, 0, 0, 0, [(0, 1423)]), oN, oN, o0 .lmul 36, oK (.bipush 100) 38 (100), oN, oA (.iload_n 1) 39 1, o0 .isub 40, o0 .i2l 41, oA (.iload 4) 43 4, oN, oA (.iload_n 2) 44 2, oA (.iload 5) 46 5, oN, (.invokestatic 380, 49, 199, 3, 0, 1, 0, 0, 0, 0, [(0, 1423)]), oN, oN, o0 .lmul 50, oA (.iload 6) 52 6, oN, (.invokestatic 366, 55, 22, 3, 0, 1, 0, 0, 0, 0, [(0, 1403)]), oN, oN, o0 .lreturn 56]]
def cd_So_areSigns : List (List xop) := [[oA (.iload_n 0) 1 0, (.invokestatic 355, 4, 193, 1, 0, 0, 0, 0, 0, 0, [(0, 1391)]), oN, oN, oA (.ifCond .eq 32) 7 36, oN, oN, oA (.iload_n 1) 8 1, oK (.iconst 1) 9 (1), oA (.if_icmp .lt 27) 12 36, oN, oN, oA (.iload_n 1) 13 1, oK (.bipush 9) 15 (9), oN, oA (.if_icmp .gt 21) 18 36, oN, oN, oA (.iload_n 2) 19 2, (.invokestatic 352, 22, 192, 1, 0, 0, 0, 0, 0, 0, [(0, 1388)]), oN, oN, oA (.ifCond .eq 14) 25 36, oN, oN, oA (.iload_n 3) 26 3, (.invokestatic 352, 29, 192, 1, 0, 0, 0, 0, 0, 0, [(0, 1388)]), oN, oN, oA (.ifCond .eq 7) 32 36, oN, oN],
  [oK (.iconst 1) 33 (1), oA (.goto 4) 36 37, oN, oN, oK (.iconst 0) 37 (0), (.ireturn, 38, 0, 0, 0, 1, 0, 0, 0, 0, [])]]
def cd_So_shown : List (List xop) := [[oA (.iload_n 0) 1 0, oA (.iload_n 2) 2 2, (.invokestatic 373, 5, 21, 2, 0, 1, 0, 0, 0, 0, [(0, 1397)]), oN, oN, oK (.bipush 10) 7 (10), oN, oA (.iload_n 0) 8 0, o0 .isub 9, oA (.iload_n 1) 10 1, oA (.iload_n 2) 11 2, o0 .isub 12, (.invokestatic 373, 15, 21, 2, 0, 1, 0, 0, 0, 0, [(0, 1397)]), oN, oN, o0 .lmul 16, o0 .lreturn 17]]
def cd_So_call : List (List xop) := [[oA (.iload_n 1) 1 1, oA (.iload_n 2) 2 2, oA (.iload_n 3) 3 3, oA (.iload 4) 5 4, oN, (.invokestatic 376, 8, 198, 4, 0, 0, 0, 0, 0, 0, [(0, 1420)]), oN, oN, oA (.ifCond .eq 11) 11 19, oN, oN, oA (.iload 5) 13 5, oN, (.invokestatic 352, 16, 192, 1, 0, 0, 0, 0, 0, 0, [(0, 1388)]), oN, oN, oA (.ifCond .ne 5) 19 21, oN, oN, oK (.iconst (-1)) 20 (-1), (.ireturn, 21, 0, 0, 0, 0, 0, 0, 0, 0, []), oK (.iconst 0) 22 (0), oA (.istore 6) 24 6, oN, oA (.iload 6) 26 6, oN, oA (.iload_n 2) 27 2, oA (.if_icmp .gt 44) 30 71, oN, oN, oA (.iload_n 1) 31 1, o0 .i2l 32],
  [oA (.iload_n 3) 33 3, oA (.iload_n 2) 34 2, oA (.iload 6) 36 6, oN, (.invokestatic 380, 39, 199, 3, 0, 1, 0, 0, 0, 0, [(0, 1423)]), oN, oN, o0 .lmul 40, oK (.bipush 100) 42 (100), oN, oA (.iload_n 1) 43 1, o0 .isub 44, o0 .i2l 45, oA (.iload 4) 47 4, oN, oA (.iload_n 2) 48 2, oA (.iload 6) 50 6, oN, (.invokestatic 380, 53, 199, 3, 0, 1, 0, 0, 0, 0, [(0, 1423)]), oN, oN, o0 .lmul 54, oA (.iload 5) 56 5, oN, (.invokestatic 369, 59, 23, 3, 0, 0, 0, 0, 0, 0, [(0, 1411)]), oN, oN, oA (.ifCond .eq 6) 62 65, oN, oN, oA (.iload 6) 64 6, oN],
  [(.ireturn, 65, 0, 0, 0, 0, 0, 0, 0, 0, []), oC (.iinc 6 1) 68 6 0 (1), oN, oN, oA (.goto (-44)) 71 24, oN, oN, oK (.iconst (-1)) 72 (-1), (.ireturn, 73, 0, 0, 0, 0, 0, 0, 0, 0, [])]]
def cd_So_shared : List (List xop) := [[oA (.iload_n 1) 1 1, oA (.iload_n 3) 2 3, (.invokestatic 383, 5, 202, 2, 0, 0, 0, 0, 0, 0, [(0, 1434)]), oN, oN, oA (.ifCond .eq 23) 8 28, oN, oN, oA (.iload_n 2) 9 2, oA (.iload 4) 11 4, oN, (.invokestatic 383, 14, 202, 2, 0, 0, 0, 0, 0, 0, [(0, 1434)]), oN, oN, oA (.ifCond .eq 14) 17 28, oN, oN, oA (.iload 5) 19 5, oN, oA (.ifCond .lt 9) 22 28, oN, oN, oA (.iload 5) 24 5, oN, oK (.iconst 3) 25 (3), oA (.if_icmp .le 5) 28 30, oN, oN, oK (.iconst (-1)) 29 (-1), (.ireturn, 30, 0, 0, 0, 0, 0, 0, 0, 0, []), oA (.iload_n 1) 31 1, oA (.iload_n 2) 32 2],
  [oA (.iload_n 3) 33 3, oA (.iload 4) 35 4, oN, (.invokestatic 386, 38, 203, 4, 0, 0, 0, 0, 0, 0, [(0, 1437)]), oN, oN, oA (.istore 6) 40 6, oN, oA (.iload_n 2) 41 2, oA (.iload 6) 43 6, oN, oK (.iconst (-1)) 44 (-1), o0 .ixor 45, o0 .iand 46, oA (.iload 4) 48 4, oN, (.invokestatic 390, 51, 204, 2, 0, 0, 0, 0, 0, 0, [(0, 1442)]), oN, oN, oA (.istore 7) 53 7, oN, oA (.iload 5) 55 5, oN, oS (.tableswitch 49 0 2 #[25, 37, 46]) 80 104 [((0), 80), ((1), 92), ((2), 101)], oN, oN, oN, oN, oN, oN, oN, oN],
  [oN, oN, oN, oN, oN, oN, oN, oN, oN, oN, oN, oN, oN, oN, oN, oN, oK (.bipush 7) 82 (7), oN, oA (.iload 6) 84 6, oN, oA (.iload 7) 86 7, oN, o0 .ior 87, (.invokestatic 393, 90, 0, 1, 0, 0, 0, 0, 0, 0, [(0, 1440)]), oN, oN, o0 .isub 91, (.ireturn, 92, 0, 0, 0, 0, 0, 0, 0, 0, []), oA (.iload 6) 94 6, oN, oA (.iload 7) 96 7, oN],
  [o0 .iand 97, (.invokestatic 393, 100, 0, 1, 0, 0, 0, 0, 0, 0, [(0, 1440)]), oN, oN, (.ireturn, 101, 0, 0, 0, 0, 0, 0, 0, 0, []), oA (.iload 6) 103 6, oN, (.ireturn, 104, 0, 0, 0, 0, 0, 0, 0, 0, []), oA (.iload 7) 106 7, oN, (.ireturn, 107, 0, 0, 0, 0, 0, 0, 0, 0, [])]]
def cd_So_areDays : List (List xop) := [[oA (.iload_n 0) 1 0, oA (.ifCond .lt 24) 4 25, oN, oN, oA (.iload_n 0) 5 0, oK (.sipush 128) 8 (128), oN, oN, oA (.if_icmp .ge 17) 11 25, oN, oN, oA (.iload_n 1) 12 1, oA (.ifCond .lt 13) 15 25, oN, oN, oA (.iload_n 1) 16 1, oK (.bipush 7) 18 (7), oN, oA (.if_icmp .gt 7) 21 25, oN, oN, oK (.iconst 1) 22 (1), oA (.goto 4) 25 26, oN, oN, oK (.iconst 0) 26 (0), (.ireturn, 27, 0, 0, 0, 1, 0, 0, 0, 0, [])]]
def cd_So_vanDays : List (List xop) := [[oK (.iconst 0) 1 (0), oA (.istore 4) 3 4, oN, oK (.iconst (-1)) 4 (-1), oA (.istore 5) 6 5, oN, oK (.iconst 0) 7 (0), oA (.istore 6) 9 6, oN, oA (.iload 6) 11 6, oN, oK (.sipush 128) 14 (128), oN, oN, oA (.if_icmp .ge 63) 17 77, oN, oN, oA (.iload 6) 19 6, oN, oA (.iload_n 0) 20 0, oK (.iconst (-1)) 21 (-1), o0 .ixor 22, o0 .iand 23, oA (.ifCond .ne 48) 26 71, oN, oN, oA (.iload 6) 28 6, oN, (.invokestatic 393, 31, 0, 1, 0, 0, 0, 0, 0, 0, [(0, 1440)]), oN, oN, oA (.iload_n 2) 32 2],
  [oA (.if_icmp .gt 39) 35 71, oN, oN, oA (.iload 6) 37 6, oN, (.invokestatic 393, 40, 0, 1, 0, 0, 0, 0, 0, 0, [(0, 1440)]), oN, oN, oA (.iload_n 3) 41 3, oA (.iload_n 1) 42 1, oA (.iload 6) 44 6, oN, oK (.iconst (-1)) 45 (-1), o0 .ixor 46, o0 .iand 47, (.invokestatic 393, 50, 0, 1, 0, 0, 0, 0, 0, 0, [(0, 1440)]), oN, oN, (.invokestatic 398, 53, 1, 2, 0, 0, 0, 0, 0, 0, [(0, 1441)]), oN, oN, o0 .iadd 54, oA (.istore 7) 56 7, oN, oA (.iload 7) 58 7, oN, oA (.iload 5) 60 5, oN, oA (.if_icmp .le 11) 63 71, oN, oN, oA (.iload 7) 65 7],
  [oN, oA (.istore 5) 67 5, oN, oA (.iload 6) 69 6, oN, oA (.istore 4) 71 4, oN, oC (.iinc 6 1) 74 6 0 (1), oN, oN, oA (.goto (-65)) 77 9, oN, oN, oA (.iload 4) 79 4, oN, (.ireturn, 80, 0, 0, 0, 0, 0, 0, 0, 0, [])]]
def cd_So_lowestBits : List (List xop) := [[oK (.iconst 0) 1 (0), oA (.istore_n 2) 2 2, oK (.iconst 0) 3 (0), oA (.istore_n 3) 4 3, oA (.iload_n 3) 5 3, oK (.bipush 7) 7 (7), oN, oA (.if_icmp .ge 32) 10 39, oN, oN, oA (.iload_n 0) 11 0, oA (.iload_n 3) 12 3, o0 .ishr 13, oK (.iconst 1) 14 (1), o0 .iand 15, oK (.iconst 1) 16 (1), oA (.if_icmp .ne 17) 19 33, oN, oN, oA (.iload_n 2) 20 2, (.invokestatic 393, 23, 0, 1, 0, 0, 0, 0, 0, 0, [(0, 1440)]), oN, oN, oA (.iload_n 1) 24 1, oA (.if_icmp .ge 9) 27 33, oN, oN, oA (.iload_n 2) 28 2, oK (.iconst 1) 29 (1), oA (.iload_n 3) 30 3, o0 .ishl 31, o0 .ior 32],
  [oA (.istore_n 2) 33 2, oC (.iinc 3 1) 36 3 0 (1), oN, oN, oA (.goto (-32)) 39 4, oN, oN, oA (.iload_n 2) 40 2, (.ireturn, 41, 0, 0, 0, 0, 0, 0, 0, 0, [])]]
def cd_So_pair : List (List xop) := [[oA (.iload_n 1) 1 1, oK (.iconst 2) 2 (2), oA (.if_icmp .lt 28) 5 30, oN, oN, oA (.iload_n 1) 6 1, oK (.bipush 12) 8 (12), oN, oA (.if_icmp .gt 22) 11 30, oN, oN, oA (.iload_n 2) 12 2, oA (.ifCond .lt 18) 15 30, oN, oN, oA (.iload_n 2) 16 2, oK (.bipush 99) 18 (99), oN, oA (.if_icmp .gt 12) 21 30, oN, oN, oA (.iload_n 3) 22 3, oA (.ifCond .lt 8) 25 30, oN, oN, oA (.iload_n 3) 26 3, oA (.iload_n 1) 27 1, oA (.if_icmp .lt 6) 30 33, oN, oN, oK (.bipush (-2)) 32 (-2), oN],
  [(.ireturn, 33, 0, 0, 0, 0, 0, 0, 0, 0, []), oA (.iload_n 1) 34 1, oK (.iconst 2) 35 (2), o0 .irem 36, oA (.ifCond .ne 9) 39 45, oN, oN, oA (.iload_n 1) 40 1, oK (.iconst 1) 41 (1), o0 .isub 42, oA (.goto 4) 45 46, oN, oN, oA (.iload_n 1) 46 1, oA (.istore 4) 48 4, oN, oA (.iload_n 3) 49 3, oA (.iload 4) 51 4, oN, oA (.if_icmp .ne 10) 54 61, oN, oN, oA (.iload 4) 56 4, oN, oA (.iload_n 2) 57 2, (.invokestatic 401, 60, 206, 2, 0, 0, 0, 0, 0, 0, [(0, 1449)]), oN, oN, (.ireturn, 61, 0, 0, 0, 0, 0, 0, 0, 0, []), oA (.iload_n 2) 62 2, oA (.iload_n 3) 63 3, o0 .isub 64],
  [oA (.iload 4) 66 4, oN, (.invokestatic 404, 69, 5, 2, 0, 0, 0, 0, 0, 0, [(0, 1452)]), oN, oN, oA (.istore 5) 71 5, oN, oA (.iload 5) 73 5, oN, oA (.iload_n 3) 74 3, oA (.if_icmp .eq 6) 77 80, oN, oN, oA (.iload 5) 79 5, oN, (.ireturn, 80, 0, 0, 0, 0, 0, 0, 0, 0, []), oA (.iload 4) 82 4, oN, oA (.iload_n 1) 83 1, oA (.if_icmp .ne 7) 86 90, oN, oN, oK (.iconst (-1)) 87 (-1), oA (.goto 5) 90 92, oN, oN, oA (.iload 4) 92 4, oN, (.ireturn, 93, 0, 0, 0, 0, 0, 0, 0, 0, [])]]
def cd_So_alone : List (List xop) := [[oK (.iconst 0) 1 (0), oA (.istore_n 2) 2 2, oA (.iload_n 2) 3 2, oA (.iload_n 0) 4 0, oA (.if_icmp .ge 22) 7 26, oN, oN, oA (.iload_n 1) 8 1, oA (.iload_n 2) 9 2, o0 .isub 10, oA (.iload_n 0) 11 0, (.invokestatic 404, 14, 5, 2, 0, 0, 0, 0, 0, 0, [(0, 1452)]), oN, oN, oA (.iload_n 2) 15 2, oA (.if_icmp .ne 5) 18 20, oN, oN, oA (.iload_n 2) 19 2, (.ireturn, 20, 0, 0, 0, 0, 0, 0, 0, 0, []), oC (.iinc 2 1) 23 2 0 (1), oN, oN, oA (.goto (-21)) 26 2, oN, oN, oK (.iconst (-1)) 27 (-1), (.ireturn, 28, 0, 0, 0, 0, 0, 0, 0, 0, [])]]
def cd_Mo_init : List (List xop) := [[oA (.aload_n 0) 1 0, (.invokespecial 1, 4, 0, 0, 0, 9, 0, 0, 0, 0, [(0, 1460)]), oN, oN, oA (.aload_n 0) 5 0, oK (.sipush 2400) 8 (2400), oN, oN, oA (.newarray .byte) 10 21, oN, oF (.putfield 7) 13 11 1 2 1462, oN, oN, oA (.aload_n 0) 14 0, oK (.iconst 4) 15 (4), oA (.newarray .int) 17 20, oN, oF (.putfield 13) 20 11 2 2 1463, oN, oN, oA (.aload_n 0) 21 0, oK (.iconst 4) 22 (4), oA (.newarray .int) 24 20, oN, oF (.putfield 17) 27 11 3 2 1464, oN, oN, oA (.aload_n 0) 28 0, oK (.iconst 4) 29 (4), oA (.newarray .int) 31 20, oN, oF (.putfield 20) 34 11 4 2 1465],
  [oN, oN, oA (.aload_n 0) 35 0, oK (.bipush 16) 37 (16), oN, oA (.newarray .int) 39 20, oN, oF (.putfield 23) 42 11 5 2 1466, oN, oN, oA (.aload_n 0) 43 0, oK (.sipush 560) 46 (560), oN, oN, oA (.newarray .int) 48 20, oN, oF (.putfield 26) 51 11 6 2 1467, oN, oN, oA (.aload_n 0) 52 0, oK (.sipush 648) 55 (648), oN, oN, oA (.newarray .int) 57 20, oN, oF (.putfield 29) 60 11 7 2 1468, oN, oN, oA (.aload_n 0) 61 0, oK (.sipush 408) 64 (408), oN, oN],
  [oA (.newarray .int) 66 20, oN, oF (.putfield 32) 69 11 8 2 1469, oN, oN, oA (.aload_n 0) 70 0, oK (.sipush 392) 73 (392), oN, oN, oA (.newarray .int) 75 20, oN, oF (.putfield 35) 78 11 9 2 1470, oN, oN, oA (.aload_n 0) 79 0, oK (.bipush 81) 81 (81), oN, oA (.newarray .int) 83 20, oN, oF (.putfield 38) 86 11 19 2 1480, oN, oN, oA (.aload_n 0) 87 0, oK (.iconst 4) 88 (4), oA (.newarray .int) 90 20, oN, oF (.putfield 41) 93 11 20 2 1481, oN, oN, oA (.aload_n 0) 94 0, oK (.bipush 9) 96 (9), oN],
  [oA (.newarray .int) 98 20, oN, oF (.putfield 44) 101 11 28 2 1489, oN, oN, oA (.aload_n 0) 102 0, oK (.bipush 9) 104 (9), oN, oA (.newarray .int) 106 20, oN, oF (.putfield 47) 109 11 29 2 1490, oN, oN, oA (.aload_n 0) 110 0, oK (.bipush 9) 112 (9), oN, oA (.newarray .int) 114 20, oN, oF (.putfield 50) 117 11 30 2 1491, oN, oN, oA (.aload_n 0) 118 0, oK (.bipush 9) 120 (9), oN, oA (.newarray .int) 122 20, oN, oF (.putfield 53) 125 11 31 2 1492, oN, oN, oA (.aload_n 0) 126 0, oK (.sipush 1000) 129 (1000), oN],
  [oN, oA (.newarray .long) 131 22, oN, oF (.putfield 56) 134 11 39 2 1500, oN, oN, oA (.aload_n 0) 135 0, oK (.bipush 10) 137 (10), oN, oA (.newarray .long) 139 22, oN, oF (.putfield 60) 142 11 40 2 1501, oN, oN, oA (.aload_n 0) 143 0, oK (.sipush 4608) 146 (4608), oN, oN, oA (.newarray .int) 148 20, oN, oF (.putfield 63) 151 11 41 2 1502, oN, oN, oA (.aload_n 0) 152 0, oK (.bipush 9) 154 (9), oN, oA (.newarray .int) 156 20, oN, oF (.putfield 66) 159 11 42 2 1503, oN, oN, oA (.aload_n 0) 160 0],
  [oK (.sipush 5120) 163 (5120), oN, oN, oA (.newarray .int) 165 20, oN, oF (.putfield 69) 168 11 47 2 1508, oN, oN, oA (.aload_n 0) 169 0, oK (.sipush 576) 172 (576), oN, oN, oA (.newarray .int) 174 20, oN, oF (.putfield 72) 177 11 50 2 1511, oN, oN, oA (.aload_n 0) 178 0, oK (.sipush 2304) 181 (2304), oN, oN, oA (.newarray .int) 183 20, oN, oF (.putfield 75) 186 11 51 2 1512, oN, oN, oA (.aload_n 0) 187 0, oK (.sipush 362) 190 (362), oN, oN, oA (.newarray .long) 192 22, oN],
  [oF (.putfield 78) 195 11 53 2 1514, oN, oN, oA (.aload_n 0) 196 0, oK (.sipush 362) 199 (362), oN, oN, oA (.newarray .long) 201 22, oN, oF (.putfield 81) 204 11 54 2 1515, oN, oN, oA (.aload_n 0) 205 0, oK (.sipush 21791) 208 (21791), oN, oN, oA (.newarray .long) 210 22, oN, oF (.putfield 84) 213 11 55 2 1516, oN, oN, oA (.aload_n 0) 214 0, oK (.iconst 3) 215 (3), oA (.newarray .boolean) 217 23, oN, oF (.putfield 87) 220 11 56 2 1517, oN, oN, oA (.aload_n 0) 221 0, oF (.getfield 20) 224 11 4 2 1465, oN, oN],
  [oK (.iconst 0) 225 (0), oK (.iconst (-1)) 226 (-1), o0 .iastore 227, o0 .return_ 228]]
def cd_Mo_feed : List (List xop) := [[oA (.aload_n 0) 1 0, oK (.iconst 0) 2 (0), oF (.putfield 91) 5 11 0 0 1461, oN, oN, oA (.aload_n 0) 6 0, oF (.getfield 13) 9 11 2 2 1463, oN, oN, oK (.iconst 0) 10 (0), o0 .iaload 11, oK (.bipush 20) 13 (20), oN, o0 .iadd 14, oK (.sipush 600) 17 (600), oN, oN, oA (.if_icmp .le 5) 20 22, oN, oN, oK (.iconst (-1)) 21 (-1), (.ireturn, 22, 0, 0, 0, 0, 0, 0, 0, 0, []), oA (.aload_n 0) 23 0, oA (.iload_n 1) 24 1, (.invokevirtual 107, 27, 209, 1, 11, 3, 0, 0, 0, 0, [(0, 1638)]), oN, oN, oA (.aload_n 0) 28 0, oA (.iload_n 2) 29 2, (.invokevirtual 107, 32, 209, 1, 11, 3, 0, 0, 0, 0, [(0, 1638)]), oN, oN],
  [oA (.aload_n 0) 33 0, oA (.iload_n 3) 34 3, (.invokevirtual 107, 37, 209, 1, 11, 3, 0, 0, 0, 0, [(0, 1638)]), oN, oN, oA (.aload_n 0) 38 0, oA (.iload 4) 40 4, oN, (.invokevirtual 107, 43, 209, 1, 11, 3, 0, 0, 0, 0, [(0, 1638)]), oN, oN, oA (.aload_n 0) 44 0, oA (.iload 5) 46 5, oN, (.invokevirtual 107, 49, 209, 1, 11, 3, 0, 0, 0, 0, [(0, 1638)]), oN, oN, oA (.aload_n 0) 50 0, oF (.getfield 13) 53 11 2 2 1463, oN, oN, oK (.iconst 0) 54 (0), o0 .iaload 55, (.ireturn, 56, 0, 0, 0, 0, 0, 0, 0, 0, [])]]
def cd_Mo_four : List (List xop) := [[oK (.bipush 24) 2 (24), oN, oA (.istore_n 2) 3 2, oA (.iload_n 2) 4 2, oA (.ifCond .lt 34) 7 38, oN, oN, oA (.aload_n 0) 8 0, oF (.getfield 7) 11 11 1 2 1462, oN, oN, oA (.aload_n 0) 12 0, oF (.getfield 13) 15 11 2 2 1463, oN, oN, oK (.iconst 0) 16 (0), o0 .iaload 17, oA (.iload_n 1) 18 1, oA (.iload_n 2) 19 2, o0 .ishr 20, o0 .i2b 21, oF (.bastore) 22 21 2 0 0, oA (.aload_n 0) 23 0, oF (.getfield 13) 26 11 2 2 1463, oN, oN, oK (.iconst 0) 27 (0), o0 .dup2 28, o0 .iaload 29, oK (.iconst 1) 30 (1), o0 .iadd 31, o0 .iastore 32],
  [oC (.iinc 2 (-8)) 35 2 0 (-8), oN, oN, oA (.goto (-32)) 38 3, oN, oN, o0 .return_ 39]]
def cd_Mo_end : List (List xop) := [[oA (.aload_n 0) 1 0, oK (.iconst 0) 2 (0), oF (.putfield 91) 5 11 0 0 1461, oN, oN, oA (.iload_n 1) 6 1, oK (.iconst 0) 7 (0), oA (.aload_n 0) 8 0, oF (.getfield 13) 11 11 2 2 1463, oN, oN, oK (.iconst 0) 12 (0), o0 .iaload 13, (.invokestatic 103, 16, 211, 3, 0, 0, 0, 0, 0, 0, [(0, 1646)]), oN, oN, oA (.ifCond .ne 5) 19 21, oN, oN, oK (.iconst (-1)) 20 (-1), (.ireturn, 21, 0, 0, 0, 0, 0, 0, 0, 0, []), oA (.aload_n 0) 22 0, oF (.getfield 13) 25 11 2 2 1463, oN, oN, oK (.iconst 0) 26 (0), oA (.iload_n 1) 27 1, o0 .iastore 28, oA (.iload_n 1) 29 1, (.ireturn, 30, 0, 0, 0, 0, 0, 0, 0, 0, [])]]
def cd_Mo_in : List (List xop) := [[oA (.iload_n 0) 1 0, oA (.iload_n 1) 2 1, oA (.if_icmp .lt 12) 5 14, oN, oN, oA (.iload_n 0) 6 0, oA (.iload_n 2) 7 2, oA (.if_icmp .gt 7) 10 14, oN, oN, oK (.iconst 1) 11 (1), oA (.goto 4) 14 15, oN, oN, oK (.iconst 0) 15 (0), (.ireturn, 16, 0, 0, 0, 1, 0, 0, 0, 0, [])]]
def cd_Mo_text : List (List xop) := [[oA (.aload_n 0) 1 0, oK (.iconst 0) 2 (0), oF (.putfield 91) 5 11 0 0 1461, oN, oN, oA (.aload_n 0) 6 0, oA (.aload_n 0) 7 0, oF (.getfield 13) 10 11 2 2 1463, oN, oN, oK (.iconst 0) 11 (0), o0 .iaload 12, oF (.putfield 114) 15 11 11 0 1472, oN, oN, oA (.aload_n 0) 16 0, oF (.getfield 13) 19 11 2 2 1463, oN, oN, oK (.iconst 0) 20 (0), oK (.iconst 0) 21 (0), o0 .iastore 22, oA (.aload_n 0) 23 0, oF (.getfield 17) 26 11 3 2 1464, oN, oN, oK (.iconst 0) 27 (0), oK (.iconst 0) 28 (0), o0 .iastore 29, oA (.aload_n 0) 30 0, oF (.getfield 20) 33 11 4 2 1465, oN],
  [oN, oK (.iconst 0) 34 (0), oK (.iconst (-1)) 35 (-1), o0 .iastore 36, oA (.iload_n 1) 37 1, oK (.iconst 0) 38 (0), oK (.iconst 3) 39 (3), (.invokestatic 103, 42, 211, 3, 0, 0, 0, 0, 0, 0, [(0, 1646)]), oN, oN, oA (.ifCond .eq 30) 45 72, oN, oN, oA (.iload_n 2) 46 2, oK (.iconst (-1)) 47 (-1), oA (.if_icmp .ne 16) 50 63, oN, oN, oA (.aload_n 0) 51 0, oF (.getfield 23) 54 11 5 2 1466, oN, oN, oA (.iload_n 1) 55 1, o0 .iaload 56, oK (.iconst 2) 57 (2), oA (.if_icmp .ne 18) 60 75, oN, oN, oA (.goto 12) 63 72, oN, oN, oA (.aload_n 0) 64 0],
  [oA (.iload_n 1) 65 1, oA (.iload_n 2) 66 2, (.invokevirtual 285, 69, 213, 2, 11, 0, 0, 0, 0, 0, [(0, 1653)]), oN, oN, oA (.ifCond .ne 6) 72 75, oN, oN, oK (.bipush (-2)) 74 (-2), oN, (.ireturn, 75, 0, 0, 0, 0, 0, 0, 0, 0, []), oA (.aload_n 0) 76 0, oA (.iload_n 1) 77 1, (.invokevirtual 288, 80, 214, 1, 11, 0, 0, 0, 0, 0, [(0, 1657)]), oN, oN, oA (.ifCond .ne 5) 83 85, oN, oN, oK (.iconst (-1)) 84 (-1), (.ireturn, 85, 0, 0, 0, 0, 0, 0, 0, 0, []), oA (.iload_n 2) 86 2, oK (.iconst (-1)) 87 (-1), oA (.if_icmp .ne 12) 90 99, oN, oN, oA (.aload_n 0) 91 0, oF (.getfield 23) 94 11 5 2 1466, oN, oN, oA (.iload_n 1) 95 1, o0 .iaload 96],
  [oA (.goto 4) 99 100, oN, oN, oA (.iload_n 2) 100 2, oA (.istore_n 3) 101 3, oA (.aload_n 0) 102 0, oF (.getfield 23) 105 11 5 2 1466, oN, oN, oA (.iload_n 1) 106 1, o0 .dup2 107, o0 .iaload 108, oA (.iload_n 2) 109 2, oK (.iconst (-1)) 110 (-1), oA (.if_icmp .ne 7) 113 117, oN, oN, oK (.iconst 1) 114 (1), oA (.goto 4) 117 118, oN, oN, oK (.iconst 0) 118 (0), o0 .iadd 119, o0 .iastore 120, oA (.aload_n 0) 121 0, oA (.iload_n 1) 122 1, oA (.iload_n 3) 123 3, (.invokevirtual 291, 126, 242, 2, 11, 3, 0, 0, 0, 0, [(0, 1787)]), oN, oN, oA (.iload_n 3) 127 3, (.ireturn, 128, 0, 0, 0, 0, 0, 0, 0, 0, [])]]
def cd_Mo_is : List (List xop) := [[oA (.iload_n 2) 1 2, oK (.iconst 0) 2 (0), oA (.aload_n 0) 3 0, oF (.getfield 23) 6 11 5 2 1466, oN, oN, oA (.iload_n 1) 7 1, o0 .iaload 8, oK (.iconst 1) 9 (1), o0 .isub 10, (.invokestatic 103, 13, 211, 3, 0, 0, 0, 0, 0, 0, [(0, 1646)]), oN, oN, (.ireturn, 14, 0, 0, 0, 1, 0, 0, 0, 0, [])]]
def cd_Mo_readText : List (List xop) := [[oA (.aload_n 0) 1 0, oA (.iload_n 1) 2 1, (.invokevirtual 275, 5, 215, 1, 11, 3, 0, 0, 0, 0, [(0, 1661)]), oN, oN, oA (.aload_n 0) 6 0, oK (.iconst (-1)) 7 (-1), oF (.putfield 173) 10 11 21 0 1482, oN, oN, oA (.aload_n 0) 11 0, oK (.iconst 0) 12 (0), oF (.putfield 111) 15 11 10 0 1471, oN, oN, oA (.aload_n 0) 16 0, oK (.iconst 0) 17 (0), oF (.putfield 137) 20 11 17 0 1478, oN, oN, oA (.aload_n 0) 21 0, (.invokevirtual 155, 24, 216, 0, 11, 3, 0, 0, 0, 0, [(0, 1665)]), oN, oN, oA (.aload_n 0) 25 0, oA (.iload_n 1) 26 1, (.invokevirtual 278, 29, 218, 1, 11, 0, 0, 0, 0, 0, [(0, 1673)]), oN, oN, oA (.istore_n 2) 30 2, oA (.iload_n 2) 31 2, oA (.ifCond .eq 37) 34 68],
  [oN, oN, oA (.iload_n 1) 35 1, oA (.ifCond .ne 33) 38 68, oN, oN, oA (.aload_n 0) 39 0, oF (.getfield 137) 42 11 17 0 1478, oN, oN, oA (.ifCond .ne 26) 45 68, oN, oN, oA (.aload_n 0) 46 0, oF (.getfield 173) 49 11 21 0 1482, oN, oN, oA (.aload_n 0) 50 0, oF (.getfield 38) 53 11 19 2 1480, oN, oN, oK (.bipush 6) 55 (6), oN, o0 .iaload 56, oA (.if_icmp .lt 12) 59 68, oN, oN, oA (.aload_n 0) 60 0, oK (.iconst 5) 61 (5), oA (.aload_n 0) 62 0, oF (.getfield 121) 65 11 12 0 1473, oN],
  [oN, (.invokevirtual 147, 68, 224, 2, 11, 3, 0, 0, 0, 0, [(0, 1706)]), oN, oN, oA (.aload_n 0) 69 0, oF (.getfield 17) 72 11 3 2 1464, oN, oN, oK (.iconst 0) 73 (0), oA (.iload_n 2) 74 2, oA (.ifCond .eq 10) 77 84, oN, oN, oA (.aload_n 0) 78 0, oF (.getfield 137) 81 11 17 0 1478, oN, oN, oA (.goto 4) 84 85, oN, oN, oK (.iconst 1) 85 (1), o0 .iastore 86, oA (.aload_n 0) 87 0, oF (.getfield 20) 90 11 4 2 1465, oN, oN, oK (.iconst 0) 91 (0), oA (.iload_n 2) 92 2, oA (.ifCond .ne 10) 95 102, oN, oN, oA (.aload_n 0) 96 0],
  [oF (.getfield 134) 99 11 16 0 1477, oN, oN, oA (.goto 18) 102 117, oN, oN, oA (.aload_n 0) 103 0, oF (.getfield 137) 106 11 17 0 1478, oN, oN, oA (.ifCond .le 10) 109 116, oN, oN, oA (.aload_n 0) 110 0, oF (.getfield 140) 113 11 18 0 1479, oN, oN, oA (.goto 4) 116 117, oN, oN, oK (.iconst (-1)) 117 (-1), o0 .iastore 118, oA (.aload_n 0) 119 0, oF (.getfield 17) 122 11 3 2 1464, oN, oN, oK (.iconst 0) 123 (0), o0 .iaload 124, oA (.ifCond .ne 7) 127 131, oN, oN, oK (.iconst 1) 128 (1)],
  [oA (.goto 4) 131 132, oN, oN, oK (.iconst 0) 132 (0), (.ireturn, 133, 0, 0, 0, 1, 0, 0, 0, 0, [])]]
def cd_Mo_blank : List (List xop) := [[oK (.iconst 0) 1 (0), oA (.istore_n 2) 2 2, oA (.iload_n 2) 3 2, oK (.bipush 81) 5 (81), oN, oA (.if_icmp .ge 35) 8 40, oN, oN, oA (.aload_n 0) 9 0, oF (.getfield 38) 12 11 19 2 1480, oN, oN, oA (.iload_n 2) 13 2, oA (.iload_n 1) 14 1, oA (.ifCond .ne 18) 17 32, oN, oN, oA (.iload_n 2) 18 2, oK (.bipush 61) 20 (61), oN, oK (.bipush 69) 22 (69), oN, (.invokestatic 103, 25, 211, 3, 0, 0, 0, 0, 0, 0, [(0, 1646)]), oN, oN, oA (.ifCond .eq 7) 28 32, oN, oN, oK (.iconst (-1)) 29 (-1), oA (.goto 4) 32 33, oN, oN],
  [oK (.iconst 0) 33 (0), o0 .iastore 34, oC (.iinc 2 1) 37 2 0 (1), oN, oN, oA (.goto (-35)) 40 2, oN, oN, oA (.iload_n 1) 41 1, oA (.ifCond .ne 34) 44 75, oN, oN, oA (.aload_n 0) 45 0, oF (.getfield 38) 48 11 19 2 1480, oN, oN, oK (.iconst 2) 49 (2), oK (.bipush 60) 51 (60), oN, o0 .iastore 52, oA (.aload_n 0) 53 0, oF (.getfield 38) 56 11 19 2 1480, oN, oN, oK (.iconst 3) 57 (3), oK (.iconst 2) 58 (2), o0 .iastore 59, oA (.aload_n 0) 60 0, oF (.getfield 38) 63 11 19 2 1480, oN, oN, oK (.iconst 4) 64 (4)],
  [oK (.bipush 60) 66 (60), oN, o0 .iastore 67, oA (.aload_n 0) 68 0, oF (.getfield 38) 71 11 19 2 1480, oN, oN, oK (.iconst 5) 72 (5), oK (.bipush 9) 74 (9), oN, o0 .iastore 75, o0 .return_ 76]]
def cd_Mo_token : List (List xop) := [[oA (.aload_n 0) 1 0, (.invokevirtual 117, 4, 217, 0, 11, 0, 0, 0, 0, 0, [(0, 1669)]), oN, oN, oK (.bipush 10) 6 (10), oN, oA (.if_icmp .eq 12) 9 18, oN, oN, oA (.aload_n 0) 10 0, (.invokevirtual 117, 13, 217, 0, 11, 0, 0, 0, 0, 0, [(0, 1669)]), oN, oN, oK (.bipush 32) 15 (32), oN, oA (.if_icmp .ne 16) 18 31, oN, oN, oA (.aload_n 0) 19 0, o0 .dup 20, oF (.getfield 111) 23 11 10 0 1471, oN, oN, oK (.iconst 1) 24 (1), o0 .iadd 25, oF (.putfield 111) 28 11 10 0 1471, oN, oN, oA (.goto (-28)) 31 0, oN, oN, oA (.aload_n 0) 32 0],
  [oA (.aload_n 0) 33 0, oF (.getfield 111) 36 11 10 0 1471, oN, oN, oF (.putfield 121) 39 11 12 0 1473, oN, oN, oA (.aload_n 0) 40 0, (.invokevirtual 117, 43, 217, 0, 11, 0, 0, 0, 0, 0, [(0, 1669)]), oN, oN, oA (.istore_n 1) 44 1, oA (.aload_n 0) 45 0, oL (.lconst 0) 46 0 0, oF (.putfield 124) 49 11 15 3 1476, oN, oN, oK (.iconst 0) 50 (0), oA (.istore_n 2) 51 2, oA (.iload_n 1) 52 1, oA (.ifCond .ge 11) 55 63, oN, oN, oA (.aload_n 0) 56 0, oK (.iconst 0) 57 (0), oF (.putfield 128) 60 11 13 0 1474, oN, oN, oA (.goto 206) 63 266, oN, oN, oA (.iload_n 1) 64 1],
  [oK (.bipush 97) 66 (97), oN, oK (.bipush 122) 68 (122), oN, (.invokestatic 103, 71, 211, 3, 0, 0, 0, 0, 0, 0, [(0, 1646)]), oN, oN, oA (.ifCond .eq 76) 74 147, oN, oN, oA (.aload_n 0) 75 0, (.invokevirtual 117, 78, 217, 0, 11, 0, 0, 0, 0, 0, [(0, 1669)]), oN, oN, oK (.bipush 97) 80 (97), oN, oK (.bipush 122) 82 (122), oN, (.invokestatic 103, 85, 211, 3, 0, 0, 0, 0, 0, 0, [(0, 1646)]), oN, oN, oA (.ifCond .eq 36) 88 121, oN, oN, oA (.aload_n 0) 89 0, oA (.aload_n 0) 90 0, oF (.getfield 124) 93 11 15 3 1476, oN, oN, oK (.bipush 8) 95 (8), oN, o0 .lshl 96],
  [oA (.aload_n 0) 97 0, (.invokevirtual 117, 100, 217, 0, 11, 0, 0, 0, 0, 0, [(0, 1669)]), oN, oN, o0 .i2l 101, o0 .lor 102, oF (.putfield 124) 105 11 15 3 1476, oN, oN, oA (.aload_n 0) 106 0, o0 .dup 107, oF (.getfield 111) 110 11 10 0 1471, oN, oN, oK (.iconst 1) 111 (1), o0 .iadd 112, oF (.putfield 111) 115 11 10 0 1471, oN, oN, oC (.iinc 2 1) 118 2 0 (1), oN, oN, oA (.goto (-44)) 121 74, oN, oN, oA (.aload_n 0) 122 0, oA (.iload_n 2) 123 2, oK (.bipush 8) 125 (8), oN, oA (.if_icmp .le 7) 128 132, oN, oN],
  [oL (.lconst 0) 129 0 0, oA (.goto 7) 132 136, oN, oN, oA (.aload_n 0) 133 0, oF (.getfield 124) 136 11 15 3 1476, oN, oN, oF (.putfield 124) 139 11 15 3 1476, oN, oN, oA (.aload_n 0) 140 0, oK (.iconst 2) 141 (2), oF (.putfield 128) 144 11 13 0 1474, oN, oN, oA (.goto 122) 147 266, oN, oN, oA (.iload_n 1) 148 1, oK (.bipush 48) 150 (48), oN, oK (.bipush 57) 152 (57), oN, (.invokestatic 103, 155, 211, 3, 0, 0, 0, 0, 0, 0, [(0, 1646)]), oN, oN, oA (.ifCond .eq 86) 158 241, oN, oN, oA (.aload_n 0) 159 0, oK (.iconst 0) 160 (0)],
  [oF (.putfield 131) 163 11 14 0 1475, oN, oN, oA (.aload_n 0) 164 0, (.invokevirtual 117, 167, 217, 0, 11, 0, 0, 0, 0, 0, [(0, 1669)]), oN, oN, oK (.bipush 48) 169 (48), oN, oK (.bipush 57) 171 (57), oN, (.invokestatic 103, 174, 211, 3, 0, 0, 0, 0, 0, 0, [(0, 1646)]), oN, oN, oA (.ifCond .eq 50) 177 224, oN, oN, oA (.aload_n 0) 178 0, oA (.iload_n 2) 179 2, oK (.iconst 2) 180 (2), oA (.if_icmp .ge 21) 183 201, oN, oN, oK (.bipush 10) 185 (10), oN, oA (.aload_n 0) 186 0, oF (.getfield 131) 189 11 14 0 1475, oN, oN, o0 .imul 190, oA (.aload_n 0) 191 0, (.invokevirtual 117, 194, 217, 0, 11, 0, 0, 0, 0, 0, [(0, 1669)])],
  [oN, oN, o0 .iadd 195, oK (.bipush 48) 197 (48), oN, o0 .isub 198, oA (.goto 7) 201 205, oN, oN, oA (.aload_n 0) 202 0, oF (.getfield 131) 205 11 14 0 1475, oN, oN, oF (.putfield 131) 208 11 14 0 1475, oN, oN, oA (.aload_n 0) 209 0, o0 .dup 210, oF (.getfield 111) 213 11 10 0 1471, oN, oN, oK (.iconst 1) 214 (1), o0 .iadd 215, oF (.putfield 111) 218 11 10 0 1471, oN, oN, oC (.iinc 2 1) 221 2 0 (1), oN, oN, oA (.goto (-58)) 224 163, oN, oN],
  [oA (.aload_n 0) 225 0, oA (.iload_n 2) 226 2, oK (.iconst 2) 227 (2), oA (.if_icmp .le 7) 230 234, oN, oN, oK (.iconst 1) 231 (1), oA (.goto 4) 234 235, oN, oN, oK (.iconst 3) 235 (3), oF (.putfield 128) 238 11 13 0 1474, oN, oN, oA (.goto 28) 241 266, oN, oN, oA (.aload_n 0) 242 0, o0 .dup 243, oF (.getfield 111) 246 11 10 0 1471, oN, oN, oK (.iconst 1) 247 (1), o0 .iadd 248, oF (.putfield 111) 251 11 10 0 1471, oN, oN, oA (.aload_n 0) 252 0, oA (.iload_n 1) 253 1, oK (.bipush 59) 255 (59), oN, oA (.if_icmp .ne 7) 258 262],
  [oN, oN, oK (.iconst 4) 259 (4), oA (.goto 4) 262 263, oN, oN, oK (.iconst 1) 263 (1), oF (.putfield 128) 266 11 13 0 1474, oN, oN, o0 .return_ 267]]
def cd_Mo_see : List (List xop) := [[oA (.aload_n 0) 1 0, oF (.getfield 111) 4 11 10 0 1471, oN, oN, oA (.aload_n 0) 5 0, oF (.getfield 114) 8 11 11 0 1472, oN, oN, oA (.if_icmp .ge 19) 11 27, oN, oN, oA (.aload_n 0) 12 0, oF (.getfield 7) 15 11 1 2 1462, oN, oN, oA (.aload_n 0) 16 0, oF (.getfield 111) 19 11 10 0 1471, oN, oN, oA (.baload) 20 21, oK (.sipush 255) 23 (255), oN, oN, o0 .iand 24, oA (.goto 4) 27 28, oN, oN, oK (.iconst (-1)) 28 (-1), (.ireturn, 29, 0, 0, 0, 0, 0, 0, 0, 0, [])]]
def cd_Mo_lines : List (List xop) := [[oK (.iconst 1) 1 (1), oA (.istore_n 2) 2 2, oA (.iload_n 2) 3 2, oA (.ifCond .eq 71) 6 74, oN, oN, oA (.aload_n 0) 7 0, oF (.getfield 128) 10 11 13 0 1474, oN, oN, oA (.ifCond .eq 64) 13 74, oN, oN, oA (.aload_n 0) 14 0, oF (.getfield 121) 17 11 12 0 1473, oN, oN, oA (.istore_n 3) 18 3, oA (.aload_n 0) 19 0, oK (.iconst 1) 20 (1), oF (.putfield 151) 23 11 22 1 1483, oN, oN, oA (.aload_n 0) 24 0, oA (.iload_n 1) 25 1, oA (.aload_n 0) 26 0, oF (.getfield 128) 29 11 13 0 1474, oN, oN, oK (.iconst 2) 30 (2), oA (.if_icmp .ne 10) 33 40, oN],
  [oN, oA (.aload_n 0) 34 0, oF (.getfield 124) 37 11 15 3 1476, oN, oN, oA (.goto 4) 40 41, oN, oN, oL (.lconst 0) 41 0 0, oA (.iload_n 3) 42 3, (.invokevirtual 271, 45, 219, 3, 11, 0, 0, 0, 0, 0, [(0, 1677)]), oN, oN, oA (.istore_n 2) 46 2, oA (.iload_n 2) 47 2, oA (.ifCond .eq 16) 50 63, oN, oN, oA (.aload_n 0) 51 0, oF (.getfield 128) 54 11 13 0 1474, oN, oN, oK (.iconst 4) 55 (4), oA (.if_icmp .eq 8) 58 63, oN, oN, oA (.aload_n 0) 59 0, (.invokevirtual 143, 62, 222, 0, 11, 0, 0, 0, 0, 0, [(0, 1698)]), oN, oN, oA (.istore_n 2) 63 2, oA (.iload_n 2) 64 2],
  [oA (.ifCond .eq 7) 67 71, oN, oN, oA (.aload_n 0) 68 0, (.invokevirtual 155, 71, 216, 0, 11, 3, 0, 0, 0, 0, [(0, 1665)]), oN, oN, oA (.goto (-69)) 74 2, oN, oN, oA (.iload_n 2) 75 2, (.ireturn, 76, 0, 0, 0, 1, 0, 0, 0, 0, [])]]
def cd_Mo_lineOf : List (List xop) := [[oA (.iload_n 1) 1 1, oS (.tableswitch 51 0 2 #[27, 35, 43]) 28 52 [((0), 28), ((1), 36), ((2), 44)], oN, oN, oN, oN, oN, oN, oN, oN, oN, oN, oN, oN, oN, oN, oN, oN, oN, oN, oN, oN, oN, oN, oN, oN, oN, oN, oA (.aload_n 0) 29 0, oA (.lload_n 2) 30 2, oA (.iload 4) 32 4, oN],
  [(.invokevirtual 258, 35, 220, 2, 11, 0, 0, 0, 0, 0, [(0, 1681)]), oN, oN, (.ireturn, 36, 0, 0, 0, 1, 0, 0, 0, 0, []), oA (.aload_n 0) 37 0, oA (.lload_n 2) 38 2, oA (.iload 4) 40 4, oN, (.invokevirtual 262, 43, 232, 2, 11, 0, 0, 0, 0, 0, [(0, 1737)]), oN, oN, (.ireturn, 44, 0, 0, 0, 1, 0, 0, 0, 0, []), oA (.aload_n 0) 45 0, oA (.lload_n 2) 46 2, oA (.iload 4) 48 4, oN, (.invokevirtual 265, 51, 235, 2, 11, 0, 0, 0, 0, 0, [(0, 1752)]), oN, oN, (.ireturn, 52, 0, 0, 0, 1, 0, 0, 0, 0, []), oA (.aload_n 0) 53 0, oA (.lload_n 2) 54 2, oA (.iload 4) 56 4, oN, (.invokevirtual 268, 59, 238, 2, 11, 0, 0, 0, 0, 0, [(0, 1768)]), oN, oN, (.ireturn, 60, 0, 0, 0, 1, 0, 0, 0, 0, [])]]
def cd_Mo_townLine : List (List xop) := [[oA (.lload_n 1) 1 1, (.invokestatic 180, 4, 221, 1, 0, 0, 0, 0, 0, 0, [(0, 1685)]), oN, oN, oA (.istore 4) 6 4, oN, oA (.iload 4) 8 4, oN, oK (.iconst (-1)) 9 (-1), oA (.if_icmp .ne 56) 12 65, oN, oN, oA (.lload_n 1) 13 1, oL (.ldc2_w 184) 16 1692 (112628746448759), oN, oN, o0 .lcmp 17, oA (.ifCond .eq 48) 20 65, oN, oN, oA (.lload_n 1) 21 1, oL (.ldc2_w 186) 24 1693 (1752132965), oN, oN, o0 .lcmp 25, oA (.ifCond .eq 40) 28 65, oN, oN, oA (.lload_n 1) 29 1, oL (.ldc2_w 188) 32 1694 (1936684400), oN, oN],
  [o0 .lcmp 33, oA (.ifCond .eq 32) 36 65, oN, oN, oA (.lload_n 1) 37 1, oL (.ldc2_w 190) 40 1695 (1885430629), oN, oN, o0 .lcmp 41, oA (.ifCond .eq 24) 44 65, oN, oN, oA (.lload_n 1) 45 1, oL (.ldc2_w 192) 48 1696 (1668246628), oN, oN, o0 .lcmp 49, oA (.ifCond .eq 16) 52 65, oN, oN, oA (.lload_n 1) 53 1, oL (.ldc2_w 194) 56 1697 (1952541803), oN, oN, o0 .lcmp 57, oA (.ifCond .eq 8) 60 65, oN, oN, oA (.aload_n 0) 61 0, (.invokevirtual 143, 64, 222, 0, 11, 0, 0, 0, 0, 0, [(0, 1698)]), oN, oN],
  [(.ireturn, 65, 0, 0, 0, 1, 0, 0, 0, 0, []), oA (.iload 4) 67 4, oN, oK (.iconst (-1)) 68 (-1), oA (.if_icmp .eq 12) 71 80, oN, oN, oA (.aload_n 0) 72 0, oK (.bipush 6) 74 (6), oN, oK (.bipush 9) 76 (9), oN, oA (.iload_n 3) 77 3, (.invokevirtual 196, 80, 223, 3, 11, 3, 0, 0, 0, 0, [(0, 1702)]), oN, oN, oA (.aload_n 0) 81 0, (.invokevirtual 155, 84, 216, 0, 11, 3, 0, 0, 0, 0, [(0, 1665)]), oN, oN, oA (.iload 4) 86 4, oN, oK (.iconst (-1)) 87 (-1), oA (.if_icmp .eq 10) 90 97, oN, oN, oA (.aload_n 0) 91 0, oA (.iload 4) 93 4, oN, (.invokevirtual 200, 96, 225, 1, 11, 0, 0, 0, 0, 0, [(0, 1710)]), oN, oN],
  [(.ireturn, 97, 0, 0, 0, 1, 0, 0, 0, 0, []), oA (.lload_n 1) 98 1, oL (.ldc2_w 184) 101 1692 (112628746448759), oN, oN, o0 .lcmp 102, oA (.ifCond .eq 11) 105 113, oN, oN, oA (.lload_n 1) 106 1, oL (.ldc2_w 186) 109 1693 (1752132965), oN, oN, o0 .lcmp 110, oA (.ifCond .ne 23) 113 133, oN, oN, oA (.lload_n 1) 114 1, oL (.ldc2_w 184) 117 1692 (112628746448759), oN, oN, o0 .lcmp 118, oA (.ifCond .ne 10) 121 128, oN, oN, oA (.aload_n 0) 122 0, (.invokevirtual 204, 125, 228, 0, 11, 0, 0, 0, 0, 0, [(0, 1722)]), oN, oN, oA (.goto 7) 128 132, oN, oN],
  [oA (.aload_n 0) 129 0, (.invokevirtual 207, 132, 230, 0, 11, 0, 0, 0, 0, 0, [(0, 1729)]), oN, oN, (.ireturn, 133, 0, 0, 0, 1, 0, 0, 0, 0, []), oA (.lload_n 1) 134 1, oL (.ldc2_w 188) 137 1694 (1936684400), oN, oN, o0 .lcmp 138, oA (.ifCond .eq 11) 141 149, oN, oN, oA (.lload_n 1) 142 1, oL (.ldc2_w 192) 145 1696 (1668246628), oN, oN, o0 .lcmp 146, oA (.ifCond .ne 24) 149 170, oN, oN, oA (.aload_n 0) 150 0, oA (.lload_n 1) 151 1, oL (.ldc2_w 188) 154 1694 (1936684400), oN, oN, o0 .lcmp 155, oA (.ifCond .ne 7) 158 162, oN, oN, oK (.iconst 2) 159 (2), oA (.goto 4) 162 163],
  [oN, oN, oK (.iconst 4) 163 (4), oK (.iconst 0) 164 (0), oK (.bipush 99) 166 (99), oN, (.invokevirtual 210, 169, 231, 3, 11, 0, 0, 0, 0, 0, [(0, 1733)]), oN, oN, (.ireturn, 170, 0, 0, 0, 1, 0, 0, 0, 0, []), oA (.lload_n 1) 171 1, oL (.ldc2_w 190) 174 1695 (1885430629), oN, oN, o0 .lcmp 175, oA (.ifCond .ne 14) 178 189, oN, oN, oA (.aload_n 0) 179 0, oK (.iconst 3) 180 (3), oK (.iconst 1) 181 (1), oK (.bipush 9) 183 (9), oN, (.invokevirtual 210, 186, 231, 3, 11, 0, 0, 0, 0, 0, [(0, 1733)]), oN, oN, oA (.goto 11) 189 197, oN, oN, oA (.aload_n 0) 190 0, oK (.iconst 5) 191 (5), oK (.iconst 1) 192 (1)],
  [oK (.bipush 30) 194 (30), oN, (.invokevirtual 210, 197, 231, 3, 11, 0, 0, 0, 0, 0, [(0, 1733)]), oN, oN, (.ireturn, 198, 0, 0, 0, 1, 0, 0, 0, 0, [])]]
def cd_Mo_kindBy : List (List xop) := [[oA (.lload_n 0) 1 0, oL (.ldc2_w 165) 4 1688 (1702258030), oN, oN, o0 .lcmp 5, oA (.ifCond .ne 7) 8 12, oN, oN, oK (.iconst 0) 9 (0), oA (.goto 40) 12 49, oN, oN, oA (.lload_n 0) 13 0, oL (.ldc2_w 167) 16 1689 (27991845764359524), oN, oN, o0 .lcmp 17, oA (.ifCond .ne 7) 20 24, oN, oN, oK (.iconst 1) 21 (1), oA (.goto 28) 24 49, oN, oN, oA (.lload_n 0) 25 0, oL (.ldc2_w 169) 28 1690 (435627783289), oN, oN, o0 .lcmp 29, oA (.ifCond .ne 7) 32 36, oN, oN],
  [oK (.iconst 2) 33 (2), oA (.goto 16) 36 49, oN, oN, oA (.lload_n 0) 37 0, oL (.ldc2_w 171) 40 1691 (1818325876), oN, oN, o0 .lcmp 41, oA (.ifCond .ne 7) 44 48, oN, oN, oK (.iconst 3) 45 (3), oA (.goto 4) 48 49, oN, oN, oK (.iconst (-1)) 49 (-1), (.ireturn, 50, 0, 0, 0, 0, 0, 0, 0, 0, [])]]
def cd_Mo_fails : List (List xop) := [[oA (.aload_n 0) 1 0, oA (.aload_n 0) 2 0, oF (.getfield 121) 5 11 12 0 1473, oN, oN, oF (.putfield 134) 8 11 16 0 1477, oN, oN, oK (.iconst 0) 9 (0), (.ireturn, 10, 0, 0, 0, 1, 0, 0, 0, 0, [])]]
def cd_Mo_full : List (List xop) := [[oA (.aload_n 0) 1 0, oF (.getfield 38) 4 11 19 2 1480, oN, oN, oA (.iload_n 1) 5 1, o0 .iaload 6, oA (.iload_n 2) 7 2, oA (.if_icmp .ne 9) 10 16, oN, oN, oA (.aload_n 0) 11 0, oK (.iconst 3) 12 (3), oA (.iload_n 3) 13 3, (.invokevirtual 147, 16, 224, 2, 11, 3, 0, 0, 0, 0, [(0, 1706)]), oN, oN, o0 .return_ 17]]
def cd_Mo_later : List (List xop) := [[oA (.aload_n 0) 1 0, oF (.getfield 137) 4 11 17 0 1478, oN, oN, oA (.ifCond .eq 27) 7 31, oN, oN, oA (.iload_n 2) 8 2, oA (.aload_n 0) 9 0, oF (.getfield 140) 12 11 18 0 1479, oN, oN, oA (.if_icmp .lt 19) 15 31, oN, oN, oA (.iload_n 2) 16 2, oA (.aload_n 0) 17 0, oF (.getfield 140) 20 11 18 0 1479, oN, oN, oA (.if_icmp .ne 21) 23 41, oN, oN, oA (.iload_n 1) 24 1, oA (.aload_n 0) 25 0, oF (.getfield 137) 28 11 17 0 1478, oN, oN, oA (.if_icmp .ge 13) 31 41, oN, oN, oA (.aload_n 0) 32 0],
  [oA (.iload_n 1) 33 1, oF (.putfield 137) 36 11 17 0 1478, oN, oN, oA (.aload_n 0) 37 0, oA (.iload_n 2) 38 2, oF (.putfield 140) 41 11 18 0 1479, oN, oN, o0 .return_ 42]]
def cd_Mo_stopLine : List (List xop) := [[oA (.aload_n 0) 1 0, oK (.iconst 0) 2 (0), oK (.iconst 0) 3 (0), oK (.bipush 9) 5 (9), oN, (.invokevirtual 162, 8, 226, 3, 11, 0, 0, 0, 0, 0, [(0, 1714)]), oN, oN, oA (.ifCond .eq 41) 11 49, oN, oN, oA (.aload_n 0) 12 0, oK (.iconst 1) 13 (1), oK (.iconst 0) 14 (0), oK (.bipush 9) 16 (9), oN, (.invokevirtual 162, 19, 226, 3, 11, 0, 0, 0, 0, 0, [(0, 1714)]), oN, oN, oA (.ifCond .eq 30) 22 49, oN, oN, oA (.aload_n 0) 23 0, oK (.iconst 2) 24 (2), oK (.iconst 0) 25 (0), oK (.bipush 20) 27 (20), oN, (.invokevirtual 162, 30, 226, 3, 11, 0, 0, 0, 0, 0, [(0, 1714)]), oN, oN, oA (.ifCond .eq 19) 33 49, oN],
  [oN, oA (.aload_n 0) 34 0, oK (.iconst 3) 35 (3), oA (.aload_n 0) 36 0, oF (.getfield 41) 39 11 20 2 1481, oN, oN, oK (.iconst 2) 40 (2), o0 .iaload 41, oK (.bipush 20) 43 (20), oN, (.invokevirtual 162, 46, 226, 3, 11, 0, 0, 0, 0, 0, [(0, 1714)]), oN, oN, oA (.ifCond .ne 5) 49 51, oN, oN, oK (.iconst 0) 50 (0), (.ireturn, 51, 0, 0, 0, 1, 0, 0, 0, 0, []), oA (.aload_n 0) 52 0, oF (.getfield 38) 55 11 19 2 1480, oN, oN, oK (.bipush 6) 57 (6), oN, o0 .iaload 58, oA (.istore_n 2) 59 2, oA (.iload_n 2) 60 2, oK (.bipush 9) 62 (9), oN, oA (.if_icmp .ge 84) 65 146, oN],
  [oN, oA (.aload_n 0) 66 0, oF (.getfield 38) 69 11 19 2 1480, oN, oN, oK (.bipush 7) 71 (7), oN, oA (.iload_n 2) 72 2, o0 .iadd 73, oA (.iload_n 1) 74 1, o0 .iastore 75, oA (.aload_n 0) 76 0, oF (.getfield 38) 79 11 19 2 1480, oN, oN, oK (.bipush 16) 81 (16), oN, oA (.iload_n 2) 82 2, o0 .iadd 83, oA (.aload_n 0) 84 0, oF (.getfield 41) 87 11 20 2 1481, oN, oN, oK (.iconst 0) 88 (0), o0 .iaload 89, o0 .iastore 90, oA (.aload_n 0) 91 0, oF (.getfield 38) 94 11 19 2 1480, oN, oN, oK (.bipush 25) 96 (25), oN],
  [oA (.iload_n 2) 97 2, o0 .iadd 98, oA (.aload_n 0) 99 0, oF (.getfield 41) 102 11 20 2 1481, oN, oN, oK (.iconst 1) 103 (1), o0 .iaload 104, o0 .iastore 105, oA (.aload_n 0) 106 0, oF (.getfield 38) 109 11 19 2 1480, oN, oN, oK (.bipush 34) 111 (34), oN, oA (.iload_n 2) 112 2, o0 .iadd 113, oA (.aload_n 0) 114 0, oF (.getfield 41) 117 11 20 2 1481, oN, oN, oK (.iconst 2) 118 (2), o0 .iaload 119, o0 .iastore 120, oA (.aload_n 0) 121 0, oF (.getfield 38) 124 11 19 2 1480, oN, oN, oK (.bipush 43) 126 (43), oN, oA (.iload_n 2) 127 2, o0 .iadd 128],
  [oA (.aload_n 0) 129 0, oF (.getfield 41) 132 11 20 2 1481, oN, oN, oK (.iconst 3) 133 (3), o0 .iaload 134, o0 .iastore 135, oA (.aload_n 0) 136 0, oF (.getfield 38) 139 11 19 2 1480, oN, oN, oK (.bipush 6) 141 (6), oN, o0 .dup2 142, o0 .iaload 143, oK (.iconst 1) 144 (1), o0 .iadd 145, o0 .iastore 146, oK (.iconst 1) 147 (1), (.ireturn, 148, 0, 0, 0, 1, 0, 0, 0, 0, [])]]
def cd_Mo_take : List (List xop) := [[oA (.aload_n 0) 1 0, oA (.iload_n 1) 2 1, oA (.iload_n 2) 3 2, oA (.iload_n 3) 4 3, oK (.iconst (-1)) 5 (-1), (.invokevirtual 158, 8, 227, 4, 11, 0, 0, 0, 0, 0, [(0, 1718)]), oN, oN, (.ireturn, 9, 0, 0, 0, 1, 0, 0, 0, 0, [])]]
def cd_Mo_takeBut : List (List xop) := [[oA (.aload_n 0) 1 0, oF (.getfield 128) 4 11 13 0 1474, oN, oN, oK (.iconst 3) 5 (3), oA (.if_icmp .eq 8) 8 13, oN, oN, oA (.aload_n 0) 9 0, (.invokevirtual 143, 12, 222, 0, 11, 0, 0, 0, 0, 0, [(0, 1698)]), oN, oN, (.ireturn, 13, 0, 0, 0, 1, 0, 0, 0, 0, []), oA (.aload_n 0) 14 0, oF (.getfield 41) 17 11 20 2 1481, oN, oN, oA (.iload_n 1) 18 1, oA (.aload_n 0) 19 0, oF (.getfield 131) 22 11 14 0 1475, oN, oN, o0 .iastore 23, oA (.aload_n 0) 24 0, oF (.getfield 131) 27 11 14 0 1475, oN, oN, oA (.iload_n 2) 28 2, oA (.iload_n 3) 29 3, (.invokestatic 103, 32, 211, 3, 0, 0, 0, 0, 0, 0, [(0, 1646)]), oN, oN],
  [oA (.ifCond .eq 12) 35 44, oN, oN, oA (.aload_n 0) 36 0, oF (.getfield 131) 39 11 14 0 1475, oN, oN, oA (.iload 4) 41 4, oN, oA (.if_icmp .ne 17) 44 58, oN, oN, oA (.aload_n 0) 45 0, oK (.iconst 2) 46 (2), oA (.aload_n 0) 47 0, oF (.getfield 121) 50 11 12 0 1473, oN, oN, (.invokevirtual 147, 53, 224, 2, 11, 3, 0, 0, 0, 0, [(0, 1706)]), oN, oN, oA (.aload_n 0) 54 0, oK (.iconst 0) 55 (0), oF (.putfield 151) 58 11 22 1 1483, oN, oN, oA (.aload_n 0) 59 0, (.invokevirtual 155, 62, 216, 0, 11, 3, 0, 0, 0, 0, [(0, 1665)]), oN, oN, oK (.iconst 1) 63 (1), (.ireturn, 64, 0, 0, 0, 1, 0, 0, 0, 0, [])]]
def cd_Mo_followLine : List (List xop) := [[oA (.aload_n 0) 1 0, oK (.iconst 0) 2 (0), oK (.iconst 0) 3 (0), oK (.bipush 8) 5 (8), oN, (.invokevirtual 162, 8, 226, 3, 11, 0, 0, 0, 0, 0, [(0, 1714)]), oN, oN, oA (.ifCond .eq 31) 11 39, oN, oN, oA (.aload_n 0) 12 0, oK (.iconst 1) 13 (1), oK (.iconst 0) 14 (0), oK (.bipush 8) 16 (8), oN, oA (.aload_n 0) 17 0, oF (.getfield 41) 20 11 20 2 1481, oN, oN, oK (.iconst 0) 21 (0), o0 .iaload 22, (.invokevirtual 158, 25, 227, 4, 11, 0, 0, 0, 0, 0, [(0, 1718)]), oN, oN, oA (.ifCond .eq 14) 28 39, oN, oN, oA (.aload_n 0) 29 0, oK (.iconst 2) 30 (2), oK (.iconst 0) 31 (0), oK (.bipush 9) 33 (9)],
  [oN, (.invokevirtual 162, 36, 226, 3, 11, 0, 0, 0, 0, 0, [(0, 1714)]), oN, oN, oA (.ifCond .ne 5) 39 41, oN, oN, oK (.iconst 0) 40 (0), (.ireturn, 41, 0, 0, 0, 1, 0, 0, 0, 0, []), oA (.aload_n 0) 42 0, oA (.aload_n 0) 43 0, oF (.getfield 173) 46 11 21 0 1482, oN, oN, oA (.aload_n 0) 47 0, oF (.getfield 41) 50 11 20 2 1481, oN, oN, oK (.iconst 0) 51 (0), o0 .iaload 52, oA (.aload_n 0) 53 0, oF (.getfield 41) 56 11 20 2 1481, oN, oN, oK (.iconst 1) 57 (1), o0 .iaload 58, (.invokestatic 176, 61, 229, 2, 0, 0, 0, 0, 0, 0, [(0, 1726)]), oN, oN, (.invokestatic 176, 64, 229, 2, 0, 0, 0, 0, 0, 0, [(0, 1726)]), oN, oN],
  [oF (.putfield 173) 67 11 21 0 1482, oN, oN, oA (.aload_n 0) 68 0, oF (.getfield 151) 71 11 22 0 1483, oN, oN, oA (.ifCond .eq 43) 74 114, oN, oN, oA (.aload_n 0) 75 0, oF (.getfield 38) 78 11 19 2 1480, oN, oN, oK (.bipush 52) 80 (52), oN, oA (.aload_n 0) 81 0, oF (.getfield 41) 84 11 20 2 1481, oN, oN, oK (.iconst 0) 85 (0), o0 .iaload 86, o0 .iadd 87, oA (.aload_n 0) 88 0, oF (.getfield 41) 91 11 20 2 1481, oN, oN, oK (.iconst 2) 92 (2), o0 .iaload 93, o0 .iastore 94, oA (.aload_n 0) 95 0, oF (.getfield 38) 98 11 19 2 1480],
  [oN, oN, oK (.bipush 61) 100 (61), oN, oA (.aload_n 0) 101 0, oF (.getfield 41) 104 11 20 2 1481, oN, oN, oK (.iconst 0) 105 (0), o0 .iaload 106, o0 .iadd 107, oA (.aload_n 0) 108 0, oF (.getfield 41) 111 11 20 2 1481, oN, oN, oK (.iconst 1) 112 (1), o0 .iaload 113, o0 .iastore 114, oK (.iconst 1) 115 (1), (.ireturn, 116, 0, 0, 0, 1, 0, 0, 0, 0, [])]]
def cd_Mo_greater : List (List xop) := [[oA (.iload_n 0) 1 0, oA (.iload_n 1) 2 1, oA (.if_icmp .le 7) 5 9, oN, oN, oA (.iload_n 0) 6 0, oA (.goto 4) 9 10, oN, oN, oA (.iload_n 1) 10 1, (.ireturn, 11, 0, 0, 0, 0, 0, 0, 0, 0, [])]]
def cd_Mo_homeLine : List (List xop) := [[oA (.aload_n 0) 1 0, oK (.iconst 0) 2 (0), oK (.iconst 0) 3 (0), oK (.bipush 9) 5 (9), oN, (.invokevirtual 162, 8, 226, 3, 11, 0, 0, 0, 0, 0, [(0, 1714)]), oN, oN, oA (.ifCond .eq 14) 11 22, oN, oN, oA (.aload_n 0) 12 0, oK (.iconst 1) 13 (1), oK (.iconst 0) 14 (0), oK (.bipush 9) 16 (9), oN, (.invokevirtual 162, 19, 226, 3, 11, 0, 0, 0, 0, 0, [(0, 1714)]), oN, oN, oA (.ifCond .ne 5) 22 24, oN, oN, oK (.iconst 0) 23 (0), (.ireturn, 24, 0, 0, 0, 1, 0, 0, 0, 0, []), oA (.aload_n 0) 25 0, oF (.getfield 38) 28 11 19 2 1480, oN, oN, oK (.iconst 0) 29 (0), oA (.aload_n 0) 30 0, oF (.getfield 41) 33 11 20 2 1481, oN],
  [oN, oK (.iconst 0) 34 (0), o0 .iaload 35, o0 .iastore 36, oA (.aload_n 0) 37 0, oF (.getfield 38) 40 11 19 2 1480, oN, oN, oK (.iconst 1) 41 (1), oA (.aload_n 0) 42 0, oF (.getfield 41) 45 11 20 2 1481, oN, oN, oK (.iconst 1) 46 (1), o0 .iaload 47, o0 .iastore 48, oK (.iconst 1) 49 (1), (.ireturn, 50, 0, 0, 0, 1, 0, 0, 0, 0, [])]]
def cd_Mo_plainLine : List (List xop) := [[oA (.aload_n 0) 1 0, oK (.iconst 0) 2 (0), oA (.iload_n 2) 3 2, oA (.iload_n 3) 4 3, (.invokevirtual 162, 7, 226, 3, 11, 0, 0, 0, 0, 0, [(0, 1714)]), oN, oN, oA (.ifCond .ne 5) 10 12, oN, oN, oK (.iconst 0) 11 (0), (.ireturn, 12, 0, 0, 0, 1, 0, 0, 0, 0, []), oA (.aload_n 0) 13 0, oF (.getfield 38) 16 11 19 2 1480, oN, oN, oA (.iload_n 1) 17 1, oA (.aload_n 0) 18 0, oF (.getfield 41) 21 11 20 2 1481, oN, oN, oK (.iconst 0) 22 (0), o0 .iaload 23, o0 .iastore 24, oK (.iconst 1) 25 (1), (.ireturn, 26, 0, 0, 0, 1, 0, 0, 0, 0, [])]]
def cd_Mo_dayLine : List (List xop) := [[oA (.lload_n 1) 1 1, (.invokestatic 221, 4, 233, 1, 0, 0, 0, 0, 0, 0, [(0, 1741)]), oN, oN, oA (.istore 4) 6 4, oN, oA (.iload 4) 8 4, oN, oK (.iconst (-1)) 9 (-1), oA (.if_icmp .ne 8) 12 17, oN, oN, oA (.aload_n 0) 13 0, (.invokevirtual 143, 16, 222, 0, 11, 0, 0, 0, 0, 0, [(0, 1698)]), oN, oN, (.ireturn, 17, 0, 0, 0, 1, 0, 0, 0, 0, []), oA (.aload_n 0) 18 0, oK (.iconst 0) 19 (0), oK (.bipush 40) 21 (40), oN, oA (.iload_n 3) 22 3, (.invokevirtual 196, 25, 223, 3, 11, 3, 0, 0, 0, 0, [(0, 1702)]), oN, oN, oA (.aload_n 0) 26 0, (.invokevirtual 155, 29, 216, 0, 11, 3, 0, 0, 0, 0, [(0, 1665)]), oN, oN, oA (.aload_n 0) 30 0, oF (.getfield 41) 33 11 20 2 1481, oN],
  [oN, oK (.iconst 1) 34 (1), oK (.iconst (-1)) 35 (-1), o0 .iastore 36, oA (.iload 4) 38 4, oN, oK (.iconst 3) 39 (3), oA (.if_icmp .ge 46) 42 85, oN, oN, oA (.aload_n 0) 43 0, oK (.iconst 1) 44 (1), oA (.iload 4) 46 4, oN, oA (.ifCond .ne 7) 49 53, oN, oN, oK (.iconst 0) 50 (0), oA (.goto 4) 53 54, oN, oN, oK (.iconst 1) 54 (1), oA (.iload 4) 56 4, oN, oA (.ifCond .ne 8) 59 64, oN, oN, oK (.bipush 8) 61 (8), oN, oA (.goto 16) 64 77, oN, oN],
  [oA (.iload 4) 66 4, oN, oK (.iconst 1) 67 (1), oA (.if_icmp .ne 8) 70 75, oN, oN, oK (.bipush 40) 72 (40), oN, oA (.goto 5) 75 77, oN, oN, oK (.bipush 60) 77 (60), oN, (.invokevirtual 162, 80, 226, 3, 11, 0, 0, 0, 0, 0, [(0, 1714)]), oN, oN, oA (.ifCond .ne 5) 83 85, oN, oN, oK (.iconst 0) 84 (0), (.ireturn, 85, 0, 0, 0, 1, 0, 0, 0, 0, []), oA (.aload_n 0) 86 0, oF (.getfield 41) 89 11 20 2 1481, oN, oN, oK (.iconst 0) 90 (0), oA (.iload 4) 92 4, oN, o0 .iastore 93, oA (.aload_n 0) 94 0, oK (.iconst 2) 95 (2), oK (.bipush 40) 97 (40)],
  [oN, (.invokevirtual 224, 100, 234, 2, 11, 3, 0, 0, 0, 0, [(0, 1748)]), oN, oN, oK (.iconst 1) 101 (1), (.ireturn, 102, 0, 0, 0, 1, 0, 0, 0, 0, [])]]
def cd_Mo_deedBy : List (List xop) := [[oA (.lload_n 0) 1 0, oL (.ldc2_w 213) 4 1744 (431416243813), oN, oN, o0 .lcmp 5, oA (.ifCond .ne 7) 8 12, oN, oN, oK (.iconst 0) 9 (0), oA (.goto 52) 12 61, oN, oN, oA (.lload_n 0) 13 0, oL (.ldc2_w 215) 16 1745 (465490439269), oN, oN, o0 .lcmp 17, oA (.ifCond .ne 7) 20 24, oN, oN, oK (.iconst 1) 21 (1), oA (.goto 40) 24 61, oN, oN, oA (.lload_n 0) 25 0, oL (.ldc2_w 217) 28 1746 (2002872692), oN, oN, o0 .lcmp 29, oA (.ifCond .ne 7) 32 36, oN, oN],
  [oK (.iconst 2) 33 (2), oA (.goto 28) 36 61, oN, oN, oA (.lload_n 0) 37 0, oL (.ldc2_w 194) 40 1697 (1952541803), oN, oN, o0 .lcmp 41, oA (.ifCond .ne 7) 44 48, oN, oN, oK (.iconst 3) 45 (3), oA (.goto 16) 48 61, oN, oN, oA (.lload_n 0) 49 0, oL (.ldc2_w 219) 52 1747 (125780071117422), oN, oN, o0 .lcmp 53, oA (.ifCond .ne 7) 56 60, oN, oN, oK (.iconst 4) 57 (4), oA (.goto 4) 60 61, oN, oN, oK (.iconst (-1)) 61 (-1), (.ireturn, 62, 0, 0, 0, 0, 0, 0, 0, 0, [])]]
def cd_Mo_keep : List (List xop) := [[oA (.aload_n 0) 1 0, oF (.getfield 38) 4 11 19 2 1480, oN, oN, oK (.iconst 0) 5 (0), o0 .iaload 6, oA (.istore_n 3) 7 3, oA (.iload_n 3) 8 3, oA (.iload_n 2) 9 2, oA (.if_icmp .ne 4) 12 13, oN, oN, o0 .return_ 13, oK (.iconst 0) 14 (0), oA (.istore 4) 16 4, oN, oA (.iload 4) 18 4, oN, oA (.iload_n 1) 19 1, oA (.if_icmp .ge 29) 22 48, oN, oN, oA (.aload_n 0) 23 0, oF (.getfield 38) 26 11 19 2 1480, oN, oN, oK (.iconst 1) 27 (1), oA (.iload_n 1) 28 1, oA (.iload_n 3) 29 3, o0 .imul 30, o0 .iadd 31, oA (.iload 4) 33 4],
  [oN, o0 .iadd 34, oA (.aload_n 0) 35 0, oF (.getfield 41) 38 11 20 2 1481, oN, oN, oA (.iload 4) 40 4, oN, o0 .iaload 41, o0 .iastore 42, oC (.iinc 4 1) 45 4 0 (1), oN, oN, oA (.goto (-29)) 48 16, oN, oN, oA (.aload_n 0) 49 0, oF (.getfield 38) 52 11 19 2 1480, oN, oN, oK (.iconst 0) 53 (0), o0 .dup2 54, o0 .iaload 55, oK (.iconst 1) 56 (1), o0 .iadd 57, o0 .iastore 58, o0 .return_ 59]]
def cd_Mo_bookLine : List (List xop) := [[oA (.lload_n 1) 1 1, oL (.ldc2_w 236) 4 1756 (474214787188), oN, oN, o0 .lcmp 5, oA (.ifCond .eq 16) 8 21, oN, oN, oA (.lload_n 1) 9 1, oL (.ldc2_w 238) 12 1757 (418548245860), oN, oN, o0 .lcmp 13, oA (.ifCond .eq 8) 16 21, oN, oN, oA (.aload_n 0) 17 0, (.invokevirtual 143, 20, 222, 0, 11, 0, 0, 0, 0, 0, [(0, 1698)]), oN, oN, (.ireturn, 21, 0, 0, 0, 1, 0, 0, 0, 0, []), oA (.lload_n 1) 22 1, oL (.ldc2_w 236) 25 1756 (474214787188), oN, oN, o0 .lcmp 26, oA (.ifCond .ne 11) 29 37, oN, oN, oA (.aload_n 0) 30 0, oK (.iconst 0) 31 (0), oK (.bipush 10) 33 (10)],
  [oN, oA (.iload_n 3) 34 3, (.invokevirtual 196, 37, 223, 3, 11, 3, 0, 0, 0, 0, [(0, 1702)]), oN, oN, oA (.aload_n 0) 38 0, (.invokevirtual 155, 41, 216, 0, 11, 3, 0, 0, 0, 0, [(0, 1665)]), oN, oN, oA (.lload_n 1) 42 1, oL (.ldc2_w 238) 45 1757 (418548245860), oN, oN, o0 .lcmp 46, oA (.ifCond .ne 9) 49 55, oN, oN, oA (.aload_n 0) 50 0, oA (.iload_n 3) 51 3, (.invokevirtual 240, 54, 236, 1, 11, 0, 0, 0, 0, 0, [(0, 1758)]), oN, oN, (.ireturn, 55, 0, 0, 0, 1, 0, 0, 0, 0, []), oA (.aload_n 0) 56 0, oK (.iconst 0) 57 (0), oK (.iconst 0) 58 (0), oK (.bipush 99) 60 (99), oN, (.invokevirtual 162, 63, 226, 3, 11, 0, 0, 0, 0, 0, [(0, 1714)]), oN, oN, oA (.ifCond .eq 18) 66 81],
  [oN, oN, oA (.aload_n 0) 67 0, oK (.iconst 1) 68 (1), oK (.iconst 0) 69 (0), oA (.aload_n 0) 70 0, oF (.getfield 41) 73 11 20 2 1481, oN, oN, oK (.iconst 0) 74 (0), o0 .iaload 75, (.invokevirtual 162, 78, 226, 3, 11, 0, 0, 0, 0, 0, [(0, 1714)]), oN, oN, oA (.ifCond .ne 5) 81 83, oN, oN, oK (.iconst 0) 82 (0), (.ireturn, 83, 0, 0, 0, 1, 0, 0, 0, 0, []), oA (.aload_n 0) 84 0, oF (.getfield 38) 87 11 19 2 1480, oN, oN, oK (.iconst 0) 88 (0), o0 .iaload 89, oA (.istore 4) 91 4, oN, oA (.iload 4) 93 4, oN, oK (.bipush 10) 95 (10), oN, oA (.if_icmp .ge 47) 98 142],
  [oN, oN, oA (.aload_n 0) 99 0, oF (.getfield 38) 102 11 19 2 1480, oN, oN, oK (.iconst 1) 103 (1), oK (.iconst 5) 104 (5), oA (.iload 4) 106 4, oN, o0 .imul 107, o0 .iadd 108, oA (.aload_n 0) 109 0, oF (.getfield 41) 112 11 20 2 1481, oN, oN, oK (.iconst 0) 113 (0), o0 .iaload 114, o0 .iastore 115, oA (.aload_n 0) 116 0, oF (.getfield 38) 119 11 19 2 1480, oN, oN, oK (.iconst 2) 120 (2), oK (.iconst 5) 121 (5), oA (.iload 4) 123 4, oN, o0 .imul 124, o0 .iadd 125, oA (.aload_n 0) 126 0, oF (.getfield 41) 129 11 20 2 1481, oN],
  [oN, oK (.iconst 1) 130 (1), o0 .iaload 131, o0 .iastore 132, oA (.aload_n 0) 133 0, oF (.getfield 38) 136 11 19 2 1480, oN, oN, oK (.iconst 0) 137 (0), o0 .dup2 138, o0 .iaload 139, oK (.iconst 1) 140 (1), o0 .iadd 141, o0 .iastore 142, oK (.iconst 1) 143 (1), (.ireturn, 144, 0, 0, 0, 1, 0, 0, 0, 0, [])]]
def cd_Mo_askedLine : List (List xop) := [[oA (.aload_n 0) 1 0, oF (.getfield 38) 4 11 19 2 1480, oN, oN, oK (.iconst 0) 5 (0), o0 .iaload 6, oA (.ifCond .ne 9) 9 15, oN, oN, oA (.aload_n 0) 10 0, oK (.iconst 4) 11 (4), oA (.iload_n 1) 12 1, (.invokevirtual 147, 15, 224, 2, 11, 3, 0, 0, 0, 0, [(0, 1706)]), oN, oN, oA (.aload_n 0) 16 0, oF (.getfield 128) 19 11 13 0 1474, oN, oN, oK (.iconst 2) 20 (2), oA (.if_icmp .ne 13) 23 33, oN, oN, oA (.aload_n 0) 24 0, oF (.getfield 124) 27 11 15 3 1476, oN, oN, (.invokestatic 233, 30, 237, 1, 0, 0, 0, 0, 0, 0, [(0, 1762)]), oN, oN, oA (.goto 4) 33 34, oN],
  [oN, oK (.iconst (-1)) 34 (-1), oA (.istore_n 2) 35 2, oA (.iload_n 2) 36 2, oK (.iconst (-1)) 37 (-1), oA (.if_icmp .ne 8) 40 45, oN, oN, oA (.aload_n 0) 41 0, (.invokevirtual 143, 44, 222, 0, 11, 0, 0, 0, 0, 0, [(0, 1698)]), oN, oN, (.ireturn, 45, 0, 0, 0, 1, 0, 0, 0, 0, []), oA (.aload_n 0) 46 0, (.invokevirtual 155, 49, 216, 0, 11, 3, 0, 0, 0, 0, [(0, 1665)]), oN, oN, oA (.aload_n 0) 50 0, oK (.iconst 0) 51 (0), oK (.iconst 0) 52 (0), oK (.bipush 99) 54 (99), oN, (.invokevirtual 162, 57, 226, 3, 11, 0, 0, 0, 0, 0, [(0, 1714)]), oN, oN, oA (.ifCond .ne 5) 60 62, oN, oN, oK (.iconst 0) 61 (0), (.ireturn, 62, 0, 0, 0, 1, 0, 0, 0, 0, []), oA (.aload_n 0) 63 0, oF (.getfield 38) 66 11 19 2 1480],
  [oN, oN, oK (.iconst 0) 67 (0), o0 .iaload 68, oA (.ifCond .le 30) 71 98, oN, oN, oA (.aload_n 0) 72 0, oF (.getfield 38) 75 11 19 2 1480, oN, oN, oK (.iconst 1) 76 (1), oK (.iconst 5) 77 (5), oA (.aload_n 0) 78 0, oF (.getfield 38) 81 11 19 2 1480, oN, oN, oK (.iconst 0) 82 (0), o0 .iaload 83, oK (.iconst 1) 84 (1), o0 .isub 85, o0 .imul 86, o0 .iadd 87, oK (.iconst 2) 88 (2), o0 .iadd 89, oA (.iload_n 2) 90 2, o0 .iadd 91, oA (.aload_n 0) 92 0, oF (.getfield 41) 95 11 20 2 1481, oN, oN, oK (.iconst 0) 96 (0)],
  [o0 .iaload 97, o0 .iastore 98, oK (.iconst 1) 99 (1), (.ireturn, 100, 0, 0, 0, 1, 0, 0, 0, 0, [])]]
def cd_Mo_thingBy : List (List xop) := [[oA (.lload_n 0) 1 0, oL (.ldc2_w 227) 4 1765 (495790025587), oN, oN, o0 .lcmp 5, oA (.ifCond .ne 7) 8 12, oN, oN, oK (.iconst 0) 9 (0), oA (.goto 28) 12 37, oN, oN, oA (.lload_n 0) 13 0, oL (.ldc2_w 229) 16 1766 (113715424159091), oN, oN, o0 .lcmp 17, oA (.ifCond .ne 7) 20 24, oN, oN, oK (.iconst 1) 21 (1), oA (.goto 16) 24 37, oN, oN, oA (.lload_n 0) 25 0, oL (.ldc2_w 231) 28 1767 (1650550643), oN, oN, o0 .lcmp 29, oA (.ifCond .ne 7) 32 36, oN, oN],
  [oK (.iconst 2) 33 (2), oA (.goto 4) 36 37, oN, oN, oK (.iconst (-1)) 37 (-1), (.ireturn, 38, 0, 0, 0, 0, 0, 0, 0, 0, [])]]
def cd_Mo_listLine : List (List xop) := [[oA (.lload_n 1) 1 1, oL (.ldc2_w 243) 4 1772 (1936224101), oN, oN, o0 .lcmp 5, oA (.ifCond .eq 24) 8 29, oN, oN, oA (.lload_n 1) 9 1, oL (.ldc2_w 245) 12 1773 (1718579060), oN, oN, o0 .lcmp 13, oA (.ifCond .eq 16) 16 29, oN, oN, oA (.lload_n 1) 17 1, oL (.ldc2_w 247) 20 1774 (1751737445), oN, oN, o0 .lcmp 21, oA (.ifCond .eq 8) 24 29, oN, oN, oA (.aload_n 0) 25 0, (.invokevirtual 143, 28, 222, 0, 11, 0, 0, 0, 0, 0, [(0, 1698)]), oN, oN, (.ireturn, 29, 0, 0, 0, 1, 0, 0, 0, 0, []), oA (.aload_n 0) 30 0, oA (.lload_n 1) 31 1, oL (.ldc2_w 243) 34 1772 (1936224101)],
  [oN, oN, o0 .lcmp 35, oA (.ifCond .ne 7) 38 42, oN, oN, oK (.iconst 0) 39 (0), oA (.goto 16) 42 55, oN, oN, oA (.lload_n 1) 43 1, oL (.ldc2_w 245) 46 1773 (1718579060), oN, oN, o0 .lcmp 47, oA (.ifCond .ne 7) 50 54, oN, oN, oK (.iconst 1) 51 (1), oA (.goto 4) 54 55, oN, oN, oK (.iconst 2) 55 (2), oA (.lload_n 1) 56 1, oL (.ldc2_w 243) 59 1772 (1936224101), oN, oN, o0 .lcmp 60, oA (.ifCond .ne 8) 63 68, oN, oN, oK (.bipush 6) 65 (6)],
  [oN, oA (.goto 5) 68 70, oN, oN, oK (.bipush 8) 70 (8), oN, oA (.iload_n 3) 71 3, (.invokevirtual 196, 74, 223, 3, 11, 3, 0, 0, 0, 0, [(0, 1702)]), oN, oN, oA (.aload_n 0) 75 0, (.invokevirtual 155, 78, 216, 0, 11, 3, 0, 0, 0, 0, [(0, 1665)]), oN, oN, oA (.lload_n 1) 79 1, oL (.ldc2_w 243) 82 1772 (1936224101), oN, oN, o0 .lcmp 83, oA (.ifCond .ne 10) 86 93, oN, oN, oA (.aload_n 0) 87 0, (.invokevirtual 249, 90, 239, 0, 11, 0, 0, 0, 0, 0, [(0, 1775)]), oN, oN, oA (.goto 22) 93 112, oN, oN, oA (.lload_n 1) 94 1, oL (.ldc2_w 245) 97 1773 (1718579060), oN],
  [oN, o0 .lcmp 98, oA (.ifCond .ne 10) 101 108, oN, oN, oA (.aload_n 0) 102 0, (.invokevirtual 252, 105, 240, 0, 11, 0, 0, 0, 0, 0, [(0, 1779)]), oN, oN, oA (.goto 7) 108 112, oN, oN, oA (.aload_n 0) 109 0, (.invokevirtual 255, 112, 241, 0, 11, 0, 0, 0, 0, 0, [(0, 1783)]), oN, oN, (.ireturn, 113, 0, 0, 0, 1, 0, 0, 0, 0, [])]]
def cd_Mo_shoeLine : List (List xop) := [[oA (.aload_n 0) 1 0, oK (.iconst 0) 2 (0), oK (.iconst 1) 3 (1), oK (.bipush 20) 5 (20), oN, (.invokevirtual 162, 8, 226, 3, 11, 0, 0, 0, 0, 0, [(0, 1714)]), oN, oN, oA (.ifCond .ne 5) 11 13, oN, oN, oK (.iconst 0) 12 (0), (.ireturn, 13, 0, 0, 0, 1, 0, 0, 0, 0, []), oA (.aload_n 0) 14 0, oF (.getfield 38) 17 11 19 2 1480, oN, oN, oK (.iconst 0) 18 (0), o0 .iaload 19, oK (.bipush 6) 21 (6), oN, oA (.if_icmp .ge 32) 24 53, oN, oN, oA (.aload_n 0) 25 0, oF (.getfield 38) 28 11 19 2 1480, oN, oN, oK (.iconst 3) 29 (3), oA (.aload_n 0) 30 0, oF (.getfield 38) 33 11 19 2 1480, oN],
  [oN, oK (.iconst 0) 34 (0), o0 .iaload 35, o0 .iadd 36, oA (.aload_n 0) 37 0, oF (.getfield 41) 40 11 20 2 1481, oN, oN, oK (.iconst 0) 41 (0), o0 .iaload 42, o0 .iastore 43, oA (.aload_n 0) 44 0, oF (.getfield 38) 47 11 19 2 1480, oN, oN, oK (.iconst 0) 48 (0), o0 .dup2 49, o0 .iaload 50, oK (.iconst 1) 51 (1), o0 .iadd 52, o0 .iastore 53, oK (.iconst 1) 54 (1), (.ireturn, 55, 0, 0, 0, 1, 0, 0, 0, 0, [])]]
def cd_Mo_footLine : List (List xop) := [[oA (.aload_n 0) 1 0, oK (.iconst 0) 2 (0), oK (.iconst 1) 3 (1), oK (.bipush 20) 5 (20), oN, (.invokevirtual 162, 8, 226, 3, 11, 0, 0, 0, 0, 0, [(0, 1714)]), oN, oN, oA (.ifCond .eq 14) 11 22, oN, oN, oA (.aload_n 0) 12 0, oK (.iconst 1) 13 (1), oK (.iconst 0) 14 (0), oK (.bipush 9) 16 (9), oN, (.invokevirtual 162, 19, 226, 3, 11, 0, 0, 0, 0, 0, [(0, 1714)]), oN, oN, oA (.ifCond .ne 5) 22 24, oN, oN, oK (.iconst 0) 23 (0), (.ireturn, 24, 0, 0, 0, 1, 0, 0, 0, 0, []), oA (.aload_n 0) 25 0, oF (.getfield 38) 28 11 19 2 1480, oN, oN, oK (.iconst 1) 29 (1), o0 .iaload 30, oK (.bipush 8) 32 (8), oN],
  [oA (.if_icmp .ge 53) 35 85, oN, oN, oA (.aload_n 0) 36 0, oF (.getfield 38) 39 11 19 2 1480, oN, oN, oK (.bipush 9) 41 (9), oN, oA (.aload_n 0) 42 0, oF (.getfield 38) 45 11 19 2 1480, oN, oN, oK (.iconst 1) 46 (1), o0 .iaload 47, o0 .iadd 48, oA (.aload_n 0) 49 0, oF (.getfield 41) 52 11 20 2 1481, oN, oN, oK (.iconst 0) 53 (0), o0 .iaload 54, o0 .iastore 55, oA (.aload_n 0) 56 0, oF (.getfield 38) 59 11 19 2 1480, oN, oN, oK (.bipush 17) 61 (17), oN, oA (.aload_n 0) 62 0, oF (.getfield 38) 65 11 19 2 1480, oN],
  [oN, oK (.iconst 1) 66 (1), o0 .iaload 67, o0 .iadd 68, oA (.aload_n 0) 69 0, oF (.getfield 41) 72 11 20 2 1481, oN, oN, oK (.iconst 1) 73 (1), o0 .iaload 74, o0 .iastore 75, oA (.aload_n 0) 76 0, oF (.getfield 38) 79 11 19 2 1480, oN, oN, oK (.iconst 1) 80 (1), o0 .dup2 81, o0 .iaload 82, oK (.iconst 1) 83 (1), o0 .iadd 84, o0 .iastore 85, oK (.iconst 1) 86 (1), (.ireturn, 87, 0, 0, 0, 1, 0, 0, 0, 0, [])]]
def cd_Mo_hideLine : List (List xop) := [[oA (.aload_n 0) 1 0, oK (.iconst 0) 2 (0), oK (.iconst 0) 3 (0), oK (.bipush 9) 5 (9), oN, (.invokevirtual 162, 8, 226, 3, 11, 0, 0, 0, 0, 0, [(0, 1714)]), oN, oN, oA (.ifCond .eq 25) 11 33, oN, oN, oA (.aload_n 0) 12 0, oK (.iconst 1) 13 (1), oK (.iconst 0) 14 (0), oK (.bipush 9) 16 (9), oN, (.invokevirtual 162, 19, 226, 3, 11, 0, 0, 0, 0, 0, [(0, 1714)]), oN, oN, oA (.ifCond .eq 14) 22 33, oN, oN, oA (.aload_n 0) 23 0, oK (.iconst 2) 24 (2), oK (.iconst 0) 25 (0), oK (.bipush 20) 27 (20), oN, (.invokevirtual 162, 30, 226, 3, 11, 0, 0, 0, 0, 0, [(0, 1714)]), oN, oN, oA (.ifCond .ne 5) 33 35, oN],
  [oN, oK (.iconst 0) 34 (0), (.ireturn, 35, 0, 0, 0, 1, 0, 0, 0, 0, []), oA (.aload_n 0) 36 0, oF (.getfield 38) 39 11 19 2 1480, oN, oN, oK (.iconst 2) 40 (2), o0 .iaload 41, oK (.bipush 8) 43 (8), oN, oA (.if_icmp .ge 73) 46 116, oN, oN, oA (.aload_n 0) 47 0, oF (.getfield 38) 50 11 19 2 1480, oN, oN, oK (.bipush 25) 52 (25), oN, oA (.aload_n 0) 53 0, oF (.getfield 38) 56 11 19 2 1480, oN, oN, oK (.iconst 2) 57 (2), o0 .iaload 58, o0 .iadd 59, oA (.aload_n 0) 60 0, oF (.getfield 41) 63 11 20 2 1481, oN, oN, oK (.iconst 0) 64 (0)],
  [o0 .iaload 65, o0 .iastore 66, oA (.aload_n 0) 67 0, oF (.getfield 38) 70 11 19 2 1480, oN, oN, oK (.bipush 33) 72 (33), oN, oA (.aload_n 0) 73 0, oF (.getfield 38) 76 11 19 2 1480, oN, oN, oK (.iconst 2) 77 (2), o0 .iaload 78, o0 .iadd 79, oA (.aload_n 0) 80 0, oF (.getfield 41) 83 11 20 2 1481, oN, oN, oK (.iconst 1) 84 (1), o0 .iaload 85, o0 .iastore 86, oA (.aload_n 0) 87 0, oF (.getfield 38) 90 11 19 2 1480, oN, oN, oK (.bipush 41) 92 (41), oN, oA (.aload_n 0) 93 0, oF (.getfield 38) 96 11 19 2 1480, oN, oN],
  [oK (.iconst 2) 97 (2), o0 .iaload 98, o0 .iadd 99, oA (.aload_n 0) 100 0, oF (.getfield 41) 103 11 20 2 1481, oN, oN, oK (.iconst 2) 104 (2), o0 .iaload 105, o0 .iastore 106, oA (.aload_n 0) 107 0, oF (.getfield 38) 110 11 19 2 1480, oN, oN, oK (.iconst 2) 111 (2), o0 .dup2 112, o0 .iaload 113, oK (.iconst 1) 114 (1), o0 .iadd 115, o0 .iastore 116, oK (.iconst 1) 117 (1), (.ireturn, 118, 0, 0, 0, 1, 0, 0, 0, 0, [])]]
def cd_Mo_storeAll : List (List xop) := [[oA (.iload_n 1) 1 1, oS (.tableswitch 63 0 2 #[27, 39, 51]) 28 64 [((0), 28), ((1), 40), ((2), 52)], oN, oN, oN, oN, oN, oN, oN, oN, oN, oN, oN, oN, oN, oN, oN, oN, oN, oN, oN, oN, oN, oN, oN, oN, oN, oN, oA (.aload_n 0) 29 0, oA (.aload_n 0) 30 0, oF (.getfield 26) 33 11 6 2 1467, oN],
  [oN, oK (.bipush 70) 35 (70), oN, oA (.iload_n 2) 36 2, (.invokevirtual 281, 39, 243, 3, 11, 3, 0, 0, 0, 0, [(0, 1791)]), oN, oN, o0 .return_ 40, oA (.aload_n 0) 41 0, oA (.aload_n 0) 42 0, oF (.getfield 29) 45 11 7 2 1468, oN, oN, oK (.bipush 81) 47 (81), oN, oA (.iload_n 2) 48 2, (.invokevirtual 281, 51, 243, 3, 11, 3, 0, 0, 0, 0, [(0, 1791)]), oN, oN, o0 .return_ 52, oA (.aload_n 0) 53 0, oA (.aload_n 0) 54 0, oF (.getfield 32) 57 11 8 2 1469, oN, oN, oK (.bipush 51) 59 (51), oN, oA (.iload_n 2) 60 2, (.invokevirtual 281, 63, 243, 3, 11, 3, 0, 0, 0, 0, [(0, 1791)]), oN, oN, o0 .return_ 64],
  [oA (.aload_n 0) 65 0, oA (.aload_n 0) 66 0, oF (.getfield 35) 69 11 9 2 1470, oN, oN, oK (.bipush 49) 71 (49), oN, oA (.iload_n 2) 72 2, (.invokevirtual 281, 75, 243, 3, 11, 3, 0, 0, 0, 0, [(0, 1791)]), oN, oN, o0 .return_ 76]]
def cd_Mo_store : List (List xop) := [[oK (.iconst 0) 1 (0), oA (.istore 4) 3 4, oN, oA (.iload 4) 5 4, oN, oA (.iload_n 2) 6 2, oA (.if_icmp .ge 24) 9 30, oN, oN, oA (.aload_n 1) 10 1, oA (.iload_n 2) 11 2, oA (.iload_n 3) 12 3, o0 .imul 13, oA (.iload 4) 15 4, oN, o0 .iadd 16, oA (.aload_n 0) 17 0, oF (.getfield 38) 20 11 19 2 1480, oN, oN, oA (.iload 4) 22 4, oN, o0 .iaload 23, o0 .iastore 24, oC (.iinc 4 1) 27 4 0 (1), oN, oN, oA (.goto (-24)) 30 3, oN, oN, o0 .return_ 31]]
def cd_Mo_fault : List (List xop) := [[oA (.aload_n 0) 1 0, oK (.iconst 0) 2 (0), oF (.putfield 91) 5 11 0 0 1461, oN, oN, oA (.iload_n 1) 6 1, oA (.ifCond .ne 12) 9 18, oN, oN, oA (.aload_n 0) 10 0, oF (.getfield 17) 13 11 3 2 1464, oN, oN, oK (.iconst 0) 14 (0), o0 .iaload 15, oA (.goto 18) 18 33, oN, oN, oA (.iload_n 1) 19 1, oK (.iconst 1) 20 (1), oA (.if_icmp .ne 12) 23 32, oN, oN, oA (.aload_n 0) 24 0, oF (.getfield 20) 27 11 4 2 1465, oN, oN, oK (.iconst 0) 28 (0), o0 .iaload 29, oA (.goto 4) 32 33, oN, oN],
  [oK (.iconst (-1)) 33 (-1), (.ireturn, 34, 0, 0, 0, 0, 0, 0, 0, 0, [])]]
def cd_Mo_town : List (List xop) := [[oA (.aload_n 0) 1 0, oK (.iconst 0) 2 (0), oF (.putfield 91) 5 11 0 0 1461, oN, oN, oA (.aload_n 0) 6 0, oA (.iload_n 1) 7 1, (.invokevirtual 310, 10, 246, 1, 11, 0, 0, 0, 0, 0, [(0, 1803)]), oN, oN, oA (.ifCond .ne 6) 13 16, oN, oN, oK (.bipush (-2)) 15 (-2), oN, (.ireturn, 16, 0, 0, 0, 0, 0, 0, 0, 0, []), oA (.iload_n 2) 17 2, oK (.bipush 10) 19 (10), oN, oK (.bipush 79) 21 (79), oN, (.invokestatic 103, 24, 211, 3, 0, 0, 0, 0, 0, 0, [(0, 1646)]), oN, oN, oA (.ifCond .eq 41) 27 65, oN, oN, oA (.aload_n 0) 28 0, oA (.iload_n 2) 29 2, oK (.bipush 10) 31 (10), oN, o0 .irem 32],
  [(.invokevirtual 313, 35, 248, 1, 11, 0, 0, 0, 0, 0, [(0, 1811)]), oN, oN, oA (.ifCond .eq 27) 38 62, oN, oN, oA (.aload_n 0) 39 0, oK (.bipush 7) 41 (7), oN, oK (.bipush 9) 43 (9), oN, oA (.iload_n 2) 44 2, oK (.bipush 10) 46 (10), oN, o0 .idiv 47, oK (.iconst 1) 48 (1), o0 .isub 49, o0 .imul 50, o0 .iadd 51, oA (.iload_n 2) 52 2, oK (.bipush 10) 54 (10), oN, o0 .irem 55, o0 .iadd 56, (.invokevirtual 297, 59, 247, 1, 11, 0, 0, 0, 0, 0, [(0, 1807)]), oN, oN, oA (.goto 5) 62 64, oN, oN, oK (.bipush (-2)) 64 (-2), oN],
  [(.ireturn, 65, 0, 0, 0, 0, 0, 0, 0, 0, []), oA (.iload_n 2) 66 2, oK (.iconst 0) 67 (0), oK (.bipush 6) 69 (6), oN, (.invokestatic 103, 72, 211, 3, 0, 0, 0, 0, 0, 0, [(0, 1646)]), oN, oN, oA (.ifCond .eq 11) 75 83, oN, oN, oA (.aload_n 0) 76 0, oA (.iload_n 2) 77 2, (.invokevirtual 297, 80, 247, 1, 11, 0, 0, 0, 0, 0, [(0, 1807)]), oN, oN, oA (.goto 5) 83 85, oN, oN, oK (.bipush (-2)) 85 (-2), oN, (.ireturn, 86, 0, 0, 0, 0, 0, 0, 0, 0, [])]]
def cd_Mo_hand : List (List xop) := [[oA (.aload_n 0) 1 0, oA (.iload_n 1) 2 1, oF (.putfield 294) 5 11 23 0 1484, oN, oN, oA (.aload_n 0) 6 0, oK (.iconst 0) 7 (0), oA (.iload_n 1) 8 1, (.invokevirtual 285, 11, 213, 2, 11, 0, 0, 0, 0, 0, [(0, 1653)]), oN, oN, oA (.ifCond .ne 5) 14 16, oN, oN, oK (.iconst 0) 15 (0), (.ireturn, 16, 0, 0, 0, 1, 0, 0, 0, 0, []), oA (.aload_n 0) 17 0, oA (.aload_n 0) 18 0, oK (.bipush 6) 20 (6), oN, (.invokevirtual 297, 23, 247, 1, 11, 0, 0, 0, 0, 0, [(0, 1807)]), oN, oN, oF (.putfield 301) 26 11 24 0 1485, oN, oN, oA (.aload_n 0) 27 0, oA (.aload_n 0) 28 0, oK (.iconst 3) 29 (3), (.invokevirtual 297, 32, 247, 1, 11, 0, 0, 0, 0, 0, [(0, 1807)]), oN, oN],
  [oF (.putfield 304) 35 11 25 0 1486, oN, oN, oA (.aload_n 0) 36 0, oA (.aload_n 0) 37 0, oK (.iconst 4) 38 (4), (.invokevirtual 297, 41, 247, 1, 11, 0, 0, 0, 0, 0, [(0, 1807)]), oN, oN, oF (.putfield 307) 44 11 26 0 1487, oN, oN, oK (.iconst 1) 45 (1), (.ireturn, 46, 0, 0, 0, 1, 0, 0, 0, 0, [])]]
def cd_Mo_of : List (List xop) := [[oA (.aload_n 0) 1 0, oF (.getfield 26) 4 11 6 2 1467, oN, oN, oK (.bipush 70) 6 (70), oN, oA (.aload_n 0) 7 0, oF (.getfield 294) 10 11 23 0 1484, oN, oN, o0 .imul 11, oA (.iload_n 1) 12 1, o0 .iadd 13, o0 .iaload 14, (.ireturn, 15, 0, 0, 0, 0, 0, 0, 0, 0, [])]]
def cd_Mo_isStop : List (List xop) := [[oA (.iload_n 1) 1 1, oK (.iconst 0) 2 (0), oA (.aload_n 0) 3 0, oF (.getfield 301) 6 11 24 0 1485, oN, oN, oK (.iconst 1) 7 (1), o0 .isub 8, (.invokestatic 103, 11, 211, 3, 0, 0, 0, 0, 0, 0, [(0, 1646)]), oN, oN, (.ireturn, 12, 0, 0, 0, 1, 0, 0, 0, 0, [])]]
def cd_Mo_deed : List (List xop) := [[oA (.aload_n 0) 1 0, oK (.iconst 0) 2 (0), oF (.putfield 91) 5 11 0 0 1461, oN, oN, oA (.aload_n 0) 6 0, oA (.iload_n 1) 7 1, (.invokevirtual 319, 10, 250, 1, 11, 0, 0, 0, 0, 0, [(0, 1819)]), oN, oN, oA (.ifCond .ne 6) 13 16, oN, oN, oK (.bipush (-2)) 15 (-2), oN, (.ireturn, 16, 0, 0, 0, 0, 0, 0, 0, 0, []), oA (.iload_n 2) 17 2, oK (.iconst (-1)) 18 (-1), oA (.if_icmp .ne 17) 21 35, oN, oN, oA (.iload_n 3) 22 3, oA (.ifCond .ne 10) 25 32, oN, oN, oA (.aload_n 0) 26 0, (.invokevirtual 322, 29, 251, 0, 11, 0, 0, 0, 0, 0, [(0, 1823)]), oN, oN, oA (.goto 5) 32 34, oN, oN],
  [oK (.bipush (-2)) 34 (-2), oN, (.ireturn, 35, 0, 0, 0, 0, 0, 0, 0, 0, []), oA (.iload_n 2) 36 2, oK (.iconst 0) 37 (0), oA (.aload_n 0) 38 0, (.invokevirtual 322, 41, 251, 0, 11, 0, 0, 0, 0, 0, [(0, 1823)]), oN, oN, oK (.iconst 1) 42 (1), o0 .isub 43, (.invokestatic 103, 46, 211, 3, 0, 0, 0, 0, 0, 0, [(0, 1646)]), oN, oN, oA (.ifCond .eq 21) 49 67, oN, oN, oA (.iload_n 3) 50 3, oK (.iconst 0) 51 (0), oK (.iconst 1) 52 (1), (.invokestatic 103, 55, 211, 3, 0, 0, 0, 0, 0, 0, [(0, 1646)]), oN, oN, oA (.ifCond .eq 12) 58 67, oN, oN, oA (.aload_n 0) 59 0, oA (.iload_n 2) 60 2, oA (.iload_n 3) 61 3, (.invokevirtual 325, 64, 252, 2, 11, 0, 0, 0, 0, 0, [(0, 1827)]), oN, oN],
  [oA (.goto 5) 67 69, oN, oN, oK (.bipush (-2)) 69 (-2), oN, (.ireturn, 70, 0, 0, 0, 0, 0, 0, 0, 0, [])]]
def cd_Mo_hasEvening : List (List xop) := [[oA (.aload_n 0) 1 0, oA (.iload_n 1) 2 1, oF (.putfield 316) 5 11 27 0 1488, oN, oN, oA (.aload_n 0) 6 0, oK (.iconst 1) 7 (1), oA (.iload_n 1) 8 1, (.invokevirtual 285, 11, 213, 2, 11, 0, 0, 0, 0, 0, [(0, 1653)]), oN, oN, (.ireturn, 12, 0, 0, 0, 1, 0, 0, 0, 0, [])]]
def cd_Mo_deeds : List (List xop) := [[oA (.aload_n 0) 1 0, oF (.getfield 29) 4 11 7 2 1468, oN, oN, oK (.bipush 81) 6 (81), oN, oA (.aload_n 0) 7 0, oF (.getfield 316) 10 11 27 0 1488, oN, oN, o0 .imul 11, o0 .iaload 12, (.ireturn, 13, 0, 0, 0, 0, 0, 0, 0, 0, [])]]
def cd_Mo_deedOf : List (List xop) := [[oA (.aload_n 0) 1 0, oF (.getfield 29) 4 11 7 2 1468, oN, oN, oK (.bipush 81) 6 (81), oN, oA (.aload_n 0) 7 0, oF (.getfield 316) 10 11 27 0 1488, oN, oN, o0 .imul 11, oK (.iconst 1) 12 (1), o0 .iadd 13, oK (.iconst 2) 14 (2), oA (.iload_n 1) 15 1, o0 .imul 16, o0 .iadd 17, oA (.iload_n 2) 18 2, o0 .iadd 19, o0 .iaload 20, (.ireturn, 21, 0, 0, 0, 0, 0, 0, 0, 0, [])]]
def cd_Mo_till : List (List xop) := [[oA (.aload_n 0) 1 0, oK (.iconst 0) 2 (0), oF (.putfield 91) 5 11 0 0 1461, oN, oN, oA (.aload_n 0) 6 0, oA (.iload_n 1) 7 1, oA (.iload_n 2) 8 2, (.invokevirtual 388, 11, 254, 2, 11, 0, 0, 0, 0, 0, [(0, 1835)]), oN, oN, oA (.ifCond .eq 14) 14 25, oN, oN, oA (.aload_n 0) 15 0, oA (.aload_n 0) 16 0, (.invokevirtual 322, 19, 251, 0, 11, 0, 0, 0, 0, 0, [(0, 1823)]), oN, oN, (.invokevirtual 391, 22, 255, 1, 11, 0, 0, 0, 0, 0, [(0, 1839)]), oN, oN, oA (.goto 4) 25 26, oN, oN, oK (.iconst (-1)) 26 (-1), (.ireturn, 27, 0, 0, 0, 0, 0, 0, 0, 0, [])]]
def cd_Mo_layAll : List (List xop) := [[oA (.aload_n 0) 1 0, oA (.iload_n 2) 2 2, (.invokevirtual 319, 5, 250, 1, 11, 0, 0, 0, 0, 0, [(0, 1819)]), oN, oN, oA (.ifCond .eq 15) 8 20, oN, oN, oA (.aload_n 0) 9 0, oA (.iload_n 1) 10 1, (.invokevirtual 310, 13, 246, 1, 11, 0, 0, 0, 0, 0, [(0, 1803)]), oN, oN, oA (.ifCond .eq 7) 16 20, oN, oN, oK (.iconst 1) 17 (1), oA (.goto 4) 20 21, oN, oN, oK (.iconst 0) 21 (0), (.ireturn, 22, 0, 0, 0, 1, 0, 0, 0, 0, [])]]
def cd_Mo_play : List (List xop) := [[oA (.aload_n 0) 1 0, (.invokevirtual 382, 4, 256, 0, 11, 3, 0, 0, 0, 0, [(0, 1843)]), oN, oN, oK (.iconst 0) 5 (0), oA (.istore_n 2) 6 2, oA (.iload_n 2) 7 2, oA (.iload_n 1) 8 1, oA (.if_icmp .ge 28) 11 36, oN, oN, oA (.aload_n 0) 12 0, oA (.aload_n 0) 13 0, oA (.iload_n 2) 14 2, oK (.iconst 0) 15 (0), (.invokevirtual 325, 18, 252, 2, 11, 0, 0, 0, 0, 0, [(0, 1827)]), oN, oN, oA (.aload_n 0) 19 0, oA (.iload_n 2) 20 2, oK (.iconst 1) 21 (1), (.invokevirtual 325, 24, 252, 2, 11, 0, 0, 0, 0, 0, [(0, 1827)]), oN, oN, (.invokevirtual 385, 27, 258, 2, 11, 0, 0, 0, 0, 0, [(0, 1851)]), oN, oN, oA (.ifCond .eq 9) 30 36, oN, oN, oC (.iinc 2 1) 33 2 0 (1), oN],
  [oN, oA (.goto (-27)) 36 6, oN, oN, oA (.iload_n 2) 37 2, (.ireturn, 38, 0, 0, 0, 0, 0, 0, 0, 0, [])]]
def cd_Mo_begin : List (List xop) := [[oK (.iconst 0) 1 (0), oA (.istore_n 1) 2 1, oA (.iload_n 1) 3 1, oK (.bipush 9) 5 (9), oN, oA (.if_icmp .ge 53) 8 58, oN, oN, oA (.aload_n 0) 9 0, oF (.getfield 44) 12 11 28 2 1489, oN, oN, oA (.iload_n 1) 13 1, oA (.iload_n 1) 14 1, oA (.aload_n 0) 15 0, oF (.getfield 301) 18 11 24 0 1485, oN, oN, oA (.if_icmp .ge 11) 21 29, oN, oN, oA (.aload_n 0) 22 0, oA (.iload_n 1) 23 1, (.invokevirtual 337, 26, 257, 1, 11, 0, 0, 0, 0, 0, [(0, 1847)]), oN, oN, oA (.goto 4) 29 30, oN, oN, oK (.iconst 0) 30 (0), o0 .iastore 31, oA (.aload_n 0) 32 0],
  [oF (.getfield 47) 35 11 29 2 1490, oN, oN, oA (.iload_n 1) 36 1, oK (.iconst 0) 37 (0), o0 .iastore 38, oA (.aload_n 0) 39 0, oF (.getfield 50) 42 11 30 2 1491, oN, oN, oA (.iload_n 1) 43 1, oK (.iconst 0) 44 (0), o0 .iastore 45, oA (.aload_n 0) 46 0, oF (.getfield 53) 49 11 31 2 1492, oN, oN, oA (.iload_n 1) 50 1, oK (.iconst 0) 51 (0), o0 .iastore 52, oC (.iinc 1 1) 55 1 0 (1), oN, oN, oA (.goto (-53)) 58 2, oN, oN, oA (.aload_n 0) 59 0, oK (.iconst 0) 60 (0), oF (.putfield 340) 63 11 32 0 1493, oN, oN, oA (.aload_n 0) 64 0],
  [oK (.iconst (-1)) 65 (-1), oF (.putfield 343) 68 11 33 0 1494, oN, oN, oA (.aload_n 0) 69 0, oA (.aload_n 0) 70 0, oK (.iconst 2) 71 (2), (.invokevirtual 297, 74, 247, 1, 11, 0, 0, 0, 0, 0, [(0, 1807)]), oN, oN, oF (.putfield 346) 77 11 34 0 1495, oN, oN, oA (.aload_n 0) 78 0, oK (.iconst 0) 79 (0), oF (.putfield 349) 82 11 35 0 1496, oN, oN, oA (.aload_n 0) 83 0, oK (.iconst 0) 84 (0), oF (.putfield 352) 87 11 36 0 1497, oN, oN, oA (.aload_n 0) 88 0, oK (.iconst 0) 89 (0), oF (.putfield 355) 92 11 37 0 1498, oN, oN, oA (.aload_n 0) 93 0, oK (.iconst 0) 94 (0), oF (.putfield 358) 97 11 38 0 1499, oN],
  [oN, o0 .return_ 98]]
def cd_Mo_middle : List (List xop) := [[oA (.aload_n 0) 1 0, oK (.bipush 7) 3 (7), oN, oA (.iload_n 1) 4 1, o0 .iadd 5, (.invokevirtual 297, 8, 247, 1, 11, 0, 0, 0, 0, 0, [(0, 1807)]), oN, oN, oA (.istore_n 2) 9 2, oA (.iload_n 2) 10 2, oK (.iconst 1) 11 (1), oA (.if_icmp .ne 14) 14 25, oN, oN, oA (.aload_n 0) 15 0, oK (.bipush 43) 17 (43), oN, oA (.iload_n 1) 18 1, o0 .iadd 19, (.invokevirtual 297, 22, 247, 1, 11, 0, 0, 0, 0, 0, [(0, 1807)]), oN, oN, oA (.goto 38) 25 60, oN, oN, oA (.iload_n 2) 26 2, oK (.iconst 2) 27 (2), oA (.if_icmp .ne 14) 30 41, oN, oN, oA (.aload_n 0) 31 0, oK (.bipush 34) 33 (34)],
  [oN, oA (.iload_n 1) 34 1, o0 .iadd 35, (.invokevirtual 297, 38, 247, 1, 11, 0, 0, 0, 0, 0, [(0, 1807)]), oN, oN, oA (.goto 22) 41 60, oN, oN, oA (.aload_n 0) 42 0, oK (.bipush 34) 44 (34), oN, oA (.iload_n 1) 45 1, o0 .iadd 46, (.invokevirtual 297, 49, 247, 1, 11, 0, 0, 0, 0, 0, [(0, 1807)]), oN, oN, oA (.aload_n 0) 50 0, oK (.bipush 43) 52 (43), oN, oA (.iload_n 1) 53 1, o0 .iadd 54, (.invokevirtual 297, 57, 247, 1, 11, 0, 0, 0, 0, 0, [(0, 1807)]), oN, oN, o0 .iadd 58, oK (.iconst 2) 59 (2), o0 .idiv 60, (.ireturn, 61, 0, 0, 0, 0, 0, 0, 0, 0, [])]]
def cd_Mo_does : List (List xop) := [[oA (.iload_n 1) 1 1, oS (.tableswitch 70 0 3 #[31, 53, 59, 65]) 32 71 [((0), 32), ((1), 54), ((2), 60), ((3), 66)], oN, oN, oN, oN, oN, oN, oN, oN, oN, oN, oN, oN, oN, oN, oN, oN, oN, oN, oN, oN, oN, oN, oN, oN, oN, oN, oN, oN, oN, oN],
  [oA (.aload_n 0) 33 0, oA (.iload_n 2) 34 2, (.invokevirtual 313, 37, 248, 1, 11, 0, 0, 0, 0, 0, [(0, 1811)]), oN, oN, oA (.ifCond .eq 15) 40 52, oN, oN, oA (.aload_n 0) 41 0, oA (.iload_n 2) 42 2, (.invokevirtual 373, 45, 259, 1, 11, 0, 0, 0, 0, 0, [(0, 1855)]), oN, oN, oA (.ifCond .eq 7) 48 52, oN, oN, oK (.iconst 1) 49 (1), oA (.goto 4) 52 53, oN, oN, oK (.iconst 0) 53 (0), (.ireturn, 54, 0, 0, 0, 1, 0, 0, 0, 0, []), oA (.aload_n 0) 55 0, oA (.iload_n 2) 56 2, (.invokevirtual 376, 59, 265, 1, 11, 0, 0, 0, 0, 0, [(0, 1878)]), oN, oN, (.ireturn, 60, 0, 0, 0, 1, 0, 0, 0, 0, []), oA (.aload_n 0) 61 0, oA (.iload_n 2) 62 2, (.invokevirtual 364, 65, 264, 1, 11, 0, 0, 0, 0, 0, [(0, 1874)]), oN],
  [oN, (.ireturn, 66, 0, 0, 0, 1, 0, 0, 0, 0, []), oA (.aload_n 0) 67 0, (.invokevirtual 379, 70, 268, 0, 11, 0, 0, 0, 0, 0, [(0, 1888)]), oN, oN, (.ireturn, 71, 0, 0, 0, 1, 0, 0, 0, 0, []), oA (.aload_n 0) 72 0, oK (.iconst (-1)) 73 (-1), (.invokevirtual 373, 76, 259, 1, 11, 0, 0, 0, 0, 0, [(0, 1855)]), oN, oN, (.ireturn, 77, 0, 0, 0, 1, 0, 0, 0, 0, [])]]
def cd_Mo_drivesTo : List (List xop) := [[oA (.iload_n 1) 1 1, oK (.iconst (-1)) 2 (-1), oA (.if_icmp .eq 11) 5 13, oN, oN, oA (.aload_n 0) 6 0, oA (.iload_n 1) 7 1, (.invokevirtual 313, 10, 248, 1, 11, 0, 0, 0, 0, 0, [(0, 1811)]), oN, oN, oA (.ifCond .eq 19) 13 29, oN, oN, oA (.aload_n 0) 14 0, oA (.aload_n 0) 15 0, oA (.aload_n 0) 16 0, oF (.getfield 343) 19 11 33 0 1494, oN, oN, oA (.iload_n 1) 20 1, (.invokevirtual 361, 23, 260, 2, 11, 0, 0, 0, 0, 0, [(0, 1859)]), oN, oN, (.invokevirtual 364, 26, 264, 1, 11, 0, 0, 0, 0, 0, [(0, 1874)]), oN, oN, oA (.ifCond .ne 5) 29 31, oN, oN, oK (.iconst 0) 30 (0), (.ireturn, 31, 0, 0, 0, 1, 0, 0, 0, 0, []), oA (.aload_n 0) 32 0],
  [oA (.iload_n 1) 33 1, oF (.putfield 343) 36 11 33 0 1494, oN, oN, oK (.iconst 1) 37 (1), (.ireturn, 38, 0, 0, 0, 1, 0, 0, 0, 0, [])]]
def cd_Mo_drives : List (List xop) := [[oA (.aload_n 0) 1 0, oF (.getfield 304) 4 11 25 0 1486, oN, oN, oA (.aload_n 0) 5 0, oA (.iload_n 1) 6 1, (.invokevirtual 328, 9, 261, 1, 11, 0, 0, 0, 0, 0, [(0, 1863)]), oN, oN, oA (.aload_n 0) 10 0, oA (.iload_n 2) 11 2, (.invokevirtual 328, 14, 261, 1, 11, 0, 0, 0, 0, 0, [(0, 1863)]), oN, oN, (.invokestatic 331, 17, 262, 2, 0, 0, 0, 0, 0, 0, [(0, 1867)]), oN, oN, oA (.aload_n 0) 18 0, oA (.iload_n 1) 19 1, (.invokevirtual 334, 22, 263, 1, 11, 0, 0, 0, 0, 0, [(0, 1870)]), oN, oN, oA (.aload_n 0) 23 0, oA (.iload_n 2) 24 2, (.invokevirtual 334, 27, 263, 1, 11, 0, 0, 0, 0, 0, [(0, 1870)]), oN, oN, (.invokestatic 331, 30, 262, 2, 0, 0, 0, 0, 0, 0, [(0, 1867)]), oN, oN, o0 .iadd 31, o0 .imul 32],
  [(.ireturn, 33, 0, 0, 0, 0, 0, 0, 0, 0, [])]]
def cd_Mo_placeX : List (List xop) := [[oA (.iload_n 1) 1 1, oK (.iconst (-1)) 2 (-1), oA (.if_icmp .ne 11) 5 13, oN, oN, oA (.aload_n 0) 6 0, oK (.iconst 0) 7 (0), (.invokevirtual 297, 10, 247, 1, 11, 0, 0, 0, 0, 0, [(0, 1807)]), oN, oN, oA (.goto 11) 13 21, oN, oN, oA (.aload_n 0) 14 0, oK (.bipush 16) 16 (16), oN, oA (.iload_n 1) 17 1, o0 .iadd 18, (.invokevirtual 297, 21, 247, 1, 11, 0, 0, 0, 0, 0, [(0, 1807)]), oN, oN, (.ireturn, 22, 0, 0, 0, 0, 0, 0, 0, 0, [])]]
def cd_Mo_apart : List (List xop) := [[oA (.iload_n 0) 1 0, oA (.iload_n 1) 2 1, oA (.if_icmp .ge 9) 5 11, oN, oN, oA (.iload_n 1) 6 1, oA (.iload_n 0) 7 0, o0 .isub 8, oA (.goto 6) 11 14, oN, oN, oA (.iload_n 0) 12 0, oA (.iload_n 1) 13 1, o0 .isub 14, (.ireturn, 15, 0, 0, 0, 0, 0, 0, 0, 0, [])]]
def cd_Mo_placeY : List (List xop) := [[oA (.iload_n 1) 1 1, oK (.iconst (-1)) 2 (-1), oA (.if_icmp .ne 11) 5 13, oN, oN, oA (.aload_n 0) 6 0, oK (.iconst 1) 7 (1), (.invokevirtual 297, 10, 247, 1, 11, 0, 0, 0, 0, 0, [(0, 1807)]), oN, oN, oA (.goto 11) 13 21, oN, oN, oA (.aload_n 0) 14 0, oK (.bipush 25) 16 (25), oN, oA (.iload_n 1) 17 1, o0 .iadd 18, (.invokevirtual 297, 21, 247, 1, 11, 0, 0, 0, 0, 0, [(0, 1807)]), oN, oN, (.ireturn, 22, 0, 0, 0, 0, 0, 0, 0, 0, [])]]
def cd_Mo_takes : List (List xop) := [[oA (.aload_n 0) 1 0, oF (.getfield 340) 4 11 32 0 1493, oN, oN, oA (.iload_n 1) 5 1, o0 .iadd 6, oK (.sipush 300) 9 (300), oN, oN, oA (.if_icmp .gt 7) 12 16, oN, oN, oK (.iconst 1) 13 (1), oA (.goto 4) 16 17, oN, oN, oK (.iconst 0) 17 (0), oA (.istore_n 2) 18 2, oA (.aload_n 0) 19 0, o0 .dup 20, oF (.getfield 340) 23 11 32 0 1493, oN, oN, oA (.iload_n 2) 24 2, oA (.ifCond .eq 7) 27 31, oN, oN, oA (.iload_n 1) 28 1, oA (.goto 4) 31 32, oN, oN, oK (.iconst 0) 32 (0)],
  [o0 .iadd 33, oF (.putfield 340) 36 11 32 0 1493, oN, oN, oA (.iload_n 2) 37 2, (.ireturn, 38, 0, 0, 0, 1, 0, 0, 0, 0, [])]]
def cd_Mo_ladles : List (List xop) := [[oA (.aload_n 0) 1 0, oF (.getfield 340) 4 11 32 0 1493, oN, oN, oA (.istore_n 2) 5 2, oA (.aload_n 0) 6 0, oF (.getfield 343) 9 11 33 0 1494, oN, oN, oK (.iconst (-1)) 10 (-1), oA (.if_icmp .eq 35) 13 45, oN, oN, oA (.iload_n 1) 14 1, oA (.aload_n 0) 15 0, oF (.getfield 346) 18 11 34 0 1495, oN, oN, oA (.if_icmp .gt 27) 21 45, oN, oN, oA (.iload_n 1) 22 1, oA (.aload_n 0) 23 0, oF (.getfield 44) 26 11 28 2 1489, oN, oN, oA (.aload_n 0) 27 0, oF (.getfield 343) 30 11 33 0 1494, oN, oN, o0 .iaload 31, oA (.if_icmp .gt 14) 34 45],
  [oN, oN, oA (.aload_n 0) 35 0, oA (.iload_n 1) 36 1, (.invokestatic 367, 39, 266, 1, 0, 0, 0, 0, 0, 0, [(0, 1882)]), oN, oN, (.invokevirtual 364, 42, 264, 1, 11, 0, 0, 0, 0, 0, [(0, 1874)]), oN, oN, oA (.ifCond .ne 5) 45 47, oN, oN, oK (.iconst 0) 46 (0), (.ireturn, 47, 0, 0, 0, 1, 0, 0, 0, 0, []), oK (.iconst 0) 48 (0), oA (.iload_n 1) 49 1, oA (.aload_n 0) 50 0, oF (.getfield 44) 53 11 28 2 1489, oN, oN, oA (.aload_n 0) 54 0, oF (.getfield 343) 57 11 33 0 1494, oN, oN, o0 .iaload 58, oA (.aload_n 0) 59 0, oF (.getfield 47) 62 11 29 2 1490, oN, oN, oA (.aload_n 0) 63 0, oF (.getfield 343) 66 11 33 0 1494],
  [oN, oN, o0 .iaload 67, o0 .isub 68, o0 .isub 69, (.invokestatic 176, 72, 229, 2, 0, 0, 0, 0, 0, 0, [(0, 1726)]), oN, oN, oA (.istore_n 3) 73 3, oA (.aload_n 0) 74 0, o0 .dup 75, oF (.getfield 346) 78 11 34 0 1495, oN, oN, oA (.iload_n 1) 79 1, o0 .isub 80, oF (.putfield 346) 83 11 34 0 1495, oN, oN, oA (.aload_n 0) 84 0, o0 .dup 85, oF (.getfield 349) 88 11 35 0 1496, oN, oN, oA (.iload_n 1) 89 1, o0 .iadd 90, oF (.putfield 349) 93 11 35 0 1496, oN, oN, oA (.aload_n 0) 94 0, oF (.getfield 53) 97 11 31 2 1492, oN],
  [oN, oA (.aload_n 0) 98 0, oF (.getfield 343) 101 11 33 0 1494, oN, oN, o0 .dup2 102, o0 .iaload 103, oA (.iload_n 1) 104 1, o0 .iadd 105, o0 .iastore 106, oA (.aload_n 0) 107 0, o0 .dup 108, oF (.getfield 358) 111 11 38 0 1499, oN, oN, oA (.iload_n 3) 112 3, o0 .iadd 113, oF (.putfield 358) 116 11 38 0 1499, oN, oN, oA (.aload_n 0) 117 0, o0 .dup 118, oF (.getfield 352) 121 11 36 0 1497, oN, oN, oA (.iload_n 2) 122 2, oA (.aload_n 0) 123 0, oF (.getfield 307) 126 11 26 0 1487, oN, oN, oA (.if_icmp .ge 7) 129 133, oN],
  [oN, oA (.iload_n 1) 130 1, oA (.goto 4) 133 134, oN, oN, oK (.iconst 0) 134 (0), o0 .iadd 135, oF (.putfield 352) 138 11 36 0 1497, oN, oN, oA (.aload_n 0) 139 0, oF (.getfield 44) 142 11 28 2 1489, oN, oN, oA (.aload_n 0) 143 0, oF (.getfield 343) 146 11 33 0 1494, oN, oN, o0 .dup2 147, o0 .iaload 148, oA (.iload_n 1) 149 1, o0 .isub 150, o0 .iastore 151, oA (.aload_n 0) 152 0, oF (.getfield 47) 155 11 29 2 1490, oN, oN, oA (.aload_n 0) 156 0, oF (.getfield 343) 159 11 33 0 1494, oN, oN, o0 .dup2 160],
  [o0 .iaload 161, oA (.iload_n 3) 162 3, o0 .isub 163, o0 .iastore 164, oA (.aload_n 0) 165 0, oK (.bipush 61) 167 (61), oN, oA (.aload_n 0) 168 0, oF (.getfield 343) 171 11 33 0 1494, oN, oN, o0 .iadd 172, (.invokevirtual 297, 175, 247, 1, 11, 0, 0, 0, 0, 0, [(0, 1807)]), oN, oN, oA (.istore 4) 177 4, oN, oA (.iload 4) 179 4, oN, oK (.iconst (-1)) 180 (-1), oA (.if_icmp .eq 68) 183 248, oN, oN, oA (.iload_n 1) 184 1, oA (.aload_n 0) 185 0, oK (.bipush 52) 187 (52), oN, oA (.aload_n 0) 188 0, oF (.getfield 343) 191 11 33 0 1494, oN, oN, o0 .iadd 192],
  [(.invokevirtual 297, 195, 247, 1, 11, 0, 0, 0, 0, 0, [(0, 1807)]), oN, oN, oA (.aload_n 0) 196 0, oF (.getfield 50) 199 11 30 2 1491, oN, oN, oA (.aload_n 0) 200 0, oF (.getfield 343) 203 11 33 0 1494, oN, oN, o0 .iaload 204, o0 .isub 205, (.invokestatic 370, 208, 267, 2, 0, 0, 0, 0, 0, 0, [(0, 1885)]), oN, oN, oA (.istore 5) 210 5, oN, oA (.aload_n 0) 211 0, oF (.getfield 50) 214 11 30 2 1491, oN, oN, oA (.aload_n 0) 215 0, oF (.getfield 343) 218 11 33 0 1494, oN, oN, o0 .dup2 219, o0 .iaload 220, oA (.iload 5) 222 5, oN, o0 .iadd 223, o0 .iastore 224],
  [oA (.aload_n 0) 225 0, oF (.getfield 44) 228 11 28 2 1489, oN, oN, oA (.iload 4) 230 4, oN, o0 .dup2 231, o0 .iaload 232, oA (.iload 5) 234 5, oN, o0 .iadd 235, o0 .iastore 236, oA (.aload_n 0) 237 0, oF (.getfield 47) 240 11 29 2 1490, oN, oN, oA (.iload 4) 242 4, oN, o0 .dup2 243, o0 .iaload 244, oA (.iload 5) 246 5, oN, o0 .iadd 247, o0 .iastore 248, oK (.iconst 1) 249 (1), (.ireturn, 250, 0, 0, 0, 1, 0, 0, 0, 0, [])]]
def cd_Mo_feeds : List (List xop) := [[oA (.iload_n 0) 1 0, oK (.iconst 1) 2 (1), o0 .iadd 3, oK (.iconst 2) 4 (2), o0 .idiv 5, (.ireturn, 6, 0, 0, 0, 0, 0, 0, 0, 0, [])]]
def cd_Mo_lesser : List (List xop) := [[oA (.iload_n 0) 1 0, oA (.iload_n 1) 2 1, oA (.if_icmp .ge 7) 5 9, oN, oN, oA (.iload_n 0) 6 0, oA (.goto 4) 9 10, oN, oN, oA (.iload_n 1) 10 1, (.ireturn, 11, 0, 0, 0, 0, 0, 0, 0, 0, [])]]
def cd_Mo_chats : List (List xop) := [[oA (.aload_n 0) 1 0, oF (.getfield 343) 4 11 33 0 1494, oN, oN, oK (.iconst (-1)) 5 (-1), oA (.if_icmp .eq 15) 8 20, oN, oN, oA (.aload_n 0) 9 0, oA (.aload_n 0) 10 0, oK (.iconst 5) 11 (5), (.invokevirtual 297, 14, 247, 1, 11, 0, 0, 0, 0, 0, [(0, 1807)]), oN, oN, (.invokevirtual 364, 17, 264, 1, 11, 0, 0, 0, 0, 0, [(0, 1874)]), oN, oN, oA (.ifCond .ne 5) 20 22, oN, oN, oK (.iconst 0) 21 (0), (.ireturn, 22, 0, 0, 0, 1, 0, 0, 0, 0, []), oA (.aload_n 0) 23 0, o0 .dup 24, oF (.getfield 355) 27 11 37 0 1498, oN, oN, oK (.iconst 1) 28 (1), o0 .iadd 29, oF (.putfield 355) 32 11 37 0 1498, oN, oN],
  [oK (.iconst 1) 33 (1), (.ireturn, 34, 0, 0, 0, 1, 0, 0, 0, 0, [])]]
def cd_Mo_state : List (List xop) := [[oA (.aload_n 0) 1 0, oK (.iconst 0) 2 (0), oF (.putfield 91) 5 11 0 0 1461, oN, oN, oA (.aload_n 0) 6 0, oA (.iload_n 1) 7 1, oA (.iload_n 2) 8 2, (.invokevirtual 388, 11, 254, 2, 11, 0, 0, 0, 0, 0, [(0, 1835)]), oN, oN, oA (.ifCond .eq 33) 14 44, oN, oN, oA (.iload_n 3) 15 3, oK (.iconst 0) 16 (0), oA (.aload_n 0) 17 0, (.invokevirtual 322, 20, 251, 0, 11, 0, 0, 0, 0, 0, [(0, 1823)]), oN, oN, (.invokestatic 103, 23, 211, 3, 0, 0, 0, 0, 0, 0, [(0, 1646)]), oN, oN, oA (.ifCond .eq 21) 26 44, oN, oN, oA (.aload_n 0) 27 0, oA (.iload_n 3) 28 3, (.invokevirtual 391, 31, 255, 1, 11, 0, 0, 0, 0, 0, [(0, 1839)]), oN, oN, oA (.iload_n 3) 32 3],
  [oA (.if_icmp .ne 12) 35 44, oN, oN, oA (.aload_n 0) 36 0, oA (.iload 4) 38 4, oN, (.invokevirtual 397, 41, 270, 1, 11, 0, 0, 0, 0, 0, [(0, 1896)]), oN, oN, oA (.goto 5) 44 46, oN, oN, oK (.bipush (-2)) 46 (-2), oN, (.ireturn, 47, 0, 0, 0, 0, 0, 0, 0, 0, [])]]
def cd_Mo_ofState : List (List xop) := [[oA (.iload_n 1) 1 1, oK (.bipush 10) 3 (10), oN, oK (.bipush 39) 5 (39), oN, (.invokestatic 103, 8, 211, 3, 0, 0, 0, 0, 0, 0, [(0, 1646)]), oN, oN, oA (.ifCond .ne 9) 11 17, oN, oN, oA (.aload_n 0) 12 0, oA (.iload_n 1) 13 1, (.invokevirtual 394, 16, 271, 1, 11, 0, 0, 0, 0, 0, [(0, 1900)]), oN, oN, (.ireturn, 17, 0, 0, 0, 0, 0, 0, 0, 0, []), oA (.iload_n 1) 18 1, oK (.bipush 10) 20 (10), oN, o0 .irem 21, oA (.istore_n 2) 22 2, oA (.aload_n 0) 23 0, oA (.iload_n 2) 24 2, (.invokevirtual 313, 27, 248, 1, 11, 0, 0, 0, 0, 0, [(0, 1811)]), oN, oN, oA (.ifCond .ne 8) 30 35, oN, oN, oK (.bipush (-2)) 32 (-2), oN],
  [oA (.goto 39) 35 71, oN, oN, oA (.iload_n 1) 36 1, oK (.bipush 20) 38 (20), oN, oA (.if_icmp .ge 12) 41 50, oN, oN, oA (.aload_n 0) 42 0, oF (.getfield 44) 45 11 28 2 1489, oN, oN, oA (.iload_n 2) 46 2, o0 .iaload 47, oA (.goto 24) 50 71, oN, oN, oA (.iload_n 1) 51 1, oK (.bipush 30) 53 (30), oN, oA (.if_icmp .ge 12) 56 65, oN, oN, oA (.aload_n 0) 57 0, oF (.getfield 47) 60 11 29 2 1490, oN, oN, oA (.iload_n 2) 61 2, o0 .iaload 62, oA (.goto 9) 65 71, oN],
  [oN, oA (.aload_n 0) 66 0, oF (.getfield 53) 69 11 31 2 1492, oN, oN, oA (.iload_n 2) 70 2, o0 .iaload 71, (.ireturn, 72, 0, 0, 0, 0, 0, 0, 0, 0, [])]]
def cd_Mo_ofEvening : List (List xop) := [[oA (.iload_n 1) 1 1, oS (.tableswitch 78 0 6 #[43, 48, 53, 58, 63, 68, 73]) 44 79 [((0), 44), ((1), 49), ((2), 54), ((3), 59), ((4), 64), ((5), 69), ((6), 74)], oN, oN, oN, oN, oN, oN, oN, oN, oN, oN, oN, oN, oN, oN, oN, oN, oN, oN, oN, oN, oN, oN, oN, oN, oN, oN, oN, oN, oN, oN],
  [oN, oN, oN, oN, oN, oN, oN, oN, oN, oN, oN, oN, oA (.aload_n 0) 45 0, oF (.getfield 340) 48 11 32 0 1493, oN, oN, (.ireturn, 49, 0, 0, 0, 0, 0, 0, 0, 0, []), oA (.aload_n 0) 50 0, oF (.getfield 343) 53 11 33 0 1494, oN, oN, (.ireturn, 54, 0, 0, 0, 0, 0, 0, 0, 0, []), oA (.aload_n 0) 55 0, oF (.getfield 346) 58 11 34 0 1495, oN, oN, (.ireturn, 59, 0, 0, 0, 0, 0, 0, 0, 0, []), oA (.aload_n 0) 60 0, oF (.getfield 349) 63 11 35 0 1496, oN, oN, (.ireturn, 64, 0, 0, 0, 0, 0, 0, 0, 0, [])],
  [oA (.aload_n 0) 65 0, oF (.getfield 352) 68 11 36 0 1497, oN, oN, (.ireturn, 69, 0, 0, 0, 0, 0, 0, 0, 0, []), oA (.aload_n 0) 70 0, oF (.getfield 355) 73 11 37 0 1498, oN, oN, (.ireturn, 74, 0, 0, 0, 0, 0, 0, 0, 0, []), oA (.aload_n 0) 75 0, oF (.getfield 358) 78 11 38 0 1499, oN, oN, (.ireturn, 79, 0, 0, 0, 0, 0, 0, 0, 0, []), oK (.bipush (-2)) 81 (-2), oN, (.ireturn, 82, 0, 0, 0, 0, 0, 0, 0, 0, [])]]
def cd_Mo_give : List (List xop) := [[oA (.aload_n 0) 1 0, oK (.iconst 0) 2 (0), oF (.putfield 91) 5 11 0 0 1461, oN, oN, oA (.iload_n 3) 6 3, oK (.iconst 0) 7 (0), oK (.bipush 99) 9 (99), oN, (.invokestatic 103, 12, 211, 3, 0, 0, 0, 0, 0, 0, [(0, 1646)]), oN, oN, oA (.ifCond .eq 29) 15 41, oN, oN, oA (.aload_n 0) 16 0, oA (.iload_n 1) 17 1, (.invokevirtual 310, 20, 246, 1, 11, 0, 0, 0, 0, 0, [(0, 1803)]), oN, oN, oA (.ifCond .eq 21) 23 41, oN, oN, oA (.aload_n 0) 24 0, oA (.iload_n 2) 25 2, (.invokevirtual 313, 28, 248, 1, 11, 0, 0, 0, 0, 0, [(0, 1811)]), oN, oN, oA (.ifCond .eq 13) 31 41, oN, oN, oA (.aload_n 0) 32 0],
  [oA (.iload_n 2) 33 2, oA (.iload 4) 35 4, oN, (.invokevirtual 411, 38, 273, 2, 11, 0, 0, 0, 0, 0, [(0, 1908)]), oN, oN, oA (.ifCond .ne 5) 41 43, oN, oN, oK (.iconst (-1)) 42 (-1), (.ireturn, 43, 0, 0, 0, 0, 0, 0, 0, 0, []), oA (.aload_n 0) 44 0, (.invokevirtual 414, 47, 274, 0, 11, 3, 0, 0, 0, 0, [(0, 1912)]), oN, oN, oA (.aload_n 0) 48 0, oA (.iload_n 2) 49 2, oA (.iload_n 3) 50 3, oA (.iload 4) 52 4, oN, (.invokevirtual 407, 55, 275, 3, 11, 0, 0, 0, 0, 0, [(0, 1916)]), oN, oN, (.ireturn, 56, 0, 0, 0, 0, 0, 0, 0, 0, [])]]
def cd_Mo_mayCome : List (List xop) := [[oA (.iload_n 2) 1 2, oA (.aload_n 0) 2 0, oK (.bipush 34) 4 (34), oN, oA (.iload_n 1) 5 1, o0 .iadd 6, (.invokevirtual 297, 9, 247, 1, 11, 0, 0, 0, 0, 0, [(0, 1807)]), oN, oN, oA (.aload_n 0) 10 0, oK (.bipush 43) 12 (43), oN, oA (.iload_n 1) 13 1, o0 .iadd 14, (.invokevirtual 297, 17, 247, 1, 11, 0, 0, 0, 0, 0, [(0, 1807)]), oN, oN, (.invokestatic 103, 20, 211, 3, 0, 0, 0, 0, 0, 0, [(0, 1646)]), oN, oN, (.ireturn, 21, 0, 0, 0, 1, 0, 0, 0, 0, [])]]
def cd_Mo_findCounts : List (List xop) := [[oA (.aload_n 0) 1 0, oF (.getfield 301) 4 11 24 0 1485, oN, oN, oA (.istore_n 1) 5 1, oA (.iload_n 1) 6 1, oA (.ifCond .lt 156) 9 162, oN, oN, oA (.aload_n 0) 10 0, oF (.getfield 60) 13 11 40 2 1501, oN, oN, oA (.iload_n 1) 14 1, oA (.iload_n 1) 15 1, oA (.aload_n 0) 16 0, oF (.getfield 301) 19 11 24 0 1485, oN, oN, oA (.if_icmp .ne 7) 22 26, oN, oN, oL (.lconst 1) 23 0 1, oA (.goto 32) 26 55, oN, oN, oA (.aload_n 0) 27 0, oF (.getfield 60) 30 11 40 2 1501, oN, oN, oA (.iload_n 1) 31 1, oK (.iconst 1) 32 (1)],
  [o0 .iadd 33, o0 .laload 34, oA (.aload_n 0) 35 0, oK (.bipush 43) 37 (43), oN, oA (.iload_n 1) 38 1, o0 .iadd 39, (.invokevirtual 297, 42, 247, 1, 11, 0, 0, 0, 0, 0, [(0, 1807)]), oN, oN, oA (.aload_n 0) 43 0, oK (.bipush 34) 45 (34), oN, oA (.iload_n 1) 46 1, o0 .iadd 47, (.invokevirtual 297, 50, 247, 1, 11, 0, 0, 0, 0, 0, [(0, 1807)]), oN, oN, o0 .isub 51, oK (.iconst 1) 52 (1), o0 .iadd 53, o0 .i2l 54, o0 .lmul 55, o0 .lastore 56, oK (.iconst 0) 57 (0), oA (.istore_n 2) 58 2, oA (.iload_n 2) 59 2, oK (.bipush 99) 61 (99), oN, oA (.if_icmp .gt 95) 64 156, oN, oN],
  [oL (.lconst 0) 65 0 0, oA (.lstore_n 3) 66 3, oA (.iload_n 1) 67 1, oA (.aload_n 0) 68 0, oF (.getfield 301) 71 11 24 0 1485, oN, oN, oA (.if_icmp .ge 14) 74 85, oN, oN, oA (.aload_n 0) 75 0, oK (.bipush 34) 77 (34), oN, oA (.iload_n 1) 78 1, o0 .iadd 79, (.invokevirtual 297, 82, 247, 1, 11, 0, 0, 0, 0, 0, [(0, 1807)]), oN, oN, oA (.goto 4) 85 86, oN, oN, oK (.iconst 1) 86 (1), oA (.istore 5) 88 5, oN, oA (.iload 5) 90 5, oN, oA (.iload_n 1) 91 1, oA (.aload_n 0) 92 0, oF (.getfield 301) 95 11 24 0 1485, oN, oN, oA (.if_icmp .ge 14) 98 109],
  [oN, oN, oA (.aload_n 0) 99 0, oK (.bipush 43) 101 (43), oN, oA (.iload_n 1) 102 1, o0 .iadd 103, (.invokevirtual 297, 106, 247, 1, 11, 0, 0, 0, 0, 0, [(0, 1807)]), oN, oN, oA (.goto 4) 109 110, oN, oN, oK (.iconst 0) 110 (0), oA (.if_icmp .gt 28) 113 138, oN, oN, oA (.lload_n 3) 114 3, oA (.aload_n 0) 115 0, oA (.iload_n 1) 116 1, oA (.iload_n 2) 117 2, oA (.iload 5) 119 5, oN, oA (.aload_n 0) 120 0, oA (.iload_n 1) 121 1, oA (.iload_n 2) 122 2, oA (.iload 5) 124 5, oN, (.invokevirtual 407, 127, 275, 3, 11, 0, 0, 0, 0, 0, [(0, 1916)]), oN, oN, (.invokevirtual 403, 130, 276, 4, 11, 1, 0, 0, 0, 0, [(0, 1920)])],
  [oN, oN, o0 .ladd 131, oA (.lstore_n 3) 132 3, oC (.iinc 5 1) 135 5 0 (1), oN, oN, oA (.goto (-47)) 138 88, oN, oN, oA (.aload_n 0) 139 0, oF (.getfield 56) 142 11 39 2 1500, oN, oN, oK (.bipush 100) 144 (100), oN, oA (.iload_n 1) 145 1, o0 .imul 146, oA (.iload_n 2) 147 2, o0 .iadd 148, oA (.lload_n 3) 149 3, o0 .lastore 150, oC (.iinc 2 1) 153 2 0 (1), oN, oN, oA (.goto (-95)) 156 58, oN, oN, oC (.iinc 1 (-1)) 159 1 0 (-1), oN, oN, oA (.goto (-154)) 162 5],
  [oN, oN, o0 .return_ 163]]
def cd_Mo_gives : List (List xop) := [[oK (.iconst 0) 1 (0), oA (.istore 4) 3 4, oN, oK (.iconst 1) 4 (1), oA (.istore 5) 6 5, oN, oA (.iload 5) 8 5, oN, oA (.iload_n 3) 9 3, oA (.if_icmp .gt 46) 12 55, oN, oN, oA (.iload 5) 14 5, oN, oA (.iload_n 2) 15 2, oA (.if_icmp .gt 40) 18 55, oN, oN, oA (.aload_n 0) 19 0, oA (.iload_n 1) 20 1, oA (.iload_n 2) 21 2, oA (.iload_n 3) 22 3, oA (.iload 5) 24 5, oN, (.invokevirtual 403, 27, 276, 4, 11, 1, 0, 0, 0, 0, [(0, 1920)]), oN, oN, oA (.aload_n 0) 28 0, oA (.iload_n 1) 29 1, oA (.iload_n 2) 30 2, oA (.iload_n 3) 31 3, oA (.iload 4) 33 4],
  [oN, (.invokevirtual 403, 36, 276, 4, 11, 1, 0, 0, 0, 0, [(0, 1920)]), oN, oN, o0 .lcmp 37, oA (.ifCond .gt 8) 40 45, oN, oN, oA (.iload 5) 42 5, oN, oA (.goto 5) 45 47, oN, oN, oA (.iload 4) 47 4, oN, oA (.istore 4) 49 4, oN, oC (.iinc 5 1) 52 5 0 (1), oN, oN, oA (.goto (-46)) 55 6, oN, oN, oA (.iload 4) 57 4, oN, (.ireturn, 58, 0, 0, 0, 0, 0, 0, 0, 0, [])]]
def cd_Mo_countsBy : List (List xop) := [[oA (.iload_n 3) 1 3, oA (.iload 4) 3 4, oN, o0 .isub 4, o0 .i2l 5, oA (.aload_n 0) 6 0, oA (.iload_n 1) 7 1, (.invokevirtual 400, 10, 277, 1, 11, 0, 0, 0, 0, 0, [(0, 1924)]), oN, oN, o0 .i2l 11, o0 .lmul 12, oA (.aload_n 0) 13 0, oF (.getfield 60) 16 11 40 2 1501, oN, oN, oA (.iload_n 1) 17 1, oK (.iconst 1) 18 (1), o0 .iadd 19, o0 .laload 20, o0 .lmul 21, oA (.aload_n 0) 22 0, oF (.getfield 56) 25 11 39 2 1500, oN, oN, oK (.bipush 100) 27 (100), oN, oA (.iload_n 1) 28 1, oK (.iconst 1) 29 (1), o0 .iadd 30, o0 .imul 31, oA (.iload_n 2) 32 2],
  [o0 .iadd 33, oA (.iload 4) 35 4, oN, o0 .isub 36, o0 .laload 37, o0 .ladd 38, o0 .lreturn 39]]
def cd_Mo_weight : List (List xop) := [[oA (.aload_n 0) 1 0, oK (.bipush 7) 3 (7), oN, oA (.iload_n 1) 4 1, o0 .iadd 5, (.invokevirtual 297, 8, 247, 1, 11, 0, 0, 0, 0, 0, [(0, 1807)]), oN, oN, oK (.iconst 3) 9 (3), oA (.if_icmp .ne 7) 12 16, oN, oN, oK (.iconst 2) 13 (2), oA (.goto 4) 16 17, oN, oN, oK (.iconst 1) 17 (1), (.ireturn, 18, 0, 0, 0, 0, 0, 0, 0, 0, [])]]
def cd_Mo_mean : List (List xop) := [[oA (.aload_n 0) 1 0, oK (.iconst 0) 2 (0), oF (.putfield 91) 5 11 0 0 1461, oN, oN, oA (.iload_n 3) 6 3, oK (.iconst 0) 7 (0), oK (.bipush 99) 9 (99), oN, (.invokestatic 103, 12, 211, 3, 0, 0, 0, 0, 0, 0, [(0, 1646)]), oN, oN, oA (.ifCond .eq 23) 15 35, oN, oN, oA (.aload_n 0) 16 0, oA (.iload_n 1) 17 1, (.invokevirtual 310, 20, 246, 1, 11, 0, 0, 0, 0, 0, [(0, 1803)]), oN, oN, oA (.ifCond .eq 15) 23 35, oN, oN, oA (.iload_n 2) 24 2, oK (.iconst 0) 25 (0), oA (.aload_n 0) 26 0, oF (.getfield 301) 29 11 24 0 1485, oN, oN, (.invokestatic 103, 32, 211, 3, 0, 0, 0, 0, 0, 0, [(0, 1646)]), oN, oN],
  [oA (.ifCond .ne 7) 35 39, oN, oN, oL (.ldc2_w 421) 38 1932 (-1), oN, oN, o0 .lreturn 39, oA (.aload_n 0) 40 0, (.invokevirtual 414, 43, 274, 0, 11, 3, 0, 0, 0, 0, [(0, 1912)]), oN, oN, oA (.aload_n 0) 44 0, oF (.getfield 56) 47 11 39 2 1500, oN, oN, oK (.bipush 100) 49 (100), oN, oA (.iload_n 2) 50 2, o0 .imul 51, oA (.iload_n 3) 52 3, o0 .iadd 53, o0 .laload 54, oA (.aload_n 0) 55 0, oF (.getfield 60) 58 11 40 2 1501, oN, oN, oA (.iload_n 2) 59 2, o0 .laload 60, oA (.iload 4) 62 4, oN, (.invokestatic 423, 65, 279, 3, 0, 1, 0, 0, 0, 0, [(0, 1933)]), oN],
  [oN, o0 .lreturn 66]]
def cd_Mo_part : List (List xop) := [[oA (.iload 4) 2 4, oN, oA (.ifCond .eq 7) 5 9, oN, oN, oA (.lload_n 2) 6 2, oA (.goto 4) 9 10, oN, oN, oA (.lload_n 0) 10 0, oA (.lload_n 2) 11 2, oA (.lload_n 0) 12 0, (.invokestatic 417, 15, 280, 2, 0, 1, 0, 0, 0, 0, [(0, 1936)]), oN, oN, o0 .ldiv 16, o0 .lreturn 17]]
def cd_Mo_common : List (List xop) := [[oA (.lload_n 0) 1 0, oA (.lstore 4) 3 4, oN, oA (.lload_n 2) 4 2, oA (.lstore 6) 6 6, oN, oA (.lload 6) 8 6, oN, oL (.lconst 0) 9 0 0, o0 .lcmp 10, oA (.ifCond .eq 21) 13 31, oN, oN, oA (.lload 4) 15 4, oN, oA (.lload 6) 17 6, oN, o0 .lrem 18, oA (.lstore 8) 20 8, oN, oA (.lload 6) 22 6, oN, oA (.lstore 4) 24 4, oN, oA (.lload 8) 26 8, oN, oA (.lstore 6) 28 6, oN, oA (.goto (-22)) 31 6, oN, oN, oA (.lload 4) 33 4],
  [oN, o0 .lreturn 34]]
def cd_Mo_safe : List (List xop) := [[oA (.aload_n 0) 1 0, oK (.iconst 0) 2 (0), oF (.putfield 91) 5 11 0 0 1461, oN, oN, oA (.aload_n 0) 6 0, oA (.iload_n 1) 7 1, (.invokevirtual 310, 10, 246, 1, 11, 0, 0, 0, 0, 0, [(0, 1803)]), oN, oN, oA (.ifCond .ne 5) 13 15, oN, oN, oK (.iconst (-1)) 14 (-1), (.ireturn, 15, 0, 0, 0, 0, 0, 0, 0, 0, []), oK (.iconst 0) 16 (0), oA (.istore_n 2) 17 2, oK (.iconst 0) 18 (0), oA (.istore_n 3) 19 3, oA (.iload_n 3) 20 3, oA (.aload_n 0) 21 0, oF (.getfield 301) 24 11 24 0 1485, oN, oN, oA (.if_icmp .ge 20) 27 44, oN, oN, oA (.iload_n 2) 28 2, oA (.aload_n 0) 29 0, oK (.bipush 43) 31 (43), oN, oA (.iload_n 3) 32 3],
  [o0 .iadd 33, (.invokevirtual 297, 36, 247, 1, 11, 0, 0, 0, 0, 0, [(0, 1807)]), oN, oN, o0 .iadd 37, oA (.istore_n 2) 38 2, oC (.iinc 3 1) 41 3 0 (1), oN, oN, oA (.goto (-22)) 44 19, oN, oN, oA (.iload_n 2) 45 2, (.ireturn, 46, 0, 0, 0, 0, 0, 0, 0, 0, [])]]
def cd_Mo_way : List (List xop) := [[oA (.aload_n 0) 1 0, oK (.iconst 0) 2 (0), oF (.putfield 91) 5 11 0 0 1461, oN, oN, oA (.aload_n 0) 6 0, oA (.iload_n 1) 7 1, (.invokevirtual 310, 10, 246, 1, 11, 0, 0, 0, 0, 0, [(0, 1803)]), oN, oN, oA (.ifCond .ne 5) 13 15, oN, oN, oK (.iconst (-1)) 14 (-1), (.ireturn, 15, 0, 0, 0, 0, 0, 0, 0, 0, []), oA (.aload_n 0) 16 0, oK (.iconst (-1)) 17 (-1), (.invokevirtual 459, 20, 283, 1, 11, 3, 0, 0, 0, 0, [(0, 1947)]), oN, oN, oA (.iload_n 2) 21 2, oK (.iconst (-1)) 22 (-1), oA (.if_icmp .ne 10) 25 32, oN, oN, oA (.aload_n 0) 26 0, oF (.getfield 434) 29 11 45 0 1506, oN, oN, oA (.goto 40) 32 69, oN, oN],
  [oA (.iload_n 2) 33 2, oK (.bipush (-2)) 35 (-2), oN, oA (.if_icmp .ne 10) 38 45, oN, oN, oA (.aload_n 0) 39 0, oF (.getfield 437) 42 11 46 0 1507, oN, oN, oA (.goto 27) 45 69, oN, oN, oA (.iload_n 2) 46 2, oK (.iconst 0) 47 (0), oA (.aload_n 0) 48 0, oF (.getfield 452) 51 11 43 0 1504, oN, oN, oK (.iconst 1) 52 (1), o0 .isub 53, (.invokestatic 103, 56, 211, 3, 0, 0, 0, 0, 0, 0, [(0, 1646)]), oN, oN, oA (.ifCond .eq 12) 59 68, oN, oN, oA (.aload_n 0) 60 0, oF (.getfield 66) 63 11 42 2 1503, oN, oN, oA (.iload_n 2) 64 2],
  [o0 .iaload 65, oA (.goto 4) 68 69, oN, oN, oK (.iconst (-1)) 69 (-1), (.ireturn, 70, 0, 0, 0, 0, 0, 0, 0, 0, [])]]
def cd_Mo_findWay : List (List xop) := [[oA (.aload_n 0) 1 0, oA (.iload_n 1) 2 1, oF (.putfield 427) 5 11 44 0 1505, oN, oN, oA (.aload_n 0) 6 0, oK (.iconst 0) 7 (0), oK (.iconst (-1)) 8 (-1), oK (.iconst 0) 9 (0), (.invokevirtual 449, 12, 284, 3, 11, 3, 0, 0, 0, 0, [(0, 1951)]), oN, oN, oA (.aload_n 0) 13 0, oF (.getfield 434) 16 11 45 0 1506, oN, oN, oA (.istore_n 2) 17 2, oA (.aload_n 0) 18 0, oF (.getfield 437) 21 11 46 0 1507, oN, oN, oA (.istore_n 3) 22 3, oK (.iconst 0) 23 (0), oA (.istore 4) 25 4, oN, oK (.iconst (-1)) 26 (-1), oA (.istore 5) 28 5, oN, oK (.iconst 0) 29 (0), oA (.istore 6) 31 6, oN, oA (.aload_n 0) 32 0],
  [oK (.iconst 0) 33 (0), oF (.putfield 452) 36 11 43 0 1504, oN, oN, oA (.aload_n 0) 37 0, oA (.iload 4) 39 4, oN, (.invokevirtual 431, 42, 285, 1, 11, 0, 0, 0, 0, 0, [(0, 1955)]), oN, oN, oA (.iload_n 2) 43 2, oA (.if_icmp .ge 78) 46 121, oN, oN, oK (.iconst 0) 47 (0), oA (.istore 7) 49 7, oN, oA (.aload_n 0) 50 0, oA (.iload 4) 52 4, oN, oA (.iload 5) 54 5, oN, oA (.iload 6) 56 6, oN, oA (.iload 7) 58 7, oN, oA (.iload_n 2) 59 2, oA (.iload_n 3) 60 3, (.invokevirtual 455, 63, 290, 6, 11, 0, 0, 0, 0, 0, [(0, 1975)]), oN, oN, oA (.ifCond .ne 9) 66 72],
  [oN, oN, oC (.iinc 7 1) 69 7 0 (1), oN, oN, oA (.goto (-20)) 72 49, oN, oN, oA (.aload_n 0) 73 0, oA (.iload 5) 75 5, oN, oA (.iload 6) 77 6, oN, oA (.iload 7) 79 7, oN, (.invokevirtual 446, 82, 289, 3, 11, 0, 0, 0, 0, 0, [(0, 1971)]), oN, oN, oA (.istore 6) 84 6, oN, oA (.iload 4) 86 4, oN, oK (.iconst 1) 87 (1), oA (.iload 7) 89 7, oN, o0 .ishl 90, o0 .ior 91, oA (.istore 4) 93 4, oN, oA (.iload 7) 95 7, oN, oA (.istore 5) 97 5],
  [oN, oA (.aload_n 0) 98 0, oF (.getfield 66) 101 11 42 2 1503, oN, oN, oA (.aload_n 0) 102 0, oF (.getfield 452) 105 11 43 0 1504, oN, oN, oA (.iload 7) 107 7, oN, o0 .iastore 108, oA (.aload_n 0) 109 0, o0 .dup 110, oF (.getfield 452) 113 11 43 0 1504, oN, oN, oK (.iconst 1) 114 (1), o0 .iadd 115, oF (.putfield 452) 118 11 43 0 1504, oN, oN, oA (.goto (-82)) 121 36, oN, oN, oA (.aload_n 0) 122 0, oA (.iload_n 2) 123 2, oF (.putfield 434) 126 11 45 0 1506, oN, oN, oA (.aload_n 0) 127 0, oA (.iload_n 3) 128 3],
  [oF (.putfield 437) 131 11 46 0 1507, oN, oN, o0 .return_ 132]]
def cd_Mo_findOn : List (List xop) := [[oA (.aload_n 0) 1 0, oA (.aload_n 0) 2 0, oA (.iload_n 1) 3 1, (.invokevirtual 431, 6, 285, 1, 11, 0, 0, 0, 0, 0, [(0, 1955)]), oN, oN, oF (.putfield 434) 9 11 45 0 1506, oN, oN, oA (.aload_n 0) 10 0, oA (.iload_n 3) 11 3, oF (.putfield 437) 14 11 46 0 1507, oN, oN, oK (.iconst 0) 15 (0), oA (.istore 4) 17 4, oN, oA (.iload 4) 19 4, oN, oK (.sipush 4608) 22 (4608), oN, oN, oA (.if_icmp .ge 19) 25 41, oN, oN, oA (.aload_n 0) 26 0, oF (.getfield 63) 29 11 41 2 1502, oN, oN, oA (.iload 4) 31 4, oN, oC (.ldc_w 430) 34 1962 0 (1000000)],
  [oN, oN, o0 .iastore 35, oC (.iinc 4 1) 38 4 0 (1), oN, oN, oA (.goto (-21)) 41 17, oN, oN, oA (.iload_n 1) 42 1, oA (.istore 4) 44 4, oN, oA (.iload 4) 46 4, oN, oK (.iconst 1) 47 (1), oA (.aload_n 0) 48 0, oF (.getfield 301) 51 11 24 0 1485, oN, oN, o0 .ishl 52, oA (.if_icmp .ge 94) 55 146, oN, oN, oK (.iconst (-1)) 56 (-1), oA (.istore 5) 58 5, oN, oA (.iload 5) 60 5, oN, oA (.aload_n 0) 61 0, oF (.getfield 301) 64 11 24 0 1485, oN, oN],
  [oA (.if_icmp .ge 76) 67 140, oN, oN, oA (.iload 4) 69 4, oN, oA (.iload_n 1) 70 1, o0 .iand 71, oA (.iload_n 1) 72 1, oA (.if_icmp .ne 68) 75 140, oN, oN, oA (.iload 4) 77 4, oN, oA (.iload_n 1) 78 1, oA (.if_icmp .ne 19) 81 97, oN, oN, oA (.iload 5) 83 5, oN, oA (.iload_n 2) 84 2, oA (.if_icmp .ne 7) 87 91, oN, oN, oA (.iload_n 3) 88 3, oA (.goto 34) 91 122, oN, oN, oC (.ldc_w 430) 94 1962 0 (1000000), oN, oN, oA (.goto 28) 97 122, oN],
  [oN, oA (.iload 5) 99 5, oN, oK (.iconst (-1)) 100 (-1), oA (.if_icmp .ne 9) 103 109, oN, oN, oC (.ldc_w 430) 106 1962 0 (1000000), oN, oN, oA (.goto 16) 109 122, oN, oN, oA (.aload_n 0) 110 0, oF (.getfield 63) 113 11 41 2 1502, oN, oN, oK (.bipush 9) 115 (9), oN, oA (.iload 4) 117 4, oN, o0 .imul 118, oA (.iload 5) 120 5, oN, o0 .iadd 121, o0 .iaload 122, oA (.istore 6) 124 6, oN, oA (.aload_n 0) 125 0, oA (.iload 4) 127 4, oN, oA (.iload 5) 129 5],
  [oN, oA (.iload 6) 131 6, oN, (.invokevirtual 440, 134, 287, 3, 11, 3, 0, 0, 0, 0, [(0, 1963)]), oN, oN, oC (.iinc 5 1) 137 5 0 (1), oN, oN, oA (.goto (-79)) 140 58, oN, oN, oC (.iinc 4 1) 143 4 0 (1), oN, oN, oA (.goto (-99)) 146 44, oN, oN, o0 .return_ 147]]
def cd_Mo_peopleOf : List (List xop) := [[oK (.iconst 0) 1 (0), oA (.istore_n 2) 2 2, oK (.iconst 0) 3 (0), oA (.istore_n 3) 4 3, oA (.iload_n 3) 5 3, oA (.aload_n 0) 6 0, oF (.getfield 301) 9 11 24 0 1485, oN, oN, oA (.if_icmp .ge 29) 12 38, oN, oN, oA (.iload_n 2) 13 2, oA (.iload_n 1) 14 1, oA (.iload_n 3) 15 3, (.invokestatic 95, 18, 286, 2, 0, 0, 0, 0, 0, 0, [(0, 1959)]), oN, oN, oA (.ifCond .eq 11) 21 29, oN, oN, oA (.aload_n 0) 22 0, oA (.iload_n 3) 23 3, (.invokevirtual 337, 26, 257, 1, 11, 0, 0, 0, 0, 0, [(0, 1847)]), oN, oN, oA (.goto 4) 29 30, oN, oN, oK (.iconst 0) 30 (0), o0 .iadd 31, oA (.istore_n 2) 32 2],
  [oC (.iinc 3 1) 35 3 0 (1), oN, oN, oA (.goto (-31)) 38 4, oN, oN, oA (.iload_n 2) 39 2, (.ireturn, 40, 0, 0, 0, 0, 0, 0, 0, 0, [])]]
def cd_Mo_has : List (List xop) := [[oA (.iload_n 0) 1 0, oA (.iload_n 1) 2 1, o0 .ishr 3, oK (.iconst 1) 4 (1), o0 .iand 5, oK (.iconst 1) 6 (1), oA (.if_icmp .ne 7) 9 13, oN, oN, oK (.iconst 1) 10 (1), oA (.goto 4) 13 14, oN, oN, oK (.iconst 0) 14 (0), (.ireturn, 15, 0, 0, 0, 1, 0, 0, 0, 0, [])]]
def cd_Mo_goOn : List (List xop) := [[oK (.iconst 0) 1 (0), oA (.istore 4) 3 4, oN, oA (.iload 4) 5 4, oN, oA (.aload_n 0) 6 0, oF (.getfield 301) 9 11 24 0 1485, oN, oN, oA (.if_icmp .ge 158) 12 167, oN, oN, oA (.iload_n 3) 13 3, oC (.ldc_w 430) 16 1962 0 (1000000), oN, oN, oA (.if_icmp .ge 151) 19 167, oN, oN, oA (.iload_n 1) 20 1, oA (.iload 4) 22 4, oN, (.invokestatic 95, 25, 286, 2, 0, 0, 0, 0, 0, 0, [(0, 1959)]), oN, oN, oA (.ifCond .ne 12) 28 37, oN, oN, oA (.aload_n 0) 29 0, oA (.iload 4) 31 4, oN, (.invokevirtual 443, 34, 288, 1, 11, 0, 0, 0, 0, 0, [(0, 1967)])],
  [oN, oN, oA (.ifCond .ne 9) 37 43, oN, oN, oC (.ldc_w 430) 40 1962 0 (1000000), oN, oN, oA (.goto 11) 43 51, oN, oN, oA (.aload_n 0) 44 0, oA (.iload_n 2) 45 2, oA (.iload_n 3) 46 3, oA (.iload 4) 48 4, oN, (.invokevirtual 446, 51, 289, 3, 11, 0, 0, 0, 0, 0, [(0, 1971)]), oN, oN, oA (.istore 5) 53 5, oN, oA (.iload_n 1) 54 1, oK (.iconst 1) 55 (1), oA (.iload 4) 57 4, oN, o0 .ishl 58, o0 .ior 59, oA (.istore 6) 61 6, oN, oA (.iload 5) 63 5, oN, oC (.ldc_w 430) 66 1962 0 (1000000)],
  [oN, oN, oA (.if_icmp .ge 95) 69 161, oN, oN, oA (.aload_n 0) 70 0, oF (.getfield 63) 73 11 41 2 1502, oN, oN, oK (.bipush 9) 75 (9), oN, oA (.iload 6) 77 6, oN, o0 .imul 78, oA (.iload 4) 80 4, oN, o0 .iadd 81, oA (.aload_n 0) 82 0, oF (.getfield 63) 85 11 41 2 1502, oN, oN, oK (.bipush 9) 87 (9), oN, oA (.iload 6) 89 6, oN, o0 .imul 90, oA (.iload 4) 92 4, oN, o0 .iadd 93, o0 .iaload 94, oA (.iload 5) 96 5, oN],
  [(.invokestatic 370, 99, 267, 2, 0, 0, 0, 0, 0, 0, [(0, 1885)]), oN, oN, o0 .iastore 100, oA (.aload_n 0) 101 0, oA (.iload 6) 103 6, oN, (.invokevirtual 431, 106, 285, 1, 11, 0, 0, 0, 0, 0, [(0, 1955)]), oN, oN, oA (.istore 7) 108 7, oN, oA (.aload_n 0) 109 0, oA (.iload 7) 111 7, oN, oA (.aload_n 0) 112 0, oF (.getfield 434) 115 11 45 0 1506, oN, oN, oA (.if_icmp .gt 21) 118 136, oN, oN, oA (.iload 7) 120 7, oN, oA (.aload_n 0) 121 0, oF (.getfield 434) 124 11 45 0 1506, oN, oN, oA (.if_icmp .ne 17) 127 141, oN, oN, oA (.iload 5) 129 5],
  [oN, oA (.aload_n 0) 130 0, oF (.getfield 437) 133 11 46 0 1507, oN, oN, oA (.if_icmp .ge 8) 136 141, oN, oN, oA (.iload 5) 138 5, oN, oA (.goto 7) 141 145, oN, oN, oA (.aload_n 0) 142 0, oF (.getfield 437) 145 11 46 0 1507, oN, oN, oF (.putfield 437) 148 11 46 0 1507, oN, oN, oA (.aload_n 0) 149 0, oA (.aload_n 0) 150 0, oF (.getfield 434) 153 11 45 0 1506, oN, oN, oA (.iload 7) 155 7, oN, (.invokestatic 176, 158, 229, 2, 0, 0, 0, 0, 0, 0, [(0, 1726)]), oN, oN, oF (.putfield 434) 161 11 45 0 1506, oN],
  [oN, oC (.iinc 4 1) 164 4 0 (1), oN, oN, oA (.goto (-161)) 167 3, oN, oN, o0 .return_ 168]]
def cd_Mo_isSought : List (List xop) := [[oA (.iload_n 1) 1 1, oA (.aload_n 0) 2 0, oF (.getfield 427) 5 11 44 0 1505, oN, oN, oA (.if_icmp .eq 15) 8 20, oN, oN, oA (.aload_n 0) 9 0, oA (.iload_n 1) 10 1, (.invokevirtual 337, 13, 257, 1, 11, 0, 0, 0, 0, 0, [(0, 1847)]), oN, oN, oA (.ifCond .le 7) 16 20, oN, oN, oK (.iconst 1) 17 (1), oA (.goto 4) 20 21, oN, oN, oK (.iconst 0) 21 (0), (.ireturn, 22, 0, 0, 0, 1, 0, 0, 0, 0, [])]]
def cd_Mo_doneThere : List (List xop) := [[oA (.iload_n 2) 1 2, oA (.aload_n 0) 2 0, oA (.iload_n 1) 3 1, oA (.iload_n 3) 4 3, (.invokevirtual 361, 7, 260, 2, 11, 0, 0, 0, 0, 0, [(0, 1859)]), oN, oN, o0 .iadd 8, oA (.istore 4) 10 4, oN, oA (.iload 4) 12 4, oN, oA (.aload_n 0) 13 0, oF (.getfield 307) 16 11 26 0 1487, oN, oN, oA (.if_icmp .ge 17) 19 33, oN, oN, oA (.iload 4) 21 4, oN, oA (.aload_n 0) 22 0, oA (.iload_n 3) 23 3, (.invokevirtual 337, 26, 257, 1, 11, 0, 0, 0, 0, 0, [(0, 1847)]), oN, oN, (.invokestatic 367, 29, 266, 1, 0, 0, 0, 0, 0, 0, [(0, 1882)]), oN, oN, o0 .iadd 30, oA (.goto 6) 33 36, oN],
  [oN, oC (.ldc_w 430) 36 1962 0 (1000000), oN, oN, (.ireturn, 37, 0, 0, 0, 0, 0, 0, 0, 0, [])]]
end
section
-- written by wip/tools/gen.py: the instructions with what they link
def cd_Mo_leads : List (List xop) := [[oA (.iload_n 1) 1 1, oA (.iload 4) 3 4, oN, (.invokestatic 95, 6, 286, 2, 0, 0, 0, 0, 0, 0, [(0, 1959)]), oN, oN, oA (.ifCond .ne 12) 9 18, oN, oN, oA (.aload_n 0) 10 0, oA (.iload 4) 12 4, oN, (.invokevirtual 443, 15, 288, 1, 11, 0, 0, 0, 0, 0, [(0, 1967)]), oN, oN, oA (.ifCond .ne 9) 18 24, oN, oN, oC (.ldc_w 430) 21 1962 0 (1000000), oN, oN, oA (.goto 11) 24 32, oN, oN, oA (.aload_n 0) 25 0, oA (.iload_n 2) 26 2, oA (.iload_n 3) 27 3, oA (.iload 4) 29 4, oN, (.invokevirtual 446, 32, 289, 3, 11, 0, 0, 0, 0, 0, [(0, 1971)]), oN, oN],
  [oA (.istore 7) 34 7, oN, oA (.iload 7) 36 7, oN, oC (.ldc_w 430) 39 1962 0 (1000000), oN, oN, oA (.if_icmp .lt 5) 42 44, oN, oN, oK (.iconst 0) 43 (0), (.ireturn, 44, 0, 0, 0, 1, 0, 0, 0, 0, []), oA (.aload_n 0) 45 0, oA (.iload_n 1) 46 1, oK (.iconst 1) 47 (1), oA (.iload 4) 49 4, oN, o0 .ishl 50, o0 .ior 51, oA (.iload 4) 53 4, oN, oA (.iload 7) 55 7, oN, (.invokevirtual 449, 58, 284, 3, 11, 3, 0, 0, 0, 0, [(0, 1951)]), oN, oN, oA (.aload_n 0) 59 0, oF (.getfield 434) 62 11 45 0 1506, oN, oN, oA (.iload 5) 64 5, oN],
  [oA (.if_icmp .ne 16) 67 80, oN, oN, oA (.aload_n 0) 68 0, oF (.getfield 437) 71 11 46 0 1507, oN, oN, oA (.iload 6) 73 6, oN, oA (.if_icmp .ne 7) 76 80, oN, oN, oK (.iconst 1) 77 (1), oA (.goto 4) 80 81, oN, oN, oK (.iconst 0) 81 (0), (.ireturn, 82, 0, 0, 0, 1, 0, 0, 0, 0, [])]]
def cd_Mo_round : List (List xop) := [[oA (.aload_n 0) 1 0, oK (.iconst 0) 2 (0), oF (.putfield 91) 5 11 0 0 1461, oN, oN, oA (.aload_n 0) 6 0, oA (.iload_n 1) 7 1, (.invokevirtual 310, 10, 246, 1, 11, 0, 0, 0, 0, 0, [(0, 1803)]), oN, oN, oA (.ifCond .eq 17) 13 27, oN, oN, oA (.iload_n 2) 14 2, oK (.iconst (-1)) 15 (-1), oA (.aload_n 0) 16 0, oF (.getfield 301) 19 11 24 0 1485, oN, oN, oK (.iconst 1) 20 (1), o0 .isub 21, (.invokestatic 103, 24, 211, 3, 0, 0, 0, 0, 0, 0, [(0, 1646)]), oN, oN, oA (.ifCond .ne 5) 27 29, oN, oN, oK (.iconst (-1)) 28 (-1), (.ireturn, 29, 0, 0, 0, 0, 0, 0, 0, 0, []), oA (.aload_n 0) 30 0, (.invokevirtual 465, 33, 292, 0, 11, 3, 0, 0, 0, 0, [(0, 1983)]), oN],
  [oN, oK (.iconst 1) 34 (1), oA (.aload_n 0) 35 0, oF (.getfield 301) 38 11 24 0 1485, oN, oN, o0 .ishl 39, oK (.iconst 1) 40 (1), o0 .isub 41, oA (.istore_n 3) 42 3, oK (.iconst (-1)) 43 (-1), oA (.istore 4) 45 4, oN, oK (.iconst 0) 46 (0), oA (.istore 5) 48 5, oN, oA (.iload 5) 50 5, oN, oA (.iload_n 2) 51 2, oA (.if_icmp .gt 81) 54 132, oN, oN, oK (.iconst 0) 55 (0), oA (.istore 6) 57 6, oN, oA (.iload_n 3) 58 3, oA (.iload 6) 60 6, oN, (.invokestatic 95, 63, 286, 2, 0, 0, 0, 0, 0, 0, [(0, 1959)]), oN, oN, oA (.ifCond .eq 44) 66 107],
  [oN, oN, oA (.aload_n 0) 67 0, oA (.iload 4) 69 4, oN, oA (.iload 6) 71 6, oN, (.invokevirtual 361, 74, 260, 2, 11, 0, 0, 0, 0, 0, [(0, 1859)]), oN, oN, oA (.aload_n 0) 75 0, oF (.getfield 69) 78 11 47 2 1508, oN, oN, oA (.iload_n 3) 79 3, oK (.iconst 1) 80 (1), oA (.iload 6) 82 6, oN, o0 .ishl 83, oK (.iconst (-1)) 84 (-1), o0 .ixor 85, o0 .iand 86, oA (.iload 6) 88 6, oN, (.invokestatic 462, 91, 293, 2, 0, 0, 0, 0, 0, 0, [(0, 1987)]), oN, oN, o0 .iaload 92, o0 .iadd 93, oA (.aload_n 0) 94 0, oF (.getfield 69) 97 11 47 2 1508, oN],
  [oN, oA (.iload_n 3) 98 3, oA (.iload 4) 100 4, oN, (.invokestatic 462, 103, 293, 2, 0, 0, 0, 0, 0, 0, [(0, 1987)]), oN, oN, o0 .iaload 104, oA (.if_icmp .eq 9) 107 113, oN, oN, oC (.iinc 6 1) 110 6 0 (1), oN, oN, oA (.goto (-53)) 113 57, oN, oN, oA (.iload_n 3) 114 3, oK (.iconst 1) 115 (1), oA (.iload 6) 117 6, oN, o0 .ishl 118, oK (.iconst (-1)) 119 (-1), o0 .ixor 120, o0 .iand 121, oA (.istore_n 3) 122 3, oA (.iload 6) 124 6, oN, oA (.istore 4) 126 4, oN, oC (.iinc 5 1) 129 5 0 (1), oN],
  [oN, oA (.goto (-81)) 132 48, oN, oN, oA (.iload_n 2) 133 2, oK (.iconst (-1)) 134 (-1), oA (.if_icmp .ne 16) 137 150, oN, oN, oA (.aload_n 0) 138 0, oF (.getfield 69) 141 11 47 2 1508, oN, oN, oA (.iload_n 3) 142 3, oK (.iconst (-1)) 143 (-1), (.invokestatic 462, 146, 293, 2, 0, 0, 0, 0, 0, 0, [(0, 1987)]), oN, oN, o0 .iaload 147, oA (.goto 5) 150 152, oN, oN, oA (.iload 4) 152 4, oN, (.ireturn, 153, 0, 0, 0, 0, 0, 0, 0, 0, [])]]
def cd_Mo_findRounds : List (List xop) := [[oK (.iconst 0) 1 (0), oA (.istore_n 1) 2 1, oA (.iload_n 1) 3 1, oK (.iconst 1) 4 (1), oA (.aload_n 0) 5 0, oF (.getfield 301) 8 11 24 0 1485, oN, oN, o0 .ishl 9, oA (.if_icmp .ge 115) 12 124, oN, oN, oK (.iconst (-1)) 13 (-1), oA (.istore_n 2) 14 2, oA (.iload_n 2) 15 2, oA (.aload_n 0) 16 0, oF (.getfield 301) 19 11 24 0 1485, oN, oN, oA (.if_icmp .ge 99) 22 118, oN, oN, oA (.iload_n 1) 23 1, oA (.ifCond .ne 12) 26 35, oN, oN, oA (.aload_n 0) 27 0, oA (.iload_n 2) 28 2, oK (.iconst (-1)) 29 (-1), (.invokevirtual 361, 32, 260, 2, 11, 0, 0, 0, 0, 0, [(0, 1859)]), oN, oN],
  [oA (.goto 6) 35 38, oN, oN, oC (.ldc_w 430) 38 1962 0 (1000000), oN, oN, oA (.istore_n 3) 39 3, oK (.iconst 0) 40 (0), oA (.istore 4) 42 4, oN, oA (.iload 4) 44 4, oN, oA (.aload_n 0) 45 0, oF (.getfield 301) 48 11 24 0 1485, oN, oN, oA (.if_icmp .ge 53) 51 101, oN, oN, oA (.iload_n 1) 52 1, oA (.iload 4) 54 4, oN, (.invokestatic 95, 57, 286, 2, 0, 0, 0, 0, 0, 0, [(0, 1959)]), oN, oN, oA (.ifCond .eq 36) 60 93, oN, oN, oA (.iload_n 3) 61 3, oA (.aload_n 0) 62 0, oA (.iload_n 2) 63 2, oA (.iload 4) 65 4],
  [oN, (.invokevirtual 361, 68, 260, 2, 11, 0, 0, 0, 0, 0, [(0, 1859)]), oN, oN, oA (.aload_n 0) 69 0, oF (.getfield 69) 72 11 47 2 1508, oN, oN, oA (.iload_n 1) 73 1, oK (.iconst 1) 74 (1), oA (.iload 4) 76 4, oN, o0 .ishl 77, oK (.iconst (-1)) 78 (-1), o0 .ixor 79, o0 .iand 80, oA (.iload 4) 82 4, oN, (.invokestatic 462, 85, 293, 2, 0, 0, 0, 0, 0, 0, [(0, 1987)]), oN, oN, o0 .iaload 86, o0 .iadd 87, (.invokestatic 370, 90, 267, 2, 0, 0, 0, 0, 0, 0, [(0, 1885)]), oN, oN, oA (.goto 4) 93 94, oN, oN, oA (.iload_n 3) 94 3, oA (.istore_n 3) 95 3, oC (.iinc 4 1) 98 4 0 (1)],
  [oN, oN, oA (.goto (-56)) 101 42, oN, oN, oA (.aload_n 0) 102 0, oF (.getfield 69) 105 11 47 2 1508, oN, oN, oA (.iload_n 1) 106 1, oA (.iload_n 2) 107 2, (.invokestatic 462, 110, 293, 2, 0, 0, 0, 0, 0, 0, [(0, 1987)]), oN, oN, oA (.iload_n 3) 111 3, o0 .iastore 112, oC (.iinc 2 1) 115 2 0 (1), oN, oN, oA (.goto (-101)) 118 14, oN, oN, oC (.iinc 1 1) 121 1 0 (1), oN, oN, oA (.goto (-119)) 124 2, oN, oN, o0 .return_ 125]]
def cd_Mo_cell : List (List xop) := [[oK (.bipush 10) 2 (10), oN, oA (.iload_n 0) 3 0, o0 .imul 4, oA (.iload_n 1) 5 1, o0 .iadd 6, oK (.iconst 1) 7 (1), o0 .iadd 8, (.ireturn, 9, 0, 0, 0, 0, 0, 0, 0, 0, [])]]
def cd_Mo_talks : List (List xop) := [[oA (.aload_n 0) 1 0, oK (.iconst 0) 2 (0), oF (.putfield 91) 5 11 0 0 1461, oN, oN, oA (.aload_n 0) 6 0, oA (.iload_n 1) 7 1, (.invokevirtual 310, 10, 246, 1, 11, 0, 0, 0, 0, 0, [(0, 1803)]), oN, oN, oA (.ifCond .ne 5) 13 15, oN, oN, oK (.iconst (-1)) 14 (-1), (.ireturn, 15, 0, 0, 0, 0, 0, 0, 0, 0, []), oA (.aload_n 0) 16 0, oK (.iconst (-1)) 17 (-1), (.invokevirtual 459, 20, 283, 1, 11, 3, 0, 0, 0, 0, [(0, 1947)]), oN, oN, oA (.aload_n 0) 21 0, oF (.getfield 452) 24 11 43 0 1504, oN, oN, oA (.ifCond .ne 5) 27 29, oN, oN, oK (.iconst (-1)) 28 (-1), (.ireturn, 29, 0, 0, 0, 0, 0, 0, 0, 0, []), oK (.bipush 9) 31 (9), oN, oA (.istore_n 2) 32 2],
  [oA (.aload_n 0) 33 0, oK (.iconst 1) 34 (1), oA (.aload_n 0) 35 0, oF (.getfield 66) 38 11 42 2 1503, oN, oN, oK (.iconst 0) 39 (0), o0 .iaload 40, o0 .ishl 41, oA (.iload_n 2) 42 2, (.invokevirtual 468, 45, 295, 2, 11, 0, 0, 0, 0, 0, [(0, 1994)]), oN, oN, oA (.ifCond .ne 9) 48 54, oN, oN, oC (.iinc 2 (-1)) 51 2 0 (-1), oN, oN, oA (.goto (-19)) 54 32, oN, oN, oA (.iload_n 2) 55 2, (.ireturn, 56, 0, 0, 0, 0, 0, 0, 0, 0, [])]]
def cd_Mo_areWarm : List (List xop) := [[oK (.iconst 0) 1 (0), oA (.istore_n 3) 2 3, oK (.iconst (-1)) 3 (-1), oA (.istore 4) 5 4, oN, oK (.iconst 0) 6 (0), oA (.istore 5) 8 5, oN, oA (.iload 5) 10 5, oN, oA (.aload_n 0) 11 0, oF (.getfield 452) 14 11 43 0 1504, oN, oN, oA (.if_icmp .ge 70) 17 84, oN, oN, oA (.aload_n 0) 18 0, oA (.iload 4) 20 4, oN, oA (.iload_n 3) 21 3, oA (.aload_n 0) 22 0, oF (.getfield 66) 25 11 42 2 1503, oN, oN, oA (.iload 5) 27 5, oN, o0 .iaload 28, (.invokevirtual 446, 31, 289, 3, 11, 0, 0, 0, 0, 0, [(0, 1971)]), oN, oN, oA (.istore_n 3) 32 3],
  [oA (.iload_n 3) 33 3, oC (.ldc_w 430) 36 1962 0 (1000000), oN, oN, oA (.if_icmp .lt 5) 39 41, oN, oN, oK (.iconst 0) 40 (0), (.ireturn, 41, 0, 0, 0, 1, 0, 0, 0, 0, []), oA (.iload_n 3) 42 3, oA (.iload_n 1) 43 1, oA (.aload_n 0) 44 0, oF (.getfield 66) 47 11 42 2 1503, oN, oN, oA (.iload 5) 49 5, oN, o0 .iaload 50, (.invokestatic 95, 53, 286, 2, 0, 0, 0, 0, 0, 0, [(0, 1959)]), oN, oN, oA (.ifCond .eq 13) 56 66, oN, oN, oA (.iload_n 2) 57 2, oA (.aload_n 0) 58 0, oK (.iconst 5) 59 (5), (.invokevirtual 297, 62, 247, 1, 11, 0, 0, 0, 0, 0, [(0, 1807)]), oN, oN, o0 .imul 63, oA (.goto 4) 66 67],
  [oN, oN, oK (.iconst 0) 67 (0), o0 .iadd 68, oA (.istore_n 3) 69 3, oA (.aload_n 0) 70 0, oF (.getfield 66) 73 11 42 2 1503, oN, oN, oA (.iload 5) 75 5, oN, o0 .iaload 76, oA (.istore 4) 78 4, oN, oC (.iinc 5 1) 81 5 0 (1), oN, oN, oA (.goto (-73)) 84 8, oN, oN, oK (.iconst 1) 85 (1), (.ireturn, 86, 0, 0, 0, 1, 0, 0, 0, 0, [])]]
def cd_Mo_lost : List (List xop) := [[oA (.aload_n 0) 1 0, oK (.iconst 0) 2 (0), oF (.putfield 91) 5 11 0 0 1461, oN, oN, oA (.aload_n 0) 6 0, oA (.iload_n 1) 7 1, (.invokevirtual 310, 10, 246, 1, 11, 0, 0, 0, 0, 0, [(0, 1803)]), oN, oN, oA (.ifCond .eq 11) 13 21, oN, oN, oA (.aload_n 0) 14 0, oA (.iload_n 2) 15 2, (.invokevirtual 313, 18, 248, 1, 11, 0, 0, 0, 0, 0, [(0, 1811)]), oN, oN, oA (.ifCond .ne 5) 21 23, oN, oN, oK (.iconst (-1)) 22 (-1), (.ireturn, 23, 0, 0, 0, 0, 0, 0, 0, 0, []), oA (.aload_n 0) 24 0, oK (.iconst (-1)) 25 (-1), (.invokevirtual 459, 28, 283, 1, 11, 3, 0, 0, 0, 0, [(0, 1947)]), oN, oN, oA (.aload_n 0) 29 0, oF (.getfield 434) 32 11 45 0 1506, oN, oN],
  [oA (.istore_n 3) 33 3, oA (.aload_n 0) 34 0, oA (.iload_n 2) 35 2, (.invokevirtual 459, 38, 283, 1, 11, 3, 0, 0, 0, 0, [(0, 1947)]), oN, oN, oA (.iload_n 3) 39 3, oA (.aload_n 0) 40 0, oF (.getfield 434) 43 11 45 0 1506, oN, oN, o0 .isub 44, (.ireturn, 45, 0, 0, 0, 0, 0, 0, 0, 0, [])]]
def cd_Mo_book : List (List xop) := [[oA (.aload_n 0) 1 0, oK (.iconst 0) 2 (0), oF (.putfield 91) 5 11 0 0 1461, oN, oN, oA (.aload_n 0) 6 0, oA (.iload_n 1) 7 1, (.invokevirtual 474, 10, 298, 1, 11, 0, 0, 0, 0, 0, [(0, 2006)]), oN, oN, oA (.ifCond .ne 5) 13 15, oN, oN, oK (.iconst (-1)) 14 (-1), (.ireturn, 15, 0, 0, 0, 0, 0, 0, 0, 0, []), oA (.iload_n 2) 16 2, oK (.iconst (-1)) 17 (-1), oA (.if_icmp .ne 16) 20 33, oN, oN, oA (.iload_n 3) 21 3, oA (.ifCond .ne 10) 24 31, oN, oN, oA (.aload_n 0) 25 0, (.invokevirtual 477, 28, 299, 0, 11, 0, 0, 0, 0, 0, [(0, 2010)]), oN, oN, oA (.goto 4) 31 32, oN, oN, oK (.iconst (-1)) 32 (-1)],
  [(.ireturn, 33, 0, 0, 0, 0, 0, 0, 0, 0, []), oA (.iload_n 2) 34 2, oK (.iconst 0) 35 (0), oA (.aload_n 0) 36 0, (.invokevirtual 477, 39, 299, 0, 11, 0, 0, 0, 0, 0, [(0, 2010)]), oN, oN, oK (.iconst 1) 40 (1), o0 .isub 41, (.invokestatic 103, 44, 211, 3, 0, 0, 0, 0, 0, 0, [(0, 1646)]), oN, oN, oA (.ifCond .eq 21) 47 65, oN, oN, oA (.iload_n 3) 48 3, oK (.iconst 0) 49 (0), oK (.iconst 4) 50 (4), (.invokestatic 103, 53, 211, 3, 0, 0, 0, 0, 0, 0, [(0, 1646)]), oN, oN, oA (.ifCond .eq 12) 56 65, oN, oN, oA (.aload_n 0) 57 0, oA (.iload_n 2) 58 2, oA (.iload_n 3) 59 3, (.invokevirtual 480, 62, 300, 2, 11, 0, 0, 0, 0, 0, [(0, 2014)]), oN, oN, oA (.goto 4) 65 66, oN],
  [oN, oK (.iconst (-1)) 66 (-1), (.ireturn, 67, 0, 0, 0, 0, 0, 0, 0, 0, [])]]
def cd_Mo_hasBook : List (List xop) := [[oA (.aload_n 0) 1 0, oA (.iload_n 1) 2 1, oF (.putfield 471) 5 11 48 0 1509, oN, oN, oA (.aload_n 0) 6 0, oK (.iconst 2) 7 (2), oA (.iload_n 1) 8 1, (.invokevirtual 285, 11, 213, 2, 11, 0, 0, 0, 0, 0, [(0, 1653)]), oN, oN, (.ireturn, 12, 0, 0, 0, 1, 0, 0, 0, 0, [])]]
def cd_Mo_nights : List (List xop) := [[oA (.aload_n 0) 1 0, oF (.getfield 32) 4 11 8 2 1469, oN, oN, oK (.bipush 51) 6 (51), oN, oA (.aload_n 0) 7 0, oF (.getfield 471) 10 11 48 0 1509, oN, oN, o0 .imul 11, o0 .iaload 12, (.ireturn, 13, 0, 0, 0, 0, 0, 0, 0, 0, [])]]
def cd_Mo_nightOf : List (List xop) := [[oA (.aload_n 0) 1 0, oF (.getfield 32) 4 11 8 2 1469, oN, oN, oK (.bipush 51) 6 (51), oN, oA (.aload_n 0) 7 0, oF (.getfield 471) 10 11 48 0 1509, oN, oN, o0 .imul 11, oK (.iconst 1) 12 (1), o0 .iadd 13, oK (.iconst 5) 14 (5), oA (.iload_n 1) 15 1, o0 .imul 16, o0 .iadd 17, oA (.iload_n 2) 18 2, o0 .iadd 19, o0 .iaload 20, (.ireturn, 21, 0, 0, 0, 0, 0, 0, 0, 0, [])]]
def cd_Mo_held : List (List xop) := [[oA (.aload_n 0) 1 0, oK (.iconst 0) 2 (0), oF (.putfield 91) 5 11 0 0 1461, oN, oN, oA (.aload_n 0) 6 0, oA (.iload_n 1) 7 1, (.invokevirtual 474, 10, 298, 1, 11, 0, 0, 0, 0, 0, [(0, 2006)]), oN, oN, oA (.ifCond .eq 12) 13 22, oN, oN, oA (.iload_n 2) 14 2, oK (.iconst 0) 15 (0), oK (.iconst 5) 16 (5), (.invokestatic 103, 19, 211, 3, 0, 0, 0, 0, 0, 0, [(0, 1646)]), oN, oN, oA (.ifCond .ne 6) 22 25, oN, oN, oK (.bipush (-2)) 24 (-2), oN, (.ireturn, 25, 0, 0, 0, 0, 0, 0, 0, 0, []), oA (.iload_n 2) 26 2, oA (.ifCond .ne 43) 29 69, oN, oN, oK (.iconst 0) 30 (0), oA (.istore_n 3) 31 3, oK (.iconst 0) 32 (0)],
  [oA (.istore 4) 34 4, oN, oA (.iload 4) 36 4, oN, oA (.aload_n 0) 37 0, (.invokevirtual 477, 40, 299, 0, 11, 0, 0, 0, 0, 0, [(0, 2010)]), oN, oN, oA (.if_icmp .ge 27) 43 67, oN, oN, oA (.iload_n 3) 44 3, oA (.aload_n 0) 45 0, oA (.iload 4) 47 4, oN, oK (.iconst 0) 48 (0), (.invokevirtual 480, 51, 300, 2, 11, 0, 0, 0, 0, 0, [(0, 2014)]), oN, oN, oA (.aload_n 0) 52 0, oA (.iload 4) 54 4, oN, oK (.iconst 1) 55 (1), (.invokevirtual 480, 58, 300, 2, 11, 0, 0, 0, 0, 0, [(0, 2014)]), oN, oN, o0 .isub 59, o0 .iadd 60, oA (.istore_n 3) 61 3, oC (.iinc 4 1) 64 4 0 (1), oN, oN],
  [oA (.goto (-30)) 67 34, oN, oN, oA (.iload_n 3) 68 3, (.ireturn, 69, 0, 0, 0, 0, 0, 0, 0, 0, []), oA (.iload_n 2) 70 2, oK (.iconst 3) 71 (3), oA (.if_icmp .ge 19) 74 90, oN, oN, oA (.aload_n 0) 75 0, oA (.iload_n 2) 76 2, oK (.iconst 2) 77 (2), oA (.if_icmp .ne 7) 80 84, oN, oN, oK (.iconst 1) 81 (1), oA (.goto 4) 84 85, oN, oN, oK (.iconst 0) 85 (0), (.invokevirtual 489, 88, 302, 1, 11, 1, 0, 0, 0, 0, [(0, 2022)]), oN, oN, o0 .l2i 89, (.ireturn, 90, 0, 0, 0, 0, 0, 0, 0, 0, []), oA (.aload_n 0) 91 0, (.invokevirtual 493, 94, 303, 0, 11, 0, 0, 0, 0, 0, [(0, 2026)]), oN, oN, oA (.istore_n 3) 95 3, oA (.iload_n 3) 96 3],
  [oK (.iconst (-1)) 97 (-1), oA (.if_icmp .eq 8) 100 105, oN, oN, oA (.iload_n 2) 101 2, oK (.iconst 3) 102 (3), oA (.if_icmp .ne 7) 105 109, oN, oN, oA (.iload_n 3) 106 3, oA (.goto 32) 109 138, oN, oN, oA (.aload_n 0) 110 0, oA (.iload_n 3) 111 3, (.invokevirtual 486, 114, 304, 1, 11, 0, 0, 0, 0, 0, [(0, 2030)]), oN, oN, o0 .i2l 115, oA (.iload_n 3) 116 3, oA (.aload_n 0) 117 0, (.invokevirtual 477, 120, 299, 0, 11, 0, 0, 0, 0, 0, [(0, 2010)]), oN, oN, oA (.iload_n 3) 121 3, o0 .isub 122, o0 .imul 123, o0 .i2l 124, oA (.iload_n 2) 125 2, oK (.iconst 5) 126 (5), oA (.if_icmp .ne 7) 129 133, oN],
  [oN, oK (.iconst 1) 130 (1), oA (.goto 4) 133 134, oN, oN, oK (.iconst 0) 134 (0), (.invokestatic 423, 137, 279, 3, 0, 1, 0, 0, 0, 0, [(0, 1933)]), oN, oN, o0 .l2i 138, (.ireturn, 139, 0, 0, 0, 0, 0, 0, 0, 0, [])]]
def cd_Mo_heldBy : List (List xop) := [[oL (.lconst 0) 1 0 0, oA (.lstore_n 2) 2 2, oL (.lconst 0) 3 0 0, oA (.lstore 4) 5 4, oN, oK (.iconst 0) 6 (0), oA (.istore 6) 8 6, oN, oK (.iconst 0) 9 (0), oA (.istore 7) 11 7, oN, oA (.iload 7) 13 7, oN, oA (.aload_n 0) 14 0, (.invokevirtual 477, 17, 299, 0, 11, 0, 0, 0, 0, 0, [(0, 2010)]), oN, oN, oA (.if_icmp .ge 66) 20 83, oN, oN, oA (.lload_n 2) 21 2, oA (.aload_n 0) 22 0, oA (.iload 7) 24 7, oN, oK (.iconst 0) 25 (0), (.invokevirtual 480, 28, 300, 2, 11, 0, 0, 0, 0, 0, [(0, 2014)]), oN, oN, o0 .i2l 29, oA (.iload 6) 31 6, oN, o0 .i2l 32],
  [o0 .lmul 33, o0 .ladd 34, oA (.lstore_n 2) 35 2, oA (.lload 4) 37 4, oN, oA (.iload 7) 39 7, oN, oA (.ifCond .le 14) 42 53, oN, oN, oA (.aload_n 0) 43 0, oA (.iload 7) 45 7, oN, oK (.iconst 1) 46 (1), (.invokevirtual 480, 49, 300, 2, 11, 0, 0, 0, 0, 0, [(0, 2014)]), oN, oN, o0 .i2l 50, oA (.goto 4) 53 54, oN, oN, oL (.lconst 0) 54 0 0, o0 .ladd 55, oA (.lstore 4) 57 4, oN, oA (.iload 6) 59 6, oN, oA (.aload_n 0) 60 0, oA (.iload 7) 62 7, oN, oK (.iconst 0) 63 (0), (.invokevirtual 480, 66, 300, 2, 11, 0, 0, 0, 0, 0, [(0, 2014)])],
  [oN, oN, oA (.aload_n 0) 67 0, oA (.iload 7) 69 7, oN, oK (.iconst 1) 70 (1), (.invokevirtual 480, 73, 300, 2, 11, 0, 0, 0, 0, 0, [(0, 2014)]), oN, oN, o0 .isub 74, o0 .iadd 75, oA (.istore 6) 77 6, oN, oC (.iinc 7 1) 80 7 0 (1), oN, oN, oA (.goto (-69)) 83 11, oN, oN, oA (.lload 4) 85 4, oN, oL (.lconst 0) 86 0 0, o0 .lcmp 87, oA (.ifCond .ne 9) 90 96, oN, oN, oL (.ldc2_w 421) 93 1932 (-1), oN, oN, oA (.goto 10) 96 103, oN, oN],
  [oA (.lload_n 2) 97 2, oA (.lload 4) 99 4, oN, oA (.iload_n 1) 100 1, (.invokestatic 423, 103, 279, 3, 0, 1, 0, 0, 0, 0, [(0, 1933)]), oN, oN, o0 .lreturn 104]]
def cd_Mo_doorway : List (List xop) := [[oK (.iconst (-1)) 1 (-1), oA (.istore_n 1) 2 1, oK (.iconst 1) 3 (1), oA (.istore_n 2) 4 2, oA (.iload_n 2) 5 2, oA (.aload_n 0) 6 0, (.invokevirtual 477, 9, 299, 0, 11, 0, 0, 0, 0, 0, [(0, 2010)]), oN, oN, oA (.if_icmp .ge 81) 12 90, oN, oN, oA (.iload_n 2) 13 2, oA (.aload_n 0) 14 0, (.invokevirtual 477, 17, 299, 0, 11, 0, 0, 0, 0, 0, [(0, 2010)]), oN, oN, oA (.iload_n 2) 18 2, o0 .isub 19, o0 .imul 20, oA (.istore_n 3) 21 3, oA (.iload_n 1) 22 1, oK (.iconst (-1)) 23 (-1), oA (.if_icmp .ne 19) 26 42, oN, oN, oA (.aload_n 0) 27 0, oA (.iload_n 2) 28 2, (.invokevirtual 486, 31, 304, 1, 11, 0, 0, 0, 0, 0, [(0, 2030)]), oN, oN, oA (.ifCond .le 7) 34 38],
  [oN, oN, oK (.iconst 1) 35 (1), oA (.goto 36) 38 71, oN, oN, oK (.iconst 0) 39 (0), oA (.goto 32) 42 71, oN, oN, oA (.aload_n 0) 43 0, oA (.iload_n 2) 44 2, (.invokevirtual 486, 47, 304, 1, 11, 0, 0, 0, 0, 0, [(0, 2030)]), oN, oN, oA (.iload_n 1) 48 1, o0 .imul 49, oA (.aload_n 0) 50 0, (.invokevirtual 477, 53, 299, 0, 11, 0, 0, 0, 0, 0, [(0, 2010)]), oN, oN, oA (.iload_n 1) 54 1, o0 .isub 55, o0 .imul 56, oA (.aload_n 0) 57 0, oA (.iload_n 1) 58 1, (.invokevirtual 486, 61, 304, 1, 11, 0, 0, 0, 0, 0, [(0, 2030)]), oN, oN, oA (.iload_n 3) 62 3, o0 .imul 63, oA (.if_icmp .le 7) 66 70],
  [oN, oN, oK (.iconst 1) 67 (1), oA (.goto 4) 70 71, oN, oN, oK (.iconst 0) 71 (0), oA (.istore 4) 73 4, oN, oA (.iload 4) 75 4, oN, oA (.ifCond .eq 7) 78 82, oN, oN, oA (.iload_n 2) 79 2, oA (.goto 4) 82 83, oN, oN, oA (.iload_n 1) 83 1, oA (.istore_n 1) 84 1, oC (.iinc 2 1) 87 2 0 (1), oN, oN, oA (.goto (-83)) 90 4, oN, oN, oA (.iload_n 1) 91 1, (.ireturn, 92, 0, 0, 0, 0, 0, 0, 0, 0, [])]]
def cd_Mo_moreFrom : List (List xop) := [[oA (.aload_n 0) 1 0, oA (.iload_n 1) 2 1, oA (.aload_n 0) 3 0, (.invokevirtual 477, 6, 299, 0, 11, 0, 0, 0, 0, 0, [(0, 2010)]), oN, oN, (.invokevirtual 483, 9, 305, 2, 11, 0, 0, 0, 0, 0, [(0, 2034)]), oN, oN, oA (.iload_n 1) 10 1, o0 .imul 11, oA (.aload_n 0) 12 0, oK (.iconst 0) 13 (0), oA (.iload_n 1) 14 1, (.invokevirtual 483, 17, 305, 2, 11, 0, 0, 0, 0, 0, [(0, 2034)]), oN, oN, oA (.aload_n 0) 18 0, (.invokevirtual 477, 21, 299, 0, 11, 0, 0, 0, 0, 0, [(0, 2010)]), oN, oN, oA (.iload_n 1) 22 1, o0 .isub 23, o0 .imul 24, o0 .isub 25, (.ireturn, 26, 0, 0, 0, 0, 0, 0, 0, 0, [])]]
def cd_Mo_seenFrom : List (List xop) := [[oK (.iconst 0) 1 (0), oA (.istore_n 3) 2 3, oA (.iload_n 1) 3 1, oA (.istore 4) 5 4, oN, oA (.iload 4) 7 4, oN, oA (.iload_n 2) 8 2, oA (.if_icmp .ge 19) 11 27, oN, oN, oA (.iload_n 3) 12 3, oA (.aload_n 0) 13 0, oA (.iload 4) 15 4, oN, oK (.iconst 0) 16 (0), (.invokevirtual 480, 19, 300, 2, 11, 0, 0, 0, 0, 0, [(0, 2014)]), oN, oN, o0 .iadd 20, oA (.istore_n 3) 21 3, oC (.iinc 4 1) 24 4 0 (1), oN, oN, oA (.goto (-19)) 27 5, oN, oN, oA (.iload_n 3) 28 3, (.ireturn, 29, 0, 0, 0, 0, 0, 0, 0, 0, [])]]
def cd_Mo_bring : List (List xop) := [[oA (.aload_n 0) 1 0, oK (.iconst 0) 2 (0), oF (.putfield 91) 5 11 0 0 1461, oN, oN, oA (.aload_n 0) 6 0, oA (.iload_n 1) 7 1, (.invokevirtual 474, 10, 298, 1, 11, 0, 0, 0, 0, 0, [(0, 2006)]), oN, oN, oA (.ifCond .eq 24) 13 34, oN, oN, oA (.iload_n 2) 14 2, oK (.iconst 0) 15 (0), oK (.iconst 2) 16 (2), (.invokestatic 103, 19, 211, 3, 0, 0, 0, 0, 0, 0, [(0, 1646)]), oN, oN, oA (.ifCond .eq 15) 22 34, oN, oN, oA (.iload_n 3) 23 3, oK (.iconst 1) 24 (1), oA (.aload_n 0) 25 0, (.invokevirtual 477, 28, 299, 0, 11, 0, 0, 0, 0, 0, [(0, 2010)]), oN, oN, (.invokestatic 103, 31, 211, 3, 0, 0, 0, 0, 0, 0, [(0, 1646)]), oN, oN, oA (.ifCond .ne 5) 34 36],
  [oN, oN, oK (.iconst (-1)) 35 (-1), (.ireturn, 36, 0, 0, 0, 0, 0, 0, 0, 0, []), oK (.iconst 0) 37 (0), oA (.istore 4) 39 4, oN, oA (.aload_n 0) 40 0, oA (.iload_n 2) 41 2, oA (.iload 4) 43 4, oN, (.invokevirtual 496, 46, 307, 2, 11, 0, 0, 0, 0, 0, [(0, 2042)]), oN, oN, oA (.iload_n 3) 47 3, oA (.if_icmp .ge 9) 50 56, oN, oN, oC (.iinc 4 1) 53 4 0 (1), oN, oN, oA (.goto (-14)) 56 39, oN, oN, oA (.iload 4) 58 4, oN, (.ireturn, 59, 0, 0, 0, 0, 0, 0, 0, 0, [])]]
def cd_Mo_enoughOn : List (List xop) := [[oK (.iconst 0) 1 (0), oA (.istore_n 3) 2 3, oK (.iconst 0) 3 (0), oA (.istore 4) 5 4, oN, oA (.iload 4) 7 4, oN, oA (.aload_n 0) 8 0, (.invokevirtual 477, 11, 299, 0, 11, 0, 0, 0, 0, 0, [(0, 2010)]), oN, oN, oA (.if_icmp .ge 30) 14 41, oN, oN, oA (.iload_n 3) 15 3, oA (.aload_n 0) 16 0, oA (.iload 4) 18 4, oN, oK (.iconst 2) 19 (2), oA (.iload_n 1) 20 1, o0 .iadd 21, (.invokevirtual 480, 24, 300, 2, 11, 0, 0, 0, 0, 0, [(0, 2014)]), oN, oN, oA (.iload_n 2) 25 2, oA (.if_icmp .gt 7) 28 32, oN, oN, oK (.iconst 1) 29 (1), oA (.goto 4) 32 33, oN, oN],
  [oK (.iconst 0) 33 (0), o0 .iadd 34, oA (.istore_n 3) 35 3, oC (.iinc 4 1) 38 4 0 (1), oN, oN, oA (.goto (-33)) 41 5, oN, oN, oA (.iload_n 3) 42 3, (.ireturn, 43, 0, 0, 0, 0, 0, 0, 0, 0, [])]]
def cd_Mo_span : List (List xop) := [[oA (.aload_n 0) 1 0, oK (.iconst 0) 2 (0), oF (.putfield 91) 5 11 0 0 1461, oN, oN, oA (.aload_n 0) 6 0, oA (.iload_n 1) 7 1, (.invokevirtual 474, 10, 298, 1, 11, 0, 0, 0, 0, 0, [(0, 2006)]), oN, oN, oA (.ifCond .eq 19) 13 29, oN, oN, oA (.iload_n 2) 14 2, oK (.iconst 0) 15 (0), oK (.iconst 2) 16 (2), (.invokestatic 103, 19, 211, 3, 0, 0, 0, 0, 0, 0, [(0, 1646)]), oN, oN, oA (.ifCond .eq 10) 22 29, oN, oN, oA (.aload_n 0) 23 0, (.invokevirtual 477, 26, 299, 0, 11, 0, 0, 0, 0, 0, [(0, 2010)]), oN, oN, oA (.ifCond .ne 5) 29 31, oN, oN, oK (.iconst (-1)) 30 (-1), (.ireturn, 31, 0, 0, 0, 0, 0, 0, 0, 0, []), oA (.aload_n 0) 32 0],
  [oK (.iconst 0) 33 (0), oK (.iconst 2) 34 (2), oA (.iload_n 2) 35 2, o0 .iadd 36, (.invokevirtual 480, 39, 300, 2, 11, 0, 0, 0, 0, 0, [(0, 2014)]), oN, oN, oA (.istore 4) 41 4, oN, oK (.iconst 1) 42 (1), oA (.istore 5) 44 5, oN, oA (.iload 5) 46 5, oN, oA (.aload_n 0) 47 0, (.invokevirtual 477, 50, 299, 0, 11, 0, 0, 0, 0, 0, [(0, 2010)]), oN, oN, oA (.if_icmp .ge 43) 53 93, oN, oN, oA (.aload_n 0) 54 0, oA (.iload 5) 56 5, oN, oK (.iconst 2) 57 (2), oA (.iload_n 2) 58 2, o0 .iadd 59, (.invokevirtual 480, 62, 300, 2, 11, 0, 0, 0, 0, 0, [(0, 2014)]), oN, oN, oA (.istore 6) 64 6, oN],
  [oA (.iload_n 3) 65 3, oA (.ifCond .eq 13) 68 78, oN, oN, oA (.iload 4) 70 4, oN, oA (.iload 6) 72 6, oN, (.invokestatic 176, 75, 229, 2, 0, 0, 0, 0, 0, 0, [(0, 1726)]), oN, oN, oA (.goto 10) 78 85, oN, oN, oA (.iload 4) 80 4, oN, oA (.iload 6) 82 6, oN, (.invokestatic 370, 85, 267, 2, 0, 0, 0, 0, 0, 0, [(0, 1885)]), oN, oN, oA (.istore 4) 87 4, oN, oC (.iinc 5 1) 90 5 0 (1), oN, oN, oA (.goto (-46)) 93 44, oN, oN, oA (.iload 4) 95 4, oN, (.ireturn, 96, 0, 0, 0, 0, 0, 0, 0, 0, [])]]
def cd_Mo_list : List (List xop) := [[oA (.aload_n 0) 1 0, oK (.iconst 0) 2 (0), oF (.putfield 91) 5 11 0 0 1461, oN, oN, oA (.aload_n 0) 6 0, oA (.iload_n 1) 7 1, (.invokevirtual 502, 10, 310, 1, 11, 0, 0, 0, 0, 0, [(0, 2054)]), oN, oN, oA (.ifCond .ne 5) 13 15, oN, oN, oK (.iconst (-1)) 14 (-1), (.ireturn, 15, 0, 0, 0, 0, 0, 0, 0, 0, []), oA (.iload_n 2) 16 2, oK (.bipush 10) 18 (10), oN, o0 .irem 19, oA (.istore_n 3) 20 3, oA (.iload_n 2) 21 2, oK (.bipush 10) 23 (10), oN, oK (.bipush 19) 25 (19), oN, (.invokestatic 103, 28, 211, 3, 0, 0, 0, 0, 0, 0, [(0, 1646)]), oN, oN, oA (.ifCond .eq 24) 31 52, oN, oN, oA (.iload_n 3) 32 3],
  [oA (.aload_n 0) 33 0, oK (.iconst 0) 34 (0), (.invokevirtual 505, 37, 311, 1, 11, 0, 0, 0, 0, 0, [(0, 2058)]), oN, oN, oA (.if_icmp .ge 13) 40 50, oN, oN, oA (.aload_n 0) 41 0, oK (.iconst 3) 42 (3), oA (.iload_n 3) 43 3, o0 .iadd 44, (.invokevirtual 505, 47, 311, 1, 11, 0, 0, 0, 0, 0, [(0, 2058)]), oN, oN, oA (.goto 4) 50 51, oN, oN, oK (.iconst (-1)) 51 (-1), (.ireturn, 52, 0, 0, 0, 0, 0, 0, 0, 0, []), oA (.iload_n 2) 53 2, oK (.bipush 20) 55 (20), oN, oK (.bipush 39) 57 (39), oN, (.invokestatic 103, 60, 211, 3, 0, 0, 0, 0, 0, 0, [(0, 1646)]), oN, oN, oA (.ifCond .eq 35) 63 95, oN, oN, oA (.iload_n 3) 64 3],
  [oA (.aload_n 0) 65 0, oK (.iconst 1) 66 (1), (.invokevirtual 505, 69, 311, 1, 11, 0, 0, 0, 0, 0, [(0, 2058)]), oN, oN, oA (.if_icmp .ge 24) 72 93, oN, oN, oA (.aload_n 0) 73 0, oK (.bipush 9) 75 (9), oN, oK (.bipush 8) 77 (8), oN, oA (.iload_n 2) 78 2, oK (.bipush 10) 80 (10), oN, o0 .idiv 81, oK (.iconst 2) 82 (2), o0 .isub 83, o0 .imul 84, o0 .iadd 85, oA (.iload_n 3) 86 3, o0 .iadd 87, (.invokevirtual 505, 90, 311, 1, 11, 0, 0, 0, 0, 0, [(0, 2058)]), oN, oN, oA (.goto 4) 93 94, oN, oN, oK (.iconst (-1)) 94 (-1), (.ireturn, 95, 0, 0, 0, 0, 0, 0, 0, 0, []), oA (.iload_n 2) 96 2],
  [oK (.bipush 40) 98 (40), oN, oK (.bipush 69) 100 (69), oN, (.invokestatic 103, 103, 211, 3, 0, 0, 0, 0, 0, 0, [(0, 1646)]), oN, oN, oA (.ifCond .eq 35) 106 138, oN, oN, oA (.iload_n 3) 107 3, oA (.aload_n 0) 108 0, oK (.iconst 2) 109 (2), (.invokevirtual 505, 112, 311, 1, 11, 0, 0, 0, 0, 0, [(0, 2058)]), oN, oN, oA (.if_icmp .ge 24) 115 136, oN, oN, oA (.aload_n 0) 116 0, oK (.bipush 25) 118 (25), oN, oK (.bipush 8) 120 (8), oN, oA (.iload_n 2) 121 2, oK (.bipush 10) 123 (10), oN, o0 .idiv 124, oK (.iconst 4) 125 (4), o0 .isub 126, o0 .imul 127, o0 .iadd 128],
  [oA (.iload_n 3) 129 3, o0 .iadd 130, (.invokevirtual 505, 133, 311, 1, 11, 0, 0, 0, 0, 0, [(0, 2058)]), oN, oN, oA (.goto 4) 136 137, oN, oN, oK (.iconst (-1)) 137 (-1), (.ireturn, 138, 0, 0, 0, 0, 0, 0, 0, 0, []), oA (.iload_n 2) 139 2, oK (.iconst 0) 140 (0), oK (.iconst 2) 141 (2), (.invokestatic 103, 144, 211, 3, 0, 0, 0, 0, 0, 0, [(0, 1646)]), oN, oN, oA (.ifCond .eq 11) 147 155, oN, oN, oA (.aload_n 0) 148 0, oA (.iload_n 2) 149 2, (.invokevirtual 505, 152, 311, 1, 11, 0, 0, 0, 0, 0, [(0, 2058)]), oN, oN, oA (.goto 4) 155 156, oN, oN, oK (.iconst (-1)) 156 (-1), (.ireturn, 157, 0, 0, 0, 0, 0, 0, 0, 0, [])]]
def cd_Mo_hasList : List (List xop) := [[oA (.aload_n 0) 1 0, oA (.iload_n 1) 2 1, oF (.putfield 499) 5 11 49 0 1510, oN, oN, oA (.aload_n 0) 6 0, oK (.iconst 3) 7 (3), oA (.iload_n 1) 8 1, (.invokevirtual 285, 11, 213, 2, 11, 0, 0, 0, 0, 0, [(0, 1653)]), oN, oN, (.ireturn, 12, 0, 0, 0, 1, 0, 0, 0, 0, [])]]
def cd_Mo_listOf : List (List xop) := [[oA (.aload_n 0) 1 0, oF (.getfield 35) 4 11 9 2 1470, oN, oN, oK (.bipush 49) 6 (49), oN, oA (.aload_n 0) 7 0, oF (.getfield 499) 10 11 49 0 1510, oN, oN, o0 .imul 11, oA (.iload_n 1) 12 1, o0 .iadd 13, o0 .iaload 14, (.ireturn, 15, 0, 0, 0, 0, 0, 0, 0, 0, [])]]
def cd_Mo_shod : List (List xop) := [[oA (.aload_n 0) 1 0, oK (.iconst 0) 2 (0), oF (.putfield 91) 5 11 0 0 1461, oN, oN, oA (.aload_n 0) 6 0, oA (.iload_n 1) 7 1, (.invokevirtual 502, 10, 310, 1, 11, 0, 0, 0, 0, 0, [(0, 2054)]), oN, oN, oA (.ifCond .eq 18) 13 28, oN, oN, oA (.iload_n 2) 14 2, oK (.iconst (-1)) 15 (-1), oA (.aload_n 0) 16 0, oK (.iconst 1) 17 (1), (.invokevirtual 505, 20, 311, 1, 11, 0, 0, 0, 0, 0, [(0, 2058)]), oN, oN, oK (.iconst 1) 21 (1), o0 .isub 22, (.invokestatic 103, 25, 211, 3, 0, 0, 0, 0, 0, 0, [(0, 1646)]), oN, oN, oA (.ifCond .ne 5) 28 30, oN, oN, oK (.iconst (-1)) 29 (-1), (.ireturn, 30, 0, 0, 0, 0, 0, 0, 0, 0, []), oA (.aload_n 0) 31 0, (.invokevirtual 511, 34, 313, 0, 11, 3, 0, 0, 0, 0, [(0, 2066)])],
  [oN, oN, oA (.iload_n 2) 35 2, oK (.iconst (-1)) 36 (-1), oA (.if_icmp .ne 20) 39 56, oN, oN, oA (.aload_n 0) 40 0, oF (.getfield 72) 43 11 50 2 1511, oN, oN, oK (.iconst 1) 44 (1), oA (.aload_n 0) 45 0, oK (.iconst 0) 46 (0), (.invokevirtual 505, 49, 311, 1, 11, 0, 0, 0, 0, 0, [(0, 2058)]), oN, oN, o0 .ishl 50, oK (.iconst 1) 51 (1), o0 .isub 52, o0 .iaload 53, oA (.goto 8) 56 61, oN, oN, oA (.aload_n 0) 57 0, oA (.iload_n 2) 58 2, (.invokevirtual 514, 61, 315, 1, 11, 0, 0, 0, 0, 0, [(0, 2074)]), oN, oN, (.ireturn, 62, 0, 0, 0, 0, 0, 0, 0, 0, [])]]
def cd_Mo_findNeeds : List (List xop) := [[oA (.aload_n 0) 1 0, oK (.iconst 1) 2 (1), (.invokevirtual 505, 5, 311, 1, 11, 0, 0, 0, 0, 0, [(0, 2058)]), oN, oN, oA (.istore_n 1) 6 1, oA (.iload_n 1) 7 1, oA (.ifCond .lt 143) 10 150, oN, oN, oK (.iconst 0) 11 (0), oA (.istore_n 2) 12 2, oA (.iload_n 2) 13 2, oK (.bipush 64) 15 (64), oN, oA (.if_icmp .ge 129) 18 144, oN, oN, oA (.iload_n 1) 19 1, oA (.aload_n 0) 20 0, oK (.iconst 1) 21 (1), (.invokevirtual 505, 24, 311, 1, 11, 0, 0, 0, 0, 0, [(0, 2058)]), oN, oN, oA (.if_icmp .ge 19) 27 43, oN, oN, oA (.aload_n 0) 28 0, oF (.getfield 72) 31 11 50 2 1511, oN, oN, oK (.bipush 64) 33 (64)],
  [oN, oA (.iload_n 1) 34 1, oK (.iconst 1) 35 (1), o0 .iadd 36, o0 .imul 37, oA (.iload_n 2) 38 2, o0 .iadd 39, o0 .iaload 40, oA (.goto 4) 43 44, oN, oN, oK (.iconst 0) 44 (0), oA (.istore_n 3) 45 3, oK (.iconst 0) 46 (0), oA (.istore 4) 48 4, oN, oA (.iload 4) 50 4, oN, oA (.aload_n 0) 51 0, oK (.iconst 0) 52 (0), (.invokevirtual 505, 55, 311, 1, 11, 0, 0, 0, 0, 0, [(0, 2058)]), oN, oN, oA (.if_icmp .ge 71) 58 126, oN, oN, oA (.iload_n 1) 59 1, oA (.aload_n 0) 60 0, oK (.iconst 1) 61 (1), (.invokevirtual 505, 64, 311, 1, 11, 0, 0, 0, 0, 0, [(0, 2058)]), oN, oN],
  [oA (.if_icmp .ge 62) 67 126, oN, oN, oA (.iload_n 2) 68 2, oA (.iload 4) 70 4, oN, (.invokestatic 95, 73, 286, 2, 0, 0, 0, 0, 0, 0, [(0, 1959)]), oN, oN, oA (.ifCond .eq 47) 76 120, oN, oN, oA (.aload_n 0) 77 0, oA (.iload 4) 79 4, oN, oA (.iload_n 1) 80 1, (.invokevirtual 508, 83, 314, 2, 11, 0, 0, 0, 0, 0, [(0, 2070)]), oN, oN, oA (.ifCond .eq 37) 86 120, oN, oN, oA (.iload_n 3) 87 3, oA (.aload_n 0) 88 0, oK (.bipush 17) 90 (17), oN, oA (.iload_n 1) 91 1, o0 .iadd 92, (.invokevirtual 505, 95, 311, 1, 11, 0, 0, 0, 0, 0, [(0, 2058)]), oN, oN, oA (.aload_n 0) 96 0],
  [oF (.getfield 72) 99 11 50 2 1511, oN, oN, oK (.bipush 64) 101 (64), oN, oA (.iload_n 1) 102 1, oK (.iconst 1) 103 (1), o0 .iadd 104, o0 .imul 105, oA (.iload_n 2) 106 2, oK (.iconst 1) 107 (1), oA (.iload 4) 109 4, oN, o0 .ishl 110, oK (.iconst (-1)) 111 (-1), o0 .ixor 112, o0 .iand 113, o0 .iadd 114, o0 .iaload 115, o0 .iadd 116, (.invokestatic 176, 119, 229, 2, 0, 0, 0, 0, 0, 0, [(0, 1726)]), oN, oN, oA (.istore_n 3) 120 3, oC (.iinc 4 1) 123 4 0 (1), oN, oN, oA (.goto (-75)) 126 48, oN, oN, oA (.aload_n 0) 127 0, oF (.getfield 72) 130 11 50 2 1511],
  [oN, oN, oK (.bipush 64) 132 (64), oN, oA (.iload_n 1) 133 1, o0 .imul 134, oA (.iload_n 2) 135 2, o0 .iadd 136, oA (.iload_n 3) 137 3, o0 .iastore 138, oC (.iinc 2 1) 141 2 0 (1), oN, oN, oA (.goto (-129)) 144 12, oN, oN, oC (.iinc 1 (-1)) 147 1 0 (-1), oN, oN, oA (.goto (-141)) 150 6, oN, oN, o0 .return_ 151]]
def cd_Mo_isFit : List (List xop) := [[oA (.aload_n 0) 1 0, oK (.iconst 3) 2 (3), oA (.iload_n 1) 3 1, o0 .iadd 4, (.invokevirtual 505, 7, 311, 1, 11, 0, 0, 0, 0, 0, [(0, 2058)]), oN, oN, oA (.aload_n 0) 8 0, oK (.bipush 9) 10 (9), oN, oA (.iload_n 2) 11 2, o0 .iadd 12, (.invokevirtual 505, 15, 311, 1, 11, 0, 0, 0, 0, 0, [(0, 2058)]), oN, oN, o0 .isub 16, oK (.iconst 0) 17 (0), oK (.iconst 1) 18 (1), (.invokestatic 103, 21, 211, 3, 0, 0, 0, 0, 0, 0, [(0, 1646)]), oN, oN, (.ireturn, 22, 0, 0, 0, 1, 0, 0, 0, 0, [])]]
def cd_Mo_shoeOf : List (List xop) := [[oK (.iconst 1) 1 (1), oA (.aload_n 0) 2 0, oK (.iconst 0) 3 (0), (.invokevirtual 505, 6, 311, 1, 11, 0, 0, 0, 0, 0, [(0, 2058)]), oN, oN, o0 .ishl 7, oK (.iconst 1) 8 (1), o0 .isub 9, oA (.istore_n 2) 10 2, oK (.iconst (-1)) 11 (-1), oA (.istore_n 3) 12 3, oK (.iconst 0) 13 (0), oA (.istore 4) 15 4, oN, oA (.iload 4) 17 4, oN, oA (.iload_n 1) 18 1, oA (.if_icmp .gt 135) 21 153, oN, oN, oK (.bipush 6) 23 (6), oN, oA (.istore_n 3) 24 3, oA (.aload_n 0) 25 0, oK (.iconst 0) 26 (0), (.invokevirtual 505, 29, 311, 1, 11, 0, 0, 0, 0, 0, [(0, 2058)]), oN, oN, oK (.iconst 1) 30 (1), o0 .isub 31, oA (.istore 5) 33 5],
  [oN, oA (.iload 5) 35 5, oN, oA (.ifCond .lt 94) 38 129, oN, oN, oA (.iload_n 2) 39 2, oA (.iload 5) 41 5, oN, (.invokestatic 95, 44, 286, 2, 0, 0, 0, 0, 0, 0, [(0, 1959)]), oN, oN, oA (.ifCond .eq 64) 47 108, oN, oN, oA (.aload_n 0) 48 0, oA (.iload 5) 50 5, oN, oA (.iload 4) 52 4, oN, (.invokevirtual 508, 55, 314, 2, 11, 0, 0, 0, 0, 0, [(0, 2070)]), oN, oN, oA (.ifCond .eq 53) 58 108, oN, oN, oA (.aload_n 0) 59 0, oK (.bipush 17) 61 (17), oN, oA (.iload 4) 63 4, oN, o0 .iadd 64],
  [(.invokevirtual 505, 67, 311, 1, 11, 0, 0, 0, 0, 0, [(0, 2058)]), oN, oN, oA (.aload_n 0) 68 0, oF (.getfield 72) 71 11 50 2 1511, oN, oN, oK (.bipush 64) 73 (64), oN, oA (.iload 4) 75 4, oN, oK (.iconst 1) 76 (1), o0 .iadd 77, o0 .imul 78, oA (.iload_n 2) 79 2, oK (.iconst 1) 80 (1), oA (.iload 5) 82 5, oN, o0 .ishl 83, oK (.iconst (-1)) 84 (-1), o0 .ixor 85, o0 .iand 86, o0 .iadd 87, o0 .iaload 88, o0 .iadd 89, oA (.aload_n 0) 90 0, oF (.getfield 72) 93 11 50 2 1511, oN, oN, oK (.bipush 64) 95 (64), oN, oA (.iload 4) 97 4],
  [oN, o0 .imul 98, oA (.iload_n 2) 99 2, o0 .iadd 100, o0 .iaload 101, oA (.if_icmp .ne 7) 104 108, oN, oN, oK (.iconst 1) 105 (1), oA (.goto 4) 108 109, oN, oN, oK (.iconst 0) 109 (0), oA (.istore 6) 111 6, oN, oA (.iload 6) 113 6, oN, oA (.ifCond .eq 8) 116 121, oN, oN, oA (.iload 5) 118 5, oN, oA (.goto 4) 121 122, oN, oN, oA (.iload_n 3) 122 3, oA (.istore_n 3) 123 3, oC (.iinc 5 (-1)) 126 5 0 (-1), oN, oN, oA (.goto (-93)) 129 33, oN],
  [oN, oA (.iload_n 2) 130 2, oA (.iload_n 3) 131 3, oK (.bipush 6) 133 (6), oN, oA (.if_icmp .ge 11) 136 144, oN, oN, oK (.iconst 1) 137 (1), oA (.iload_n 3) 138 3, o0 .ishl 139, oK (.iconst (-1)) 140 (-1), o0 .ixor 141, oA (.goto 4) 144 145, oN, oN, oA (.iload_n 2) 145 2, o0 .iand 146, oA (.istore_n 2) 147 2, oC (.iinc 4 1) 150 4 0 (1), oN, oN, oA (.goto (-135)) 153 15, oN, oN, oA (.iload_n 3) 154 3, (.ireturn, 155, 0, 0, 0, 0, 0, 0, 0, 0, [])]]
def cd_Mo_look : List (List xop) := [[oA (.aload_n 0) 1 0, oK (.iconst 0) 2 (0), oF (.putfield 91) 5 11 0 0 1461, oN, oN, oA (.aload_n 0) 6 0, oA (.iload_n 1) 7 1, (.invokevirtual 502, 10, 310, 1, 11, 0, 0, 0, 0, 0, [(0, 2054)]), oN, oN, oA (.ifCond .eq 33) 13 43, oN, oN, oA (.iload_n 2) 14 2, oK (.bipush (-2)) 16 (-2), oN, oA (.aload_n 0) 17 0, (.invokevirtual 517, 20, 317, 0, 11, 0, 0, 0, 0, 0, [(0, 2082)]), oN, oN, oK (.iconst 1) 21 (1), o0 .isub 22, (.invokestatic 103, 25, 211, 3, 0, 0, 0, 0, 0, 0, [(0, 1646)]), oN, oN, oA (.ifCond .eq 18) 28 43, oN, oN, oA (.aload_n 0) 29 0, oK (.iconst 1) 30 (1), oA (.aload_n 0) 31 0, (.invokevirtual 517, 34, 317, 0, 11, 0, 0, 0, 0, 0, [(0, 2082)])],
  [oN, oN, o0 .ishl 35, oK (.iconst 1) 36 (1), o0 .isub 37, (.invokevirtual 526, 40, 318, 1, 11, 0, 0, 0, 0, 0, [(0, 2086)]), oN, oN, oA (.ifCond .ne 5) 43 45, oN, oN, oK (.iconst (-1)) 44 (-1), (.ireturn, 45, 0, 0, 0, 0, 0, 0, 0, 0, []), oA (.aload_n 0) 46 0, (.invokevirtual 532, 49, 319, 0, 11, 3, 0, 0, 0, 0, [(0, 2090)]), oN, oN, oK (.iconst 1) 50 (1), oA (.aload_n 0) 51 0, (.invokevirtual 517, 54, 317, 0, 11, 0, 0, 0, 0, 0, [(0, 2082)]), oN, oN, o0 .ishl 55, oK (.iconst 1) 56 (1), o0 .isub 57, oA (.istore_n 3) 58 3, oA (.iload_n 2) 59 2, oA (.ifCond .ge 40) 62 99, oN, oN, oA (.aload_n 0) 63 0, oF (.getfield 75) 66 11 51 2 1512],
  [oN, oN, oK (.bipush 9) 68 (9), oN, oA (.iload_n 3) 69 3, o0 .imul 70, oK (.bipush 8) 72 (8), oN, o0 .iadd 73, o0 .iaload 74, o0 .i2l 75, oA (.aload_n 0) 76 0, oA (.iload_n 3) 77 3, (.invokevirtual 526, 80, 318, 1, 11, 0, 0, 0, 0, 0, [(0, 2086)]), oN, oN, o0 .i2l 81, oA (.iload_n 2) 82 2, oK (.bipush (-2)) 84 (-2), oN, oA (.if_icmp .ne 7) 87 91, oN, oN, oK (.iconst 1) 88 (1), oA (.goto 4) 91 92, oN, oN, oK (.iconst 0) 92 (0), (.invokestatic 423, 95, 279, 3, 0, 1, 0, 0, 0, 0, [(0, 1933)]), oN, oN, o0 .l2i 96],
  [oA (.goto 8) 99 104, oN, oN, oA (.aload_n 0) 100 0, oA (.iload_n 2) 101 2, (.invokevirtual 535, 104, 323, 1, 11, 0, 0, 0, 0, 0, [(0, 2106)]), oN, oN, (.ireturn, 105, 0, 0, 0, 0, 0, 0, 0, 0, [])]]
def cd_Mo_hides : List (List xop) := [[oA (.aload_n 0) 1 0, oK (.iconst 2) 2 (2), (.invokevirtual 505, 5, 311, 1, 11, 0, 0, 0, 0, 0, [(0, 2058)]), oN, oN, (.ireturn, 6, 0, 0, 0, 0, 0, 0, 0, 0, [])]]
def cd_Mo_odds : List (List xop) := [[oK (.iconst 0) 1 (0), oA (.istore_n 2) 2 2, oK (.iconst 0) 3 (0), oA (.istore_n 3) 4 3, oA (.iload_n 3) 5 3, oA (.aload_n 0) 6 0, (.invokevirtual 517, 9, 317, 0, 11, 0, 0, 0, 0, 0, [(0, 2082)]), oN, oN, oA (.if_icmp .ge 32) 12 41, oN, oN, oA (.iload_n 2) 13 2, oA (.iload_n 1) 14 1, oA (.iload_n 3) 15 3, (.invokestatic 95, 18, 286, 2, 0, 0, 0, 0, 0, 0, [(0, 1959)]), oN, oN, oA (.ifCond .eq 14) 21 32, oN, oN, oA (.aload_n 0) 22 0, oK (.bipush 41) 24 (41), oN, oA (.iload_n 3) 25 3, o0 .iadd 26, (.invokevirtual 505, 29, 311, 1, 11, 0, 0, 0, 0, 0, [(0, 2058)]), oN, oN, oA (.goto 4) 32 33, oN, oN],
  [oK (.iconst 0) 33 (0), o0 .iadd 34, oA (.istore_n 2) 35 2, oC (.iinc 3 1) 38 3 0 (1), oN, oN, oA (.goto (-34)) 41 4, oN, oN, oA (.iload_n 2) 42 2, (.ireturn, 43, 0, 0, 0, 0, 0, 0, 0, 0, [])]]
def cd_Mo_findLooks : List (List xop) := [[oK (.iconst 0) 1 (0), oA (.istore_n 1) 2 1, oA (.iload_n 1) 3 1, oK (.iconst 1) 4 (1), oA (.aload_n 0) 5 0, (.invokevirtual 517, 8, 317, 0, 11, 0, 0, 0, 0, 0, [(0, 2082)]), oN, oN, o0 .ishl 9, oA (.if_icmp .ge 105) 12 114, oN, oN, oK (.iconst 0) 13 (0), oA (.istore_n 2) 14 2, oA (.iload_n 2) 15 2, oK (.bipush 8) 17 (8), oN, oA (.if_icmp .gt 91) 20 108, oN, oN, oA (.iload_n 1) 21 1, oA (.ifCond .ne 7) 24 28, oN, oN, oK (.iconst 0) 25 (0), oA (.goto 6) 28 31, oN, oN, oC (.ldc_w 430) 31 1962 0 (1000000), oN, oN, oA (.istore_n 3) 32 3],
  [oK (.iconst 0) 33 (0), oA (.istore 4) 35 4, oN, oA (.iload 4) 37 4, oN, oA (.aload_n 0) 38 0, (.invokevirtual 517, 41, 317, 0, 11, 0, 0, 0, 0, 0, [(0, 2082)]), oN, oN, oA (.if_icmp .ge 49) 44 90, oN, oN, oA (.iload_n 2) 45 2, oA (.aload_n 0) 46 0, (.invokevirtual 517, 49, 317, 0, 11, 0, 0, 0, 0, 0, [(0, 2082)]), oN, oN, oA (.if_icmp .lt 9) 52 58, oN, oN, oA (.iload_n 2) 53 2, oK (.bipush 8) 55 (8), oN, oA (.if_icmp .ne 35) 58 90, oN, oN, oA (.iload_n 1) 59 1, oA (.iload 4) 61 4, oN, (.invokestatic 95, 64, 286, 2, 0, 0, 0, 0, 0, 0, [(0, 1959)]), oN, oN],
  [oA (.ifCond .eq 18) 67 82, oN, oN, oA (.iload_n 3) 68 3, oA (.aload_n 0) 69 0, oA (.iload_n 2) 70 2, oA (.iload_n 1) 71 1, oA (.iload 4) 73 4, oN, (.invokevirtual 529, 76, 320, 3, 11, 0, 0, 0, 0, 0, [(0, 2094)]), oN, oN, (.invokestatic 370, 79, 267, 2, 0, 0, 0, 0, 0, 0, [(0, 1885)]), oN, oN, oA (.goto 4) 82 83, oN, oN, oA (.iload_n 3) 83 3, oA (.istore_n 3) 84 3, oC (.iinc 4 1) 87 4 0 (1), oN, oN, oA (.goto (-52)) 90 35, oN, oN, oA (.aload_n 0) 91 0, oF (.getfield 75) 94 11 51 2 1512, oN, oN, oK (.bipush 9) 96 (9), oN],
  [oA (.iload_n 1) 97 1, o0 .imul 98, oA (.iload_n 2) 99 2, o0 .iadd 100, oA (.iload_n 3) 101 3, o0 .iastore 102, oC (.iinc 2 1) 105 2 0 (1), oN, oN, oA (.goto (-91)) 108 14, oN, oN, oC (.iinc 1 1) 111 1 0 (1), oN, oN, oA (.goto (-109)) 114 2, oN, oN, o0 .return_ 115]]
def cd_Mo_looksOn : List (List xop) := [[oA (.aload_n 0) 1 0, oA (.iload_n 1) 2 1, (.invokevirtual 520, 5, 321, 1, 11, 0, 0, 0, 0, 0, [(0, 2098)]), oN, oN, oA (.aload_n 0) 6 0, oA (.iload_n 3) 7 3, (.invokevirtual 520, 10, 321, 1, 11, 0, 0, 0, 0, 0, [(0, 2098)]), oN, oN, (.invokestatic 331, 13, 262, 2, 0, 0, 0, 0, 0, 0, [(0, 1867)]), oN, oN, oA (.aload_n 0) 14 0, oA (.iload_n 1) 15 1, (.invokevirtual 523, 18, 322, 1, 11, 0, 0, 0, 0, 0, [(0, 2102)]), oN, oN, oA (.aload_n 0) 19 0, oA (.iload_n 3) 20 3, (.invokevirtual 523, 23, 322, 1, 11, 0, 0, 0, 0, 0, [(0, 2102)]), oN, oN, (.invokestatic 331, 26, 262, 2, 0, 0, 0, 0, 0, 0, [(0, 1867)]), oN, oN, o0 .iadd 27, oA (.istore 4) 29 4, oN, oA (.iload 4) 31 4, oN, oA (.aload_n 0) 32 0],
  [oA (.iload_n 2) 33 2, (.invokevirtual 526, 36, 318, 1, 11, 0, 0, 0, 0, 0, [(0, 2086)]), oN, oN, o0 .imul 37, oA (.aload_n 0) 38 0, oF (.getfield 75) 41 11 51 2 1512, oN, oN, oK (.bipush 9) 43 (9), oN, oA (.iload_n 2) 44 2, oK (.iconst 1) 45 (1), oA (.iload_n 3) 46 3, o0 .ishl 47, oK (.iconst (-1)) 48 (-1), o0 .ixor 49, o0 .iand 50, o0 .imul 51, oA (.iload_n 3) 52 3, o0 .iadd 53, o0 .iaload 54, o0 .iadd 55, (.ireturn, 56, 0, 0, 0, 0, 0, 0, 0, 0, [])]]
def cd_Mo_hideX : List (List xop) := [[oA (.iload_n 1) 1 1, oK (.bipush 8) 3 (8), oN, oA (.if_icmp .ne 7) 6 10, oN, oN, oK (.iconst 0) 7 (0), oA (.goto 11) 10 18, oN, oN, oA (.aload_n 0) 11 0, oK (.bipush 25) 13 (25), oN, oA (.iload_n 1) 14 1, o0 .iadd 15, (.invokevirtual 505, 18, 311, 1, 11, 0, 0, 0, 0, 0, [(0, 2058)]), oN, oN, (.ireturn, 19, 0, 0, 0, 0, 0, 0, 0, 0, [])]]
def cd_Mo_hideY : List (List xop) := [[oA (.iload_n 1) 1 1, oK (.bipush 8) 3 (8), oN, oA (.if_icmp .ne 7) 6 10, oN, oN, oK (.iconst 0) 7 (0), oA (.goto 11) 10 18, oN, oN, oA (.aload_n 0) 11 0, oK (.bipush 33) 13 (33), oN, oA (.iload_n 1) 14 1, o0 .iadd 15, (.invokevirtual 505, 18, 311, 1, 11, 0, 0, 0, 0, 0, [(0, 2058)]), oN, oN, (.ireturn, 19, 0, 0, 0, 0, 0, 0, 0, 0, [])]]
def cd_Mo_hideAt : List (List xop) := [[oK (.iconst 1) 1 (1), oA (.aload_n 0) 2 0, (.invokevirtual 517, 5, 317, 0, 11, 0, 0, 0, 0, 0, [(0, 2082)]), oN, oN, o0 .ishl 6, oK (.iconst 1) 7 (1), o0 .isub 8, oA (.istore_n 2) 9 2, oK (.bipush 8) 11 (8), oN, oA (.istore_n 3) 12 3, oK (.iconst 0) 13 (0), oA (.istore 4) 15 4, oN, oA (.iload 4) 17 4, oN, oA (.iload_n 1) 18 1, oA (.if_icmp .gt 61) 21 79, oN, oN, oK (.iconst 0) 22 (0), oA (.istore 5) 24 5, oN, oA (.iload_n 2) 25 2, oA (.iload 5) 27 5, oN, (.invokestatic 95, 30, 286, 2, 0, 0, 0, 0, 0, 0, [(0, 1959)]), oN, oN, oA (.ifCond .eq 25) 33 55, oN],
  [oN, oA (.aload_n 0) 34 0, oA (.iload_n 3) 35 3, oA (.iload_n 2) 36 2, oA (.iload 5) 38 5, oN, (.invokevirtual 529, 41, 320, 3, 11, 0, 0, 0, 0, 0, [(0, 2094)]), oN, oN, oA (.aload_n 0) 42 0, oF (.getfield 75) 45 11 51 2 1512, oN, oN, oK (.bipush 9) 47 (9), oN, oA (.iload_n 2) 48 2, o0 .imul 49, oA (.iload_n 3) 50 3, o0 .iadd 51, o0 .iaload 52, oA (.if_icmp .eq 9) 55 61, oN, oN, oC (.iinc 5 1) 58 5 0 (1), oN, oN, oA (.goto (-34)) 61 24, oN, oN, oA (.iload_n 2) 62 2, oK (.iconst 1) 63 (1), oA (.iload 5) 65 5],
  [oN, o0 .ishl 66, oK (.iconst (-1)) 67 (-1), o0 .ixor 68, o0 .iand 69, oA (.istore_n 2) 70 2, oA (.iload 5) 72 5, oN, oA (.istore_n 3) 73 3, oC (.iinc 4 1) 76 4 0 (1), oN, oN, oA (.goto (-61)) 79 15, oN, oN, oA (.iload_n 3) 80 3, (.ireturn, 81, 0, 0, 0, 0, 0, 0, 0, 0, [])]]
def cd_Mo_worry : List (List xop) := [[oA (.aload_n 0) 1 0, oK (.iconst 0) 2 (0), oF (.putfield 91) 5 11 0 0 1461, oN, oN, oA (.iload_n 1) 6 1, oA (.iload_n 2) 7 2, (.invokestatic 548, 10, 325, 2, 0, 0, 0, 0, 0, 0, [(0, 2114)]), oN, oN, oA (.ifCond .eq 13) 13 23, oN, oN, oA (.iload_n 3) 14 3, oK (.iconst 0) 15 (0), oK (.bipush 9) 17 (9), oN, (.invokestatic 103, 20, 211, 3, 0, 0, 0, 0, 0, 0, [(0, 1646)]), oN, oN, oA (.ifCond .ne 7) 23 27, oN, oN, oL (.ldc2_w 421) 26 1932 (-1), oN, oN, o0 .lreturn 27, oA (.iload_n 1) 28 1, oA (.iload_n 2) 29 2, oA (.iload_n 3) 30 3, (.invokestatic 551, 33, 326, 3, 0, 1, 0, 0, 0, 0, [(0, 2117)]), oN],
  [oN, oA (.lstore 5) 35 5, oN, oA (.iload_n 2) 36 2, oA (.iload_n 3) 37 3, (.invokestatic 544, 40, 327, 2, 0, 1, 0, 0, 0, 0, [(0, 2120)]), oN, oN, oA (.lload 5) 42 5, oN, oL (.lconst 0) 43 0 0, o0 .lcmp 44, oA (.ifCond .ne 7) 47 51, oN, oN, oL (.lconst 1) 48 0 1, oA (.goto 5) 51 53, oN, oN, oA (.lload 5) 53 5, oN, oA (.iload 4) 55 4, oN, (.invokestatic 423, 58, 279, 3, 0, 1, 0, 0, 0, 0, [(0, 1933)]), oN, oN, o0 .lreturn 59]]
def cd_Mo_areOdds : List (List xop) := [[oA (.iload_n 0) 1 0, oK (.iconst 0) 2 (0), oK (.bipush 10) 4 (10), oN, (.invokestatic 103, 7, 211, 3, 0, 0, 0, 0, 0, 0, [(0, 1646)]), oN, oN, oA (.ifCond .eq 17) 10 24, oN, oN, oA (.iload_n 1) 11 1, oK (.iconst 0) 12 (0), oK (.bipush 100) 14 (100), oN, (.invokestatic 103, 17, 211, 3, 0, 0, 0, 0, 0, 0, [(0, 1646)]), oN, oN, oA (.ifCond .eq 7) 20 24, oN, oN, oK (.iconst 1) 21 (1), oA (.goto 4) 24 25, oN, oN, oK (.iconst 0) 25 (0), (.ireturn, 26, 0, 0, 0, 1, 0, 0, 0, 0, [])]]
def cd_Mo_stays : List (List xop) := [[oA (.iload_n 1) 1 1, oA (.iload_n 2) 2 2, (.invokestatic 544, 5, 327, 2, 0, 1, 0, 0, 0, 0, [(0, 2120)]), oN, oN, oK (.bipush 100) 7 (100), oN, oA (.iload_n 1) 8 1, o0 .isub 9, o0 .i2l 10, oK (.bipush 10) 12 (10), oN, oA (.iload_n 0) 13 0, o0 .isub 14, o0 .i2l 15, oA (.iload_n 2) 16 2, (.invokestatic 540, 19, 328, 2, 0, 1, 0, 0, 0, 0, [(0, 2124)]), oN, oN, o0 .lmul 20, o0 .ladd 21, o0 .lreturn 22]]
def cd_Mo_ill : List (List xop) := [[oA (.iload_n 0) 1 0, o0 .i2l 2, oL (.ldc2_w 538) 5 2123 (10), oN, oN, oA (.iload_n 1) 6 1, (.invokestatic 540, 9, 328, 2, 0, 1, 0, 0, 0, 0, [(0, 2124)]), oN, oN, o0 .lmul 10, o0 .lreturn 11]]
def cd_Mo_power : List (List xop) := [[oL (.lconst 1) 1 0 1, oA (.lstore_n 3) 2 3, oK (.iconst 0) 3 (0), oA (.istore 5) 5 5, oN, oA (.iload 5) 7 5, oN, oA (.iload_n 2) 8 2, oA (.if_icmp .ge 13) 11 21, oN, oN, oA (.lload_n 3) 12 3, oA (.lload_n 0) 13 0, o0 .lmul 14, oA (.lstore_n 3) 15 3, oC (.iinc 5 1) 18 5 0 (1), oN, oN, oA (.goto (-13)) 21 5, oN, oN, oA (.lload_n 3) 22 3, o0 .lreturn 23]]
def cd_Mo_when : List (List xop) := [[oA (.aload_n 0) 1 0, oK (.iconst 0) 2 (0), oF (.putfield 91) 5 11 0 0 1461, oN, oN, oA (.iload_n 1) 6 1, oA (.iload_n 2) 7 2, (.invokestatic 548, 10, 325, 2, 0, 0, 0, 0, 0, 0, [(0, 2114)]), oN, oN, oA (.ifCond .eq 13) 13 23, oN, oN, oA (.iload_n 3) 14 3, oK (.iconst 0) 15 (0), oK (.bipush 10) 17 (10), oN, (.invokestatic 103, 20, 211, 3, 0, 0, 0, 0, 0, 0, [(0, 1646)]), oN, oN, oA (.ifCond .ne 5) 23 25, oN, oN, oK (.iconst (-1)) 24 (-1), (.ireturn, 25, 0, 0, 0, 0, 0, 0, 0, 0, []), oK (.iconst 0) 26 (0), oA (.istore 4) 28 4, oN, oA (.iload 4) 30 4, oN, oK (.bipush 9) 32 (9), oN],
  [oA (.if_icmp .gt 51) 35 83, oN, oN, oA (.iload_n 1) 36 1, oA (.iload_n 2) 37 2, oA (.iload 4) 39 4, oN, (.invokestatic 551, 42, 326, 3, 0, 1, 0, 0, 0, 0, [(0, 2117)]), oN, oN, oA (.lstore 5) 44 5, oN, oL (.ldc2_w 538) 47 2123 (10), oN, oN, oA (.iload_n 2) 48 2, oA (.iload 4) 50 4, oN, (.invokestatic 544, 53, 327, 2, 0, 1, 0, 0, 0, 0, [(0, 2120)]), oN, oN, o0 .lmul 54, oA (.iload_n 3) 55 3, o0 .i2l 56, oA (.lload 5) 58 5, oN, oL (.lconst 0) 59 0 0, o0 .lcmp 60, oA (.ifCond .ne 7) 63 67, oN, oN, oL (.lconst 1) 64 0 1],
  [oA (.goto 5) 67 69, oN, oN, oA (.lload 5) 69 5, oN, o0 .lmul 70, o0 .lcmp 71, oA (.ifCond .lt 6) 74 77, oN, oN, oA (.iload 4) 76 4, oN, (.ireturn, 77, 0, 0, 0, 0, 0, 0, 0, 0, []), oC (.iinc 4 1) 80 4 0 (1), oN, oN, oA (.goto (-52)) 83 28, oN, oN, oK (.iconst (-1)) 84 (-1), (.ireturn, 85, 0, 0, 0, 0, 0, 0, 0, 0, [])]]
def cd_Mo_shared : List (List xop) := [[oA (.aload_n 0) 1 0, oK (.iconst 0) 2 (0), oF (.putfield 91) 5 11 0 0 1461, oN, oN, oA (.iload_n 1) 6 1, oK (.iconst 0) 7 (0), oK (.bipush 127) 9 (127), oN, (.invokestatic 103, 12, 211, 3, 0, 0, 0, 0, 0, 0, [(0, 1646)]), oN, oN, oA (.ifCond .eq 44) 15 56, oN, oN, oA (.iload_n 2) 16 2, oK (.iconst 0) 17 (0), oK (.bipush 127) 19 (127), oN, (.invokestatic 103, 22, 211, 3, 0, 0, 0, 0, 0, 0, [(0, 1646)]), oN, oN, oA (.ifCond .eq 34) 25 56, oN, oN, oA (.iload_n 3) 26 3, oK (.iconst 0) 27 (0), oK (.bipush 7) 29 (7), oN, (.invokestatic 103, 32, 211, 3, 0, 0, 0, 0, 0, 0, [(0, 1646)]), oN, oN],
  [oA (.ifCond .eq 24) 35 56, oN, oN, oA (.iload 4) 37 4, oN, oK (.iconst 0) 38 (0), oK (.bipush 7) 40 (7), oN, (.invokestatic 103, 43, 211, 3, 0, 0, 0, 0, 0, 0, [(0, 1646)]), oN, oN, oA (.ifCond .eq 13) 46 56, oN, oN, oA (.iload 5) 48 5, oN, oK (.iconst 0) 49 (0), oK (.iconst 3) 50 (3), (.invokestatic 103, 53, 211, 3, 0, 0, 0, 0, 0, 0, [(0, 1646)]), oN, oN, oA (.ifCond .ne 5) 56 58, oN, oN, oK (.iconst (-1)) 57 (-1), (.ireturn, 58, 0, 0, 0, 0, 0, 0, 0, 0, []), oK (.iconst (-1)) 59 (-1), oA (.istore 6) 61 6, oN, oC (.ldc_w 430) 64 1962 0 (1000000), oN, oN],
  [oA (.istore 7) 66 7, oN, oK (.iconst 0) 67 (0), oA (.istore 8) 69 8, oN, oA (.iload 8) 71 8, oN, oK (.sipush 16384) 74 (16384), oN, oN, oA (.if_icmp .ge 112) 77 186, oN, oN, oA (.iload 8) 79 8, oN, oK (.sipush 128) 82 (128), oN, oN, o0 .idiv 83, oA (.istore 9) 85 9, oN, oA (.iload 8) 87 8, oN, oK (.sipush 128) 90 (128), oN, oN, o0 .irem 91, oA (.istore 10) 93 10, oN, oA (.iload 9) 95 9, oN, oA (.iload_n 1) 96 1],
  [oK (.iconst (-1)) 97 (-1), o0 .ixor 98, o0 .iand 99, oA (.ifCond .ne 81) 102 180, oN, oN, oA (.iload 10) 104 10, oN, oA (.iload_n 2) 105 2, oK (.iconst (-1)) 106 (-1), o0 .ixor 107, o0 .iand 108, oA (.ifCond .ne 72) 111 180, oN, oN, oA (.iload 9) 113 9, oN, (.invokestatic 555, 116, 331, 1, 0, 0, 0, 0, 0, 0, [(0, 2135)]), oN, oN, oA (.iload_n 3) 117 3, oA (.if_icmp .gt 63) 120 180, oN, oN, oA (.iload 10) 122 10, oN, (.invokestatic 555, 125, 331, 1, 0, 0, 0, 0, 0, 0, [(0, 2135)]), oN, oN, oA (.iload 4) 127 4, oN, oA (.if_icmp .gt 53) 130 180],
  [oN, oN, oK (.bipush 8) 132 (8), oN, oK (.bipush 7) 134 (7), oN, oA (.iload 9) 136 9, oN, oA (.iload 10) 138 10, oN, o0 .ior 139, (.invokestatic 555, 142, 331, 1, 0, 0, 0, 0, 0, 0, [(0, 2135)]), oN, oN, o0 .isub 143, o0 .imul 144, oA (.iload 9) 146 9, oN, oA (.iload 10) 148 10, oN, o0 .iand 149, (.invokestatic 555, 152, 331, 1, 0, 0, 0, 0, 0, 0, [(0, 2135)]), oN, oN, o0 .iadd 153, oA (.istore 11) 155 11, oN, oA (.iload 11) 157 11, oN, oA (.iload 7) 159 7, oN, oA (.if_icmp .ge 8) 162 167],
  [oN, oN, oA (.iload 8) 164 8, oN, oA (.goto 5) 167 169, oN, oN, oA (.iload 6) 169 6, oN, oA (.istore 6) 171 6, oN, oA (.iload 7) 173 7, oN, oA (.iload 11) 175 11, oN, (.invokestatic 370, 178, 267, 2, 0, 0, 0, 0, 0, 0, [(0, 1885)]), oN, oN, oA (.istore 7) 180 7, oN, oC (.iinc 8 1) 183 8 0 (1), oN, oN, oA (.goto (-114)) 186 69, oN, oN, oA (.iload 5) 188 5, oN, oA (.ifCond .ne 11) 191 199, oN, oN, oA (.iload 7) 193 7],
  [oN, oK (.bipush 8) 195 (8), oN, o0 .idiv 196, oA (.goto 38) 199 234, oN, oN, oA (.iload 5) 201 5, oN, oK (.iconst 1) 202 (1), oA (.if_icmp .ne 11) 205 213, oN, oN, oA (.iload 7) 207 7, oN, oK (.bipush 8) 209 (8), oN, o0 .irem 210, oA (.goto 24) 213 234, oN, oN, oA (.iload 5) 215 5, oN, oK (.iconst 2) 216 (2), oA (.if_icmp .ne 12) 219 228, oN, oN, oA (.iload 6) 221 6, oN, oK (.sipush 128) 224 (128), oN, oN],
  [o0 .idiv 225, oA (.goto 9) 228 234, oN, oN, oA (.iload 6) 230 6, oN, oK (.sipush 128) 233 (128), oN, oN, o0 .irem 234, (.ireturn, 235, 0, 0, 0, 0, 0, 0, 0, 0, [])]]
def cd_Mo_ones : List (List xop) := [[oK (.iconst 0) 1 (0), oA (.istore_n 1) 2 1, oK (.iconst 0) 3 (0), oA (.istore_n 2) 4 2, oA (.iload_n 2) 5 2, oK (.bipush 9) 7 (9), oN, oA (.if_icmp .ge 25) 10 32, oN, oN, oA (.iload_n 1) 11 1, oA (.iload_n 0) 12 0, oA (.iload_n 2) 13 2, (.invokestatic 95, 16, 286, 2, 0, 0, 0, 0, 0, 0, [(0, 1959)]), oN, oN, oA (.ifCond .eq 7) 19 23, oN, oN, oK (.iconst 1) 20 (1), oA (.goto 4) 23 24, oN, oN, oK (.iconst 0) 24 (0), o0 .iadd 25, oA (.istore_n 1) 26 1, oC (.iinc 2 1) 29 2 0 (1), oN, oN, oA (.goto (-25)) 32 4, oN, oN],
  [oA (.iload_n 1) 33 1, (.ireturn, 34, 0, 0, 0, 0, 0, 0, 0, 0, [])]]
def cd_Mo_pair : List (List xop) := [[oA (.aload_n 0) 1 0, oK (.iconst 0) 2 (0), oF (.putfield 91) 5 11 0 0 1461, oN, oN, oA (.iload_n 1) 6 1, oK (.iconst 2) 7 (2), oK (.bipush 12) 9 (12), oN, (.invokestatic 103, 12, 211, 3, 0, 0, 0, 0, 0, 0, [(0, 1646)]), oN, oN, oA (.ifCond .eq 24) 15 36, oN, oN, oA (.iload_n 2) 16 2, oK (.iconst 0) 17 (0), oK (.bipush 99) 19 (99), oN, (.invokestatic 103, 22, 211, 3, 0, 0, 0, 0, 0, 0, [(0, 1646)]), oN, oN, oA (.ifCond .eq 14) 25 36, oN, oN, oA (.iload_n 3) 26 3, oK (.iconst 0) 27 (0), oA (.iload_n 1) 28 1, oK (.iconst 1) 29 (1), o0 .isub 30, (.invokestatic 103, 33, 211, 3, 0, 0, 0, 0, 0, 0, [(0, 1646)]), oN],
  [oN, oA (.ifCond .ne 6) 36 39, oN, oN, oK (.bipush (-2)) 38 (-2), oN, (.ireturn, 39, 0, 0, 0, 0, 0, 0, 0, 0, []), oA (.iload_n 1) 40 1, oK (.iconst 2) 41 (2), o0 .irem 42, oA (.ifCond .ne 9) 45 51, oN, oN, oA (.iload_n 1) 46 1, oK (.iconst 1) 47 (1), o0 .isub 48, oA (.goto 4) 51 52, oN, oN, oA (.iload_n 1) 52 1, oA (.istore 4) 54 4, oN, oA (.iload_n 2) 55 2, oA (.iload 4) 57 4, oN, o0 .irem 58, oA (.istore 5) 60 5, oN, oA (.iload_n 3) 61 3, oA (.iload 4) 63 4, oN, oA (.if_icmp .ne 27) 66 90],
  [oN, oN, oK (.iconst 0) 67 (0), oA (.istore 6) 69 6, oN, oK (.iconst 2) 70 (2), oA (.iload 6) 72 6, oN, o0 .imul 73, oA (.iload 4) 75 4, oN, o0 .irem 76, oA (.iload 5) 78 5, oN, oA (.if_icmp .eq 9) 81 87, oN, oN, oC (.iinc 6 1) 84 6 0 (1), oN, oN, oA (.goto (-15)) 87 69, oN, oN, oA (.iload 6) 89 6, oN, (.ireturn, 90, 0, 0, 0, 0, 0, 0, 0, 0, []), oA (.iload 5) 92 5, oN, oA (.iload_n 3) 93 3, oA (.iload 4) 95 4, oN, o0 .irem 96],
  [o0 .isub 97, oA (.iload 4) 99 4, oN, o0 .iadd 100, oA (.iload 4) 102 4, oN, o0 .irem 103, oA (.istore 6) 105 6, oN, oA (.iload 6) 107 6, oN, oA (.iload_n 3) 108 3, oA (.if_icmp .eq 8) 111 116, oN, oN, oA (.iload 6) 113 6, oN, oA (.goto 15) 116 128, oN, oN, oA (.iload_n 1) 117 1, oK (.iconst 2) 118 (2), o0 .irem 119, oA (.ifCond .ne 8) 122 127, oN, oN, oA (.iload 4) 124 4, oN, oA (.goto 4) 127 128, oN, oN, oK (.iconst (-1)) 128 (-1)],
  [(.ireturn, 129, 0, 0, 0, 0, 0, 0, 0, 0, [])]]
def cd_Mo_drawn : List (List xop) := [[oA (.aload_n 0) 1 0, oK (.iconst 0) 2 (0), oF (.putfield 91) 5 11 0 0 1461, oN, oN, oA (.iload_n 3) 6 3, oK (.iconst 0) 7 (0), oK (.bipush 60) 9 (60), oN, (.invokestatic 103, 12, 211, 3, 0, 0, 0, 0, 0, 0, [(0, 1646)]), oN, oN, oA (.ifCond .eq 11) 15 23, oN, oN, oA (.aload_n 0) 16 0, oA (.iload_n 1) 17 1, (.invokevirtual 310, 20, 246, 1, 11, 0, 0, 0, 0, 0, [(0, 1803)]), oN, oN, oA (.ifCond .ne 6) 23 26, oN, oN, oK (.bipush (-2)) 25 (-2), oN, (.ireturn, 26, 0, 0, 0, 0, 0, 0, 0, 0, []), oA (.aload_n 0) 27 0, oA (.iload_n 2) 28 2, oF (.putfield 558) 31 11 52 0 1513, oN, oN, oA (.aload_n 0) 32 0],
  [(.invokevirtual 382, 35, 256, 0, 11, 3, 0, 0, 0, 0, [(0, 1843)]), oN, oN, oK (.iconst 0) 36 (0), oA (.istore 5) 38 5, oN, oA (.iload 5) 40 5, oN, oA (.iload_n 3) 41 3, oA (.if_icmp .ge 13) 44 54, oN, oN, oA (.aload_n 0) 45 0, (.invokevirtual 565, 48, 334, 0, 11, 3, 0, 0, 0, 0, [(0, 2146)]), oN, oN, oC (.iinc 5 1) 51 5 0 (1), oN, oN, oA (.goto (-13)) 54 38, oN, oN, oA (.aload_n 0) 55 0, oA (.iload 4) 57 4, oN, (.invokevirtual 397, 60, 270, 1, 11, 0, 0, 0, 0, 0, [(0, 1896)]), oN, oN, (.ireturn, 61, 0, 0, 0, 0, 0, 0, 0, 0, [])]]
def cd_Mo_drawDeed : List (List xop) := [[oA (.aload_n 0) 1 0, oK (.bipush 8) 3 (8), oN, (.invokevirtual 562, 6, 335, 1, 11, 0, 0, 0, 0, 0, [(0, 2150)]), oN, oN, oA (.istore_n 1) 7 1, oA (.iload_n 1) 8 1, oK (.iconst 3) 9 (3), oA (.if_icmp .ge 27) 12 36, oN, oN, oA (.aload_n 0) 13 0, oF (.getfield 301) 16 11 24 0 1485, oN, oN, oA (.ifCond .le 60) 19 76, oN, oN, oA (.aload_n 0) 20 0, oK (.iconst 0) 21 (0), oA (.aload_n 0) 22 0, oA (.aload_n 0) 23 0, oF (.getfield 301) 26 11 24 0 1485, oN, oN, (.invokevirtual 562, 29, 335, 1, 11, 0, 0, 0, 0, 0, [(0, 2150)]), oN, oN, (.invokevirtual 385, 32, 258, 2, 11, 0, 0, 0, 0, 0, [(0, 1851)]), oN, oN],
  [o0 .pop 33, oA (.goto 43) 36 76, oN, oN, oA (.iload_n 1) 37 1, oK (.bipush 6) 39 (6), oN, oA (.if_icmp .ge 20) 42 59, oN, oN, oA (.aload_n 0) 43 0, oK (.iconst 1) 44 (1), oK (.iconst 1) 45 (1), oA (.aload_n 0) 46 0, oK (.bipush 8) 48 (8), oN, (.invokevirtual 562, 51, 335, 1, 11, 0, 0, 0, 0, 0, [(0, 2150)]), oN, oN, o0 .iadd 52, (.invokevirtual 385, 55, 258, 2, 11, 0, 0, 0, 0, 0, [(0, 1851)]), oN, oN, o0 .pop 56, oA (.goto 20) 59 76, oN, oN, oA (.aload_n 0) 60 0, oA (.iload_n 1) 61 1, oK (.bipush 6) 63 (6), oN, oA (.if_icmp .ne 7) 66 70],
  [oN, oN, oK (.iconst 3) 67 (3), oA (.goto 4) 70 71, oN, oN, oK (.iconst 4) 71 (4), oK (.iconst (-1)) 72 (-1), (.invokevirtual 385, 75, 258, 2, 11, 0, 0, 0, 0, 0, [(0, 1851)]), oN, oN, o0 .pop 76, o0 .return_ 77]]
def cd_Mo_draw : List (List xop) := [[oA (.aload_n 0) 1 0, oA (.aload_n 0) 2 0, oF (.getfield 558) 5 11 52 0 1513, oN, oN, oC (.ldc_w 561) 8 2154 0 (1103515245), oN, oN, o0 .imul 9, oK (.sipush 12345) 12 (12345), oN, oN, o0 .iadd 13, oF (.putfield 558) 16 11 52 0 1513, oN, oN, oA (.aload_n 0) 17 0, oF (.getfield 558) 20 11 52 0 1513, oN, oN, oK (.bipush 16) 22 (16), oN, o0 .iushr 23, oA (.iload_n 1) 24 1, o0 .irem 25, (.ireturn, 26, 0, 0, 0, 0, 0, 0, 0, 0, [])]]
def cd_Mo_tells : List (List xop) := [[oA (.aload_n 0) 1 0, oK (.iconst 0) 2 (0), oF (.putfield 91) 5 11 0 0 1461, oN, oN, oA (.iload_n 2) 6 2, oK (.iconst 0) 7 (0), oK (.bipush 99) 9 (99), oN, (.invokestatic 103, 12, 211, 3, 0, 0, 0, 0, 0, 0, [(0, 1646)]), oN, oN, oA (.ifCond .eq 27) 15 39, oN, oN, oA (.aload_n 0) 16 0, oA (.iload_n 1) 17 1, (.invokevirtual 310, 20, 246, 1, 11, 0, 0, 0, 0, 0, [(0, 1803)]), oN, oN, oA (.ifCond .eq 19) 23 39, oN, oN, oA (.aload_n 0) 24 0, oF (.getfield 301) 27 11 24 0 1485, oN, oN, oA (.ifCond .eq 12) 30 39, oN, oN, oA (.aload_n 0) 31 0, oK (.iconst 0) 32 (0)],
  [oA (.iload_n 3) 33 3, (.invokevirtual 411, 36, 273, 2, 11, 0, 0, 0, 0, 0, [(0, 1908)]), oN, oN, oA (.ifCond .ne 7) 39 43, oN, oN, oL (.ldc2_w 421) 42 1932 (-1), oN, oN, o0 .lreturn 43, oA (.aload_n 0) 44 0, (.invokevirtual 414, 47, 274, 0, 11, 3, 0, 0, 0, 0, [(0, 1912)]), oN, oN, oA (.aload_n 0) 48 0, oK (.iconst 0) 49 (0), oA (.iload_n 2) 50 2, oA (.iload_n 3) 51 3, oA (.aload_n 0) 52 0, oK (.iconst 0) 53 (0), oA (.iload_n 2) 54 2, oA (.iload_n 3) 55 3, (.invokevirtual 407, 58, 275, 3, 11, 0, 0, 0, 0, 0, [(0, 1916)]), oN, oN, (.invokevirtual 403, 61, 276, 4, 11, 1, 0, 0, 0, 0, [(0, 1920)]), oN, oN, oA (.aload_n 0) 62 0, oF (.getfield 60) 65 11 40 2 1501, oN],
  [oN, oK (.iconst 1) 66 (1), o0 .laload 67, oA (.iload 4) 69 4, oN, (.invokestatic 423, 72, 279, 3, 0, 1, 0, 0, 0, 0, [(0, 1933)]), oN, oN, o0 .lreturn 73]]
def cd_Mo_depot : List (List xop) := [[oA (.aload_n 0) 1 0, oK (.iconst 0) 2 (0), oF (.putfield 91) 5 11 0 0 1461, oN, oN, oA (.aload_n 0) 6 0, oA (.iload_n 1) 7 1, (.invokevirtual 310, 10, 246, 1, 11, 0, 0, 0, 0, 0, [(0, 1803)]), oN, oN, oA (.ifCond .ne 5) 13 15, oN, oN, oK (.iconst (-1)) 14 (-1), (.ireturn, 15, 0, 0, 0, 0, 0, 0, 0, 0, []), oK (.iconst 0) 16 (0), oA (.istore_n 3) 17 3, oK (.iconst 1) 18 (1), oA (.istore 4) 20 4, oN, oA (.iload 4) 22 4, oN, oK (.bipush 100) 24 (100), oN, oA (.if_icmp .ge 45) 27 69, oN, oN, oA (.aload_n 0) 28 0, oA (.iload 4) 30 4, oN, oK (.bipush 10) 32 (10), oN],
  [o0 .irem 33, oA (.iload 4) 35 4, oN, oK (.bipush 10) 37 (10), oN, o0 .idiv 38, (.invokevirtual 568, 41, 338, 2, 11, 0, 0, 0, 0, 0, [(0, 2163)]), oN, oN, oA (.aload_n 0) 42 0, oA (.iload_n 3) 43 3, oK (.bipush 10) 45 (10), oN, o0 .irem 46, oA (.iload_n 3) 47 3, oK (.bipush 10) 49 (10), oN, o0 .idiv 50, (.invokevirtual 568, 53, 338, 2, 11, 0, 0, 0, 0, 0, [(0, 2163)]), oN, oN, oA (.if_icmp .ge 8) 56 61, oN, oN, oA (.iload 4) 58 4, oN, oA (.goto 4) 61 62, oN, oN, oA (.iload_n 3) 62 3, oA (.istore_n 3) 63 3, oC (.iinc 4 1) 66 4 0 (1)],
  [oN, oN, oA (.goto (-46)) 69 20, oN, oN, oA (.iload_n 2) 70 2, oA (.ifCond .eq 18) 73 88, oN, oN, oA (.aload_n 0) 74 0, oA (.iload_n 3) 75 3, oK (.bipush 10) 77 (10), oN, o0 .irem 78, oA (.iload_n 3) 79 3, oK (.bipush 10) 81 (10), oN, o0 .idiv 82, (.invokevirtual 568, 85, 338, 2, 11, 0, 0, 0, 0, 0, [(0, 2163)]), oN, oN, oA (.goto 4) 88 89, oN, oN, oA (.iload_n 3) 89 3, (.ireturn, 90, 0, 0, 0, 0, 0, 0, 0, 0, [])]]
def cd_Mo_drivenFrom : List (List xop) := [[oK (.iconst 0) 1 (0), oA (.istore_n 3) 2 3, oK (.iconst 0) 3 (0), oA (.istore 4) 5 4, oN, oA (.iload 4) 7 4, oN, oA (.aload_n 0) 8 0, oF (.getfield 301) 11 11 24 0 1485, oN, oN, oA (.if_icmp .ge 51) 14 62, oN, oN, oA (.iload_n 3) 15 3, oA (.aload_n 0) 16 0, oF (.getfield 304) 19 11 25 0 1486, oN, oN, oA (.iload_n 1) 20 1, oA (.aload_n 0) 21 0, oK (.bipush 16) 23 (16), oN, oA (.iload 4) 25 4, oN, o0 .iadd 26, (.invokevirtual 297, 29, 247, 1, 11, 0, 0, 0, 0, 0, [(0, 1807)]), oN, oN, (.invokestatic 331, 32, 262, 2, 0, 0, 0, 0, 0, 0, [(0, 1867)]), oN, oN],
  [oA (.iload_n 2) 33 2, oA (.aload_n 0) 34 0, oK (.bipush 25) 36 (25), oN, oA (.iload 4) 38 4, oN, o0 .iadd 39, (.invokevirtual 297, 42, 247, 1, 11, 0, 0, 0, 0, 0, [(0, 1807)]), oN, oN, (.invokestatic 331, 45, 262, 2, 0, 0, 0, 0, 0, 0, [(0, 1867)]), oN, oN, o0 .iadd 46, o0 .imul 47, oA (.aload_n 0) 48 0, oA (.iload 4) 50 4, oN, (.invokevirtual 337, 53, 257, 1, 11, 0, 0, 0, 0, 0, [(0, 1847)]), oN, oN, o0 .imul 54, o0 .iadd 55, oA (.istore_n 3) 56 3, oC (.iinc 4 1) 59 4 0 (1), oN, oN, oA (.goto (-54)) 62 5, oN, oN, oA (.iload_n 3) 63 3, (.ireturn, 64, 0, 0, 0, 0, 0, 0, 0, 0, [])]]
def cd_Mo_vans : List (List xop) := [[oA (.aload_n 0) 1 0, oK (.iconst 0) 2 (0), oF (.putfield 91) 5 11 0 0 1461, oN, oN, oA (.aload_n 0) 6 0, oA (.iload_n 1) 7 1, (.invokevirtual 310, 10, 246, 1, 11, 0, 0, 0, 0, 0, [(0, 1803)]), oN, oN, oA (.ifCond .ne 5) 13 15, oN, oN, oK (.iconst (-1)) 14 (-1), (.ireturn, 15, 0, 0, 0, 0, 0, 0, 0, 0, []), oA (.aload_n 0) 16 0, (.invokevirtual 465, 19, 292, 0, 11, 3, 0, 0, 0, 0, [(0, 1983)]), oN, oN, oK (.iconst 1) 20 (1), oA (.aload_n 0) 21 0, oF (.getfield 301) 24 11 24 0 1485, oN, oN, o0 .ishl 25, oK (.iconst 1) 26 (1), o0 .isub 27, oA (.istore_n 3) 28 3, oK (.iconst 0) 29 (0), oA (.istore 4) 31 4, oN, oC (.ldc_w 430) 34 1962 0 (1000000)],
  [oN, oN, oA (.istore 5) 36 5, oN, oK (.iconst 0) 37 (0), oA (.istore 6) 39 6, oN, oA (.iload 6) 41 6, oN, oA (.iload_n 3) 42 3, oA (.if_icmp .gt 65) 45 107, oN, oN, oA (.aload_n 0) 46 0, oF (.getfield 69) 49 11 47 2 1508, oN, oN, oA (.iload 6) 51 6, oN, oK (.iconst (-1)) 52 (-1), (.invokestatic 462, 55, 293, 2, 0, 0, 0, 0, 0, 0, [(0, 1987)]), oN, oN, o0 .iaload 56, oA (.aload_n 0) 57 0, oF (.getfield 69) 60 11 47 2 1508, oN, oN, oA (.iload_n 3) 61 3, oA (.iload 6) 63 6, oN, oK (.iconst (-1)) 64 (-1)],
  [o0 .ixor 65, o0 .iand 66, oK (.iconst (-1)) 67 (-1), (.invokestatic 462, 70, 293, 2, 0, 0, 0, 0, 0, 0, [(0, 1987)]), oN, oN, o0 .iaload 71, (.invokestatic 176, 74, 229, 2, 0, 0, 0, 0, 0, 0, [(0, 1726)]), oN, oN, oA (.istore 7) 76 7, oN, oA (.iload 7) 78 7, oN, oA (.iload 5) 80 5, oN, oA (.if_icmp .ge 8) 83 88, oN, oN, oA (.iload 6) 85 6, oN, oA (.goto 5) 88 90, oN, oN, oA (.iload 4) 90 4, oN, oA (.istore 4) 92 4, oN, oA (.iload 5) 94 5, oN, oA (.iload 7) 96 7, oN],
  [(.invokestatic 370, 99, 267, 2, 0, 0, 0, 0, 0, 0, [(0, 1885)]), oN, oN, oA (.istore 5) 101 5, oN, oC (.iinc 6 1) 104 6 0 (1), oN, oN, oA (.goto (-65)) 107 39, oN, oN, oA (.iload_n 2) 108 2, oA (.ifCond .eq 8) 111 116, oN, oN, oA (.iload 4) 113 4, oN, oA (.goto 5) 116 118, oN, oN, oA (.iload 5) 118 5, oN, (.ireturn, 119, 0, 0, 0, 0, 0, 0, 0, 0, [])]]
def cd_Mo_trail : List (List xop) := [[oA (.aload_n 0) 1 0, oK (.iconst 0) 2 (0), oF (.putfield 91) 5 11 0 0 1461, oN, oN, oA (.aload_n 0) 6 0, oA (.iload_n 1) 7 1, (.invokevirtual 310, 10, 246, 1, 11, 0, 0, 0, 0, 0, [(0, 1803)]), oN, oN, oA (.ifCond .eq 11) 13 21, oN, oN, oA (.aload_n 0) 14 0, oA (.iload_n 2) 15 2, (.invokevirtual 313, 18, 248, 1, 11, 0, 0, 0, 0, 0, [(0, 1811)]), oN, oN, oA (.ifCond .ne 5) 21 23, oN, oN, oK (.iconst (-1)) 22 (-1), (.ireturn, 23, 0, 0, 0, 0, 0, 0, 0, 0, []), oK (.iconst 1) 24 (1), oA (.iload_n 2) 25 2, o0 .ishl 26, oA (.istore 4) 28 4, oN, oA (.aload_n 0) 29 0, oK (.bipush 61) 31 (61), oN, oA (.iload_n 2) 32 2],
  [o0 .iadd 33, (.invokevirtual 297, 36, 247, 1, 11, 0, 0, 0, 0, 0, [(0, 1807)]), oN, oN, oA (.istore 5) 38 5, oN, oA (.iload 5) 40 5, oN, oK (.iconst (-1)) 41 (-1), oA (.if_icmp .eq 36) 44 77, oN, oN, oA (.iload 4) 46 4, oN, oA (.iload 5) 48 5, oN, (.invokestatic 95, 51, 286, 2, 0, 0, 0, 0, 0, 0, [(0, 1959)]), oN, oN, oA (.ifCond .ne 26) 54 77, oN, oN, oA (.iload 4) 56 4, oN, oK (.iconst 1) 57 (1), oA (.iload 5) 59 5, oN, o0 .ishl 60, o0 .ior 61, oA (.istore 4) 63 4, oN, oA (.aload_n 0) 64 0],
  [oK (.bipush 61) 66 (61), oN, oA (.iload 5) 68 5, oN, o0 .iadd 69, (.invokevirtual 297, 72, 247, 1, 11, 0, 0, 0, 0, 0, [(0, 1807)]), oN, oN, oA (.istore 5) 74 5, oN, oA (.goto (-36)) 77 38, oN, oN, oA (.iload_n 3) 78 3, oA (.ifCond .eq 17) 81 95, oN, oN, oA (.iload 5) 83 5, oN, oK (.iconst (-1)) 84 (-1), oA (.if_icmp .ne 7) 87 91, oN, oN, oK (.iconst 0) 88 (0), oA (.goto 14) 91 102, oN, oN, oK (.iconst 1) 92 (1), oA (.goto 10) 95 102, oN, oN, oA (.iload 4) 97 4],
  [oN, (.invokestatic 555, 100, 331, 1, 0, 0, 0, 0, 0, 0, [(0, 2135)]), oN, oN, oK (.iconst 1) 101 (1), o0 .isub 102, (.ireturn, 103, 0, 0, 0, 0, 0, 0, 0, 0, [])]]
def cd_Mo_chat : List (List xop) := [[oA (.aload_n 0) 1 0, oK (.iconst 0) 2 (0), oF (.putfield 91) 5 11 0 0 1461, oN, oN, oA (.aload_n 0) 6 0, oA (.iload_n 1) 7 1, (.invokevirtual 310, 10, 246, 1, 11, 0, 0, 0, 0, 0, [(0, 1803)]), oN, oN, oA (.ifCond .ne 5) 13 15, oN, oN, oK (.iconst (-1)) 14 (-1), (.ireturn, 15, 0, 0, 0, 0, 0, 0, 0, 0, []), oA (.aload_n 0) 16 0, oK (.iconst (-1)) 17 (-1), (.invokevirtual 459, 20, 283, 1, 11, 3, 0, 0, 0, 0, [(0, 1947)]), oN, oN, oK (.iconst 0) 21 (0), oA (.istore_n 3) 22 3, oK (.iconst 0) 23 (0), oA (.istore 4) 25 4, oN, oA (.iload 4) 27 4, oN, oA (.aload_n 0) 28 0, oF (.getfield 452) 31 11 43 0 1504, oN, oN, oA (.if_icmp .ge 21) 34 52],
  [oN, oN, oA (.iload_n 3) 35 3, oK (.iconst 1) 36 (1), oA (.aload_n 0) 37 0, oF (.getfield 66) 40 11 42 2 1503, oN, oN, oA (.iload 4) 42 4, oN, o0 .iaload 43, o0 .ishl 44, o0 .ior 45, oA (.istore_n 3) 46 3, oC (.iinc 4 1) 49 4 0 (1), oN, oN, oA (.goto (-24)) 52 25, oN, oN, oK (.iconst 0) 53 (0), oA (.istore 4) 55 4, oN, oK (.iconst 1) 56 (1), oA (.istore 5) 58 5, oN, oA (.iload 5) 60 5, oN, oA (.iload_n 3) 61 3, oA (.if_icmp .gt 64) 64 125, oN, oN],
  [oA (.iload 5) 66 5, oN, oA (.iload_n 3) 67 3, oK (.iconst (-1)) 68 (-1), o0 .ixor 69, o0 .iand 70, oA (.ifCond .ne 22) 73 92, oN, oN, oA (.aload_n 0) 74 0, oA (.iload 5) 76 5, oN, (.invokevirtual 431, 79, 285, 1, 11, 0, 0, 0, 0, 0, [(0, 1955)]), oN, oN, oA (.aload_n 0) 80 0, oA (.iload 4) 82 4, oN, (.invokevirtual 431, 85, 285, 1, 11, 0, 0, 0, 0, 0, [(0, 1955)]), oN, oN, oA (.if_icmp .le 7) 88 92, oN, oN, oK (.iconst 1) 89 (1), oA (.goto 4) 92 93, oN, oN, oK (.iconst 0) 93 (0), oA (.istore 6) 95 6, oN, oA (.iload 6) 97 6],
  [oN, oA (.ifCond .eq 18) 100 115, oN, oN, oA (.aload_n 0) 101 0, oA (.iload 5) 103 5, oN, oK (.iconst 1) 104 (1), (.invokevirtual 468, 107, 295, 2, 11, 0, 0, 0, 0, 0, [(0, 1994)]), oN, oN, oA (.ifCond .eq 8) 110 115, oN, oN, oA (.iload 5) 112 5, oN, oA (.goto 5) 115 117, oN, oN, oA (.iload 4) 117 4, oN, oA (.istore 4) 119 4, oN, oC (.iinc 5 1) 122 5 0 (1), oN, oN, oA (.goto (-64)) 125 58, oN, oN, oA (.iload_n 2) 126 2, oA (.ifCond .eq 8) 129 134, oN],
  [oN, oA (.iload 4) 131 4, oN, oA (.goto 9) 134 140, oN, oN, oA (.aload_n 0) 135 0, oA (.iload 4) 137 4, oN, (.invokevirtual 431, 140, 285, 1, 11, 0, 0, 0, 0, 0, [(0, 1955)]), oN, oN, (.ireturn, 141, 0, 0, 0, 0, 0, 0, 0, 0, [])]]
def cd_Mo_lack : List (List xop) := [[oA (.aload_n 0) 1 0, oK (.iconst 0) 2 (0), oF (.putfield 91) 5 11 0 0 1461, oN, oN, oA (.iload_n 2) 6 2, oK (.iconst 0) 7 (0), oK (.bipush 99) 9 (99), oN, (.invokestatic 103, 12, 211, 3, 0, 0, 0, 0, 0, 0, [(0, 1646)]), oN, oN, oA (.ifCond .eq 11) 15 23, oN, oN, oA (.aload_n 0) 16 0, oA (.iload_n 1) 17 1, (.invokevirtual 310, 20, 246, 1, 11, 0, 0, 0, 0, 0, [(0, 1803)]), oN, oN, oA (.ifCond .ne 7) 23 27, oN, oN, oL (.ldc2_w 421) 26 1932 (-1), oN, oN, o0 .lreturn 27, oK (.iconst 0) 28 (0), oA (.istore 4) 30 4, oN, oA (.iload 4) 32 4, oN],
  [oK (.sipush 362) 35 (362), oN, oN, oA (.if_icmp .ge 26) 38 61, oN, oN, oA (.aload_n 0) 39 0, oF (.getfield 78) 42 11 53 2 1514, oN, oN, oA (.iload 4) 44 4, oN, oA (.iload 4) 46 4, oN, oA (.ifCond .ne 7) 49 53, oN, oN, oL (.lconst 1) 50 0 1, oA (.goto 4) 53 54, oN, oN, oL (.lconst 0) 54 0 0, o0 .lastore 55, oC (.iinc 4 1) 58 4 0 (1), oN, oN, oA (.goto (-28)) 61 30, oN, oN, oL (.lconst 1) 62 0 1, oA (.lstore 4) 64 4, oN],
  [oK (.iconst 0) 65 (0), oA (.istore 6) 67 6, oN, oA (.iload 6) 69 6, oN, oA (.aload_n 0) 70 0, oF (.getfield 301) 73 11 24 0 1485, oN, oN, oA (.if_icmp .ge 149) 76 222, oN, oN, oK (.iconst 0) 77 (0), oA (.istore 7) 79 7, oN, oA (.iload 7) 81 7, oN, oK (.sipush 362) 84 (362), oN, oN, oA (.if_icmp .ge 74) 87 158, oN, oN, oL (.lconst 0) 88 0 0, oA (.lstore 8) 90 8, oN, oA (.aload_n 0) 91 0, oK (.bipush 34) 93 (34), oN, oA (.iload 6) 95 6, oN, o0 .iadd 96],
  [(.invokevirtual 297, 99, 247, 1, 11, 0, 0, 0, 0, 0, [(0, 1807)]), oN, oN, oA (.istore 10) 101 10, oN, oA (.iload 10) 103 10, oN, oA (.aload_n 0) 104 0, oK (.bipush 43) 106 (43), oN, oA (.iload 6) 108 6, oN, o0 .iadd 109, (.invokevirtual 297, 112, 247, 1, 11, 0, 0, 0, 0, 0, [(0, 1807)]), oN, oN, oA (.if_icmp .gt 31) 115 143, oN, oN, oA (.iload 10) 117 10, oN, oA (.iload 7) 119 7, oN, oA (.if_icmp .gt 24) 122 143, oN, oN, oA (.lload 8) 124 8, oN, oA (.aload_n 0) 125 0, oF (.getfield 78) 128 11 53 2 1514, oN, oN],
  [oA (.iload 7) 130 7, oN, oA (.iload 10) 132 10, oN, o0 .isub 133, o0 .laload 134, o0 .ladd 135, oA (.lstore 8) 137 8, oN, oC (.iinc 10 1) 140 10 0 (1), oN, oN, oA (.goto (-39)) 143 101, oN, oN, oA (.aload_n 0) 144 0, oF (.getfield 81) 147 11 54 2 1515, oN, oN, oA (.iload 7) 149 7, oN, oA (.lload 8) 151 8, oN, o0 .lastore 152, oC (.iinc 7 1) 155 7 0 (1), oN, oN, oA (.goto (-76)) 158 79, oN, oN, oK (.iconst 0) 159 (0), oA (.istore 7) 161 7],
  [oN, oA (.iload 7) 163 7, oN, oK (.sipush 362) 166 (362), oN, oN, oA (.if_icmp .ge 23) 169 189, oN, oN, oA (.aload_n 0) 170 0, oF (.getfield 78) 173 11 53 2 1514, oN, oN, oA (.iload 7) 175 7, oN, oA (.aload_n 0) 176 0, oF (.getfield 81) 179 11 54 2 1515, oN, oN, oA (.iload 7) 181 7, oN, o0 .laload 182, o0 .lastore 183, oC (.iinc 7 1) 186 7 0 (1), oN, oN, oA (.goto (-25)) 189 161, oN, oN, oA (.lload 4) 191 4, oN, oA (.aload_n 0) 192 0],
  [oK (.bipush 43) 194 (43), oN, oA (.iload 6) 196 6, oN, o0 .iadd 197, (.invokevirtual 297, 200, 247, 1, 11, 0, 0, 0, 0, 0, [(0, 1807)]), oN, oN, oA (.aload_n 0) 201 0, oK (.bipush 34) 203 (34), oN, oA (.iload 6) 205 6, oN, o0 .iadd 206, (.invokevirtual 297, 209, 247, 1, 11, 0, 0, 0, 0, 0, [(0, 1807)]), oN, oN, o0 .isub 210, oK (.iconst 1) 211 (1), o0 .iadd 212, o0 .i2l 213, o0 .lmul 214, oA (.lstore 4) 216 4, oN, oC (.iinc 6 1) 219 6 0 (1), oN, oN, oA (.goto (-152)) 222 67, oN, oN, oL (.lconst 0) 223 0 0, oA (.lstore 6) 225 6],
  [oN, oA (.iload_n 2) 226 2, oK (.iconst 1) 227 (1), o0 .iadd 228, oA (.istore 8) 230 8, oN, oA (.iload 8) 232 8, oN, oK (.sipush 362) 235 (362), oN, oN, oA (.if_icmp .ge 21) 238 256, oN, oN, oA (.lload 6) 240 6, oN, oA (.aload_n 0) 241 0, oF (.getfield 78) 244 11 53 2 1514, oN, oN, oA (.iload 8) 246 8, oN, o0 .laload 247, o0 .ladd 248, oA (.lstore 6) 250 6, oN, oC (.iinc 8 1) 253 8 0 (1), oN, oN, oA (.goto (-23)) 256 230, oN, oN],
  [oA (.lload 6) 258 6, oN, oA (.lload 4) 260 4, oN, oA (.iload_n 3) 261 3, (.invokestatic 423, 264, 279, 3, 0, 1, 0, 0, 0, 0, [(0, 1933)]), oN, oN, o0 .lreturn 265]]
def cd_Mo_lot : List (List xop) := [[oA (.aload_n 0) 1 0, oK (.iconst 0) 2 (0), oF (.putfield 91) 5 11 0 0 1461, oN, oN, oA (.aload_n 0) 6 0, oA (.iload_n 2) 7 2, (.invokevirtual 474, 10, 298, 1, 11, 0, 0, 0, 0, 0, [(0, 2006)]), oN, oN, oA (.ifCond .eq 11) 13 21, oN, oN, oA (.aload_n 0) 14 0, oA (.iload_n 1) 15 1, (.invokevirtual 474, 18, 298, 1, 11, 0, 0, 0, 0, 0, [(0, 2006)]), oN, oN, oA (.ifCond .ne 7) 21 25, oN, oN, oL (.ldc2_w 421) 24 1932 (-1), oN, oN, o0 .lreturn 25, oK (.iconst 0) 26 (0), oA (.istore 4) 28 4, oN, oA (.iload 4) 30 4, oN, oK (.sipush 21791) 33 (21791), oN],
  [oN, oA (.if_icmp .ge 26) 36 59, oN, oN, oA (.aload_n 0) 37 0, oF (.getfield 84) 40 11 55 2 1516, oN, oN, oA (.iload 4) 42 4, oN, oA (.iload 4) 44 4, oN, oA (.ifCond .ne 7) 47 51, oN, oN, oL (.lconst 1) 48 0 1, oA (.goto 4) 51 52, oN, oN, oL (.lconst 0) 52 0 0, o0 .lastore 53, oC (.iinc 4 1) 56 4 0 (1), oN, oN, oA (.goto (-28)) 59 28, oN, oN, oA (.aload_n 0) 60 0, (.invokevirtual 477, 63, 299, 0, 11, 0, 0, 0, 0, 0, [(0, 2010)]), oN, oN, oA (.istore 4) 65 4],
  [oN, oA (.aload_n 0) 66 0, oK (.iconst 0) 67 (0), oA (.iload 4) 69 4, oN, (.invokevirtual 483, 72, 305, 2, 11, 0, 0, 0, 0, 0, [(0, 2034)]), oN, oN, oA (.istore 5) 74 5, oN, oK (.iconst 0) 75 (0), oA (.istore 6) 77 6, oN, oA (.iload 6) 79 6, oN, oK (.iconst 2) 80 (2), oA (.if_icmp .ge 55) 83 135, oN, oN, oA (.aload_n 0) 84 0, oA (.iload 6) 86 6, oN, oA (.ifCond .ne 7) 89 93, oN, oN, oA (.iload_n 1) 90 1, oA (.goto 4) 93 94, oN, oN, oA (.iload_n 2) 94 2, (.invokevirtual 474, 97, 298, 1, 11, 0, 0, 0, 0, 0, [(0, 2006)]), oN],
  [oN, o0 .pop 98, oK (.iconst 0) 99 (0), oA (.istore 7) 101 7, oN, oA (.iload 7) 103 7, oN, oA (.aload_n 0) 104 0, (.invokevirtual 477, 107, 299, 0, 11, 0, 0, 0, 0, 0, [(0, 2010)]), oN, oN, oA (.if_icmp .ge 22) 110 129, oN, oN, oA (.aload_n 0) 111 0, oA (.aload_n 0) 112 0, oA (.iload 7) 114 7, oN, oK (.iconst 0) 115 (0), (.invokevirtual 480, 118, 300, 2, 11, 0, 0, 0, 0, 0, [(0, 2014)]), oN, oN, oA (.iload 4) 120 4, oN, (.invokevirtual 571, 123, 344, 2, 11, 3, 0, 0, 0, 0, [(0, 2187)]), oN, oN, oC (.iinc 7 1) 126 7 0 (1), oN, oN, oA (.goto (-25)) 129 101, oN],
  [oN, oC (.iinc 6 1) 132 6 0 (1), oN, oN, oA (.goto (-55)) 135 77, oN, oN, oL (.lconst 0) 136 0 0, oA (.lstore 6) 138 6, oN, oL (.lconst 0) 139 0 0, oA (.lstore 8) 141 8, oN, oK (.iconst 0) 142 (0), oA (.istore 10) 144 10, oN, oA (.iload 10) 146 10, oN, oK (.sipush 1980) 149 (1980), oN, oN, oA (.if_icmp .gt 58) 152 207, oN, oN, oA (.lload 6) 154 6, oN, oA (.iload 10) 156 10, oN, oA (.iload 5) 158 5, oN, oA (.if_icmp .lt 20) 161 178, oN],
  [oN, oA (.aload_n 0) 162 0, oF (.getfield 84) 165 11 55 2 1516, oN, oN, oK (.sipush 1981) 168 (1981), oN, oN, oA (.iload 4) 170 4, oN, o0 .imul 171, oA (.iload 10) 173 10, oN, o0 .iadd 174, o0 .laload 175, oA (.goto 4) 178 179, oN, oN, oL (.lconst 0) 179 0 0, o0 .ladd 180, oA (.lstore 6) 182 6, oN, oA (.lload 8) 184 8, oN, oA (.aload_n 0) 185 0, oF (.getfield 84) 188 11 55 2 1516, oN, oN, oK (.sipush 1981) 191 (1981), oN, oN, oA (.iload 4) 193 4],
  [oN, o0 .imul 194, oA (.iload 10) 196 10, oN, o0 .iadd 197, o0 .laload 198, o0 .ladd 199, oA (.lstore 8) 201 8, oN, oC (.iinc 10 1) 204 10 0 (1), oN, oN, oA (.goto (-60)) 207 144, oN, oN, oA (.lload 6) 209 6, oN, oA (.lload 8) 211 8, oN, oA (.iload_n 3) 212 3, (.invokestatic 423, 215, 279, 3, 0, 1, 0, 0, 0, 0, [(0, 1933)]), oN, oN, o0 .lreturn 216]]
def cd_Mo_picks : List (List xop) := [[oA (.iload_n 2) 1 2, oA (.istore_n 3) 2 3, oA (.iload_n 3) 3 3, oA (.ifCond .le 59) 6 62, oN, oN, oK (.sipush 1980) 9 (1980), oN, oN, oA (.istore 4) 11 4, oN, oA (.iload 4) 13 4, oN, oA (.iload_n 1) 14 1, oA (.if_icmp .lt 42) 17 56, oN, oN, oA (.aload_n 0) 18 0, oF (.getfield 84) 21 11 55 2 1516, oN, oN, oK (.sipush 1981) 24 (1981), oN, oN, oA (.iload_n 3) 25 3, o0 .imul 26, oA (.iload 4) 28 4, oN, o0 .iadd 29, o0 .dup2 30, o0 .laload 31, oA (.aload_n 0) 32 0],
  [oF (.getfield 84) 35 11 55 2 1516, oN, oN, oK (.sipush 1981) 38 (1981), oN, oN, oA (.iload_n 3) 39 3, oK (.iconst 1) 40 (1), o0 .isub 41, o0 .imul 42, oA (.iload 4) 44 4, oN, o0 .iadd 45, oA (.iload_n 1) 46 1, o0 .isub 47, o0 .laload 48, o0 .ladd 49, o0 .lastore 50, oC (.iinc 4 (-1)) 53 4 0 (-1), oN, oN, oA (.goto (-42)) 56 11, oN, oN, oC (.iinc 3 (-1)) 59 3 0 (-1), oN, oN, oA (.goto (-57)) 62 2, oN, oN, o0 .return_ 63]]
def cd_Mo_like : List (List xop) := [[oA (.aload_n 0) 1 0, oK (.iconst 0) 2 (0), oF (.putfield 91) 5 11 0 0 1461, oN, oN, oA (.aload_n 0) 6 0, oK (.iconst 2) 7 (2), oA (.iload_n 1) 8 1, (.invokevirtual 285, 11, 213, 2, 11, 0, 0, 0, 0, 0, [(0, 1653)]), oN, oN, oA (.ifCond .eq 21) 14 32, oN, oN, oA (.aload_n 0) 15 0, oK (.iconst 2) 16 (2), oA (.iload_n 2) 17 2, (.invokevirtual 285, 20, 213, 2, 11, 0, 0, 0, 0, 0, [(0, 1653)]), oN, oN, oA (.ifCond .eq 12) 23 32, oN, oN, oA (.iload_n 3) 24 3, oK (.iconst 0) 25 (0), oK (.iconst 2) 26 (2), (.invokestatic 103, 29, 211, 3, 0, 0, 0, 0, 0, 0, [(0, 1646)]), oN, oN, oA (.ifCond .ne 5) 32 34, oN, oN],
  [oK (.iconst (-1)) 33 (-1), (.ireturn, 34, 0, 0, 0, 0, 0, 0, 0, 0, []), oK (.iconst 0) 35 (0), oA (.istore 4) 37 4, oN, oK (.iconst 0) 38 (0), oA (.istore 5) 40 5, oN, oA (.iload 5) 42 5, oN, oA (.aload_n 0) 43 0, oF (.getfield 32) 46 11 8 2 1469, oN, oN, oK (.bipush 51) 48 (51), oN, oA (.iload_n 1) 49 1, o0 .imul 50, o0 .iaload 51, oA (.if_icmp .ge 81) 54 132, oN, oN, oK (.iconst 0) 55 (0), oA (.istore 6) 57 6, oN, oA (.iload 6) 59 6, oN, oA (.aload_n 0) 60 0, oF (.getfield 32) 63 11 8 2 1469, oN, oN, oK (.bipush 51) 65 (51)],
  [oN, oA (.iload_n 2) 66 2, o0 .imul 67, o0 .iaload 68, oA (.if_icmp .ge 58) 71 126, oN, oN, oA (.iload 4) 73 4, oN, oA (.aload_n 0) 74 0, oF (.getfield 32) 77 11 8 2 1469, oN, oN, oK (.bipush 51) 79 (51), oN, oA (.iload_n 1) 80 1, o0 .imul 81, oK (.iconst 3) 82 (3), o0 .iadd 83, oK (.iconst 5) 84 (5), oA (.iload 5) 86 5, oN, o0 .imul 87, o0 .iadd 88, oA (.iload_n 3) 89 3, o0 .iadd 90, o0 .iaload 91, oA (.aload_n 0) 92 0, oF (.getfield 32) 95 11 8 2 1469, oN, oN, oK (.bipush 51) 97 (51)],
  [oN, oA (.iload_n 2) 98 2, o0 .imul 99, oK (.iconst 3) 100 (3), o0 .iadd 101, oK (.iconst 5) 102 (5), oA (.iload 6) 104 6, oN, o0 .imul 105, o0 .iadd 106, oA (.iload_n 3) 107 3, o0 .iadd 108, o0 .iaload 109, oA (.if_icmp .ne 7) 112 116, oN, oN, oK (.iconst 1) 113 (1), oA (.goto 4) 116 117, oN, oN, oK (.iconst 0) 117 (0), o0 .iadd 118, oA (.istore 4) 120 4, oN, oC (.iinc 6 1) 123 6 0 (1), oN, oN, oA (.goto (-66)) 126 57, oN, oN, oC (.iinc 5 1) 129 5 0 (1), oN],
  [oN, oA (.goto (-89)) 132 40, oN, oN, oA (.iload 4) 134 4, oN, (.ireturn, 135, 0, 0, 0, 0, 0, 0, 0, 0, [])]]
def cd_Mo_sick : List (List xop) := [[oA (.aload_n 0) 1 0, oK (.iconst 0) 2 (0), oF (.putfield 91) 5 11 0 0 1461, oN, oN, oA (.iload_n 1) 6 1, oA (.iload_n 2) 7 2, oA (.iload_n 3) 8 3, oA (.iload 4) 10 4, oN, (.invokestatic 576, 13, 347, 4, 0, 0, 0, 0, 0, 0, [(0, 2199)]), oN, oN, oA (.ifCond .eq 13) 16 26, oN, oN, oA (.iload 5) 18 5, oN, oK (.iconst 0) 19 (0), oA (.iload_n 2) 20 2, (.invokestatic 103, 23, 211, 3, 0, 0, 0, 0, 0, 0, [(0, 1646)]), oN, oN, oA (.ifCond .ne 7) 26 30, oN, oN, oL (.ldc2_w 421) 29 1932 (-1), oN, oN, o0 .lreturn 30, oA (.iload_n 1) 31 1, oA (.iload_n 3) 32 3],
  [oA (.iload_n 2) 33 2, oA (.iload 5) 35 5, oN, (.invokestatic 573, 38, 348, 4, 0, 1, 0, 0, 0, 0, [(0, 2202)]), oN, oN, oA (.iload_n 1) 39 1, oA (.iload_n 2) 40 2, oA (.iload_n 3) 41 3, oA (.iload 4) 43 4, oN, oA (.iload 5) 45 5, oN, (.invokestatic 579, 48, 349, 5, 0, 1, 0, 0, 0, 0, [(0, 2205)]), oN, oN, oA (.iload 6) 50 6, oN, (.invokestatic 423, 53, 279, 3, 0, 1, 0, 0, 0, 0, [(0, 1933)]), oN, oN, o0 .lreturn 54]]
def cd_Mo_areSigns : List (List xop) := [[oA (.iload_n 0) 1 0, oK (.iconst 0) 2 (0), oK (.bipush 100) 4 (100), oN, (.invokestatic 103, 7, 211, 3, 0, 0, 0, 0, 0, 0, [(0, 1646)]), oN, oN, oA (.ifCond .eq 37) 10 44, oN, oN, oA (.iload_n 1) 11 1, oK (.iconst 1) 12 (1), oK (.bipush 9) 14 (9), oN, (.invokestatic 103, 17, 211, 3, 0, 0, 0, 0, 0, 0, [(0, 1646)]), oN, oN, oA (.ifCond .eq 27) 20 44, oN, oN, oA (.iload_n 2) 21 2, oK (.iconst 0) 22 (0), oK (.bipush 10) 24 (10), oN, (.invokestatic 103, 27, 211, 3, 0, 0, 0, 0, 0, 0, [(0, 1646)]), oN, oN, oA (.ifCond .eq 17) 30 44, oN, oN, oA (.iload_n 3) 31 3, oK (.iconst 0) 32 (0)],
  [oK (.bipush 10) 34 (10), oN, (.invokestatic 103, 37, 211, 3, 0, 0, 0, 0, 0, 0, [(0, 1646)]), oN, oN, oA (.ifCond .eq 7) 40 44, oN, oN, oK (.iconst 1) 41 (1), oA (.goto 4) 44 45, oN, oN, oK (.iconst 0) 45 (0), (.ireturn, 46, 0, 0, 0, 1, 0, 0, 0, 0, [])]]
def cd_Mo_shows : List (List xop) := [[oA (.iload_n 0) 1 0, o0 .i2l 2, oA (.iload_n 1) 3 1, o0 .i2l 4, oA (.iload_n 3) 5 3, (.invokestatic 540, 8, 328, 2, 0, 1, 0, 0, 0, 0, [(0, 2124)]), oN, oN, o0 .lmul 9, oK (.bipush 10) 11 (10), oN, oA (.iload_n 1) 12 1, o0 .isub 13, o0 .i2l 14, oA (.iload_n 2) 15 2, oA (.iload_n 3) 16 3, o0 .isub 17, (.invokestatic 540, 20, 328, 2, 0, 1, 0, 0, 0, 0, [(0, 2124)]), oN, oN, o0 .lmul 21, o0 .lreturn 22]]
def cd_Mo_allShow : List (List xop) := [[oA (.iload_n 0) 1 0, oA (.iload_n 2) 2 2, oA (.iload_n 1) 3 1, oA (.iload 4) 5 4, oN, (.invokestatic 573, 8, 348, 4, 0, 1, 0, 0, 0, 0, [(0, 2202)]), oN, oN, oK (.bipush 100) 10 (100), oN, oA (.iload_n 0) 11 0, o0 .isub 12, oA (.iload_n 3) 13 3, oA (.iload_n 1) 14 1, oA (.iload 4) 16 4, oN, (.invokestatic 573, 19, 348, 4, 0, 1, 0, 0, 0, 0, [(0, 2202)]), oN, oN, o0 .ladd 20, oA (.lstore 5) 22 5, oN, oA (.lload 5) 24 5, oN, oL (.lconst 0) 25 0 0, o0 .lcmp 26, oA (.ifCond .ne 7) 29 33, oN, oN, oL (.lconst 1) 30 0 1, oA (.goto 5) 33 35, oN],
  [oN, oA (.lload 5) 35 5, oN, o0 .lreturn 36]]
def cd_Mo_call : List (List xop) := [[oA (.aload_n 0) 1 0, oK (.iconst 0) 2 (0), oF (.putfield 91) 5 11 0 0 1461, oN, oN, oA (.iload_n 1) 6 1, oA (.iload_n 2) 7 2, oA (.iload_n 3) 8 3, oA (.iload 4) 10 4, oN, (.invokestatic 576, 13, 347, 4, 0, 0, 0, 0, 0, 0, [(0, 2199)]), oN, oN, oA (.ifCond .eq 14) 16 27, oN, oN, oA (.iload 5) 18 5, oN, oK (.iconst 0) 19 (0), oK (.bipush 10) 21 (10), oN, (.invokestatic 103, 24, 211, 3, 0, 0, 0, 0, 0, 0, [(0, 1646)]), oN, oN, oA (.ifCond .ne 5) 27 29, oN, oN, oK (.iconst (-1)) 28 (-1), (.ireturn, 29, 0, 0, 0, 0, 0, 0, 0, 0, []), oK (.iconst 0) 30 (0), oA (.istore 6) 32 6, oN],
  [oA (.iload 6) 34 6, oN, oA (.iload_n 2) 35 2, oA (.if_icmp .gt 42) 38 77, oN, oN, oL (.ldc2_w 538) 41 2123 (10), oN, oN, oA (.iload_n 1) 42 1, oA (.iload_n 3) 43 3, oA (.iload_n 2) 44 2, oA (.iload 6) 46 6, oN, (.invokestatic 573, 49, 348, 4, 0, 1, 0, 0, 0, 0, [(0, 2202)]), oN, oN, o0 .lmul 50, oA (.iload 5) 52 5, oN, o0 .i2l 53, oA (.iload_n 1) 54 1, oA (.iload_n 2) 55 2, oA (.iload_n 3) 56 3, oA (.iload 4) 58 4, oN, oA (.iload 6) 60 6, oN, (.invokestatic 579, 63, 349, 5, 0, 1, 0, 0, 0, 0, [(0, 2205)]), oN, oN, o0 .lmul 64],
  [o0 .lcmp 65, oA (.ifCond .lt 6) 68 71, oN, oN, oA (.iload 6) 70 6, oN, (.ireturn, 71, 0, 0, 0, 0, 0, 0, 0, 0, []), oC (.iinc 6 1) 74 6 0 (1), oN, oN, oA (.goto (-42)) 77 32, oN, oN, oK (.iconst (-1)) 78 (-1), (.ireturn, 79, 0, 0, 0, 0, 0, 0, 0, 0, [])]]
def cd_Mo_count : List (List xop) := [[oA (.aload_n 0) 1 0, oK (.iconst 0) 2 (0), oF (.putfield 91) 5 11 0 0 1461, oN, oN, oA (.iload_n 1) 6 1, oK (.iconst 0) 7 (0), oK (.iconst 3) 8 (3), (.invokestatic 103, 11, 211, 3, 0, 0, 0, 0, 0, 0, [(0, 1646)]), oN, oN, oA (.ifCond .eq 12) 14 23, oN, oN, oA (.aload_n 0) 15 0, oF (.getfield 23) 18 11 5 2 1466, oN, oN, oA (.iload_n 1) 19 1, o0 .iaload 20, oA (.goto 5) 23 25, oN, oN, oK (.bipush (-2)) 25 (-2), oN, (.ireturn, 26, 0, 0, 0, 0, 0, 0, 0, 0, [])]]
def cd_Mo_image : List (List xop) := [[oA (.aload_n 0) 1 0, oK (.iconst 0) 2 (0), oF (.putfield 91) 5 11 0 0 1461, oN, oN, oA (.iload_n 1) 6 1, oK (.iconst 0) 7 (0), oK (.iconst 2) 8 (2), (.invokestatic 103, 11, 211, 3, 0, 0, 0, 0, 0, 0, [(0, 1646)]), oN, oN, oA (.ifCond .ne 5) 14 16, oN, oN, oK (.iconst 0) 15 (0), (.ireturn, 16, 0, 0, 0, 1, 0, 0, 0, 0, []), oA (.aload_n 0) 17 0, oK (.iconst 0) 18 (0), oA (.iload_n 1) 19 1, oK (.iconst 1) 20 (1), o0 .iadd 21, (.invokevirtual 583, 24, 353, 2, 11, 3, 0, 0, 0, 0, [(0, 2220)]), oN, oN, oA (.aload_n 0) 25 0, oF (.getfield 87) 28 11 56 2 1517, oN, oN, oA (.iload_n 1) 29 1, oK (.iconst 1) 30 (1), oF (.bastore) 31 23 1 0 0, oK (.iconst 1) 32 (1)],
  [(.ireturn, 33, 0, 0, 0, 1, 0, 0, 0, 0, [])]]
def cd_Mo_copyAll : List (List xop) := [[oK (.iconst 0) 1 (0), oA (.istore_n 3) 2 3, oA (.iload_n 3) 3 3, oK (.sipush 600) 6 (600), oN, oN, oA (.if_icmp .ge 33) 9 39, oN, oN, oA (.aload_n 0) 10 0, oF (.getfield 7) 13 11 1 2 1462, oN, oN, oK (.sipush 600) 16 (600), oN, oN, oA (.iload_n 2) 17 2, o0 .imul 18, oA (.iload_n 3) 19 3, o0 .iadd 20, oA (.aload_n 0) 21 0, oF (.getfield 7) 24 11 1 2 1462, oN, oN, oK (.sipush 600) 27 (600), oN, oN, oA (.iload_n 1) 28 1, o0 .imul 29, oA (.iload_n 3) 30 3, o0 .iadd 31, oA (.baload) 32 21],
  [oF (.bastore) 33 21 2 0 0, oC (.iinc 3 1) 36 3 0 (1), oN, oN, oA (.goto (-34)) 39 2, oN, oN, oA (.aload_n 0) 40 0, oF (.getfield 13) 43 11 2 2 1463, oN, oN, oK (.iconst 1) 44 (1), oA (.iload_n 1) 45 1, oA (.iload_n 2) 46 2, (.invokestatic 99, 49, 354, 4, 0, 3, 0, 0, 0, 0, [(0, 2224)]), oN, oN, oA (.aload_n 0) 50 0, oF (.getfield 17) 53 11 3 2 1464, oN, oN, oK (.iconst 1) 54 (1), oA (.iload_n 1) 55 1, oA (.iload_n 2) 56 2, (.invokestatic 99, 59, 354, 4, 0, 3, 0, 0, 0, 0, [(0, 2224)]), oN, oN, oA (.aload_n 0) 60 0, oF (.getfield 20) 63 11 4 2 1465, oN, oN, oK (.iconst 1) 64 (1)],
  [oA (.iload_n 1) 65 1, oA (.iload_n 2) 66 2, (.invokestatic 99, 69, 354, 4, 0, 3, 0, 0, 0, 0, [(0, 2224)]), oN, oN, oA (.aload_n 0) 70 0, oF (.getfield 23) 73 11 5 2 1466, oN, oN, oK (.iconst 4) 74 (4), oA (.iload_n 1) 75 1, oA (.iload_n 2) 76 2, (.invokestatic 99, 79, 354, 4, 0, 3, 0, 0, 0, 0, [(0, 2224)]), oN, oN, oA (.aload_n 0) 80 0, oF (.getfield 26) 83 11 6 2 1467, oN, oN, oK (.sipush 140) 86 (140), oN, oN, oA (.iload_n 1) 87 1, oA (.iload_n 2) 88 2, (.invokestatic 99, 91, 354, 4, 0, 3, 0, 0, 0, 0, [(0, 2224)]), oN, oN, oA (.aload_n 0) 92 0, oF (.getfield 29) 95 11 7 2 1468, oN, oN, oK (.sipush 162) 98 (162)],
  [oN, oN, oA (.iload_n 1) 99 1, oA (.iload_n 2) 100 2, (.invokestatic 99, 103, 354, 4, 0, 3, 0, 0, 0, 0, [(0, 2224)]), oN, oN, oA (.aload_n 0) 104 0, oF (.getfield 32) 107 11 8 2 1469, oN, oN, oK (.bipush 102) 109 (102), oN, oA (.iload_n 1) 110 1, oA (.iload_n 2) 111 2, (.invokestatic 99, 114, 354, 4, 0, 3, 0, 0, 0, 0, [(0, 2224)]), oN, oN, oA (.aload_n 0) 115 0, oF (.getfield 35) 118 11 9 2 1470, oN, oN, oK (.bipush 98) 120 (98), oN, oA (.iload_n 1) 121 1, oA (.iload_n 2) 122 2, (.invokestatic 99, 125, 354, 4, 0, 3, 0, 0, 0, 0, [(0, 2224)]), oN, oN, o0 .return_ 126]]
def cd_Mo_copyRow : List (List xop) := [[oK (.iconst 0) 1 (0), oA (.istore 4) 3 4, oN, oA (.iload 4) 5 4, oN, oA (.iload_n 1) 6 1, oA (.if_icmp .ge 25) 9 31, oN, oN, oA (.aload_n 0) 10 0, oA (.iload_n 1) 11 1, oA (.iload_n 3) 12 3, o0 .imul 13, oA (.iload 4) 15 4, oN, o0 .iadd 16, oA (.aload_n 0) 17 0, oA (.iload_n 1) 18 1, oA (.iload_n 2) 19 2, o0 .imul 20, oA (.iload 4) 22 4, oN, o0 .iadd 23, o0 .iaload 24, o0 .iastore 25, oC (.iinc 4 1) 28 4 0 (1), oN, oN, oA (.goto (-25)) 31 3, oN, oN, o0 .return_ 32]]
def cd_Mo_again : List (List xop) := [[oA (.aload_n 0) 1 0, oK (.iconst 0) 2 (0), oF (.putfield 91) 5 11 0 0 1461, oN, oN, oA (.iload_n 1) 6 1, oK (.iconst 0) 7 (0), oK (.iconst 2) 8 (2), (.invokestatic 103, 11, 211, 3, 0, 0, 0, 0, 0, 0, [(0, 1646)]), oN, oN, oA (.ifCond .eq 12) 14 23, oN, oN, oA (.aload_n 0) 15 0, oF (.getfield 87) 18 11 56 2 1517, oN, oN, oA (.iload_n 1) 19 1, oA (.baload) 20 23, oA (.ifCond .ne 5) 23 25, oN, oN, oK (.iconst 0) 24 (0), (.ireturn, 25, 0, 0, 0, 1, 0, 0, 0, 0, []), oA (.aload_n 0) 26 0, oA (.iload_n 1) 27 1, oK (.iconst 1) 28 (1), o0 .iadd 29, oK (.iconst 0) 30 (0), (.invokevirtual 583, 33, 353, 2, 11, 3, 0, 0, 0, 0, [(0, 2220)]), oN],
  [oN, oK (.iconst 1) 34 (1), (.ireturn, 35, 0, 0, 0, 1, 0, 0, 0, 0, [])]]
set_option maxRecDepth 100000 in
def cd_law : List (List xop) := [[oM (.new 7) 3 0 8 164 0 0 0, oN, oN, o0 .dup 4, (.invokespecial 9, 7, 151, 0, 0, 3, 101, 17831, 0, 0, [(0, 166)]), oN, oN, oA (.astore_n 1) 8 1, oM (.new 10) 11 11 57 1455 0 0 0, oN, oN, o0 .dup 12, (.invokespecial 12, 15, 207, 0, 11, 3, 26, 40702, 0, 0, [(0, 1457)]), oN, oN, oA (.astore_n 2) 16 2, oK (.iconst 0) 17 (0), oA (.istore_n 3) 18 3, oA (.iload_n 3) 19 3, oA (.aload_n 0) 20 0, o0 .arraylength 21, oK (.bipush 7) 23 (7), oN, o0 .isub 24, oA (.if_icmp .gt 1974) 27 1998, oN, oN, oA (.aload_n 0) 28 0, oA (.iload_n 3) 29 3, o0 .iaload 30, oK (.bipush 63) 32 (63), oN],
  [o0 .iand 33, oS (.tableswitch 1959 0 39 #[175, 238, 261, 294, 317, 350, 393, 426, 479, 532, 602, 625, 658, 691, 714, 747, 790, 823, 866, 925, 958, 991, 1024, 1094, 1137, 1200, 1243, 1296, 1366, 1415, 1464, 1523, 1572, 1632, 1692, 1735, 1827, 1890, 1913, 1936]) 208 1992 [((0), 208), ((1), 271), ((2), 294), ((3), 327), ((4), 350), ((5), 383), ((6), 426), ((7), 459), ((8), 512), ((9), 565), ((10), 635), ((11), 658), ((12), 691), ((13), 724), ((14), 747), ((15), 780), ((16), 823), ((17), 856), ((18), 899), ((19), 958), ((20), 991), ((21), 1024), ((22), 1057), ((23), 1127), ((24), 1170), ((25), 1233), ((26), 1276), ((27), 1329), ((28), 1399), ((29), 1448), ((30), 1497), ((31), 1556), ((32), 1605), ((33), 1665), ((34), 1725), ((35), 1768), ((36), 1860), ((37), 1923), ((38), 1946), ((39), 1969)], oN, oN, oN, oN, oN, oN, oN, oN, oN, oN, oN, oN, oN, oN, oN, oN, oN, oN, oN, oN, oN, oN, oN, oN, oN, oN, oN, oN, oN, oN],
  [oN, oN, oN, oN, oN, oN, oN, oN, oN, oN, oN, oN, oN, oN, oN, oN, oN, oN, oN, oN, oN, oN, oN, oN, oN, oN, oN, oN, oN, oN, oN, oN],
  [oN, oN, oN, oN, oN, oN, oN, oN, oN, oN, oN, oN, oN, oN, oN, oN, oN, oN, oN, oN, oN, oN, oN, oN, oN, oN, oN, oN, oN, oN, oN, oN],
  [oN, oN, oN, oN, oN, oN, oN, oN, oN, oN, oN, oN, oN, oN, oN, oN, oN, oN, oN, oN, oN, oN, oN, oN, oN, oN, oN, oN, oN, oN, oN, oN],
  [oN, oN, oN, oN, oN, oN, oN, oN, oN, oN, oN, oN, oN, oN, oN, oN, oN, oN, oN, oN, oN, oN, oN, oN, oN, oN, oN, oN, oN, oN, oN, oN],
  [oN, oN, oN, oN, oN, oN, oN, oN, oN, oN, oN, oN, oN, oN, oN, oN, oA (.aload_n 1) 209 1, oA (.aload_n 0) 210 0, oA (.iload_n 3) 211 3, oK (.iconst 1) 212 (1), o0 .iadd 213, o0 .iaload 214, oA (.aload_n 0) 215 0, oA (.iload_n 3) 216 3, oK (.iconst 2) 217 (2), o0 .iadd 218, o0 .iaload 219, oA (.aload_n 0) 220 0, oA (.iload_n 3) 221 3, oK (.iconst 3) 222 (3), o0 .iadd 223, o0 .iaload 224],
  [oA (.aload_n 0) 225 0, oA (.iload_n 3) 226 3, oK (.iconst 4) 227 (4), o0 .iadd 228, o0 .iaload 229, oA (.aload_n 0) 230 0, oA (.iload_n 3) 231 3, oK (.iconst 5) 232 (5), o0 .iadd 233, o0 .iaload 234, (.invokevirtual 13, 237, 152, 5, 0, 0, 0, 0, 0, 0, [(0, 626)]), oN, oN, oA (.aload_n 2) 238 2, oA (.aload_n 0) 239 0, oA (.iload_n 3) 240 3, oK (.iconst 1) 241 (1), o0 .iadd 242, o0 .iaload 243, oA (.aload_n 0) 244 0, oA (.iload_n 3) 245 3, oK (.iconst 2) 246 (2), o0 .iadd 247, o0 .iaload 248, oA (.aload_n 0) 249 0, oA (.iload_n 3) 250 3, oK (.iconst 3) 251 (3), o0 .iadd 252, o0 .iaload 253, oA (.aload_n 0) 254 0, oA (.iload_n 3) 255 3, oK (.iconst 4) 256 (4)],
  [o0 .iadd 257, o0 .iaload 258, oA (.aload_n 0) 259 0, oA (.iload_n 3) 260 3, oK (.iconst 5) 261 (5), o0 .iadd 262, o0 .iaload 263, (.invokevirtual 17, 266, 208, 5, 11, 0, 0, 0, 0, 0, [(0, 1634)]), oN, oN, oA (.if_icmp .eq 1726) 269 1992, oN, oN, oK (.iconst 0) 270 (0), (.ireturn, 271, 0, 0, 0, 1, 0, 0, 0, 0, []), oA (.aload_n 1) 272 1, oA (.aload_n 0) 273 0, oA (.iload_n 3) 274 3, oK (.iconst 1) 275 (1), o0 .iadd 276, o0 .iaload 277, (.invokevirtual 18, 280, 153, 1, 0, 0, 0, 0, 0, 0, [(0, 634)]), oN, oN, oA (.aload_n 2) 281 2, oA (.aload_n 0) 282 0, oA (.iload_n 3) 283 3, oK (.iconst 1) 284 (1), o0 .iadd 285, o0 .iaload 286, (.invokevirtual 22, 289, 210, 1, 11, 0, 0, 0, 0, 0, [(0, 1642)]), oN],
  [oN, oA (.if_icmp .eq 1703) 292 1992, oN, oN, oK (.iconst 0) 293 (0), (.ireturn, 294, 0, 0, 0, 1, 0, 0, 0, 0, []), oA (.aload_n 1) 295 1, oA (.aload_n 0) 296 0, oA (.iload_n 3) 297 3, oK (.iconst 1) 298 (1), o0 .iadd 299, o0 .iaload 300, oA (.aload_n 0) 301 0, oA (.iload_n 3) 302 3, oK (.iconst 2) 303 (2), o0 .iadd 304, o0 .iaload 305, (.invokevirtual 23, 308, 154, 2, 0, 0, 0, 0, 0, 0, [(0, 638)]), oN, oN, oA (.aload_n 2) 309 2, oA (.aload_n 0) 310 0, oA (.iload_n 3) 311 3, oK (.iconst 1) 312 (1), o0 .iadd 313, o0 .iaload 314, oA (.aload_n 0) 315 0, oA (.iload_n 3) 316 3, oK (.iconst 2) 317 (2), o0 .iadd 318, o0 .iaload 319, (.invokevirtual 27, 322, 212, 2, 11, 0, 0, 0, 0, 0, [(0, 1649)])],
  [oN, oN, oA (.if_icmp .eq 1670) 325 1992, oN, oN, oK (.iconst 0) 326 (0), (.ireturn, 327, 0, 0, 0, 1, 0, 0, 0, 0, []), oA (.aload_n 1) 328 1, oA (.aload_n 0) 329 0, oA (.iload_n 3) 330 3, oK (.iconst 1) 331 (1), o0 .iadd 332, o0 .iaload 333, (.invokevirtual 28, 336, 159, 1, 0, 0, 0, 0, 0, 0, [(0, 880)]), oN, oN, oA (.aload_n 2) 337 2, oA (.aload_n 0) 338 0, oA (.iload_n 3) 339 3, oK (.iconst 1) 340 (1), o0 .iadd 341, o0 .iaload 342, (.invokevirtual 31, 345, 244, 1, 11, 0, 0, 0, 0, 0, [(0, 1795)]), oN, oN, oA (.if_icmp .eq 1647) 348 1992, oN, oN, oK (.iconst 0) 349 (0), (.ireturn, 350, 0, 0, 0, 1, 0, 0, 0, 0, []), oA (.aload_n 1) 351 1, oA (.aload_n 0) 352 0],
  [oA (.iload_n 3) 353 3, oK (.iconst 1) 354 (1), o0 .iadd 355, o0 .iaload 356, oA (.aload_n 0) 357 0, oA (.iload_n 3) 358 3, oK (.iconst 2) 359 (2), o0 .iadd 360, o0 .iaload 361, (.invokevirtual 32, 364, 163, 2, 0, 0, 0, 0, 0, 0, [(0, 905)]), oN, oN, oA (.aload_n 2) 365 2, oA (.aload_n 0) 366 0, oA (.iload_n 3) 367 3, oK (.iconst 1) 368 (1), o0 .iadd 369, o0 .iaload 370, oA (.aload_n 0) 371 0, oA (.iload_n 3) 372 3, oK (.iconst 2) 373 (2), o0 .iadd 374, o0 .iaload 375, (.invokevirtual 35, 378, 245, 2, 11, 0, 0, 0, 0, 0, [(0, 1799)]), oN, oN, oA (.if_icmp .eq 1614) 381 1992, oN, oN, oK (.iconst 0) 382 (0), (.ireturn, 383, 0, 0, 0, 1, 0, 0, 0, 0, []), oA (.aload_n 1) 384 1],
  [oA (.aload_n 0) 385 0, oA (.iload_n 3) 386 3, oK (.iconst 1) 387 (1), o0 .iadd 388, o0 .iaload 389, oA (.aload_n 0) 390 0, oA (.iload_n 3) 391 3, oK (.iconst 2) 392 (2), o0 .iadd 393, o0 .iaload 394, oA (.aload_n 0) 395 0, oA (.iload_n 3) 396 3, oK (.iconst 3) 397 (3), o0 .iadd 398, o0 .iaload 399, (.invokevirtual 36, 402, 164, 3, 0, 0, 0, 0, 0, 0, [(0, 925)]), oN, oN, oA (.aload_n 2) 403 2, oA (.aload_n 0) 404 0, oA (.iload_n 3) 405 3, oK (.iconst 1) 406 (1), o0 .iadd 407, o0 .iaload 408, oA (.aload_n 0) 409 0, oA (.iload_n 3) 410 3, oK (.iconst 2) 411 (2), o0 .iadd 412, o0 .iaload 413, oA (.aload_n 0) 414 0, oA (.iload_n 3) 415 3, oK (.iconst 3) 416 (3)],
  [o0 .iadd 417, o0 .iaload 418, (.invokevirtual 40, 421, 249, 3, 11, 0, 0, 0, 0, 0, [(0, 1815)]), oN, oN, oA (.if_icmp .eq 1571) 424 1992, oN, oN, oK (.iconst 0) 425 (0), (.ireturn, 426, 0, 0, 0, 1, 0, 0, 0, 0, []), oA (.aload_n 1) 427 1, oA (.aload_n 0) 428 0, oA (.iload_n 3) 429 3, oK (.iconst 1) 430 (1), o0 .iadd 431, o0 .iaload 432, oA (.aload_n 0) 433 0, oA (.iload_n 3) 434 3, oK (.iconst 2) 435 (2), o0 .iadd 436, o0 .iaload 437, (.invokevirtual 41, 440, 165, 2, 0, 0, 0, 0, 0, 0, [(0, 937)]), oN, oN, oA (.aload_n 2) 441 2, oA (.aload_n 0) 442 0, oA (.iload_n 3) 443 3, oK (.iconst 1) 444 (1), o0 .iadd 445, o0 .iaload 446, oA (.aload_n 0) 447 0, oA (.iload_n 3) 448 3],
  [oK (.iconst 2) 449 (2), o0 .iadd 450, o0 .iaload 451, (.invokevirtual 44, 454, 253, 2, 11, 0, 0, 0, 0, 0, [(0, 1831)]), oN, oN, oA (.if_icmp .eq 1538) 457 1992, oN, oN, oK (.iconst 0) 458 (0), (.ireturn, 459, 0, 0, 0, 1, 0, 0, 0, 0, []), oA (.aload_n 1) 460 1, oA (.aload_n 0) 461 0, oA (.iload_n 3) 462 3, oK (.iconst 1) 463 (1), o0 .iadd 464, o0 .iaload 465, oA (.aload_n 0) 466 0, oA (.iload_n 3) 467 3, oK (.iconst 2) 468 (2), o0 .iadd 469, o0 .iaload 470, oA (.aload_n 0) 471 0, oA (.iload_n 3) 472 3, oK (.iconst 3) 473 (3), o0 .iadd 474, o0 .iaload 475, oA (.aload_n 0) 476 0, oA (.iload_n 3) 477 3, oK (.iconst 4) 478 (4), o0 .iadd 479, o0 .iaload 480],
  [(.invokevirtual 45, 483, 166, 4, 0, 0, 0, 0, 0, 0, [(0, 995)]), oN, oN, oA (.aload_n 2) 484 2, oA (.aload_n 0) 485 0, oA (.iload_n 3) 486 3, oK (.iconst 1) 487 (1), o0 .iadd 488, o0 .iaload 489, oA (.aload_n 0) 490 0, oA (.iload_n 3) 491 3, oK (.iconst 2) 492 (2), o0 .iadd 493, o0 .iaload 494, oA (.aload_n 0) 495 0, oA (.iload_n 3) 496 3, oK (.iconst 3) 497 (3), o0 .iadd 498, o0 .iaload 499, oA (.aload_n 0) 500 0, oA (.iload_n 3) 501 3, oK (.iconst 4) 502 (4), o0 .iadd 503, o0 .iaload 504, (.invokevirtual 49, 507, 269, 4, 11, 0, 0, 0, 0, 0, [(0, 1892)]), oN, oN, oA (.if_icmp .eq 1485) 510 1992, oN, oN, oK (.iconst 0) 511 (0), (.ireturn, 512, 0, 0, 0, 1, 0, 0, 0, 0, [])],
  [oA (.aload_n 1) 513 1, oA (.aload_n 0) 514 0, oA (.iload_n 3) 515 3, oK (.iconst 1) 516 (1), o0 .iadd 517, o0 .iaload 518, oA (.aload_n 0) 519 0, oA (.iload_n 3) 520 3, oK (.iconst 2) 521 (2), o0 .iadd 522, o0 .iaload 523, oA (.aload_n 0) 524 0, oA (.iload_n 3) 525 3, oK (.iconst 3) 526 (3), o0 .iadd 527, o0 .iaload 528, oA (.aload_n 0) 529 0, oA (.iload_n 3) 530 3, oK (.iconst 4) 531 (4), o0 .iadd 532, o0 .iaload 533, (.invokevirtual 50, 536, 168, 4, 0, 0, 0, 0, 0, 0, [(0, 1020)]), oN, oN, oA (.aload_n 2) 537 2, oA (.aload_n 0) 538 0, oA (.iload_n 3) 539 3, oK (.iconst 1) 540 (1), o0 .iadd 541, o0 .iaload 542, oA (.aload_n 0) 543 0, oA (.iload_n 3) 544 3],
  [oK (.iconst 2) 545 (2), o0 .iadd 546, o0 .iaload 547, oA (.aload_n 0) 548 0, oA (.iload_n 3) 549 3, oK (.iconst 3) 550 (3), o0 .iadd 551, o0 .iaload 552, oA (.aload_n 0) 553 0, oA (.iload_n 3) 554 3, oK (.iconst 4) 555 (4), o0 .iadd 556, o0 .iaload 557, (.invokevirtual 53, 560, 272, 4, 11, 0, 0, 0, 0, 0, [(0, 1904)]), oN, oN, oA (.if_icmp .eq 1432) 563 1992, oN, oN, oK (.iconst 0) 564 (0), (.ireturn, 565, 0, 0, 0, 1, 0, 0, 0, 0, []), oA (.aload_n 1) 566 1, oA (.aload_n 0) 567 0, oA (.iload_n 3) 568 3, oK (.iconst 1) 569 (1), o0 .iadd 570, o0 .iaload 571, oA (.aload_n 0) 572 0, oA (.iload_n 3) 573 3, oK (.iconst 2) 574 (2), o0 .iadd 575, o0 .iaload 576],
  [oA (.aload_n 0) 577 0, oA (.iload_n 3) 578 3, oK (.iconst 3) 579 (3), o0 .iadd 580, o0 .iaload 581, oA (.aload_n 0) 582 0, oA (.iload_n 3) 583 3, oK (.iconst 4) 584 (4), o0 .iadd 585, o0 .iaload 586, oA (.ifCond .eq 7) 589 593, oN, oN, oK (.iconst 1) 590 (1), oA (.goto 4) 593 594, oN, oN, oK (.iconst 0) 594 (0), (.invokevirtual 54, 597, 170, 4, 0, 1, 0, 0, 0, 0, [(0, 1054)]), oN, oN, oA (.aload_n 2) 598 2, oA (.aload_n 0) 599 0, oA (.iload_n 3) 600 3, oK (.iconst 1) 601 (1), o0 .iadd 602, o0 .iaload 603, oA (.aload_n 0) 604 0, oA (.iload_n 3) 605 3, oK (.iconst 2) 606 (2), o0 .iadd 607, o0 .iaload 608],
  [oA (.aload_n 0) 609 0, oA (.iload_n 3) 610 3, oK (.iconst 3) 611 (3), o0 .iadd 612, o0 .iaload 613, oA (.aload_n 0) 614 0, oA (.iload_n 3) 615 3, oK (.iconst 4) 616 (4), o0 .iadd 617, o0 .iaload 618, oA (.ifCond .eq 7) 621 625, oN, oN, oK (.iconst 1) 622 (1), oA (.goto 4) 625 626, oN, oN, oK (.iconst 0) 626 (0), (.invokevirtual 58, 629, 278, 4, 11, 1, 0, 0, 0, 0, [(0, 1928)]), oN, oN, o0 .lcmp 630, oA (.ifCond .eq 1362) 633 1992, oN, oN, oK (.iconst 0) 634 (0), (.ireturn, 635, 0, 0, 0, 1, 0, 0, 0, 0, []), oA (.aload_n 1) 636 1, oA (.aload_n 0) 637 0, oA (.iload_n 3) 638 3, oK (.iconst 1) 639 (1), o0 .iadd 640],
  [o0 .iaload 641, (.invokevirtual 59, 644, 171, 1, 0, 0, 0, 0, 0, 0, [(0, 1069)]), oN, oN, oA (.aload_n 2) 645 2, oA (.aload_n 0) 646 0, oA (.iload_n 3) 647 3, oK (.iconst 1) 648 (1), o0 .iadd 649, o0 .iaload 650, (.invokevirtual 62, 653, 281, 1, 11, 0, 0, 0, 0, 0, [(0, 1939)]), oN, oN, oA (.if_icmp .eq 1339) 656 1992, oN, oN, oK (.iconst 0) 657 (0), (.ireturn, 658, 0, 0, 0, 1, 0, 0, 0, 0, []), oA (.aload_n 1) 659 1, oA (.aload_n 0) 660 0, oA (.iload_n 3) 661 3, oK (.iconst 1) 662 (1), o0 .iadd 663, o0 .iaload 664, oA (.aload_n 0) 665 0, oA (.iload_n 3) 666 3, oK (.iconst 2) 667 (2), o0 .iadd 668, o0 .iaload 669, (.invokevirtual 63, 672, 174, 2, 0, 0, 0, 0, 0, 0, [(0, 1101)]), oN, oN],
  [oA (.aload_n 2) 673 2, oA (.aload_n 0) 674 0, oA (.iload_n 3) 675 3, oK (.iconst 1) 676 (1), o0 .iadd 677, o0 .iaload 678, oA (.aload_n 0) 679 0, oA (.iload_n 3) 680 3, oK (.iconst 2) 681 (2), o0 .iadd 682, o0 .iaload 683, (.invokevirtual 66, 686, 282, 2, 11, 0, 0, 0, 0, 0, [(0, 1943)]), oN, oN, oA (.if_icmp .eq 1306) 689 1992, oN, oN, oK (.iconst 0) 690 (0), (.ireturn, 691, 0, 0, 0, 1, 0, 0, 0, 0, []), oA (.aload_n 1) 692 1, oA (.aload_n 0) 693 0, oA (.iload_n 3) 694 3, oK (.iconst 1) 695 (1), o0 .iadd 696, o0 .iaload 697, oA (.aload_n 0) 698 0, oA (.iload_n 3) 699 3, oK (.iconst 2) 700 (2), o0 .iadd 701, o0 .iaload 702, (.invokevirtual 67, 705, 175, 2, 0, 0, 0, 0, 0, 0, [(0, 1164)]), oN],
  [oN, oA (.aload_n 2) 706 2, oA (.aload_n 0) 707 0, oA (.iload_n 3) 708 3, oK (.iconst 1) 709 (1), o0 .iadd 710, o0 .iaload 711, oA (.aload_n 0) 712 0, oA (.iload_n 3) 713 3, oK (.iconst 2) 714 (2), o0 .iadd 715, o0 .iaload 716, (.invokevirtual 70, 719, 291, 2, 11, 0, 0, 0, 0, 0, [(0, 1979)]), oN, oN, oA (.if_icmp .eq 1273) 722 1992, oN, oN, oK (.iconst 0) 723 (0), (.ireturn, 724, 0, 0, 0, 1, 0, 0, 0, 0, []), oA (.aload_n 1) 725 1, oA (.aload_n 0) 726 0, oA (.iload_n 3) 727 3, oK (.iconst 1) 728 (1), o0 .iadd 729, o0 .iaload 730, (.invokevirtual 71, 733, 176, 1, 0, 0, 0, 0, 0, 0, [(0, 1168)]), oN, oN, oA (.aload_n 2) 734 2, oA (.aload_n 0) 735 0, oA (.iload_n 3) 736 3],
  [oK (.iconst 1) 737 (1), o0 .iadd 738, o0 .iaload 739, (.invokevirtual 74, 742, 294, 1, 11, 0, 0, 0, 0, 0, [(0, 1990)]), oN, oN, oA (.if_icmp .eq 1250) 745 1992, oN, oN, oK (.iconst 0) 746 (0), (.ireturn, 747, 0, 0, 0, 1, 0, 0, 0, 0, []), oA (.aload_n 1) 748 1, oA (.aload_n 0) 749 0, oA (.iload_n 3) 750 3, oK (.iconst 1) 751 (1), o0 .iadd 752, o0 .iaload 753, oA (.aload_n 0) 754 0, oA (.iload_n 3) 755 3, oK (.iconst 2) 756 (2), o0 .iadd 757, o0 .iaload 758, (.invokevirtual 75, 761, 177, 2, 0, 0, 0, 0, 0, 0, [(0, 1180)]), oN, oN, oA (.aload_n 2) 762 2, oA (.aload_n 0) 763 0, oA (.iload_n 3) 764 3, oK (.iconst 1) 765 (1), o0 .iadd 766, o0 .iaload 767, oA (.aload_n 0) 768 0],
  [oA (.iload_n 3) 769 3, oK (.iconst 2) 770 (2), o0 .iadd 771, o0 .iaload 772, (.invokevirtual 78, 775, 296, 2, 11, 0, 0, 0, 0, 0, [(0, 1998)]), oN, oN, oA (.if_icmp .eq 1217) 778 1992, oN, oN, oK (.iconst 0) 779 (0), (.ireturn, 780, 0, 0, 0, 1, 0, 0, 0, 0, []), oA (.aload_n 1) 781 1, oA (.aload_n 0) 782 0, oA (.iload_n 3) 783 3, oK (.iconst 1) 784 (1), o0 .iadd 785, o0 .iaload 786, oA (.aload_n 0) 787 0, oA (.iload_n 3) 788 3, oK (.iconst 2) 789 (2), o0 .iadd 790, o0 .iaload 791, oA (.aload_n 0) 792 0, oA (.iload_n 3) 793 3, oK (.iconst 3) 794 (3), o0 .iadd 795, o0 .iaload 796, (.invokevirtual 79, 799, 182, 3, 0, 0, 0, 0, 0, 0, [(0, 1235)]), oN, oN, oA (.aload_n 2) 800 2],
  [oA (.aload_n 0) 801 0, oA (.iload_n 3) 802 3, oK (.iconst 1) 803 (1), o0 .iadd 804, o0 .iaload 805, oA (.aload_n 0) 806 0, oA (.iload_n 3) 807 3, oK (.iconst 2) 808 (2), o0 .iadd 809, o0 .iaload 810, oA (.aload_n 0) 811 0, oA (.iload_n 3) 812 3, oK (.iconst 3) 813 (3), o0 .iadd 814, o0 .iaload 815, (.invokevirtual 82, 818, 297, 3, 11, 0, 0, 0, 0, 0, [(0, 2002)]), oN, oN, oA (.if_icmp .eq 1174) 821 1992, oN, oN, oK (.iconst 0) 822 (0), (.ireturn, 823, 0, 0, 0, 1, 0, 0, 0, 0, []), oA (.aload_n 1) 824 1, oA (.aload_n 0) 825 0, oA (.iload_n 3) 826 3, oK (.iconst 1) 827 (1), o0 .iadd 828, o0 .iaload 829, oA (.aload_n 0) 830 0, oA (.iload_n 3) 831 3, oK (.iconst 2) 832 (2)],
  [o0 .iadd 833, o0 .iaload 834, (.invokevirtual 83, 837, 183, 2, 0, 0, 0, 0, 0, 0, [(0, 1247)]), oN, oN, oA (.aload_n 2) 838 2, oA (.aload_n 0) 839 0, oA (.iload_n 3) 840 3, oK (.iconst 1) 841 (1), o0 .iadd 842, o0 .iaload 843, oA (.aload_n 0) 844 0, oA (.iload_n 3) 845 3, oK (.iconst 2) 846 (2), o0 .iadd 847, o0 .iaload 848, (.invokevirtual 86, 851, 301, 2, 11, 0, 0, 0, 0, 0, [(0, 2018)]), oN, oN, oA (.if_icmp .eq 1141) 854 1992, oN, oN, oK (.iconst 0) 855 (0), (.ireturn, 856, 0, 0, 0, 1, 0, 0, 0, 0, []), oA (.aload_n 1) 857 1, oA (.aload_n 0) 858 0, oA (.iload_n 3) 859 3, oK (.iconst 1) 860 (1), o0 .iadd 861, o0 .iaload 862, oA (.aload_n 0) 863 0, oA (.iload_n 3) 864 3],
  [oK (.iconst 2) 865 (2), o0 .iadd 866, o0 .iaload 867, oA (.aload_n 0) 868 0, oA (.iload_n 3) 869 3, oK (.iconst 3) 870 (3), o0 .iadd 871, o0 .iaload 872, (.invokevirtual 87, 875, 184, 3, 0, 0, 0, 0, 0, 0, [(0, 1278)]), oN, oN, oA (.aload_n 2) 876 2, oA (.aload_n 0) 877 0, oA (.iload_n 3) 878 3, oK (.iconst 1) 879 (1), o0 .iadd 880, o0 .iaload 881, oA (.aload_n 0) 882 0, oA (.iload_n 3) 883 3, oK (.iconst 2) 884 (2), o0 .iadd 885, o0 .iaload 886, oA (.aload_n 0) 887 0, oA (.iload_n 3) 888 3, oK (.iconst 3) 889 (3), o0 .iadd 890, o0 .iaload 891, (.invokevirtual 90, 894, 306, 3, 11, 0, 0, 0, 0, 0, [(0, 2038)]), oN, oN, oA (.if_icmp .eq 1098) 897 1992, oN],
  [oN, oK (.iconst 0) 898 (0), (.ireturn, 899, 0, 0, 0, 1, 0, 0, 0, 0, []), oA (.aload_n 1) 900 1, oA (.aload_n 0) 901 0, oA (.iload_n 3) 902 3, oK (.iconst 1) 903 (1), o0 .iadd 904, o0 .iaload 905, oA (.aload_n 0) 906 0, oA (.iload_n 3) 907 3, oK (.iconst 2) 908 (2), o0 .iadd 909, o0 .iaload 910, oA (.aload_n 0) 911 0, oA (.iload_n 3) 912 3, oK (.iconst 3) 913 (3), o0 .iadd 914, o0 .iaload 915, oA (.ifCond .eq 7) 918 922, oN, oN, oK (.iconst 1) 919 (1), oA (.goto 4) 922 923, oN, oN, oK (.iconst 0) 923 (0), (.invokevirtual 91, 926, 185, 3, 0, 0, 0, 0, 0, 0, [(0, 1287)]), oN, oN, oA (.aload_n 2) 927 2, oA (.aload_n 0) 928 0],
  [oA (.iload_n 3) 929 3, oK (.iconst 1) 930 (1), o0 .iadd 931, o0 .iaload 932, oA (.aload_n 0) 933 0, oA (.iload_n 3) 934 3, oK (.iconst 2) 935 (2), o0 .iadd 936, o0 .iaload 937, oA (.aload_n 0) 938 0, oA (.iload_n 3) 939 3, oK (.iconst 3) 940 (3), o0 .iadd 941, o0 .iaload 942, oA (.ifCond .eq 7) 945 949, oN, oN, oK (.iconst 1) 946 (1), oA (.goto 4) 949 950, oN, oN, oK (.iconst 0) 950 (0), (.invokevirtual 95, 953, 308, 3, 11, 0, 0, 0, 0, 0, [(0, 2046)]), oN, oN, oA (.if_icmp .eq 1039) 956 1992, oN, oN, oK (.iconst 0) 957 (0), (.ireturn, 958, 0, 0, 0, 1, 0, 0, 0, 0, []), oA (.aload_n 1) 959 1, oA (.aload_n 0) 960 0],
  [oA (.iload_n 3) 961 3, oK (.iconst 1) 962 (1), o0 .iadd 963, o0 .iaload 964, oA (.aload_n 0) 965 0, oA (.iload_n 3) 966 3, oK (.iconst 2) 967 (2), o0 .iadd 968, o0 .iaload 969, (.invokevirtual 96, 972, 188, 2, 0, 0, 0, 0, 0, 0, [(0, 1315)]), oN, oN, oA (.aload_n 2) 973 2, oA (.aload_n 0) 974 0, oA (.iload_n 3) 975 3, oK (.iconst 1) 976 (1), o0 .iadd 977, o0 .iaload 978, oA (.aload_n 0) 979 0, oA (.iload_n 3) 980 3, oK (.iconst 2) 981 (2), o0 .iadd 982, o0 .iaload 983, (.invokevirtual 99, 986, 309, 2, 11, 0, 0, 0, 0, 0, [(0, 2050)]), oN, oN, oA (.if_icmp .eq 1006) 989 1992, oN, oN, oK (.iconst 0) 990 (0), (.ireturn, 991, 0, 0, 0, 1, 0, 0, 0, 0, []), oA (.aload_n 1) 992 1],
  [oA (.aload_n 0) 993 0, oA (.iload_n 3) 994 3, oK (.iconst 1) 995 (1), o0 .iadd 996, o0 .iaload 997, oA (.aload_n 0) 998 0, oA (.iload_n 3) 999 3, oK (.iconst 2) 1000 (2), o0 .iadd 1001, o0 .iaload 1002, (.invokevirtual 100, 1005, 189, 2, 0, 0, 0, 0, 0, 0, [(0, 1331)]), oN, oN, oA (.aload_n 2) 1006 2, oA (.aload_n 0) 1007 0, oA (.iload_n 3) 1008 3, oK (.iconst 1) 1009 (1), o0 .iadd 1010, o0 .iaload 1011, oA (.aload_n 0) 1012 0, oA (.iload_n 3) 1013 3, oK (.iconst 2) 1014 (2), o0 .iadd 1015, o0 .iaload 1016, (.invokevirtual 103, 1019, 312, 2, 11, 0, 0, 0, 0, 0, [(0, 2062)]), oN, oN, oA (.if_icmp .eq 973) 1022 1992, oN, oN, oK (.iconst 0) 1023 (0), (.ireturn, 1024, 0, 0, 0, 1, 0, 0, 0, 0, [])],
  [oA (.aload_n 1) 1025 1, oA (.aload_n 0) 1026 0, oA (.iload_n 3) 1027 3, oK (.iconst 1) 1028 (1), o0 .iadd 1029, o0 .iaload 1030, oA (.aload_n 0) 1031 0, oA (.iload_n 3) 1032 3, oK (.iconst 2) 1033 (2), o0 .iadd 1034, o0 .iaload 1035, (.invokevirtual 104, 1038, 190, 2, 0, 0, 0, 0, 0, 0, [(0, 1379)]), oN, oN, oA (.aload_n 2) 1039 2, oA (.aload_n 0) 1040 0, oA (.iload_n 3) 1041 3, oK (.iconst 1) 1042 (1), o0 .iadd 1043, o0 .iaload 1044, oA (.aload_n 0) 1045 0, oA (.iload_n 3) 1046 3, oK (.iconst 2) 1047 (2), o0 .iadd 1048, o0 .iaload 1049, (.invokevirtual 107, 1052, 316, 2, 11, 0, 0, 0, 0, 0, [(0, 2078)]), oN, oN, oA (.if_icmp .eq 940) 1055 1992, oN, oN, oK (.iconst 0) 1056 (0)],
  [(.ireturn, 1057, 0, 0, 0, 1, 0, 0, 0, 0, []), oA (.aload_n 1) 1058 1, oA (.aload_n 0) 1059 0, oA (.iload_n 3) 1060 3, oK (.iconst 1) 1061 (1), o0 .iadd 1062, o0 .iaload 1063, oA (.aload_n 0) 1064 0, oA (.iload_n 3) 1065 3, oK (.iconst 2) 1066 (2), o0 .iadd 1067, o0 .iaload 1068, oA (.aload_n 0) 1069 0, oA (.iload_n 3) 1070 3, oK (.iconst 3) 1071 (3), o0 .iadd 1072, o0 .iaload 1073, oA (.aload_n 0) 1074 0, oA (.iload_n 3) 1075 3, oK (.iconst 4) 1076 (4), o0 .iadd 1077, o0 .iaload 1078, oA (.ifCond .eq 7) 1081 1085, oN, oN, oK (.iconst 1) 1082 (1), oA (.goto 4) 1085 1086, oN, oN, oK (.iconst 0) 1086 (0), (.invokevirtual 108, 1089, 191, 4, 0, 1, 0, 0, 0, 0, [(0, 1384)]), oN],
  [oN, oA (.aload_n 2) 1090 2, oA (.aload_n 0) 1091 0, oA (.iload_n 3) 1092 3, oK (.iconst 1) 1093 (1), o0 .iadd 1094, o0 .iaload 1095, oA (.aload_n 0) 1096 0, oA (.iload_n 3) 1097 3, oK (.iconst 2) 1098 (2), o0 .iadd 1099, o0 .iaload 1100, oA (.aload_n 0) 1101 0, oA (.iload_n 3) 1102 3, oK (.iconst 3) 1103 (3), o0 .iadd 1104, o0 .iaload 1105, oA (.aload_n 0) 1106 0, oA (.iload_n 3) 1107 3, oK (.iconst 4) 1108 (4), o0 .iadd 1109, o0 .iaload 1110, oA (.ifCond .eq 7) 1113 1117, oN, oN, oK (.iconst 1) 1114 (1), oA (.goto 4) 1117 1118, oN, oN, oK (.iconst 0) 1118 (0), (.invokevirtual 111, 1121, 324, 4, 11, 1, 0, 0, 0, 0, [(0, 2110)]), oN],
  [oN, o0 .lcmp 1122, oA (.ifCond .eq 870) 1125 1992, oN, oN, oK (.iconst 0) 1126 (0), (.ireturn, 1127, 0, 0, 0, 1, 0, 0, 0, 0, []), oA (.aload_n 1) 1128 1, oA (.aload_n 0) 1129 0, oA (.iload_n 3) 1130 3, oK (.iconst 1) 1131 (1), o0 .iadd 1132, o0 .iaload 1133, oA (.aload_n 0) 1134 0, oA (.iload_n 3) 1135 3, oK (.iconst 2) 1136 (2), o0 .iadd 1137, o0 .iaload 1138, oA (.aload_n 0) 1139 0, oA (.iload_n 3) 1140 3, oK (.iconst 3) 1141 (3), o0 .iadd 1142, o0 .iaload 1143, (.invokevirtual 112, 1146, 196, 3, 0, 0, 0, 0, 0, 0, [(0, 1407)]), oN, oN, oA (.aload_n 2) 1147 2, oA (.aload_n 0) 1148 0, oA (.iload_n 3) 1149 3, oK (.iconst 1) 1150 (1), o0 .iadd 1151, o0 .iaload 1152],
  [oA (.aload_n 0) 1153 0, oA (.iload_n 3) 1154 3, oK (.iconst 2) 1155 (2), o0 .iadd 1156, o0 .iaload 1157, oA (.aload_n 0) 1158 0, oA (.iload_n 3) 1159 3, oK (.iconst 3) 1160 (3), o0 .iadd 1161, o0 .iaload 1162, (.invokevirtual 115, 1165, 329, 3, 11, 0, 0, 0, 0, 0, [(0, 2127)]), oN, oN, oA (.if_icmp .eq 827) 1168 1992, oN, oN, oK (.iconst 0) 1169 (0), (.ireturn, 1170, 0, 0, 0, 1, 0, 0, 0, 0, []), oA (.aload_n 1) 1171 1, oA (.aload_n 0) 1172 0, oA (.iload_n 3) 1173 3, oK (.iconst 1) 1174 (1), o0 .iadd 1175, o0 .iaload 1176, oA (.aload_n 0) 1177 0, oA (.iload_n 3) 1178 3, oK (.iconst 2) 1179 (2), o0 .iadd 1180, o0 .iaload 1181, oA (.aload_n 0) 1182 0, oA (.iload_n 3) 1183 3, oK (.iconst 3) 1184 (3)],
  [o0 .iadd 1185, o0 .iaload 1186, oA (.aload_n 0) 1187 0, oA (.iload_n 3) 1188 3, oK (.iconst 4) 1189 (4), o0 .iadd 1190, o0 .iaload 1191, oA (.aload_n 0) 1192 0, oA (.iload_n 3) 1193 3, oK (.iconst 5) 1194 (5), o0 .iadd 1195, o0 .iaload 1196, (.invokevirtual 116, 1199, 201, 5, 0, 0, 0, 0, 0, 0, [(0, 1430)]), oN, oN, oA (.aload_n 2) 1200 2, oA (.aload_n 0) 1201 0, oA (.iload_n 3) 1202 3, oK (.iconst 1) 1203 (1), o0 .iadd 1204, o0 .iaload 1205, oA (.aload_n 0) 1206 0, oA (.iload_n 3) 1207 3, oK (.iconst 2) 1208 (2), o0 .iadd 1209, o0 .iaload 1210, oA (.aload_n 0) 1211 0, oA (.iload_n 3) 1212 3, oK (.iconst 3) 1213 (3), o0 .iadd 1214, o0 .iaload 1215, oA (.aload_n 0) 1216 0],
  [oA (.iload_n 3) 1217 3, oK (.iconst 4) 1218 (4), o0 .iadd 1219, o0 .iaload 1220, oA (.aload_n 0) 1221 0, oA (.iload_n 3) 1222 3, oK (.iconst 5) 1223 (5), o0 .iadd 1224, o0 .iaload 1225, (.invokevirtual 119, 1228, 330, 5, 11, 0, 0, 0, 0, 0, [(0, 2131)]), oN, oN, oA (.if_icmp .eq 764) 1231 1992, oN, oN, oK (.iconst 0) 1232 (0), (.ireturn, 1233, 0, 0, 0, 1, 0, 0, 0, 0, []), oA (.aload_n 1) 1234 1, oA (.aload_n 0) 1235 0, oA (.iload_n 3) 1236 3, oK (.iconst 1) 1237 (1), o0 .iadd 1238, o0 .iaload 1239, oA (.aload_n 0) 1240 0, oA (.iload_n 3) 1241 3, oK (.iconst 2) 1242 (2), o0 .iadd 1243, o0 .iaload 1244, oA (.aload_n 0) 1245 0, oA (.iload_n 3) 1246 3, oK (.iconst 3) 1247 (3), o0 .iadd 1248],
  [o0 .iaload 1249, (.invokevirtual 120, 1252, 205, 3, 0, 0, 0, 0, 0, 0, [(0, 1445)]), oN, oN, oA (.aload_n 2) 1253 2, oA (.aload_n 0) 1254 0, oA (.iload_n 3) 1255 3, oK (.iconst 1) 1256 (1), o0 .iadd 1257, o0 .iaload 1258, oA (.aload_n 0) 1259 0, oA (.iload_n 3) 1260 3, oK (.iconst 2) 1261 (2), o0 .iadd 1262, o0 .iaload 1263, oA (.aload_n 0) 1264 0, oA (.iload_n 3) 1265 3, oK (.iconst 3) 1266 (3), o0 .iadd 1267, o0 .iaload 1268, (.invokevirtual 123, 1271, 332, 3, 11, 0, 0, 0, 0, 0, [(0, 2138)]), oN, oN, oA (.if_icmp .eq 721) 1274 1992, oN, oN, oK (.iconst 0) 1275 (0), (.ireturn, 1276, 0, 0, 0, 1, 0, 0, 0, 0, []), oA (.aload_n 1) 1277 1, oA (.aload_n 0) 1278 0, oA (.iload_n 3) 1279 3, oK (.iconst 1) 1280 (1)],
  [o0 .iadd 1281, o0 .iaload 1282, oA (.aload_n 0) 1283 0, oA (.iload_n 3) 1284 3, oK (.iconst 2) 1285 (2), o0 .iadd 1286, o0 .iaload 1287, oA (.aload_n 0) 1288 0, oA (.iload_n 3) 1289 3, oK (.iconst 3) 1290 (3), o0 .iadd 1291, o0 .iaload 1292, oA (.aload_n 0) 1293 0, oA (.iload_n 3) 1294 3, oK (.iconst 4) 1295 (4), o0 .iadd 1296, o0 .iaload 1297, (.invokevirtual 124, 1300, 167, 4, 0, 0, 0, 0, 0, 0, [(0, 1007)]), oN, oN, oA (.aload_n 2) 1301 2, oA (.aload_n 0) 1302 0, oA (.iload_n 3) 1303 3, oK (.iconst 1) 1304 (1), o0 .iadd 1305, o0 .iaload 1306, oA (.aload_n 0) 1307 0, oA (.iload_n 3) 1308 3, oK (.iconst 2) 1309 (2), o0 .iadd 1310, o0 .iaload 1311, oA (.aload_n 0) 1312 0],
  [oA (.iload_n 3) 1313 3, oK (.iconst 3) 1314 (3), o0 .iadd 1315, o0 .iaload 1316, oA (.aload_n 0) 1317 0, oA (.iload_n 3) 1318 3, oK (.iconst 4) 1319 (4), o0 .iadd 1320, o0 .iaload 1321, (.invokevirtual 127, 1324, 333, 4, 11, 0, 0, 0, 0, 0, [(0, 2142)]), oN, oN, oA (.if_icmp .eq 668) 1327 1992, oN, oN, oK (.iconst 0) 1328 (0), (.ireturn, 1329, 0, 0, 0, 1, 0, 0, 0, 0, []), oA (.aload_n 1) 1330 1, oA (.aload_n 0) 1331 0, oA (.iload_n 3) 1332 3, oK (.iconst 1) 1333 (1), o0 .iadd 1334, o0 .iaload 1335, oA (.aload_n 0) 1336 0, oA (.iload_n 3) 1337 3, oK (.iconst 2) 1338 (2), o0 .iadd 1339, o0 .iaload 1340, oA (.aload_n 0) 1341 0, oA (.iload_n 3) 1342 3, oK (.iconst 3) 1343 (3), o0 .iadd 1344],
  [o0 .iaload 1345, oA (.aload_n 0) 1346 0, oA (.iload_n 3) 1347 3, oK (.iconst 4) 1348 (4), o0 .iadd 1349, o0 .iaload 1350, oA (.ifCond .eq 7) 1353 1357, oN, oN, oK (.iconst 1) 1354 (1), oA (.goto 4) 1357 1358, oN, oN, oK (.iconst 0) 1358 (0), (.invokevirtual 128, 1361, 172, 4, 0, 1, 0, 0, 0, 0, [(0, 1077)]), oN, oN, oA (.aload_n 2) 1362 2, oA (.aload_n 0) 1363 0, oA (.iload_n 3) 1364 3, oK (.iconst 1) 1365 (1), o0 .iadd 1366, o0 .iaload 1367, oA (.aload_n 0) 1368 0, oA (.iload_n 3) 1369 3, oK (.iconst 2) 1370 (2), o0 .iadd 1371, o0 .iaload 1372, oA (.aload_n 0) 1373 0, oA (.iload_n 3) 1374 3, oK (.iconst 3) 1375 (3), o0 .iadd 1376],
  [o0 .iaload 1377, oA (.aload_n 0) 1378 0, oA (.iload_n 3) 1379 3, oK (.iconst 4) 1380 (4), o0 .iadd 1381, o0 .iaload 1382, oA (.ifCond .eq 7) 1385 1389, oN, oN, oK (.iconst 1) 1386 (1), oA (.goto 4) 1389 1390, oN, oN, oK (.iconst 0) 1390 (0), (.invokevirtual 131, 1393, 336, 4, 11, 1, 0, 0, 0, 0, [(0, 2155)]), oN, oN, o0 .lcmp 1394, oA (.ifCond .eq 598) 1397 1992, oN, oN, oK (.iconst 0) 1398 (0), (.ireturn, 1399, 0, 0, 0, 1, 0, 0, 0, 0, []), oA (.aload_n 1) 1400 1, oA (.aload_n 0) 1401 0, oA (.iload_n 3) 1402 3, oK (.iconst 1) 1403 (1), o0 .iadd 1404, o0 .iaload 1405, oA (.aload_n 0) 1406 0, oA (.iload_n 3) 1407 3, oK (.iconst 2) 1408 (2)],
  [o0 .iadd 1409, o0 .iaload 1410, oA (.ifCond .eq 7) 1413 1417, oN, oN, oK (.iconst 1) 1414 (1), oA (.goto 4) 1417 1418, oN, oN, oK (.iconst 0) 1418 (0), (.invokevirtual 132, 1421, 178, 2, 0, 0, 0, 0, 0, 0, [(0, 1189)]), oN, oN, oA (.aload_n 2) 1422 2, oA (.aload_n 0) 1423 0, oA (.iload_n 3) 1424 3, oK (.iconst 1) 1425 (1), o0 .iadd 1426, o0 .iaload 1427, oA (.aload_n 0) 1428 0, oA (.iload_n 3) 1429 3, oK (.iconst 2) 1430 (2), o0 .iadd 1431, o0 .iaload 1432, oA (.ifCond .eq 7) 1435 1439, oN, oN, oK (.iconst 1) 1436 (1), oA (.goto 4) 1439 1440, oN, oN, oK (.iconst 0) 1440 (0)],
  [(.invokevirtual 136, 1443, 337, 2, 11, 0, 0, 0, 0, 0, [(0, 2159)]), oN, oN, oA (.if_icmp .eq 549) 1446 1992, oN, oN, oK (.iconst 0) 1447 (0), (.ireturn, 1448, 0, 0, 0, 1, 0, 0, 0, 0, []), oA (.aload_n 1) 1449 1, oA (.aload_n 0) 1450 0, oA (.iload_n 3) 1451 3, oK (.iconst 1) 1452 (1), o0 .iadd 1453, o0 .iaload 1454, oA (.aload_n 0) 1455 0, oA (.iload_n 3) 1456 3, oK (.iconst 2) 1457 (2), o0 .iadd 1458, o0 .iaload 1459, oA (.ifCond .eq 7) 1462 1466, oN, oN, oK (.iconst 1) 1463 (1), oA (.goto 4) 1466 1467, oN, oN, oK (.iconst 0) 1467 (0), (.invokevirtual 137, 1470, 179, 2, 0, 0, 0, 0, 0, 0, [(0, 1198)]), oN, oN, oA (.aload_n 2) 1471 2, oA (.aload_n 0) 1472 0],
  [oA (.iload_n 3) 1473 3, oK (.iconst 1) 1474 (1), o0 .iadd 1475, o0 .iaload 1476, oA (.aload_n 0) 1477 0, oA (.iload_n 3) 1478 3, oK (.iconst 2) 1479 (2), o0 .iadd 1480, o0 .iaload 1481, oA (.ifCond .eq 7) 1484 1488, oN, oN, oK (.iconst 1) 1485 (1), oA (.goto 4) 1488 1489, oN, oN, oK (.iconst 0) 1489 (0), (.invokevirtual 140, 1492, 339, 2, 11, 0, 0, 0, 0, 0, [(0, 2167)]), oN, oN, oA (.if_icmp .eq 500) 1495 1992, oN, oN, oK (.iconst 0) 1496 (0), (.ireturn, 1497, 0, 0, 0, 1, 0, 0, 0, 0, []), oA (.aload_n 1) 1498 1, oA (.aload_n 0) 1499 0, oA (.iload_n 3) 1500 3, oK (.iconst 1) 1501 (1), o0 .iadd 1502, o0 .iaload 1503, oA (.aload_n 0) 1504 0],
  [oA (.iload_n 3) 1505 3, oK (.iconst 2) 1506 (2), o0 .iadd 1507, o0 .iaload 1508, oA (.aload_n 0) 1509 0, oA (.iload_n 3) 1510 3, oK (.iconst 3) 1511 (3), o0 .iadd 1512, o0 .iaload 1513, oA (.ifCond .eq 7) 1516 1520, oN, oN, oK (.iconst 1) 1517 (1), oA (.goto 4) 1520 1521, oN, oN, oK (.iconst 0) 1521 (0), (.invokevirtual 141, 1524, 180, 3, 0, 0, 0, 0, 0, 0, [(0, 1212)]), oN, oN, oA (.aload_n 2) 1525 2, oA (.aload_n 0) 1526 0, oA (.iload_n 3) 1527 3, oK (.iconst 1) 1528 (1), o0 .iadd 1529, o0 .iaload 1530, oA (.aload_n 0) 1531 0, oA (.iload_n 3) 1532 3, oK (.iconst 2) 1533 (2), o0 .iadd 1534, o0 .iaload 1535, oA (.aload_n 0) 1536 0],
  [oA (.iload_n 3) 1537 3, oK (.iconst 3) 1538 (3), o0 .iadd 1539, o0 .iaload 1540, oA (.ifCond .eq 7) 1543 1547, oN, oN, oK (.iconst 1) 1544 (1), oA (.goto 4) 1547 1548, oN, oN, oK (.iconst 0) 1548 (0), (.invokevirtual 144, 1551, 340, 3, 11, 0, 0, 0, 0, 0, [(0, 2171)]), oN, oN, oA (.if_icmp .eq 441) 1554 1992, oN, oN, oK (.iconst 0) 1555 (0), (.ireturn, 1556, 0, 0, 0, 1, 0, 0, 0, 0, []), oA (.aload_n 1) 1557 1, oA (.aload_n 0) 1558 0, oA (.iload_n 3) 1559 3, oK (.iconst 1) 1560 (1), o0 .iadd 1561, o0 .iaload 1562, oA (.aload_n 0) 1563 0, oA (.iload_n 3) 1564 3, oK (.iconst 2) 1565 (2), o0 .iadd 1566, o0 .iaload 1567, oA (.ifCond .eq 7) 1570 1574],
  [oN, oN, oK (.iconst 1) 1571 (1), oA (.goto 4) 1574 1575, oN, oN, oK (.iconst 0) 1575 (0), (.invokevirtual 145, 1578, 181, 2, 0, 0, 0, 0, 0, 0, [(0, 1226)]), oN, oN, oA (.aload_n 2) 1579 2, oA (.aload_n 0) 1580 0, oA (.iload_n 3) 1581 3, oK (.iconst 1) 1582 (1), o0 .iadd 1583, o0 .iaload 1584, oA (.aload_n 0) 1585 0, oA (.iload_n 3) 1586 3, oK (.iconst 2) 1587 (2), o0 .iadd 1588, o0 .iaload 1589, oA (.ifCond .eq 7) 1592 1596, oN, oN, oK (.iconst 1) 1593 (1), oA (.goto 4) 1596 1597, oN, oN, oK (.iconst 0) 1597 (0), (.invokevirtual 148, 1600, 341, 2, 11, 0, 0, 0, 0, 0, [(0, 2175)]), oN, oN],
  [oA (.if_icmp .eq 392) 1603 1992, oN, oN, oK (.iconst 0) 1604 (0), (.ireturn, 1605, 0, 0, 0, 1, 0, 0, 0, 0, []), oA (.aload_n 1) 1606 1, oA (.aload_n 0) 1607 0, oA (.iload_n 3) 1608 3, oK (.iconst 1) 1609 (1), o0 .iadd 1610, o0 .iaload 1611, oA (.aload_n 0) 1612 0, oA (.iload_n 3) 1613 3, oK (.iconst 2) 1614 (2), o0 .iadd 1615, o0 .iaload 1616, oA (.aload_n 0) 1617 0, oA (.iload_n 3) 1618 3, oK (.iconst 3) 1619 (3), o0 .iadd 1620, o0 .iaload 1621, oA (.ifCond .eq 7) 1624 1628, oN, oN, oK (.iconst 1) 1625 (1), oA (.goto 4) 1628 1629, oN, oN, oK (.iconst 0) 1629 (0), (.invokevirtual 149, 1632, 173, 3, 0, 1, 0, 0, 0, 0, [(0, 1086)]), oN, oN],
  [oA (.aload_n 2) 1633 2, oA (.aload_n 0) 1634 0, oA (.iload_n 3) 1635 3, oK (.iconst 1) 1636 (1), o0 .iadd 1637, o0 .iaload 1638, oA (.aload_n 0) 1639 0, oA (.iload_n 3) 1640 3, oK (.iconst 2) 1641 (2), o0 .iadd 1642, o0 .iaload 1643, oA (.aload_n 0) 1644 0, oA (.iload_n 3) 1645 3, oK (.iconst 3) 1646 (3), o0 .iadd 1647, o0 .iaload 1648, oA (.ifCond .eq 7) 1651 1655, oN, oN, oK (.iconst 1) 1652 (1), oA (.goto 4) 1655 1656, oN, oN, oK (.iconst 0) 1656 (0), (.invokevirtual 153, 1659, 342, 3, 11, 1, 0, 0, 0, 0, [(0, 2179)]), oN, oN, o0 .lcmp 1660, oA (.ifCond .eq 332) 1663 1992, oN, oN, oK (.iconst 0) 1664 (0)],
  [(.ireturn, 1665, 0, 0, 0, 1, 0, 0, 0, 0, []), oA (.aload_n 1) 1666 1, oA (.aload_n 0) 1667 0, oA (.iload_n 3) 1668 3, oK (.iconst 1) 1669 (1), o0 .iadd 1670, o0 .iaload 1671, oA (.aload_n 0) 1672 0, oA (.iload_n 3) 1673 3, oK (.iconst 2) 1674 (2), o0 .iadd 1675, o0 .iaload 1676, oA (.aload_n 0) 1677 0, oA (.iload_n 3) 1678 3, oK (.iconst 3) 1679 (3), o0 .iadd 1680, o0 .iaload 1681, oA (.ifCond .eq 7) 1684 1688, oN, oN, oK (.iconst 1) 1685 (1), oA (.goto 4) 1688 1689, oN, oN, oK (.iconst 0) 1689 (0), (.invokevirtual 154, 1692, 186, 3, 0, 1, 0, 0, 0, 0, [(0, 1291)]), oN, oN, oA (.aload_n 2) 1693 2, oA (.aload_n 0) 1694 0, oA (.iload_n 3) 1695 3, oK (.iconst 1) 1696 (1)],
  [o0 .iadd 1697, o0 .iaload 1698, oA (.aload_n 0) 1699 0, oA (.iload_n 3) 1700 3, oK (.iconst 2) 1701 (2), o0 .iadd 1702, o0 .iaload 1703, oA (.aload_n 0) 1704 0, oA (.iload_n 3) 1705 3, oK (.iconst 3) 1706 (3), o0 .iadd 1707, o0 .iaload 1708, oA (.ifCond .eq 7) 1711 1715, oN, oN, oK (.iconst 1) 1712 (1), oA (.goto 4) 1715 1716, oN, oN, oK (.iconst 0) 1716 (0), (.invokevirtual 157, 1719, 343, 3, 11, 1, 0, 0, 0, 0, [(0, 2183)]), oN, oN, o0 .lcmp 1720, oA (.ifCond .eq 272) 1723 1992, oN, oN, oK (.iconst 0) 1724 (0), (.ireturn, 1725, 0, 0, 0, 1, 0, 0, 0, 0, []), oA (.aload_n 1) 1726 1, oA (.aload_n 0) 1727 0, oA (.iload_n 3) 1728 3],
  [oK (.iconst 1) 1729 (1), o0 .iadd 1730, o0 .iaload 1731, oA (.aload_n 0) 1732 0, oA (.iload_n 3) 1733 3, oK (.iconst 2) 1734 (2), o0 .iadd 1735, o0 .iaload 1736, oA (.aload_n 0) 1737 0, oA (.iload_n 3) 1738 3, oK (.iconst 3) 1739 (3), o0 .iadd 1740, o0 .iaload 1741, (.invokevirtual 158, 1744, 187, 3, 0, 0, 0, 0, 0, 0, [(0, 1307)]), oN, oN, oA (.aload_n 2) 1745 2, oA (.aload_n 0) 1746 0, oA (.iload_n 3) 1747 3, oK (.iconst 1) 1748 (1), o0 .iadd 1749, o0 .iaload 1750, oA (.aload_n 0) 1751 0, oA (.iload_n 3) 1752 3, oK (.iconst 2) 1753 (2), o0 .iadd 1754, o0 .iaload 1755, oA (.aload_n 0) 1756 0, oA (.iload_n 3) 1757 3, oK (.iconst 3) 1758 (3), o0 .iadd 1759, o0 .iaload 1760],
  [(.invokevirtual 161, 1763, 345, 3, 11, 0, 0, 0, 0, 0, [(0, 2191)]), oN, oN, oA (.if_icmp .eq 229) 1766 1992, oN, oN, oK (.iconst 0) 1767 (0), (.ireturn, 1768, 0, 0, 0, 1, 0, 0, 0, 0, []), oA (.aload_n 1) 1769 1, oA (.aload_n 0) 1770 0, oA (.iload_n 3) 1771 3, oK (.iconst 1) 1772 (1), o0 .iadd 1773, o0 .iaload 1774, oA (.aload_n 0) 1775 0, oA (.iload_n 3) 1776 3, oK (.iconst 2) 1777 (2), o0 .iadd 1778, o0 .iaload 1779, oA (.aload_n 0) 1780 0, oA (.iload_n 3) 1781 3, oK (.iconst 3) 1782 (3), o0 .iadd 1783, o0 .iaload 1784, oA (.aload_n 0) 1785 0, oA (.iload_n 3) 1786 3, oK (.iconst 4) 1787 (4), o0 .iadd 1788, o0 .iaload 1789, oA (.aload_n 0) 1790 0, oA (.iload_n 3) 1791 3, oK (.iconst 5) 1792 (5)],
  [o0 .iadd 1793, o0 .iaload 1794, oA (.aload_n 0) 1795 0, oA (.iload_n 3) 1796 3, oK (.bipush 6) 1798 (6), oN, o0 .iadd 1799, o0 .iaload 1800, oA (.ifCond .eq 7) 1803 1807, oN, oN, oK (.iconst 1) 1804 (1), oA (.goto 4) 1807 1808, oN, oN, oK (.iconst 0) 1808 (0), (.invokevirtual 162, 1811, 197, 6, 0, 1, 0, 0, 0, 0, [(0, 1416)]), oN, oN, oA (.aload_n 2) 1812 2, oA (.aload_n 0) 1813 0, oA (.iload_n 3) 1814 3, oK (.iconst 1) 1815 (1), o0 .iadd 1816, o0 .iaload 1817, oA (.aload_n 0) 1818 0, oA (.iload_n 3) 1819 3, oK (.iconst 2) 1820 (2), o0 .iadd 1821, o0 .iaload 1822, oA (.aload_n 0) 1823 0, oA (.iload_n 3) 1824 3],
  [oK (.iconst 3) 1825 (3), o0 .iadd 1826, o0 .iaload 1827, oA (.aload_n 0) 1828 0, oA (.iload_n 3) 1829 3, oK (.iconst 4) 1830 (4), o0 .iadd 1831, o0 .iaload 1832, oA (.aload_n 0) 1833 0, oA (.iload_n 3) 1834 3, oK (.iconst 5) 1835 (5), o0 .iadd 1836, o0 .iaload 1837, oA (.aload_n 0) 1838 0, oA (.iload_n 3) 1839 3, oK (.bipush 6) 1841 (6), oN, o0 .iadd 1842, o0 .iaload 1843, oA (.ifCond .eq 7) 1846 1850, oN, oN, oK (.iconst 1) 1847 (1), oA (.goto 4) 1850 1851, oN, oN, oK (.iconst 0) 1851 (0), (.invokevirtual 166, 1854, 346, 6, 11, 1, 0, 0, 0, 0, [(0, 2195)]), oN, oN, o0 .lcmp 1855, oA (.ifCond .eq 137) 1858 1992],
  [oN, oN, oK (.iconst 0) 1859 (0), (.ireturn, 1860, 0, 0, 0, 1, 0, 0, 0, 0, []), oA (.aload_n 1) 1861 1, oA (.aload_n 0) 1862 0, oA (.iload_n 3) 1863 3, oK (.iconst 1) 1864 (1), o0 .iadd 1865, o0 .iaload 1866, oA (.aload_n 0) 1867 0, oA (.iload_n 3) 1868 3, oK (.iconst 2) 1869 (2), o0 .iadd 1870, o0 .iaload 1871, oA (.aload_n 0) 1872 0, oA (.iload_n 3) 1873 3, oK (.iconst 3) 1874 (3), o0 .iadd 1875, o0 .iaload 1876, oA (.aload_n 0) 1877 0, oA (.iload_n 3) 1878 3, oK (.iconst 4) 1879 (4), o0 .iadd 1880, o0 .iaload 1881, oA (.aload_n 0) 1882 0, oA (.iload_n 3) 1883 3, oK (.iconst 5) 1884 (5), o0 .iadd 1885, o0 .iaload 1886, (.invokevirtual 167, 1889, 200, 5, 0, 0, 0, 0, 0, 0, [(0, 1426)]), oN],
  [oN, oA (.aload_n 2) 1890 2, oA (.aload_n 0) 1891 0, oA (.iload_n 3) 1892 3, oK (.iconst 1) 1893 (1), o0 .iadd 1894, o0 .iaload 1895, oA (.aload_n 0) 1896 0, oA (.iload_n 3) 1897 3, oK (.iconst 2) 1898 (2), o0 .iadd 1899, o0 .iaload 1900, oA (.aload_n 0) 1901 0, oA (.iload_n 3) 1902 3, oK (.iconst 3) 1903 (3), o0 .iadd 1904, o0 .iaload 1905, oA (.aload_n 0) 1906 0, oA (.iload_n 3) 1907 3, oK (.iconst 4) 1908 (4), o0 .iadd 1909, o0 .iaload 1910, oA (.aload_n 0) 1911 0, oA (.iload_n 3) 1912 3, oK (.iconst 5) 1913 (5), o0 .iadd 1914, o0 .iaload 1915, (.invokevirtual 170, 1918, 350, 5, 11, 0, 0, 0, 0, 0, [(0, 2208)]), oN, oN, oA (.if_icmp .eq 74) 1921 1992, oN],
  [oN, oK (.iconst 0) 1922 (0), (.ireturn, 1923, 0, 0, 0, 1, 0, 0, 0, 0, []), oA (.aload_n 1) 1924 1, oA (.aload_n 0) 1925 0, oA (.iload_n 3) 1926 3, oK (.iconst 1) 1927 (1), o0 .iadd 1928, o0 .iaload 1929, (.invokevirtual 171, 1932, 160, 1, 0, 0, 0, 0, 0, 0, [(0, 884)]), oN, oN, oA (.aload_n 2) 1933 2, oA (.aload_n 0) 1934 0, oA (.iload_n 3) 1935 3, oK (.iconst 1) 1936 (1), o0 .iadd 1937, o0 .iaload 1938, (.invokevirtual 174, 1941, 351, 1, 11, 0, 0, 0, 0, 0, [(0, 2212)]), oN, oN, oA (.if_icmp .eq 51) 1944 1992, oN, oN, oK (.iconst 0) 1945 (0), (.ireturn, 1946, 0, 0, 0, 1, 0, 0, 0, 0, []), oA (.aload_n 1) 1947 1, oA (.aload_n 0) 1948 0, oA (.iload_n 3) 1949 3, oK (.iconst 1) 1950 (1), o0 .iadd 1951, o0 .iaload 1952],
  [(.invokevirtual 175, 1955, 161, 1, 0, 0, 51, 1159, 0, 0, [(0, 888)]), oN, oN, oA (.aload_n 2) 1956 2, oA (.aload_n 0) 1957 0, oA (.iload_n 3) 1958 3, oK (.iconst 1) 1959 (1), o0 .iadd 1960, o0 .iaload 1961, (.invokevirtual 179, 1964, 352, 1, 11, 0, 0, 0, 0, 0, [(0, 2216)]), oN, oN, oA (.if_icmp .eq 28) 1967 1992, oN, oN, oK (.iconst 0) 1968 (0), (.ireturn, 1969, 0, 0, 0, 1, 0, 0, 0, 0, []), oA (.aload_n 1) 1970 1, oA (.aload_n 0) 1971 0, oA (.iload_n 3) 1972 3, oK (.iconst 1) 1973 (1), o0 .iadd 1974, o0 .iaload 1975, (.invokevirtual 180, 1978, 162, 1, 0, 0, 0, 0, 0, 0, [(0, 901)]), oN, oN, oA (.aload_n 2) 1979 2, oA (.aload_n 0) 1980 0, oA (.iload_n 3) 1981 3, oK (.iconst 1) 1982 (1), o0 .iadd 1983, o0 .iaload 1984],
  [(.invokevirtual 183, 1987, 355, 1, 11, 0, 0, 0, 0, 0, [(0, 2227)]), oN, oN, oA (.if_icmp .eq 5) 1990 1992, oN, oN, oK (.iconst 0) 1991 (0), (.ireturn, 1992, 0, 0, 0, 1, 0, 0, 0, 0, []), oC (.iinc 3 7) 1995 3 0 (7), oN, oN, oA (.goto (-1977)) 1998 18, oN, oN, oK (.iconst 1) 1999 (1), (.ireturn, 2000, 0, 0, 0, 1, 0, 0, 0, 0, [])]]
end
section
/-! THE RELATION of the abstract heap to the machine's -/
def xtv (f : Nat → Nat) : Value → Value
  | .ref k => .ref (f k)
  | v => v
def xfv (f : Nat → Nat) (h : xh) (k t i : Nat) : Value := match xft t i with
  | 2 => va_rf ((xR h k i).map f)
  | 3 => .long (xL h k i)
  | _ => .int (xI h k i)
def xav (f : Nat → Nat) (h : xh) (k t j : Nat) : Value := match t with
  | 20 => .int (xI h k j)
  | 21 => .int (xI h k j)
  | 22 => .long (xL h k j)
  | 23 => .int (xI h k j)
  | _ => va_rf ((xR h k j).map f)
def xaty (t : Nat) : FieldType := match t with
  | 20 => .int
  | 21 => .byte
  | 22 => .long
  | 23 => .boolean
  | 24 => .object "SoupNine$Told"
  | 25 => .object "SoupNine$Town"
  | 26 => .object "SoupNine$Evening"
  | 27 => .object "SoupNine$Book"
  | _ => .object "SoupNine$Sheet"
def xtys (cA : Nat → ClassId) : List (ClassId × FieldType) := [(cA 20, .int), (cA 21, .byte), (cA 22, .long), (cA 23, .boolean), (cA 24, .object "SoupNine$Told"), (cA 25, .object "SoupNine$Town"), (cA 26, .object "SoupNine$Evening"), (cA 27, .object "SoupNine$Book"), (cA 28, .object "SoupNine$Sheet")]
theorem xtys_at {cA : Nat → ClassId} {t : Nat} (h1 : 20 ≤ t) (h2 : t ≤ 28) : (xtys cA)[t - 20]? = some (cA t, xaty t) := by
  obtain h | h | h | h | h | h | h | h | h : t = 20 ∨ t = 21 ∨ t = 22 ∨ t = 23 ∨ t = 24 ∨ t = 25 ∨ t = 26 ∨ t = 27 ∨ t = 28 := by omega
  all_goals (subst h; rfl)
def xOK (dC : Nat → ClassId) (dI : Nat → Nat → Nat) (cA : Nat → ClassId) (f : Nat → Nat) (h : xh) (H : Heap) (k : Nat) : Prop :=
  ((xS h k).1 < 12 ∧ t_OB (f k) (dC (xS h k).1) (xnf (xS h k).1) (dI (xS h k).1) H (xfv f h k (xS h k).1)) ∨ ((20 ≤ (xS h k).1 ∧ (xS h k).1 ≤ 28) ∧ H[f k]? = some (arrV (cA (xS h k).1) (xS h k).2 (xav f h k (xS h k).1)))
def xRel (dC : Nat → ClassId) (dI : Nat → Nat → Nat) (cA : Nat → ClassId) (f : Nat → Nat) (B : Nat) (h0 h : xh) (H : Heap) : Prop :=
  64 ≤ xN h ∧ H.size = B + (xN h - 64) ∧ (∀ k, 64 ≤ k → k < xN h → xOK dC dI cA f h H k) ∧ (∀ k, xN h ≤ k → xS h k = (99, 0)) ∧ (∀ k, k < 64 → xS h k = xS h0 k ∧ xI h k = xI h0 k ∧ xR h k = xR h0 k) ∧ ∀ k, 64 ≤ k → (xS h k).1 = 21 → ∀ j, (xI h k j).toInt8.toInt32 = xI h k j
def xA (B : Nat) : Nat → Prop := fun q => B ≤ q
/-- the String constants: place in the class's pool, text, cell -/
def xstr : List (Nat × String × Nat) := [(140, "socks", 8), (145, "gloves", 9), (147, "bags", 10), (212, "even", 11), (214, "crowded", 12), (216, "empty", 13), (218, "last", 14), (220, "follow", 15), (222, "home", 16), (224, "soup", 17), (225, "pace", 18), (226, "cold", 19), (227, "talk", 20), (228, "drive", 21), (230, "ladle", 22), (232, "wait", 23), (234, "return", 24), (236, "night", 25), (238, "asked", 26), (240, "shoe", 27), (242, "foot", 28), (244, "hide", 29)]
/-- links between nest mates -/
def xnest : List (String × Nat × MethodName) := [("SoupNine", 9, ⟨"SoupNine$Told", "<init>", "()V"⟩), ("SoupNine$Told", 25, ⟨"SoupNine$Town", "<init>", "()V"⟩), ("SoupNine$Told", 32, ⟨"SoupNine$Evening", "<init>", "()V"⟩), ("SoupNine$Told", 39, ⟨"SoupNine$Book", "<init>", "()V"⟩), ("SoupNine$Told", 46, ⟨"SoupNine$Sheet", "<init>", "()V"⟩), ("SoupNine$Reader", 17, ⟨"SoupNine$Town", "<init>", "()V"⟩), ("SoupNine$Reader", 24, ⟨"SoupNine$Evening", "<init>", "()V"⟩), ("SoupNine$Reader", 31, ⟨"SoupNine$Book", "<init>", "()V"⟩), ("SoupNine$Reader", 38, ⟨"SoupNine$Sheet", "<init>", "()V"⟩), ("SoupNine", 35, ⟨"SoupNine$Walk", "<init>", "()V"⟩), ("SoupNine", 42, ⟨"SoupNine$Bowls", "<init>", "()V"⟩), ("SoupNine", 49, ⟨"SoupNine$Routes", "<init>", "()V"⟩), ("SoupNine", 56, ⟨"SoupNine$Search", "<init>", "()V"⟩), ("SoupNine$Book", 31, ⟨"SoupNine", "isThing", "(I)Z"⟩)]
def xovr : List String := ["SoupNine$Told", "SoupNine$Town", "SoupNine$Evening", "SoupNine$Book", "SoupNine$Sheet"]
def xCon (f : Nat → Nat) (h0 : xh) (B : Nat) (s : State) (H : Heap) : Prop :=
  (∀ k n, k < 64 → xS h0 k = (20, n) → va_T .int (f k) n (fun j => .int (xI h0 k j)) (xA B) s H) ∧
  (∀ k n, k < 64 → xS h0 k = (21, n) → va_T .byte (f k) n (fun j => .int (xI h0 k j)) (xA B) s H) ∧
  (∀ k n, k < 64 → xS h0 k = (30, n) → va_O "java/lang/String" (f k) (xA B) s H ∧ va_OF "java/lang/String" "coder" "B" (.int (xI h0 k 1)) (f k) (xA B) s H ∧ ∃ v, xR h0 k 0 = some v ∧ va_OF "java/lang/String" "value" "[B" (.ref (f v)) (f k) (xA B) s H) ∧
  (∀ k, k < 64 → (xS h0 k).1 = 20 ∨ (xS h0 k).1 = 21 ∨ (xS h0 k).1 = 30 ∨ (xS h0 k).1 = 99) ∧
  (va_Z "SoupNine$Reader" "FIRST_CODE" "[I" (.ref (f 1)) (xA B) s H ∧ va_Z "SoupNine$Reader" "NUMBERS" "[I" (.ref (f 2)) (xA B) s H ∧ va_Z "SoupNine$Reader" "LOWEST" "[I" (.ref (f 3)) (xA B) s H ∧ va_Z "SoupNine$Reader" "HIGHEST" "[I" (.ref (f 4)) (xA B) s H ∧ va_Z "java/lang/String" "COMPACT_STRINGS" "Z" (.int 1) (xA B) s H) ∧
  (va_Z "jdk/internal/util/Preconditions" "SIOOBE_FORMATTER" "Ljava/util/function/BiFunction;" .null (xA B) s H ∨ va_Z "jdk/internal/util/Preconditions" "SIOOBE_FORMATTER" "Ljava/util/function/BiFunction;" (.ref (f 5)) (xA B) s H) ∧
  (∀ q ∈ xstr, vk_R "SoupNine$Reader" q.1 q.2.1 (f q.2.2) s) ∧ (∀ q ∈ xnest, va_Nw (.methodLinkNest q.1 q.2.1 q.2.2 "SoupNine") s) ∧ ∀ C ∈ xovr, va_AO C s
theorem xCon_move {f : Nat → Nat} {h0 : xh} {B : Nat} {s U : State} {H H1 : Heap} (hW : s.WarmedH U.vm) (hq : ∀ a : Nat, a < H.size → ¬ xA B a → H1[a]? = H[a]?) (h : xCon f h0 B s H) : xCon f h0 B U H1 := by
  obtain ⟨c1, c2, c3, c4, ⟨z1, z2, z3, z4, z5⟩, z6, c6, c7, c8⟩ := h
  have hvm := hW.alike
  refine ⟨fun k n hk e => ((c1 k n hk e).moved hvm).kept hq, fun k n hk e => ((c2 k n hk e).moved hvm).kept hq, fun k n hk e => ?_, c4, ⟨(z1.moved hvm).kept hq, (z2.moved hvm).kept hq, (z3.moved hvm).kept hq, (z4.moved hvm).kept hq, (z5.moved hvm).kept hq⟩, ?_, fun q h => (c6 q h).warm hW, fun q h => (c7 q h).warmM hW, fun C h => (c8 C h).moved hvm⟩
  · obtain ⟨d1, d2, v, d3, d4⟩ := c3 k n hk e
    exact ⟨(d1.moved hvm).kept hq, (d2.moved hvm).kept hq, v, d3, (d4.moved hvm).kept hq⟩
  · rcases z6 with z6 | z6
    · exact Or.inl ((z6.moved hvm).kept hq)
    · exact Or.inr ((z6.moved hvm).kept hq)
/-- what a method's frame knows -/
def xEnv (p : Program) (s : State) (m : MethodId) (args : Array Value) (c : Code) (cc : ByteArray) (nL : Nat) (own : String) (dC : Nat → ClassId) (dI : Nat → Nat → Nat) (cA : Nat → ClassId) (f : Nat → Nat) (B : Nat) (h0 : xh) : Prop :=
  p.tables.exec = Jvm.exec ∧ c.code = cc ∧ c.maxLocals = nL ∧ s.vm.findClass own = some m.cls ∧ (∀ w ∈ lw_tbl, goodWord w = true → w.before args s = true) ∧ va_K (dC, dI) xcls (xtys cA) s ∧ xCon f h0 B s s.heap ∧ (∀ k, 64 ≤ k → f k = B + (k - 64)) ∧ B ≤ s.heap.size
section XR
variable {p : Program} {l : Launch} {e : Env} {R : Room} {s : State} {m : MethodId} {args : Array Value} {below : List Frame} {meth : Method} {c : Code} {H : Heap} {locs : List Loc} {cells slots : Nat} {Q : State → Prop}
variable {cc : ByteArray} {nL pc : Nat} {own : String} {dC : Nat → ClassId} {dI : Nat → Nat → Nat} {cA : Nat → ClassId} {f : Nat → Nat} {B : Nat} {h0 h : xh} {ls : Array Slot} {rest : List Value}
theorem xRel_lt (hR : xRel dC dI cA f B h0 h H) {k : Nat} (hk : (xS h k).1 ≠ 99) : k < xN h := by
  by_cases hlt : k < xN h
  · exact hlt
  · exact absurd (by rw [hR.2.2.2.1 k (by omega)]) hk
/-- an array cell, old or new -/
theorem xArr (E : xEnv p s m args c cc nL own dC dI cA f B h0) (hR : xRel dC dI cA f B h0 h H) (hS : va_S (xA B) s.heap H locs) {q t n : Nat} (ht : xS h q = (t, n)) (h1 : 20 ≤ t) (h2 : t ≤ 28) :
    ∃ cell : Cell, H[f q]? = some cell ∧ s.isArrayOf cell (xaty t) ∧ cell.vm ≠ .unknown ∧ n ≤ cell.slots.size ∧ cell.slots.size.toInt32 = Int32.ofNat n ∧ ∀ j, j < n → cell.slots[j]? = some (xav f h q t j) := by
  obtain ⟨-, -, -, -, -, hK, hC, hf, hB⟩ := E
  by_cases hq : q < 64
  · obtain ⟨e1, e2, e3⟩ := hR.2.2.2.2.1 q hq
    have ht0 : xS h0 q = (t, n) := e1.symm.trans ht
    have hT : ∀ {ty : FieldType} {v : Nat → Value}, va_T ty (f q) n v (xA B) s s.heap → ∃ cell : Cell, H[f q]? = some cell ∧ s.isArrayOf cell ty ∧ cell.vm ≠ .unknown ∧ n ≤ cell.slots.size ∧ cell.slots.size.toInt32 = Int32.ofNat n ∧ ∀ j, j < n → cell.slots[j]? = some (v j) := by
      rintro ty v ⟨cl, g1, g2, g3, g4, g5, g6, g7⟩
      exact ⟨cl, by rw [hS.2.1 _ (Array.getElem?_eq_some_iff.mp g1).1 g7]; exact g1, g2, g3, g4, g5, g6⟩
    rcases hC.2.2.2.1 q hq with h | h | h | h
    · have e : t = 20 := by rw [ht0] at h; exact h
      subst e
      have := hT (hC.1 q n hq ht0)
      simpa only [xaty, xav, e2] using this
    · have e : t = 21 := by rw [ht0] at h; exact h
      subst e
      have := hT (hC.2.1 q n hq ht0)
      simpa only [xaty, xav, e2] using this
    · rw [ht0] at h; exact absurd h (by show ¬ t = 30; omega)
    · rw [ht0] at h; exact absurd h (by show ¬ t = 99; omega)
  · have hN := xRel_lt hR (k := q) (by rw [ht]; show t ≠ 99; omega)
    rcases hR.2.2.1 q (by omega) hN with ⟨g, -⟩ | ⟨-, g⟩
    · rw [ht] at g; exact absurd g (by show ¬ t < 12; omega)
    · rw [ht] at g
      exact ⟨_, g, ((hK.2 _ _ (xtys_at h1 h2)).1 n _), (fun z => by cases z), Nat.le_of_eq (arrV_size _ _ _).symm, by rw [arrV_size] <;> rfl, fun j hj => arrV_read _ _ hj⟩
theorem xin {i : Int32} {n k : Nat} (h : vp_in i n) (hk : n ≤ k) : ¬ (i < 0 ∨ k ≤ i.toNatClampNeg) := by
  rintro (q | q)
  · exact h (Or.inl q)
  · exact h (Or.inr (by omega))
theorem xin_lt {i : Int32} {n : Nat} (h : vp_in i n) : i.toNatClampNeg < n := Nat.not_le.mp fun q => h (Or.inr q)
theorem xs_alen (E : xEnv p s m args c cc nL own dC dI cA f B h0) (hR : xRel dC dI cA f B h0 h H) (hS : va_S (xA B) s.heap H locs) {q : Nat} (ht : 20 ≤ (xS h q).1 ∧ (xS h q).1 ≤ 28) (hdg : decode cc pc = .ok (.arraylength, 1))
    (kk : W p l e R s m args below meth c H locs cells slots Q (F0 m (pc + 1) ls (.int (nI (xS h q).2) :: rest))) : W p l e R s m args below meth c H locs cells slots Q (F0 m pc ls (.ref (f q) :: rest)) := by
  obtain ⟨cell, g1, g2, -, -, g5, -⟩ := xArr E hR hS (q := q) (t := (xS h q).1) (n := (xS h q).2) rfl ht.1 ht.2
  exact W.alen E.1 E.2.1 g1 g2 g5 rfl rfl hdg kk
theorem xs_iald (E : xEnv p s m args c cc nL own dC dI cA f B h0) (hR : xRel dC dI cA f B h0 h H) (hS : va_S (xA B) s.heap H locs) {q : Nat} {i : Int32} (ht : xar h q 20 i) (hdg : decode cc pc = .ok (.iaload, 1))
    (kk : W p l e R s m args below meth c H locs cells slots Q (F0 m (pc + 1) ls (.int (xI h q i.toNatClampNeg) :: rest))) : W p l e R s m args below meth c H locs cells slots Q (F0 m pc ls (.int i :: .ref (f q) :: rest)) := by
  obtain ⟨cell, g1, g2, g3, g4, -, g6⟩ := xArr E hR hS (q := q) (t := 20) (n := (xS h q).2) (by rw [← ht.1]) (by omega) (by omega)
  exact W.iald E.1 E.2.1 g1 g2 g3 (xin ht.2 g4) (g6 _ (xin_lt ht.2)) rfl rfl hdg kk
theorem xs_bald (E : xEnv p s m args c cc nL own dC dI cA f B h0) (hR : xRel dC dI cA f B h0 h H) (hS : va_S (xA B) s.heap H locs) {q : Nat} {i : Int32} (ht : xar h q 21 i) (hdg : decode cc pc = .ok (.baload, 1))
    (kk : W p l e R s m args below meth c H locs cells slots Q (F0 m (pc + 1) ls (.int (xI h q i.toNatClampNeg) :: rest))) : W p l e R s m args below meth c H locs cells slots Q (F0 m pc ls (.int i :: .ref (f q) :: rest)) := by
  obtain ⟨cell, g1, g2, g3, g4, -, g6⟩ := xArr E hR hS (q := q) (t := 21) (n := (xS h q).2) (by rw [← ht.1]) (by omega) (by omega)
  exact W.bald E.1 E.2.1 g1 g2 g3 (xin ht.2 g4) (g6 _ (xin_lt ht.2)) rfl rfl hdg kk
theorem xs_zald (E : xEnv p s m args c cc nL own dC dI cA f B h0) (hR : xRel dC dI cA f B h0 h H) (hS : va_S (xA B) s.heap H locs) {q : Nat} {i : Int32} (ht : xar h q 23 i) (hdg : decode cc pc = .ok (.baload, 1))
    (kk : W p l e R s m args below meth c H locs cells slots Q (F0 m (pc + 1) ls (.int (xI h q i.toNatClampNeg) :: rest))) : W p l e R s m args below meth c H locs cells slots Q (F0 m pc ls (.int i :: .ref (f q) :: rest)) := by
  obtain ⟨cell, g1, g2, g3, g4, -, g6⟩ := xArr E hR hS (q := q) (t := 23) (n := (xS h q).2) (by rw [← ht.1]) (by omega) (by omega)
  exact W.zald E.1 E.2.1 g1 g2 g3 (xin ht.2 g4) (g6 _ (xin_lt ht.2)) rfl rfl hdg kk
theorem xs_lald (E : xEnv p s m args c cc nL own dC dI cA f B h0) (hR : xRel dC dI cA f B h0 h H) (hS : va_S (xA B) s.heap H locs) {q : Nat} {i : Int32} (ht : xar h q 22 i) (hdg : decode cc pc = .ok (.laload, 1))
    (kk : W p l e R s m args below meth c H locs cells slots Q (F0 m (pc + 1) ls (.long (xL h q i.toNatClampNeg) :: rest))) : W p l e R s m args below meth c H locs cells slots Q (F0 m pc ls (.int i :: .ref (f q) :: rest)) := by
  obtain ⟨cell, g1, g2, g3, g4, -, g6⟩ := xArr E hR hS (q := q) (t := 22) (n := (xS h q).2) (by rw [← ht.1]) (by omega) (by omega)
  exact W.lald E.1 E.2.1 g1 g2 g3 (xin ht.2 g4) (g6 _ (xin_lt ht.2)) rfl rfl hdg kk
theorem xs_aald (E : xEnv p s m args c cc nL own dC dI cA f B h0) (hR : xRel dC dI cA f B h0 h H) (hS : va_S (xA B) s.heap H locs) {q t : Nat} {i : Int32} (ht : xar h q t i) (h1 : 24 ≤ t) (h2 : t ≤ 28) (hdg : decode cc pc = .ok (.aaload, 1))
    (kk : W p l e R s m args below meth c H locs cells slots Q (F0 m (pc + 1) ls (va_rf ((xR h q i.toNatClampNeg).map f) :: rest))) : W p l e R s m args below meth c H locs cells slots Q (F0 m pc ls (.int i :: .ref (f q) :: rest)) := by
  obtain ⟨cell, g1, g2, g3, g4, -, g6⟩ := xArr E hR hS (q := q) (t := t) (n := (xS h q).2) (by rw [← ht.1]) (by omega) (by omega)
  have g7 := g6 _ (xin_lt ht.2)
  have e1 : xav f h q t i.toNatClampNeg = va_rf ((xR h q i.toNatClampNeg).map f) := by
    obtain h | h | h | h | h : t = 24 ∨ t = 25 ∨ t = 26 ∨ t = 27 ∨ t = 28 := by omega
    all_goals (subst h; rfl)
  have e2 : (xaty t).isReference = true := by
    obtain h | h | h | h | h : t = 24 ∨ t = 25 ∨ t = 26 ∨ t = 27 ∨ t = 28 := by omega
    all_goals (subst h; rfl)
  rw [e1] at g7
  exact W.aald E.1 E.2.1 g1 g2 e2 g3 (xin ht.2 g4) g7 rfl rfl hdg kk
end XR
end
section
/-! what writes do to the relation -/
section XWR
variable {p : Program} {l : Launch} {e : Env} {R : Room} {s : State} {m : MethodId} {args : Array Value} {below : List Frame} {meth : Method} {c : Code} {H : Heap} {locs : List Loc} {cells slots : Nat} {Q : State → Prop}
variable {cc : ByteArray} {nL pc : Nat} {own : String} {dC : Nat → ClassId} {dI : Nat → Nat → Nat} {cA : Nat → ClassId} {f : Nat → Nat} {B : Nat} {h0 h : xh} {ls : Array Slot} {rest : List Value}
theorem xRel_upd (hf : ∀ k, 64 ≤ k → f k = B + (k - 64)) (hR : xRel dC dI cA f B h0 h H) {q : Nat} (hq : 64 ≤ q) {h' : xh} {H' : Heap} (eS : xS h' = xS h) (eN : xN h' = xN h) (eo : ∀ k, k ≠ q → xI h' k = xI h k ∧ xL h' k = xL h k ∧ xR h' k = xR h k)
    (hz : H'.size = H.size) (ho : ∀ a, a ≠ f q → H'[a]? = H[a]?) (hc : xOK dC dI cA f h' H' q) (hb : (xS h q).1 = 21 → ∀ j, (xI h' q j).toInt8.toInt32 = xI h' q j) : xRel dC dI cA f B h0 h' H' := by
  refine ⟨by rw [eN]; exact hR.1, by rw [hz, eN]; exact hR.2.1, fun k h1 h2 => ?_, fun k hk => by rw [eS]; exact hR.2.2.2.1 k (by rw [← eN]; exact hk), fun k hk => ?_, fun k h1 h2 j => ?_⟩
  · by_cases hkq : k = q
    · subst hkq
      exact hc
    · obtain ⟨i1, i2, i3⟩ := eo k hkq
      have hne : f k ≠ f q := by rw [hf k h1, hf q hq]; omega
      have h0' := hR.2.2.1 k h1 (by rw [← eN]; exact h2)
      unfold xOK at h0' ⊢
      rw [eS]
      have e1 : xfv f h' k (xS h k).1 = xfv f h k (xS h k).1 := by funext i; simp only [xfv, i1, i2, i3]
      have e2 : xav f h' k (xS h k).1 = xav f h k (xS h k).1 := by funext i; simp only [xav, i1, i2, i3]
      rw [e1, e2]
      rcases h0' with ⟨a, b⟩ | ⟨a, b⟩
      · exact Or.inl ⟨a, b.kept (ho _ hne)⟩
      · exact Or.inr ⟨a, (ho _ hne).trans b⟩
  · obtain ⟨i1, i2, i3⟩ := eo k (by omega)
    rw [eS, i1, i3]
    exact hR.2.2.2.2.1 k hk
  · rw [eS] at h2
    by_cases hkq : k = q
    · subst hkq
      exact hb h2 j
    · rw [(eo k hkq).1]
      exact hR.2.2.2.2.2 k h1 h2 j
theorem xsI_at (h : xh) (q i : Nat) (v : Int32) : xI (xsI h q i v) q = va_up (xI h q) i v := by
  show va_up h.1 q (va_up (h.1 q) i v) q = va_up (h.1 q) i v
  simp [va_up]
theorem xsI_ne (h : xh) {q k : Nat} (i : Nat) (v : Int32) (hk : k ≠ q) : xI (xsI h q i v) k = xI h k := by
  show va_up h.1 q (va_up (h.1 q) i v) k = h.1 k
  simp [va_up, hk]
theorem xsL_at (h : xh) (q i : Nat) (v : Int64) : xL (xsL h q i v) q = va_up (xL h q) i v := by
  show va_up h.2.1 q (va_up (h.2.1 q) i v) q = va_up (h.2.1 q) i v
  simp [va_up]
theorem xsL_ne (h : xh) {q k : Nat} (i : Nat) (v : Int64) (hk : k ≠ q) : xL (xsL h q i v) k = xL h k := by
  show va_up h.2.1 q (va_up (h.2.1 q) i v) k = h.2.1 k
  simp [va_up, hk]
theorem xsR_at (h : xh) (q i : Nat) (v : Option Nat) : xR (xsR h q i v) q = va_up (xR h q) i v := by
  show va_up h.2.2.1 q (va_up (h.2.2.1 q) i v) q = va_up (h.2.2.1 q) i v
  simp [va_up]
theorem xsR_ne (h : xh) {q k : Nat} (i : Nat) (v : Option Nat) (hk : k ≠ q) : xR (xsR h q i v) k = xR h k := by
  show va_up h.2.2.1 q (va_up (h.2.2.1 q) i v) k = h.2.2.1 k
  simp [va_up, hk]
theorem xcp_at (h : xh) (s sp d dp n : Nat) : xI (xcp h s sp d dp n) d = va_cpy (xI h s) (xI h d) sp dp n := by
  show va_up h.1 d (va_cpy (h.1 s) (h.1 d) sp dp n) d = _
  simp [va_up]; rfl
theorem xcp_ne (h : xh) (s sp : Nat) {d k : Nat} (dp n : Nat) (hk : k ≠ d) : xI (xcp h s sp d dp n) k = xI h k := by
  show va_up h.1 d (va_cpy (h.1 s) (h.1 d) sp dp n) k = h.1 k
  simp [va_up, hk]
/-- the cell of an array that may be written -/
theorem xarrW (hR : xRel dC dI cA f B h0 h H) {q t n : Nat} (hq : 64 ≤ q) (ht : xS h q = (t, n)) (h1 : 20 ≤ t) (h2 : t ≤ 28) : H[f q]? = some (arrV (cA t) n (xav f h q t)) := by
  have hN := xRel_lt hR (k := q) (by rw [ht]; show t ≠ 99; omega)
  rcases hR.2.2.1 q hq hN with ⟨g, -⟩ | ⟨-, g⟩
  · rw [ht] at g; exact absurd g (by show ¬ t < 12; omega)
  · rw [ht] at g
    exact g
theorem xst (hf : ∀ k, 64 ≤ k → f k = B + (k - 64)) (hR : xRel dC dI cA f B h0 h H) {q t n i : Nat} {w : Value} (hq : 64 ≤ q) (ht : xS h q = (t, n)) (h1 : 20 ≤ t) (h2 : t ≤ 28) {h' : xh} {H' : Heap} (eS : xS h' = xS h) (eN : xN h' = xN h) (eo : ∀ k, k ≠ q → xI h' k = xI h k ∧ xL h' k = xL h k ∧ xR h' k = xR h k)
    (hv : ∀ j, updV (xav f h q t) i w j = xav f h' q t j) (e1 : H'[f q]? = some ((arrV (cA t) n (xav f h q t)).setSlot i w)) (hz : H'.size = H.size) (ho : ∀ a, a ≠ f q → H'[a]? = H[a]?) (hb : t = 21 → ∀ j, (xI h' q j).toInt8.toInt32 = xI h' q j) : xRel dC dI cA f B h0 h' H' := by
  refine xRel_upd hf hR hq eS eN eo hz ho (Or.inr ?_) (fun z => hb (by rw [ht] at z; exact z))
  rw [eS, ht]
  refine ⟨⟨h1, h2⟩, ?_⟩
  rw [e1, arrV_store, show updV (xav f h q t) i w = xav f h' q t from funext hv]
theorem xpair {α β : Type} {p : α × β} {a : α} (h : p.1 = a) : p = (a, p.2) := by rw [← h]
theorem xA_of (hf : ∀ k, 64 ≤ k → f k = B + (k - 64)) {q : Nat} (hq : 64 ≤ q) : xA B (f q) := by rw [hf q hq]; exact Nat.le_add_right _ _
theorem xs_iast (E : xEnv p s m args c cc nL own dC dI cA f B h0) (hR : xRel dC dI cA f B h0 h H) (hS : va_S (xA B) s.heap H locs) {q : Nat} {i v : Int32} (hq : 64 ≤ q) (ht : xar h q 20 i) (hdg : decode cc pc = .ok (.iastore, 1))
    (kk : ∀ (H1 : Heap) (locs1 : List Loc), xRel dC dI cA f B h0 (xsI h q i.toNatClampNeg v) H1 → va_S (xA B) s.heap H1 locs1 → W p l e R s m args below meth c H1 locs1 cells slots Q (F0 m (pc + 1) ls rest)) : W p l e R s m args below meth c H locs cells slots Q (F0 m pc ls (.int v :: .int i :: .ref (f q) :: rest)) := by
  obtain ⟨hx, hb, -, -, -, hK, -, hf, -⟩ := E
  have hS0 := xpair ht.1
  have hin : ¬ (i < 0 ∨ (arrV (cA 20) (xS h q).2 (xav f h q 20)).slots.size ≤ i.toNatClampNeg) := by rw [arrV_size]; exact ht.2
  refine W.iast hx hb (xarrW hR hq hS0 (by omega) (by omega)) ((hK.2 _ _ (xtys_at (t := 20) (by omega) (by omega))).1 _ _) (fun z => by cases z) hin rfl rfl hdg fun H1 e1 z oq => ?_
  refine kk H1 _ (xst hf hR hq hS0 (by omega) (by omega) (h' := xsI h q i.toNatClampNeg v) rfl rfl (fun k hk => ⟨xsI_ne h _ _ hk, rfl, rfl⟩) (fun j => ?_) e1 z oq (fun z => by omega)) (hS.put z oq (xA_of hf hq))
  show (if j = i.toNatClampNeg then Value.int v else .int (xI h q j)) = .int (xI (xsI h q i.toNatClampNeg v) q j)
  rw [xsI_at]; unfold va_up; split <;> rfl
theorem xs_bast (E : xEnv p s m args c cc nL own dC dI cA f B h0) (hR : xRel dC dI cA f B h0 h H) (hS : va_S (xA B) s.heap H locs) {q : Nat} {i v : Int32} (hq : 64 ≤ q) (ht : xar h q 21 i) (hv : v.toInt8.toInt32 = v) (hdg : decode cc pc = .ok (.bastore, 1))
    (kk : ∀ (H1 : Heap) (locs1 : List Loc), xRel dC dI cA f B h0 (xsI h q i.toNatClampNeg v) H1 → va_S (xA B) s.heap H1 locs1 → W p l e R s m args below meth c H1 locs1 cells slots Q (F0 m (pc + 1) ls rest)) : W p l e R s m args below meth c H locs cells slots Q (F0 m pc ls (.int v :: .int i :: .ref (f q) :: rest)) := by
  obtain ⟨hx, hb, -, -, -, hK, -, hf, -⟩ := E
  have hS0 := xpair ht.1
  have hin : ¬ (i < 0 ∨ (arrV (cA 21) (xS h q).2 (xav f h q 21)).slots.size ≤ i.toNatClampNeg) := by rw [arrV_size]; exact ht.2
  refine W.bast hx hb (xarrW hR hq hS0 (by omega) (by omega)) ((hK.2 _ _ (xtys_at (t := 21) (by omega) (by omega))).1 _ _) (fun z => by cases z) hin rfl rfl hdg fun H1 e1 z oq => ?_
  have en : narrow .byte (.int v) = .int v := by show Value.int v.toInt8.toInt32 = _; rw [hv]
  rw [en] at e1
  refine kk H1 _ (xst hf hR hq hS0 (by omega) (by omega) (h' := xsI h q i.toNatClampNeg v) rfl rfl (fun k hk => ⟨xsI_ne h _ _ hk, rfl, rfl⟩) (fun j => ?_) e1 z oq (fun _ j => ?_)) (hS.put z oq (xA_of hf hq))
  · show (if j = i.toNatClampNeg then Value.int v else .int (xI h q j)) = .int (xI (xsI h q i.toNatClampNeg v) q j)
    rw [xsI_at]; unfold va_up; split <;> rfl
  · rw [xsI_at]
    unfold va_up
    split
    · exact hv
    · exact hR.2.2.2.2.2 q hq ht.1 j
theorem xs_zast (E : xEnv p s m args c cc nL own dC dI cA f B h0) (hR : xRel dC dI cA f B h0 h H) (hS : va_S (xA B) s.heap H locs) {q : Nat} {i v : Int32} (hq : 64 ≤ q) (ht : xar h q 23 i) (hv : v = 0 ∨ v = 1) (hdg : decode cc pc = .ok (.bastore, 1))
    (kk : ∀ (H1 : Heap) (locs1 : List Loc), xRel dC dI cA f B h0 (xsI h q i.toNatClampNeg v) H1 → va_S (xA B) s.heap H1 locs1 → W p l e R s m args below meth c H1 locs1 cells slots Q (F0 m (pc + 1) ls rest)) : W p l e R s m args below meth c H locs cells slots Q (F0 m pc ls (.int v :: .int i :: .ref (f q) :: rest)) := by
  obtain ⟨hx, hb, -, -, -, hK, -, hf, -⟩ := E
  have hS0 := xpair ht.1
  have hin : ¬ (i < 0 ∨ (arrV (cA 23) (xS h q).2 (xav f h q 23)).slots.size ≤ i.toNatClampNeg) := by rw [arrV_size]; exact ht.2
  refine W.zast hx hb (xarrW hR hq hS0 (by omega) (by omega)) ((hK.2 _ _ (xtys_at (t := 23) (by omega) (by omega))).1 _ _) (fun z => by cases z) hin rfl rfl hdg fun H1 e1 z oq => ?_
  have en : narrow .boolean (.int v) = .int v := by rcases hv with rfl | rfl <;> rfl
  rw [en] at e1
  refine kk H1 _ (xst hf hR hq hS0 (by omega) (by omega) (h' := xsI h q i.toNatClampNeg v) rfl rfl (fun k hk => ⟨xsI_ne h _ _ hk, rfl, rfl⟩) (fun j => ?_) e1 z oq (fun z => by omega)) (hS.put z oq (xA_of hf hq))
  show (if j = i.toNatClampNeg then Value.int v else .int (xI h q j)) = .int (xI (xsI h q i.toNatClampNeg v) q j)
  rw [xsI_at]; unfold va_up; split <;> rfl
theorem xs_last (E : xEnv p s m args c cc nL own dC dI cA f B h0) (hR : xRel dC dI cA f B h0 h H) (hS : va_S (xA B) s.heap H locs) {q : Nat} {i : Int32} {v : Int64} (hq : 64 ≤ q) (ht : xar h q 22 i) (hdg : decode cc pc = .ok (.lastore, 1))
    (kk : ∀ (H1 : Heap) (locs1 : List Loc), xRel dC dI cA f B h0 (xsL h q i.toNatClampNeg v) H1 → va_S (xA B) s.heap H1 locs1 → W p l e R s m args below meth c H1 locs1 cells slots Q (F0 m (pc + 1) ls rest)) : W p l e R s m args below meth c H locs cells slots Q (F0 m pc ls (.long v :: .int i :: .ref (f q) :: rest)) := by
  obtain ⟨hx, hb, -, -, -, hK, -, hf, -⟩ := E
  have hS0 := xpair ht.1
  have hin : ¬ (i < 0 ∨ (arrV (cA 22) (xS h q).2 (xav f h q 22)).slots.size ≤ i.toNatClampNeg) := by rw [arrV_size]; exact ht.2
  refine W.last hx hb (xarrW hR hq hS0 (by omega) (by omega)) ((hK.2 _ _ (xtys_at (t := 22) (by omega) (by omega))).1 _ _) (fun z => by cases z) hin rfl rfl hdg fun H1 e1 z oq => ?_
  refine kk H1 _ (xst hf hR hq hS0 (by omega) (by omega) (h' := xsL h q i.toNatClampNeg v) rfl rfl (fun k hk => ⟨rfl, xsL_ne h _ _ hk, rfl⟩) (fun j => ?_) e1 z oq (fun z => by omega)) (hS.put z oq (xA_of hf hq))
  show (if j = i.toNatClampNeg then Value.long v else .long (xL h q j)) = .long (xL (xsL h q i.toNatClampNeg v) q j)
  rw [xsL_at]; unfold va_up; split <;> rfl
theorem xav_q {t : Nat} (h1 : 24 ≤ t) (h2 : t ≤ 28) (h : xh) (q j : Nat) : xav f h q t j = va_rf ((xR h q j).map f) := by
  obtain h | h | h | h | h : t = 24 ∨ t = 25 ∨ t = 26 ∨ t = 27 ∨ t = 28 := by omega
  all_goals (subst h; rfl)
def xarc (t : Nat) : Nat := t - 23
theorem xs_aast (E : xEnv p s m args c cc nL own dC dI cA f B h0) (hR : xRel dC dI cA f B h0 h H) (hS : va_S (xA B) s.heap H locs) {q t v : Nat} {i : Int32} (hq : 64 ≤ q) (ht : xar h q t i) (h1 : 24 ≤ t) (h2 : t ≤ 28) (hv : 64 ≤ v) (hvS : xS h v = (t - 23, 0)) (hdg : decode cc pc = .ok (.aastore, 1))
    (kk : ∀ (H1 : Heap) (locs1 : List Loc), xRel dC dI cA f B h0 (xsR h q i.toNatClampNeg (some v)) H1 → va_S (xA B) s.heap H1 locs1 → W p l e R s m args below meth c H1 locs1 cells slots Q (F0 m (pc + 1) ls rest)) : W p l e R s m args below meth c H locs cells slots Q (F0 m pc ls (.ref (f v) :: .int i :: .ref (f q) :: rest)) := by
  obtain ⟨hx, hb, -, -, -, hK, -, hf, -⟩ := E
  have hS0 := xpair ht.1
  have hin : ¬ i < 0 ∧ i.toNatClampNeg < (arrV (cA t) (xS h q).2 (xav f h q t)).slots.size := ⟨fun z => ht.2 (Or.inl z), by rw [arrV_size]; exact xin_lt ht.2⟩
  have hvN := xRel_lt hR (k := v) (by rw [hvS]; show t - 23 ≠ 99; omega)
  have hOB : t_OB (f v) (dC (t - 23)) (xnf (t - 23)) (dI (t - 23)) H (xfv f h v (t - 23)) := by
    rcases hR.2.2.1 v hv hvN with ⟨-, g⟩ | ⟨g, -⟩
    · rw [hvS] at g; exact g
    · rw [hvS] at g; exact absurd g.1 (by show ¬ 20 ≤ t - 23; omega)
  obtain ⟨cv, g1, g2, g3, -⟩ := hOB
  have key : ∀ (c : Nat) (r : vw_C), xcls[c]? = some r → s.vm.findClass r.1 = some (dC c) := fun c r hr => (hK.1 c r hr).2.1
  obtain ⟨kA, comp, k1, k2, k3, C, hC, hcl⟩ : ∃ (kA : Class) (comp : ClassId), s.vm.classes[cA t]? = some kA ∧ kA.kind = .array comp (xaty t) ∧ comp = dC (t - 23) ∧ ∃ C, xcls[t - 23]? = some C ∧ (xaty t).isReference = true := by
    have ha := (hK.2 _ _ (xtys_at (cA := cA) (t := t) (by omega) h2)).2
    obtain h | h | h | h | h : t = 24 ∨ t = 25 ∨ t = 26 ∨ t = 27 ∨ t = 28 := by omega
    all_goals (
      subst h
      obtain ⟨kA, comp, k1, k2, k3, -⟩ := ha
      first
        | exact ⟨kA, comp, k1, k2, Option.some.inj (k3.symm.trans (key 1 _ rfl)), _, rfl, rfl⟩
        | exact ⟨kA, comp, k1, k2, Option.some.inj (k3.symm.trans (key 2 _ rfl)), _, rfl, rfl⟩
        | exact ⟨kA, comp, k1, k2, Option.some.inj (k3.symm.trans (key 3 _ rfl)), _, rfl, rfl⟩
        | exact ⟨kA, comp, k1, k2, Option.some.inj (k3.symm.trans (key 4 _ rfl)), _, rfl, rfl⟩
        | exact ⟨kA, comp, k1, k2, Option.some.inj (k3.symm.trans (key 5 _ rfl)), _, rfl, rfl⟩)
  subst k3
  have hcls := (hK.1 _ _ hC).2
  obtain ⟨kC, hkC, -⟩ := hcls.2
  refine W.aast hx hb (xarrW hR hq hS0 (by omega) h2) (fun _ z => by cases z) (fun z => by cases z) k1 k2 hcl hkC hin g1 (fun _ z => by rw [g3] at z; cases z) (by rw [g2]; exact hkC) (by rw [g2]; exact va_assign hcls) rfl rfl hdg fun H1 e1 z oq => ?_
  refine kk H1 _ (xst hf hR hq hS0 (by omega) h2 (h' := xsR h q i.toNatClampNeg (some v)) rfl rfl (fun k hk => ⟨rfl, rfl, xsR_ne h _ _ hk⟩) (fun j => ?_) e1 z oq (fun z => by omega)) (hS.put z oq (xA_of hf hq))
  rw [xav_q h1 h2]
  show (if j = i.toNatClampNeg then Value.ref (f v) else xav f h q t j) = _
  rw [xav_q h1 h2, xsR_at]; unfold va_up; split <;> rfl
end XWR
end
section
/-! fields, makings, copies -/
theorem xcls_in : ∀ q ∈ xcls, ∀ w ∈ u_ws q.1 q.2.1 q.2.2, w ∈ lw_tbl := by decide +kernel
theorem xcls_good : ∀ q ∈ xcls, ∀ w ∈ u_ws q.1 q.2.1 q.2.2, goodWord w = true := by decide +kernel
theorem xcls_nm : ∀ q ∈ xcls, ∀ a, a < q.2.2 → ∀ b, b < q.2.2 → a ≠ b → (q.2.1 a).2.1 ≠ (q.2.1 b).2.1 := by decide +kernel
theorem xcls_ty : ∀ t, t < 12 → ∀ k, k < xnf t → ((xcls[t]?).bind (fun q => parseFieldDescriptor (q.2.1 k).2.2.1)) = some (xtyf t k) := by decide +kernel
theorem xcls_own : ∀ q ∈ xcls, ∀ k, k < q.2.2 → (q.2.1 k).1 = q.1 := by decide +kernel
theorem xcls_nf : ∀ t, t < 12 → (xcls[t]?).map (fun q => q.2.2) = some (xnf t) := by decide +kernel
/-- a field's kind and its type -/
def xftb (t k : Nat) : Bool := match xft t k with
  | 0 => decide (xtyf t k = .int)
  | 1 => decide (xtyf t k = .boolean)
  | 2 => (match xtyf t k with
    | .object _ => true
    | .array _ => true
    | _ => false)
  | 3 => decide (xtyf t k = .long)
  | _ => false
theorem xft_ok : ∀ t, t < 12 → ∀ k, k < xnf t → xftb t k = true := by decide +kernel
end
section
/-! fields, makings, copies of rows: the machine's instructions over the relation -/
section XOP
variable {p : Program} {l : Launch} {e : Env} {R : Room} {s : State} {m : MethodId} {args : Array Value} {below : List Frame} {meth : Method} {c : Code} {H : Heap} {locs : List Loc} {cells slots : Nat} {Q : State → Prop}
variable {cc : ByteArray} {nL pc : Nat} {own : String} {dC : Nat → ClassId} {dI : Nat → Nat → Nat} {cA : Nat → ClassId} {f : Nat → Nat} {B : Nat} {h0 h : xh} {ls : Array Slot} {rest : List Value}
/-- a type by a field's kind -/
theorem xft_cases {t k : Nat} (ht : t < 12) (hk : k < xnf t) : (xft t k = 0 ∧ xtyf t k = .int) ∨ (xft t k = 1 ∧ xtyf t k = .boolean) ∨ (xft t k = 3 ∧ xtyf t k = .long) ∨ (xft t k = 2 ∧ ((∃ C, xtyf t k = .object C) ∨ ∃ u, xtyf t k = .array u)) := by
  have h := xft_ok t ht k hk
  unfold xftb at h
  split at h
  · next e => exact Or.inl ⟨e, of_decide_eq_true h⟩
  · next e => exact Or.inr (Or.inl ⟨e, of_decide_eq_true h⟩)
  · next e =>
    refine Or.inr (Or.inr (Or.inr ⟨e, ?_⟩))
    split at h
    · next C e2 => exact Or.inl ⟨C, e2⟩
    · next u e2 => exact Or.inr ⟨u, e2⟩
    · cases h
  · next e => exact Or.inr (Or.inr (Or.inl ⟨e, of_decide_eq_true h⟩))
  · cases h
/-- the rows of a kind of object -/
theorem xrow {t : Nat} (ht : t < 12) : ∃ q, xcls[t]? = some q ∧ q ∈ xcls ∧ q.2.2 = xnf t ∧ ∀ k, k < xnf t → parseFieldDescriptor (q.2.1 k).2.2.1 = some (xtyf t k) := by
  have h1 := xcls_nf t ht
  cases hq : xcls[t]? with
  | none => rw [hq] at h1; cases h1
  | some q =>
    rw [hq] at h1
    refine ⟨q, rfl, List.mem_of_getElem? hq, Option.some.inj h1, fun k hk => ?_⟩
    have h2 := xcls_ty t ht k hk
    rw [hq] at h2
    exact h2
theorem xobj (hR : xRel dC dI cA f B h0 h H) {q t n : Nat} (hq : 64 ≤ q) (ht : xS h q = (t, n)) (h1 : t < 12) : t_OB (f q) (dC t) (xnf t) (dI t) H (xfv f h q t) := by
  have hN := xRel_lt hR (k := q) (by rw [ht]; show t ≠ 99; omega)
  rcases hR.2.2.1 q hq hN with ⟨-, g⟩ | ⟨g, -⟩
  · rw [ht] at g; exact g
  · rw [ht] at g; exact absurd g.1 (by show ¬ 20 ≤ t; omega)
/-- objects of our kinds are new cells -/
theorem xnew64 (E : xEnv p s m args c cc nL own dC dI cA f B h0) (hR : xRel dC dI cA f B h0 h H) {q t n : Nat} (ht : xS h q = (t, n)) (h1 : t < 12) : 64 ≤ q := by
  obtain ⟨-, -, -, -, -, -, hC, -, -⟩ := E
  by_cases hq : q < 64
  · have e1 := (hR.2.2.2.2.1 q hq).1
    rw [ht] at e1
    rcases hC.2.2.2.1 q hq with h | h | h | h <;> rw [← e1] at h <;> (have h' : t = _ := h; omega)
  · omega
theorem xs_get (E : xEnv p s m args c cc nL own dC dI cA f B h0) (hR : xRel dC dI cA f B h0 h H) {q t k idx : Nat} {r : vw_C} (ht : xS h q = (t, 0)) (h1 : t < 12) (hk : k < xnf t) (hr : xcls[t]? = some r)
    (hl : Cond.fieldLink own idx r.1 (r.2.1 k).2.1 (r.2.1 k).2.2.1 ∈ lw_tbl) (hdg : decode cc pc = .ok (.getfield idx, 3))
    (kk : W p l e R s m args below meth c H locs cells slots Q (F0 m (pc + 3) ls (xfv f h q t k :: rest))) : W p l e R s m args below meth c H locs cells slots Q (F0 m pc ls (.ref (f q) :: rest)) := by
  have hq := xnew64 E hR ht h1
  obtain ⟨hx, hb, -, hown, hts, hK, -, hf, -⟩ := E
  obtain ⟨cl, g1, g2, g3, g4⟩ := xobj hR hq ht h1
  obtain ⟨r', hr', hm, hn, hty⟩ := xrow h1
  have er : r' = r := Option.some.inj (hr'.symm.trans hr)
  subst er
  have hk' : k < r'.2.2 := by rw [hn]; exact hk
  obtain ⟨hSl, hfc, kC, hkC, hkind⟩ := hK.1 t _ hr
  obtain ⟨cf, kf, fi, fd, hi, hsl⟩ := hSl k hk'
  have hown2 := xcls_own r' hm k hk'
  rw [hown2] at hi
  have hlay := u_lays (ws := lw_tbl.filter goodWord) (s := s) (args := args) (fun w hw => hts w (List.mem_filter.mp hw).1 (List.mem_filter.mp hw).2) (fun w hw => List.mem_filter.mpr ⟨xcls_in r' hm w hw, xcls_good r' hm w hw⟩) hk'
  rw [hown2] at hlay
  refine W.getf hx hb hown (hts _ hl rfl) hi (u_facts hfc hkC hlay hi).1 g1 (by rw [g3]; exact fun z => by cases z) ?_ rfl rfl hdg kk
  rw [hsl]
  exact g4 k hk
theorem xOK_field {t k q : Nat} {v : Value} {h' : xh} {H H' : Heap} (ht : xS h' q = (t, 0)) (h1 : t < 12) {cl : Cell} (g2 : cl.cls = dC t) (g3 : cl.vm = .none) (g4 : ∀ i, i < xnf t → cl.slots[dI t i]? = some (xfv f h q t i)) (hap : ∀ x y, x < xnf t → y < xnf t → x ≠ y → dI t x ≠ dI t y) (hk : k < xnf t)
    (e1 : H'[f q]? = some (cl.setSlot (dI t k) v)) (hv : ∀ i, i < xnf t → updV (xfv f h q t) k v i = xfv f h' q t i) : xOK dC dI cA f h' H' q := by
  refine Or.inl ?_
  rw [ht]
  exact ⟨h1, t_OB.to (V := updV (xfv f h q t) k v) ⟨_, e1, g2, g3, t_set g4 hap hk v⟩ hv⟩
theorem xs_put (E : xEnv p s m args c cc nL own dC dI cA f B h0) (hR : xRel dC dI cA f B h0 h H) (hS : va_S (xA B) s.heap H locs) {q t k idx : Nat} {r : vw_C} {v : Value} {h' : xh} (hq : 64 ≤ q) (ht : xS h q = (t, 0)) (h1 : t < 12) (hk : k < xnf t) (hr : xcls[t]? = some r)
    (hl : Cond.fieldLink own idx r.1 (r.2.1 k).2.1 (r.2.1 k).2.2.1 ∈ lw_tbl) (hfin : (r.2.1 k).2.2.2 = false ∨ (meth.name = "<init>" ∧ r.1 = own)) (hn : narrow (xtyf t k) v = v) (hfit : fits (xtyf t k) v = true)
    (eS : xS h' = xS h) (eN : xN h' = xN h) (eo : ∀ k, k ≠ q → xI h' k = xI h k ∧ xL h' k = xL h k ∧ xR h' k = xR h k) (hv : ∀ i, i < xnf t → updV (xfv f h q t) k v i = xfv f h' q t i)
    (hdg : decode cc pc = .ok (.putfield idx, 3))
    (kk : ∀ (H1 : Heap) (locs1 : List Loc), xRel dC dI cA f B h0 h' H1 → va_S (xA B) s.heap H1 locs1 → W p l e R s m args below meth c H1 locs1 cells slots Q (F0 m (pc + 3) ls rest)) : W p l e R s m args below meth c H locs cells slots Q (F0 m pc ls (v :: .ref (f q) :: rest)) := by
  obtain ⟨hx, hb, -, hown, hts, hK, -, hf, -⟩ := E
  obtain ⟨cl, g1, g2, g3, g4⟩ := xobj hR hq ht h1
  obtain ⟨r', hr', hm, hnn, hty⟩ := xrow h1
  have er : r' = r := Option.some.inj (hr'.symm.trans hr)
  subst er
  have hk' : k < r'.2.2 := by rw [hnn]; exact hk
  obtain ⟨hSl, hfc, kC, hkC, hkind⟩ := hK.1 t _ hr
  obtain ⟨cf, kf, fi, fd, hi, hsl⟩ := hSl k hk'
  have hown2 := xcls_own r' hm k hk'
  rw [hown2] at hi
  have htsF : ∀ w ∈ lw_tbl.filter goodWord, w.before args s = true := fun w hw => hts w (List.mem_filter.mp hw).1 (List.mem_filter.mp hw).2
  have hin : ∀ w ∈ u_ws r'.1 r'.2.1 r'.2.2, w ∈ lw_tbl.filter goodWord := fun w hw => List.mem_filter.mpr ⟨xcls_in r' hm w hw, xcls_good r' hm w hw⟩
  have hlay := u_lays htsF hin hk'
  rw [hown2] at hlay
  have hap : ∀ x y, x < xnf t → y < xnf t → x ≠ y → dI t x ≠ dI t y := by
    intro x y hx hy hne
    exact va_apart (D := (dC, dI)) (own := own) htsF hin (xtyf t) (fun k hk => hty k (by rw [← hnn]; exact hk)) (xcls_nm r' hm) hK hr x y (by rw [hnn]; exact hx) (by rw [hnn]; exact hy) hne
  have fin : ∀ (H1 : Heap) (k9 : Nat), H1[f q]? = some (cl.setSlot (dI t k) v) → H1.size = H.size → (∀ a, a ≠ f q → H1[a]? = H[a]?) → W p l e R s m args below meth c H1 (locs ++ [⟨f q, k9⟩]) cells slots Q (F0 m (pc + 3) ls rest) := by
    intro H1 k9 e1 z oq
    exact kk H1 _ (xRel_upd hf hR hq eS eN eo z oq (xOK_field (h := h) (H := H) (by rw [eS]; exact ht) h1 g2 g3 g4 hap hk e1 hv) (fun z => by rw [ht] at z; exact absurd z (by show ¬ t = 21; omega))) (hS.put z oq (xA_of hf hq))
  have hs0 : fd.slot < cl.slots.size := by rw [hsl]; exact k2_hasslot (g4 k hk)
  have hst := (u_facts hfc hkC hlay hi).1
  have hfl : (r'.2.1 k).2.2.2 = false ∨ (r'.2.1 k).2.2.2 = true := by cases (r'.2.1 k).2.2.2 <;> simp
  rcases hfl with hfl | hfl
  · have hl2 := htsF _ (hin _ (u_in_lay hk'))
    unfold u_lay at hl2
    rw [if_neg (by rw [hfl]; decide), hown2] at hl2
    have h6 := u_store hfc hkC hkind hl2 hi (hty k hk) hn hfit
    refine W.putK hx hb (f := fd) ⟨hown, hts _ hl rfl, ⟨_, _, _, hi⟩, hst⟩ (by rw [g2]; exact h6) g1 g3 hs0 rfl rfl hdg fun H1 e1 z oq => ?_
    rw [hsl] at e1 ⊢
    exact fin H1 _ e1 z oq
  · rcases hfin with hfin | ⟨hin2, hdecl⟩
    · rw [hfl] at hfin; cases hfin
    · have hl2 := htsF _ (hin _ (u_in_lay hk'))
      unfold u_lay at hl2
      rw [if_pos hfl, hown2] at hl2
      have hcf : m.cls = cf := by
        obtain ⟨_, _, c', _, _, _, -, -, hf', -, -, -, hown3, -⟩ := Cond.laysFinal_spec hl2
        have e1 : c' = cf := by have := hi.symm.trans hf'; simp at this; exact this.1.symm
        rw [hdecl] at hown3
        rw [← e1]; exact Option.some.inj (hown.symm.trans hown3)
      have h6 := u_fits hfc hkC hkind (Or.inr hl2) hi (hty k hk) hn hfit
      refine W.putFinK hx hb hown (hts _ hl rfl) hi hst hcf hin2 (by rw [g2]; exact h6) g1 g3 hs0 rfl rfl hdg fun H1 e1 z oq => ?_
      rw [hsl] at e1 ⊢
      exact fin H1 _ e1 z oq
end XOP
end
section
/-! makings and copies -/
theorem xcls_inst : ∀ q ∈ xcls, Cond.instantiable q.1 q.2.2 ∈ lw_tbl ∧ Cond.initialized q.1 ∈ lw_tbl := by decide +kernel
theorem xarr_in : Cond.arrayClass .int ∈ lw_tbl ∧ Cond.arrayClass .byte ∈ lw_tbl ∧ Cond.arrayClass .long ∈ lw_tbl ∧ Cond.arrayClass .boolean ∈ lw_tbl := by decide +kernel
theorem xsys_in : Cond.native arraycopyName ∈ lw_tbl ∧ Cond.static arraycopyName ∈ lw_tbl ∧ Cond.initialized "java/lang/System" ∈ lw_tbl := by decide +kernel
theorem xsys_good : goodWord (Cond.native arraycopyName) = true ∧ goodWord (Cond.static arraycopyName) = true ∧ goodWord (Cond.initialized "java/lang/System") = true := by decide +kernel
section XMK
variable {p : Program} {l : Launch} {e : Env} {R : Room} {s : State} {m : MethodId} {args : Array Value} {below : List Frame} {meth : Method} {c : Code} {H : Heap} {locs : List Loc} {cells slots : Nat} {Q : State → Prop}
variable {cc : ByteArray} {nL pc : Nat} {own : String} {dC : Nat → ClassId} {dI : Nat → Nat → Nat} {cA : Nat → ClassId} {f : Nat → Nat} {B : Nat} {h0 h : xh} {ls : Array Slot} {rest : List Value}
theorem xnw_S (h : xh) (t n k : Nat) : xS (xnw h t n) k = if k = xN h then (t, n) else xS h k := rfl
theorem xnw_I (h : xh) (t n k : Nat) : xI (xnw h t n) k = if k = xN h then (fun _ => 0) else xI h k := rfl
theorem xnw_L (h : xh) (t n k : Nat) : xL (xnw h t n) k = if k = xN h then (fun _ => 0) else xL h k := rfl
theorem xnw_R (h : xh) (t n k : Nat) : xR (xnw h t n) k = if k = xN h then (fun _ => none) else xR h k := rfl
theorem xnw_N (h : xh) (t n : Nat) : xN (xnw h t n) = xN h + 1 := rfl
theorem xRel_new (hf : ∀ k, 64 ≤ k → f k = B + (k - 64)) (hR : xRel dC dI cA f B h0 h H) {t n : Nat} {H' : Heap} (hc : xOK dC dI cA f (xnw h t n) H' (xN h)) (z : H'.size = H.size + 1) (o : ∀ q, q < H.size → H'[q]? = H[q]?) : xRel dC dI cA f B h0 (xnw h t n) H' := by
  have h64 := hR.1
  refine ⟨by rw [xnw_N]; omega, by rw [z, xnw_N, hR.2.1]; omega, fun k h1 h2 => ?_, fun k hk => ?_, fun k hk => ?_, fun k h1 h2 j => ?_⟩
  · rw [xnw_N] at h2
    by_cases hkN : k = xN h
    · subst hkN
      exact hc
    · have hlt : k < xN h := by omega
      have hs := hR.2.2.1 k h1 hlt
      have ho : H'[f k]? = H[f k]? := o _ (by rw [hf k h1, hR.2.1]; omega)
      unfold xOK at hs ⊢
      have eS : xS (xnw h t n) k = xS h k := by rw [xnw_S, if_neg hkN]
      have e1 : xfv f (xnw h t n) k (xS h k).1 = xfv f h k (xS h k).1 := by funext i; simp only [xfv, xnw_I, xnw_L, xnw_R, if_neg hkN]
      have e2 : xav f (xnw h t n) k (xS h k).1 = xav f h k (xS h k).1 := by funext i; simp only [xav, xnw_I, xnw_L, xnw_R, if_neg hkN]
      rw [eS, e1, e2]
      rcases hs with ⟨a, b⟩ | ⟨a, b⟩
      · exact Or.inl ⟨a, b.kept ho⟩
      · exact Or.inr ⟨a, ho.trans b⟩
  · rw [xnw_N] at hk
    rw [xnw_S, if_neg (by omega)]
    exact hR.2.2.2.1 k (by omega)
  · have hne : k ≠ xN h := by omega
    rw [xnw_S, xnw_I, xnw_R, if_neg hne, if_neg hne, if_neg hne]
    exact hR.2.2.2.2.1 k hk
  · by_cases hkN : k = xN h
    · rw [xnw_I, if_pos hkN]; rfl
    · rw [xnw_S, if_neg hkN] at h2
      rw [xnw_I, if_neg hkN]
      exact hR.2.2.2.2.2 k h1 h2 j
theorem xS_new (hS : va_S (xA B) s.heap H locs) {H' : Heap} (z : H'.size = H.size + 1) (o : ∀ q, q < H.size → H'[q]? = H[q]?) : va_S (xA B) s.heap H' locs :=
  ⟨Nat.le_trans hS.1 (by omega), fun x h1 h2 => (o x (Nat.lt_of_lt_of_le h1 hS.1)).trans (hS.2.1 x h1 h2), hS.2.2⟩
theorem xfN (hf : ∀ k, 64 ≤ k → f k = B + (k - 64)) (hR : xRel dC dI cA f B h0 h H) : f (xN h) = H.size := by rw [hf _ hR.1, hR.2.1]
theorem xs_new (E : xEnv p s m args c cc nL own dC dI cA f B h0) (hR : xRel dC dI cA f B h0 h H) (hS : va_S (xA B) s.heap H locs) {t idx : Nat} {r : vw_C} (h1 : t < 12) (hr : xcls[t]? = some r) (hl : Cond.classLink own idx r.1 ∈ lw_tbl) (hcells : cells + 1 ≤ R.cells) (hslots : slots + xnf t ≤ R.slots) (hdg : decode cc pc = .ok (.new idx, 3))
    (kk : ∀ H1 : Heap, xRel dC dI cA f B h0 (xnw h t 0) H1 → va_S (xA B) s.heap H1 locs → W p l e R s m args below meth c H1 locs (cells + 1) (slots + xnf t) Q (F0 m (pc + 3) ls (.ref (f (xN h)) :: rest))) : W p l e R s m args below meth c H locs cells slots Q (F0 m pc ls rest) := by
  obtain ⟨hx, hb, -, hown, hts, hK, -, hf, -⟩ := E
  obtain ⟨r', hr', hm, hnn, hty⟩ := xrow h1
  have er : r' = r := Option.some.inj (hr'.symm.trans hr)
  subst er
  have hKn := hK.1 t _ hr
  have htsF : ∀ w ∈ lw_tbl.filter goodWord, w.before args s = true := fun w hw => hts w (List.mem_filter.mp hw).1 (List.mem_filter.mp hw).2
  have hin : ∀ w ∈ u_ws r'.1 r'.2.1 r'.2.2, w ∈ lw_tbl.filter goodWord := fun w hw => List.mem_filter.mpr ⟨xcls_in r' hm w hw, xcls_good r' hm w hw⟩
  refine W.newcK hx hb hown (hts _ hl rfl) (n := r'.2.2) (hts _ (xcls_inst r' hm).1 rfl) (hts _ (xcls_inst r' hm).2 rfl) rfl hdg hcells (by rw [hnn]; exact hslots) hKn.2.1 (h := f (xN h)) (xfN hf hR).symm fun H1 kC hkC e1 z o1 => ?_
  have z' : H1.size = H.size + 1 := by rw [z, xfN hf hR]
  have o' : ∀ q, q < H.size → H1[q]? = H[q]? := fun q hq => o1 q (by rw [xfN hf hR]; exact hq)
  rw [hnn]
  refine kk H1 (xRel_new hf hR (Or.inl ?_) z' o') (xS_new hS z' o')
  rw [xnw_S, if_pos rfl]
  refine ⟨h1, ?_⟩
  have hb2 := u_born (xtyf t) htsF hin hKn hkC e1 (fun k hk => hty k (by rw [← hnn]; exact hk))
  rw [hnn] at hb2
  refine hb2.to (fun k hk => ?_)
  simp only [xfv, xnw_I, xnw_L, xnw_R, if_pos]
  rcases xft_cases h1 hk with ⟨a, b⟩ | ⟨a, b⟩ | ⟨a, b⟩ | ⟨a, ⟨C, b⟩ | ⟨u, b⟩⟩ <;> rw [a, b] <;> rfl
theorem xs_newa (E : xEnv p s m args c cc nL own dC dI cA f B h0) (hR : xRel dC dI cA f B h0 h H) (hS : va_S (xA B) s.heap H locs) {t : Nat} {at' : ArrayType} {n : Int32} (hat : (at' = .int ∧ t = 20) ∨ (at' = .byte ∧ t = 21) ∨ (at' = .long ∧ t = 22) ∨ (at' = .boolean ∧ t = 23)) (hn : ¬ n < 0) (hRs : R.slots ≤ 8000000) (hcells : cells + 1 ≤ R.cells) (hslots : slots + n.toNatClampNeg ≤ R.slots) (hdg : decode cc pc = .ok (.newarray at', 2))
    (kk : ∀ H1 : Heap, xRel dC dI cA f B h0 (xnw h t n.toNatClampNeg) H1 → va_S (xA B) s.heap H1 locs → W p l e R s m args below meth c H1 locs (cells + 1) (slots + n.toNatClampNeg) Q (F0 m (pc + 2) ls (.ref (f (xN h)) :: rest))) : W p l e R s m args below meth c H locs cells slots Q (F0 m pc ls (.int n :: rest)) := by
  obtain ⟨hx, hb, -, hown, hts, hK, -, hf, -⟩ := E
  have ht : 20 ≤ t ∧ t ≤ 23 := by rcases hat with ⟨-, h⟩ | ⟨-, h⟩ | ⟨-, h⟩ | ⟨-, h⟩ <;> omega
  have hty : newarray.typeOf at' = xaty t := by rcases hat with ⟨h, h'⟩ | ⟨h, h'⟩ | ⟨h, h'⟩ | ⟨h, h'⟩ <;> (subst h; subst h'; rfl)
  have hw : (Cond.arrayClass (newarray.typeOf at')).before args s = true := by
    rcases hat with ⟨h, -⟩ | ⟨h, -⟩ | ⟨h, -⟩ | ⟨h, -⟩ <;> subst h
    · exact hts _ xarr_in.1 rfl
    · exact hts _ xarr_in.2.1 rfl
    · exact hts _ xarr_in.2.2.1 rfl
    · exact hts _ xarr_in.2.2.2 rfl
  have hbytes : n.toNatClampNeg * componentBytes (newarray.typeOf at') ≤ 536870912 := by
    have : componentBytes (newarray.typeOf at') ≤ 8 := by rcases hat with ⟨h, -⟩ | ⟨h, -⟩ | ⟨h, -⟩ | ⟨h, -⟩ <;> subst h <;> decide
    calc n.toNatClampNeg * componentBytes (newarray.typeOf at') ≤ n.toNatClampNeg * 8 := Nat.mul_le_mul_left _ this
      _ ≤ 536870912 := by omega
  refine va_newaK hx hb hw rfl hdg rfl hn rfl hbytes hcells hslots (h := f (xN h)) (xfN hf hR).symm fun H1 cA' e1 z o1 hAr hNm => ?_
  have hcA : cA' = cA t := by
    have ha := (hK.2 _ _ (xtys_at (cA := cA) (t := t) (by omega) (by omega))).2
    rcases hat with ⟨h, h'⟩ | ⟨h, h'⟩ | ⟨h, h'⟩ | ⟨h, h'⟩ <;> (subst h; subst h'; exact Option.some.inj (hNm.symm.trans ha))
  have z' : H1.size = H.size + 1 := by rw [z, xfN hf hR]
  have o' : ∀ q, q < H.size → H1[q]? = H[q]? := fun q hq => o1 q (by rw [xfN hf hR]; exact hq)
  refine kk H1 (xRel_new hf hR (Or.inr ?_) z' o') (xS_new hS z' o')
  rw [xnw_S, if_pos rfl]
  refine ⟨⟨ht.1, by show t ≤ 28; omega⟩, ?_⟩
  rw [e1, hcA, hty]
  congr 2
  funext j
  rcases hat with ⟨-, h'⟩ | ⟨-, h'⟩ | ⟨-, h'⟩ | ⟨-, h'⟩ <;> subst h' <;> simp only [xav, xnw_I, xnw_L, if_pos] <;> rfl
theorem xs_anew (E : xEnv p s m args c cc nL own dC dI cA f B h0) (hR : xRel dC dI cA f B h0 h H) (hS : va_S (xA B) s.heap H locs) {t idx : Nat} {C : String} {n : Int32} (h1 : 24 ≤ t) (h2 : t ≤ 28) (hC : xaty t = .object C) (hov : C ∈ xovr) (hl : Cond.classLink own idx C ∈ lw_tbl) (hn : ¬ n < 0) (hRs : R.slots ≤ 8000000) (hcells : cells + 1 ≤ R.cells) (hslots : slots + n.toNatClampNeg ≤ R.slots) (hdg : decode cc pc = .ok (.anewarray idx, 3))
    (kk : ∀ H1 : Heap, xRel dC dI cA f B h0 (xnw h t n.toNatClampNeg) H1 → va_S (xA B) s.heap H1 locs → W p l e R s m args below meth c H1 locs (cells + 1) (slots + n.toNatClampNeg) Q (F0 m (pc + 3) ls (.ref (f (xN h)) :: rest))) : W p l e R s m args below meth c H locs cells slots Q (F0 m pc ls (.int n :: rest)) := by
  obtain ⟨hx, hb, -, hown, hts, hK, hCn, hf, -⟩ := E
  refine W.anew hx hb hown (hts _ hl rfl) (va_AO.use (hCn.2.2.2.2.2.2.2.2 C hov)) rfl hdg rfl hn (by omega) hcells hslots fun cA' kA comp f1 f2 f3 f4 => ?_
  generalize hH1 : H.push ({ cls := cA', slots := Array.replicate n.toNatClampNeg .null, vm := .none } : Cell) = H1
  have z' : H1.size = H.size + 1 := by rw [← hH1, Array.size_push]
  have e1 : H1[H.size]? = some (arrV cA' n.toNatClampNeg (fun _ => .null)) := by rw [← hH1, Array.getElem?_push_size, ← arrV_new]
  have o' : ∀ q : Nat, q < H.size → H1[q]? = H[q]? := fun q hq => by rw [← hH1, Array.getElem?_push, if_neg (Nat.ne_of_lt hq)]
  have hcA : cA' = cA t := by
    have ha := (hK.2 _ _ (xtys_at (cA := cA) (t := t) (by omega) h2)).2
    dsimp only at ha
    rw [hC] at ha
    obtain ⟨-, -, -, -, -, k4⟩ := ha
    exact Option.some.inj (f1.symm.trans k4)
  have eN := xfN hf hR
  rw [← eN]
  refine kk H1 (xRel_new hf hR (Or.inr ?_) z' o') (xS_new hS z' o')
  rw [xnw_S, if_pos rfl]
  refine ⟨⟨by show 20 ≤ t; omega, h2⟩, ?_⟩
  rw [eN, e1, hcA]
  congr 2
  funext j
  rw [xav_q h1 h2, xnw_R, if_pos rfl]
  rfl
end XMK
end
section
/-! locals; copies of rows; statics and String constants -/
def xents (f : Nat → Nat) : Nat → List (Option Value) → List (Nat × Value)
  | _, [] => []
  | k, some v :: r => (k, xtv f v) :: xents f (k + 1) r
  | k, none :: r => xents f (k + 1) r
theorem xents_mem (f : Nat → Nat) : ∀ (ls : List (Option Value)) (k i : Nat) (v : Value), xgl ls i = some v → (k + i, xtv f v) ∈ xents f k ls
  | [], _, _, _, h => by cases h
  | some u :: r, k, 0, v, h => by
    have e : u = v := Option.some.inj h
    subst e
    exact List.mem_cons_self
  | none :: r, k, 0, v, h => by cases h
  | some u :: r, k, i + 1, v, h => by
    have := xents_mem f r (k + 1) i v h
    rw [show k + (i + 1) = k + 1 + i by omega]
    exact List.mem_cons_of_mem _ this
  | none :: r, k, i + 1, v, h => by
    have := xents_mem f r (k + 1) i v h
    rw [show k + (i + 1) = k + 1 + i by omega]
    exact this
theorem xents_of (f : Nat → Nat) : ∀ (ls : List (Option Value)) (k : Nat) (q : Nat × Value), q ∈ xents f k ls → ∃ i v, q = (k + i, xtv f v) ∧ xgl ls i = some v
  | [], _, _, h => by cases h
  | some u :: r, k, q, h => by
    rcases List.mem_cons.mp h with h | h
    · exact ⟨0, u, h, rfl⟩
    · obtain ⟨i, v, h1, h2⟩ := xents_of f r (k + 1) q h
      exact ⟨i + 1, v, by rw [h1, show k + (i + 1) = k + 1 + i by omega], h2⟩
  | none :: r, k, q, h => by
    obtain ⟨i, v, h1, h2⟩ := xents_of f r (k + 1) q h
    exact ⟨i + 1, v, by rw [h1, show k + (i + 1) = k + 1 + i by omega], h2⟩
def xlv (f : Nat → Nat) (lsA : Array Slot) (nL : Nat) (ls : List (Option Value)) : Prop := lv_has lsA nL (xents f 0 ls)
theorem xlv_at {f : Nat → Nat} {lsA : Array Slot} {nL : Nat} {ls : List (Option Value)} (h : xlv f lsA nL ls) {i : Nat} {v : Value} (hv : xgl ls i = some v) : lsA[i]? = some (.val (xtv f v)) := by
  have := h.2.2 _ (xents_mem f ls 0 i v hv)
  rwa [Nat.zero_add] at this
theorem xtv_cat (f : Nat → Nat) (v : Value) : (xtv f v).category = v.category := by cases v <;> rfl
theorem xsl_get : ∀ (ls : List (Option Value)) (i : Nat) (v : Value) (j : Nat) (w : Value), xgl (xsl ls i v) j = some w → (j = i ∧ w = v) ∨ (j ≠ i ∧ xgl ls j = some w ∧ ¬ (j + 1 = i ∧ w.category = 2))
  | [], _, _, _, _, h => by cases h
  | u :: r, 0, v, 0, w, h => Or.inl ⟨rfl, (Option.some.inj h).symm⟩
  | u :: r, 0, v, j + 1, w, h => Or.inr ⟨by omega, h, by omega⟩
  | u :: r, 1, v, 0, w, h => by
    refine Or.inr ⟨by omega, ?_, ?_⟩
    · change (match xlg u with | true => none | false => u) = some w at h
      split at h
      · cases h
      · exact h
    · intro q
      change (match xlg u with | true => none | false => u) = some w at h
      split at h
      · cases h
      · next e =>
        subst h
        have : Nat.beq w.category 2 = false := e
        rw [q.2] at this
        cases this
  | u :: r, 1, v, j + 1, w, h => by
    rcases xsl_get r 0 v j w h with ⟨a, b⟩ | ⟨a, b, c⟩
    · exact Or.inl ⟨by omega, b⟩
    · exact Or.inr ⟨by omega, b, by omega⟩
  | u :: r, n + 2, v, 0, w, h => Or.inr ⟨by omega, h, by omega⟩
  | u :: r, n + 2, v, j + 1, w, h => by
    rcases xsl_get r (n + 1) v j w h with ⟨a, b⟩ | ⟨a, b, c⟩
    · exact Or.inl ⟨by omega, b⟩
    · exact Or.inr ⟨by omega, b, fun q => c ⟨by omega, q.2⟩⟩
theorem xcl_get : ∀ (ls : List (Option Value)) (k j : Nat) (w : Value), xgl (xcl ls k) j = some w → j ≠ k ∧ xgl ls j = some w
  | [], _, _, _, h => by cases h
  | u :: r, 0, 0, w, h => by cases h
  | u :: r, 0, j + 1, w, h => ⟨by omega, h⟩
  | u :: r, k + 1, 0, w, h => ⟨by omega, h⟩
  | u :: r, k + 1, j + 1, w, h => by
    obtain ⟨a, b⟩ := xcl_get r k j w h
    exact ⟨by omega, b⟩
theorem xlv_set {f : Nat → Nat} {lsA : Array Slot} {nL : Nat} {ls : List (Option Value)} {i : Nat} {v : Value} (h : lv_has lsA nL ((i, xtv f v) :: (xents f 0 ls).filter (fun q => !(q.1 == i) && !(q.1 + 1 == i && q.2.category == 2)))) : xlv f lsA nL (xsl ls i v) := by
  refine ⟨h.1, h.2.1, fun q hq => h.2.2 q ?_⟩
  obtain ⟨j, w, e1, e2⟩ := xents_of f _ 0 q hq
  rw [Nat.zero_add] at e1
  subst e1
  rcases xsl_get ls i v j w e2 with ⟨a, b⟩ | ⟨a, b, c⟩
  · subst a; subst b
    exact List.mem_cons_self
  · refine List.mem_cons_of_mem _ (List.mem_filter.mpr ⟨by have := xents_mem f ls 0 j w b; rwa [Nat.zero_add] at this, ?_⟩)
    simp only [Bool.and_eq_true, Bool.not_eq_true', beq_eq_false_iff_ne, Bool.and_eq_false_imp, beq_iff_eq, ne_eq, xtv_cat]
    exact ⟨a, fun z z2 => c ⟨z, z2⟩⟩
theorem xlv_set2 {f : Nat → Nat} {lsA : Array Slot} {nL : Nat} {ls : List (Option Value)} {i : Nat} {v : Value} (h : lv_has lsA nL ((i, xtv f v) :: (xents f 0 ls).filter (fun q => !(q.1 == i) && (!(q.1 == i + 1) && !(q.1 + 1 == i && q.2.category == 2))))) : xlv f lsA nL (xsl2 ls i v) := by
  refine ⟨h.1, h.2.1, fun q hq => h.2.2 q ?_⟩
  obtain ⟨j, w, e1, e2⟩ := xents_of f _ 0 q hq
  rw [Nat.zero_add] at e1
  subst e1
  obtain ⟨hne, e3⟩ := xcl_get _ _ _ _ e2
  rcases xsl_get ls i v j w e3 with ⟨a, b⟩ | ⟨a, b, c⟩
  · subst a; subst b
    exact List.mem_cons_self
  · refine List.mem_cons_of_mem _ (List.mem_filter.mpr ⟨by have := xents_mem f ls 0 j w b; rwa [Nat.zero_add] at this, ?_⟩)
    simp only [Bool.and_eq_true, Bool.not_eq_true', beq_eq_false_iff_ne, Bool.and_eq_false_imp, beq_iff_eq, ne_eq, xtv_cat]
    exact ⟨a, hne, fun z z2 => c ⟨z, z2⟩⟩
/-- the locals at a method's beginning -/
def xarg : List Value → List (Option Value)
  | [] => []
  | .long x :: r => some (.long x) :: none :: xarg r
  | v :: r => some v :: xarg r
theorem xarg_in (f : Nat → Nat) : ∀ (as : List Value) (k i : Nat) (v : Value), (∀ a ∈ as, ∀ x, a ≠ .double x) → xgl (xarg as) i = some v → (k + i, xtv f v) ∈ lv_args k (as.map (xtv f))
  | [], _, _, _, _, h => by cases h
  | a :: r, k, i, v, hd, h => by
    have hr := xarg_in f r
    have hd' : ∀ a ∈ r, ∀ x, a ≠ .double x := fun b hb => hd b (List.mem_cons_of_mem _ hb)
    cases a with
    | long x =>
      match i, h with
      | 0, h =>
        have e : Value.long x = v := Option.some.inj h
        subst e
        exact List.mem_cons_self
      | 1, h => cases h
      | i + 2, h =>
        have := hr (k + 2) i v hd' h
        rw [show k + (i + 2) = k + 2 + i by omega]
        exact List.mem_cons_of_mem _ this
    | double x => exact absurd rfl (hd _ List.mem_cons_self x)
    | int x =>
      match i, h with
      | 0, h => have e := Option.some.inj h; subst e; exact List.mem_cons_self
      | i + 1, h => have := hr (k + 1) i v hd' h; rw [show k + (i + 1) = k + 1 + i by omega]; exact List.mem_cons_of_mem _ this
    | float x =>
      match i, h with
      | 0, h => have e := Option.some.inj h; subst e; exact List.mem_cons_self
      | i + 1, h => have := hr (k + 1) i v hd' h; rw [show k + (i + 1) = k + 1 + i by omega]; exact List.mem_cons_of_mem _ this
    | null =>
      match i, h with
      | 0, h => have e := Option.some.inj h; subst e; exact List.mem_cons_self
      | i + 1, h => have := hr (k + 1) i v hd' h; rw [show k + (i + 1) = k + 1 + i by omega]; exact List.mem_cons_of_mem _ this
    | ref x =>
      match i, h with
      | 0, h => have e := Option.some.inj h; subst e; exact List.mem_cons_self
      | i + 1, h => have := hr (k + 1) i v hd' h; rw [show k + (i + 1) = k + 1 + i by omega]; exact List.mem_cons_of_mem _ this
    | retAddr x =>
      match i, h with
      | 0, h => have e := Option.some.inj h; subst e; exact List.mem_cons_self
      | i + 1, h => have := hr (k + 1) i v hd' h; rw [show k + (i + 1) = k + 1 + i by omega]; exact List.mem_cons_of_mem _ this
def xpad : Nat → List (Option Value) → List (Option Value)
  | 0, _ => []
  | n + 1, [] => none :: xpad n []
  | n + 1, v :: r => v :: xpad n r
theorem xpad_get : ∀ (n : Nat) (ls : List (Option Value)) (i : Nat) (v : Value), xgl (xpad n ls) i = some v → xgl ls i = some v
  | 0, _, _, _, h => by cases h
  | n + 1, [], 0, v, h => by cases h
  | n + 1, [], i + 1, v, h => by have := xpad_get n [] i v h; cases this
  | n + 1, u :: r, 0, v, h => h
  | n + 1, u :: r, i + 1, v, h => xpad_get n r i v h
end
section
-- the methods: written by wip/tools/m11.py
abbrev xme : Type := MethodName × ByteArray × Nat × Option FieldType × List (List xop) × Nat × Nat × Nat × Nat × Nat × Nat × List Nat
def xmt_0 : List xme := [(⟨"java/lang/Integer", "bitCount", "(I)I"⟩, prog_15_method_49_code, 1, (some FieldType.int), cd_Integer_bitCount, 0, 1, 0, 0, 0, 0, [1222, 162, 1221, 0]),
  (⟨"java/lang/Math", "min", "(II)I"⟩, prog_16_method_69_code, 2, (some FieldType.int), cd_Math_min_III, 0, 2, 0, 0, 0, 0, [656, 155, 655, 0]),
  (⟨"java/lang/Math", "max", "(II)I"⟩, prog_16_method_65_code, 2, (some FieldType.int), cd_Math_max, 0, 2, 0, 0, 0, 0, [863, 155, 862, 0]),
  (⟨"java/lang/Math", "abs", "(I)I"⟩, prog_16_method_59_code, 1, (some FieldType.int), cd_Math_abs, 0, 1, 0, 0, 0, 0, [972, 155, 971, 0]),
  (⟨"java/lang/Math", "min", "(JJ)J"⟩, prog_16_method_70_code, 4, (some FieldType.long), cd_Math_min_JJJ, 0, 2, 0, 0, 0, 1, [1049, 155, 1048, 0]),
  (⟨"java/lang/Math", "floorMod", "(II)I"⟩, prog_16_method_50_code, 3, (some FieldType.int), cd_Math_floorMod, 0, 2, 0, 0, 0, 0, [1454, 155, 1453, 0]),
  (⟨"java/util/Arrays", "fill", "([JJ)V"⟩, prog_21_method_101_code, 5, none, cd_Arrays_fill_JJV, 0, 2, 0, 0, 0, 3, [1096, 163, 1095, 0]),
  (⟨"java/util/Arrays", "fill", "([II)V"⟩, prog_21_method_103_code, 4, none, cd_Arrays_fill_IIV, 0, 2, 0, 0, 0, 3, [1301, 163, 1300, 0]),
  (⟨"java/lang/StringUTF16", "charAt", "([BI)C"⟩, prog_19_method_83_code, 2, (some FieldType.char), cd_StringUTF16_charAt, 0, 2, 0, 0, 0, 0, [746, 159, 745, 0]),
  (⟨"java/lang/StringUTF16", "checkIndex", "(I[B)V"⟩, prog_19_method_91_code, 2, none, cd_StringUTF16_checkIndex, 0, 2, 0, 0, 0, 3, [749, 159, 748, 0]),
  (⟨"java/lang/StringUTF16", "length", "([B)I"⟩, prog_19_method_6_code, 1, (some FieldType.int), cd_StringUTF16_length, 0, 1, 0, 0, 0, 0, [752, 159, 751, 0]),
  (⟨"java/lang/StringUTF16", "getChar", "([BI)C"⟩, prog_19_method_5_code, 2, (some FieldType.char), cd_StringUTF16_getChar, 0, 2, 0, 0, 0, 0, [756, 159, 755, 0]),
  (⟨"java/lang/StringLatin1", "charAt", "([BI)C"⟩, prog_18_method_2_code, 2, (some FieldType.char), cd_StringLatin1_charAt, 0, 2, 0, 0, 0, 0, [735, 157, 734, 0]),
  (⟨"java/lang/String", "length", "()I"⟩, prog_17_method_54_code, 1, (some FieldType.int), cd_String_length, 1, 0, 30, 0, 0, 0, [718, 156, 716, 717]),
  (⟨"java/lang/String", "coder", "()B"⟩, prog_17_method_152_code, 1, (some FieldType.byte), cd_String_coder, 1, 0, 30, 0, 0, 0, [722, 156, 720, 721]),
  (⟨"java/lang/String", "charAt", "(I)C"⟩, prog_17_method_56_code, 2, (some FieldType.char), cd_String_charAt, 1, 1, 30, 0, 0, 0, [728, 156, 726, 727]),
  (⟨"java/lang/String", "isLatin1", "()Z"⟩, prog_17_method_154_code, 1, (some FieldType.boolean), cd_String_isLatin1, 1, 0, 30, 0, 0, 0, [732, 156, 730, 731]),
  (⟨"java/lang/String", "checkIndex", "(II)V"⟩, prog_17_method_155_code, 2, none, cd_String_checkIndex, 0, 2, 0, 0, 0, 3, [738, 156, 737, 0]),
  (⟨"jdk/internal/util/Preconditions", "checkIndex", "(IILjava/util/function/BiFunction;)I"⟩, prog_22_method_11_code, 3, (some FieldType.int), cd_Preconditions_checkIndex, 0, 3, 0, 0, 0, 0, [743, 158, 742, 0]),
  (⟨"SoupNine$Fraction", "part", "(JJZ)J"⟩, prog_5_method_2_code, 7, (some FieldType.long), cd_Fraction_part, 0, 3, 0, 0, 0, 1, [1065, 161, 1064, 0]),
  (⟨"SoupNine$Fraction", "divisor", "(JJ)J"⟩, prog_5_method_3_code, 7, (some FieldType.long), cd_Fraction_divisor, 0, 2, 0, 0, 0, 1, [1068, 161, 1067, 0]),
  (⟨"SoupNine$Fraction", "power", "(II)J"⟩, prog_5_method_6_code, 5, (some FieldType.long), cd_Fraction_power, 0, 2, 0, 0, 0, 1, [1399, 161, 1398, 0]),
  (⟨"SoupNine$Fraction", "share", "(JJZ)J"⟩, prog_5_method_4_code, 5, (some FieldType.long), cd_Fraction_share, 0, 3, 0, 0, 0, 1, [1405, 161, 1404, 0]),
  (⟨"SoupNine$Fraction", "reaches", "(JJI)Z"⟩, prog_5_method_5_code, 5, (some FieldType.boolean), cd_Fraction_reaches, 0, 3, 0, 0, 0, 0, [1413, 161, 1412, 0]),
  (⟨"SoupNine$Evening", "<init>", "()V"⟩, prog_4_method_1_code, 1, none, cd_Evening_init, 2, 0, 3, 2, 80, 3, [255, 146, 254, 0]),
  (⟨"SoupNine$Evening", "addDeed", "(II)V"⟩, prog_4_method_3_code, 3, none, cd_Evening_addDeed, 1, 2, 3, 0, 0, 3, [811, 146, 809, 810]),
  (⟨"SoupNine$Evening", "copyFrom", "(LSoupNine$Evening;)V"⟩, prog_4_method_2_code, 2, none, cd_Evening_copyFrom, 1, 1, 3, 0, 0, 3, [849, 146, 847, 848]),
  (⟨"SoupNine$Evening", "detail", "(II)I"⟩, prog_4_method_4_code, 3, (some FieldType.int), cd_Evening_detail, 1, 2, 3, 0, 0, 0, [936, 146, 934, 935]),
  (⟨"SoupNine$Sheet", "<init>", "()V"⟩, prog_9_method_1_code, 1, none, cd_Sheet_init, 2, 0, 5, 6, 46, 3, [299, 148, 298, 0]),
  (⟨"SoupNine$Sheet", "clear", "()V"⟩, prog_9_method_2_code, 1, none, cd_Sheet_clear, 1, 0, 5, 0, 0, 3, [664, 148, 662, 663])]
def xmt_1 : List xme := [(⟨"SoupNine$Sheet", "addShoe", "(I)V"⟩, prog_9_method_4_code, 2, none, cd_Sheet_addShoe, 1, 1, 5, 0, 0, 3, [826, 148, 824, 825]),
  (⟨"SoupNine$Sheet", "addFoot", "(II)V"⟩, prog_9_method_5_code, 3, none, cd_Sheet_addFoot, 1, 2, 5, 0, 0, 3, [830, 148, 828, 829]),
  (⟨"SoupNine$Sheet", "addHide", "(III)V"⟩, prog_9_method_6_code, 4, none, cd_Sheet_addHide, 1, 3, 5, 0, 0, 3, [834, 148, 832, 833]),
  (⟨"SoupNine$Sheet", "copyFrom", "(LSoupNine$Sheet;)V"⟩, prog_9_method_3_code, 2, none, cd_Sheet_copyFrom, 1, 1, 5, 0, 0, 3, [859, 148, 857, 858]),
  (⟨"SoupNine$Sheet", "detail", "(I)I"⟩, prog_9_method_9_code, 2, (some FieldType.int), cd_Sheet_detail, 1, 1, 5, 0, 0, 0, [1326, 148, 1324, 1325]),
  (⟨"SoupNine$Sheet", "detailOf", "(II)I"⟩, prog_9_method_10_code, 3, (some FieldType.int), cd_Sheet_detailOf, 1, 2, 5, 0, 0, 0, [1330, 148, 1329, 47]),
  (⟨"SoupNine$Sheet", "fits", "(II)Z"⟩, prog_9_method_7_code, 3, (some FieldType.boolean), cd_Sheet_fits, 1, 2, 5, 0, 0, 0, [1350, 148, 1348, 1349]),
  (⟨"SoupNine$Sheet", "steps", "(II)I"⟩, prog_9_method_8_code, 5, (some FieldType.int), cd_Sheet_steps, 1, 2, 5, 0, 0, 0, [1372, 148, 1370, 1371]),
  (⟨"SoupNine$Town", "<init>", "()V"⟩, prog_11_method_1_code, 1, none, cd_Town_init, 2, 0, 2, 7, 63, 3, [183, 145, 182, 0]),
  (⟨"SoupNine$Town", "clear", "()V"⟩, prog_11_method_2_code, 2, none, cd_Town_clear, 1, 0, 2, 0, 0, 3, [660, 145, 658, 659]),
  (⟨"SoupNine$Town", "addStop", "(I[I)V"⟩, prog_11_method_4_code, 3, none, cd_Town_addStop, 1, 2, 2, 0, 0, 3, [799, 145, 797, 798]),
  (⟨"SoupNine$Town", "setFollow", "(III)V"⟩, prog_11_method_5_code, 4, none, cd_Town_setFollow, 1, 3, 2, 0, 0, 3, [807, 145, 805, 806]),
  (⟨"SoupNine$Town", "copyFrom", "(LSoupNine$Town;)V"⟩, prog_11_method_3_code, 2, none, cd_Town_copyFrom, 1, 1, 2, 0, 0, 3, [842, 145, 840, 841]),
  (⟨"SoupNine$Town", "detail", "(I)I"⟩, prog_11_method_16_code, 2, (some FieldType.int), cd_Town_detail, 1, 1, 2, 0, 0, 0, [916, 145, 914, 915]),
  (⟨"SoupNine$Town", "hasStop", "(I)Z"⟩, prog_11_method_6_code, 2, (some FieldType.boolean), cd_Town_hasStop, 1, 1, 2, 0, 0, 0, [920, 145, 918, 919]),
  (⟨"SoupNine$Town", "detailOfStop", "(II)I"⟩, prog_11_method_17_code, 3, (some FieldType.int), cd_Town_detailOfStop, 1, 2, 2, 0, 0, 0, [924, 145, 923, 16]),
  (⟨"SoupNine$Town", "middle", "(I)I"⟩, prog_11_method_8_code, 2, (some FieldType.int), cd_Town_middle, 1, 1, 2, 0, 0, 0, [948, 145, 946, 947]),
  (⟨"SoupNine$Town", "minutes", "(II)I"⟩, prog_11_method_11_code, 3, (some FieldType.int), cd_Town_minutes, 1, 2, 2, 0, 0, 0, [965, 145, 963, 964]),
  (⟨"SoupNine$Town", "columnOf", "(I)I"⟩, prog_11_method_12_code, 2, (some FieldType.int), cd_Town_columnOf, 1, 1, 2, 0, 0, 0, [969, 145, 968, 19]),
  (⟨"SoupNine$Town", "rowOf", "(I)I"⟩, prog_11_method_13_code, 2, (some FieldType.int), cd_Town_rowOf, 1, 1, 2, 0, 0, 0, [976, 145, 975, 20]),
  (⟨"SoupNine$Town", "mayCome", "(II)Z"⟩, prog_11_method_7_code, 3, (some FieldType.boolean), cd_Town_mayCome, 1, 2, 2, 0, 0, 0, [1030, 145, 1028, 1029]),
  (⟨"SoupNine$Town", "weight", "(I)I"⟩, prog_11_method_9_code, 2, (some FieldType.int), cd_Town_weight, 1, 1, 2, 0, 0, 0, [1046, 145, 1044, 1045]),
  (⟨"SoupNine$Town", "mostInAll", "()I"⟩, prog_11_method_10_code, 3, (some FieldType.int), cd_Town_mostInAll, 1, 0, 2, 0, 0, 0, [1076, 145, 1074, 1075]),
  (⟨"SoupNine$Town", "minutesFromPlace", "(I)I"⟩, prog_11_method_14_code, 4, (some FieldType.int), cd_Town_minutesFromPlace, 1, 1, 2, 0, 0, 0, [1196, 145, 1194, 1195]),
  (⟨"SoupNine$Town", "trailFrom", "(IZ)I"⟩, prog_11_method_15_code, 6, (some FieldType.int), cd_Town_trailFrom, 1, 2, 2, 0, 0, 0, [1219, 145, 1217, 1218]),
  (⟨"SoupNine$Book", "<init>", "()V"⟩, prog_2_method_1_code, 1, none, cd_Book_init, 2, 0, 4, 3, 50, 3, [277, 147, 276, 0]),
  (⟨"SoupNine$Book", "lotRow", "(I)I"⟩, prog_2_method_13_code, 1, (some FieldType.int), cd_Book_lotRow, 0, 1, 0, 0, 0, 0, [600, 147, 599, 0]),
  (⟨"SoupNine$Book", "addNight", "(II)V"⟩, prog_2_method_3_code, 4, none, cd_Book_addNight, 1, 2, 4, 0, 0, 3, [815, 147, 813, 814]),
  (⟨"SoupNine$Book", "setAsked", "(II)V"⟩, prog_2_method_4_code, 3, none, cd_Book_setAsked, 1, 2, 4, 0, 0, 3, [819, 147, 817, 818]),
  (⟨"SoupNine$Book", "copyFrom", "(LSoupNine$Book;)V"⟩, prog_2_method_2_code, 2, none, cd_Book_copyFrom, 1, 1, 4, 0, 0, 3, [854, 147, 852, 853])]
def xmt_2 : List xme := [(⟨"SoupNine$Book", "detail", "(II)I"⟩, prog_2_method_16_code, 3, (some FieldType.int), cd_Book_detail, 1, 2, 4, 0, 0, 0, [1246, 147, 1244, 1245]),
  (⟨"SoupNine$Book", "unlikeAheadOf", "(I)I"⟩, prog_2_method_5_code, 4, (some FieldType.int), cd_Book_unlikeAheadOf, 1, 1, 4, 0, 0, 0, [1254, 147, 1252, 1253]),
  (⟨"SoupNine$Book", "heldInAll", "(Z)I"⟩, prog_2_method_6_code, 5, (some FieldType.int), cd_Book_heldInAll, 1, 1, 4, 0, 0, 0, [1258, 147, 1256, 1257]),
  (⟨"SoupNine$Book", "doorway", "()I"⟩, prog_2_method_7_code, 5, (some FieldType.int), cd_Book_doorway, 1, 0, 4, 0, 0, 0, [1264, 147, 1262, 1263]),
  (⟨"SoupNine$Book", "moreFrom", "(I)I"⟩, prog_2_method_9_code, 3, (some FieldType.int), cd_Book_moreFrom, 1, 1, 4, 0, 0, 0, [1268, 147, 1267, 44]),
  (⟨"SoupNine$Book", "seenAheadOf", "(I)I"⟩, prog_2_method_10_code, 4, (some FieldType.int), cd_Book_seenAheadOf, 1, 1, 4, 0, 0, 0, [1272, 147, 1271, 45]),
  (⟨"SoupNine$Book", "doorwayDifference", "(Z)I"⟩, prog_2_method_8_code, 3, (some FieldType.int), cd_Book_doorwayDifference, 1, 1, 4, 0, 0, 0, [1276, 147, 1274, 1275]),
  (⟨"SoupNine$Book", "enoughOn", "(II)I"⟩, prog_2_method_14_code, 6, (some FieldType.int), cd_Book_enoughOn, 1, 2, 4, 0, 0, 0, [1286, 147, 1284, 1285]),
  (⟨"SoupNine$Book", "chanceOfAsMany", "(LSoupNine$Book;[IZ)J"⟩, prog_2_method_11_code, 11, (some FieldType.long), cd_Book_chanceOfAsMany, 1, 3, 4, 0, 0, 1, [1298, 147, 1296, 1297]),
  (⟨"SoupNine$Book", "maybePick", "(I[I)V"⟩, prog_2_method_12_code, 7, none, cd_Book_maybePick, 1, 2, 4, 0, 0, 3, [1305, 147, 1304, 46]),
  (⟨"SoupNine$Book", "couplesWith", "(LSoupNine$Book;I)I"⟩, prog_2_method_15_code, 6, (some FieldType.int), cd_Book_couplesWith, 1, 2, 4, 0, 0, 0, [1314, 147, 1312, 1313]),
  (⟨"SoupNine$Bowls", "<init>", "()V"⟩, prog_3_method_1_code, 1, none, cd_Bowls_init, 2, 0, 8, 3, 1191, 3, [489, 151, 488, 0]),
  (⟨"SoupNine$Bowls", "forget", "()V"⟩, prog_3_method_2_code, 1, none, cd_Bowls_forget, 1, 0, 8, 0, 0, 3, [871, 151, 869, 870]),
  (⟨"SoupNine$Bowls", "bestGift", "(LSoupNine$Town;III)I"⟩, prog_3_method_3_code, 7, (some FieldType.int), cd_Bowls_bestGift, 1, 4, 8, 0, 0, 0, [1034, 151, 1032, 1033]),
  (⟨"SoupNine$Bowls", "prepare", "(LSoupNine$Town;)V"⟩, prog_3_method_7_code, 4, none, cd_Bowls_prepare, 1, 1, 8, 0, 0, 3, [1038, 151, 1037, 27]),
  (⟨"SoupNine$Bowls", "countsOverAll", "(LSoupNine$Town;II)J"⟩, prog_3_method_8_code, 13, (some FieldType.long), cd_Bowls_countsOverAll, 1, 3, 8, 0, 0, 1, [1042, 151, 1041, 28]),
  (⟨"SoupNine$Bowls", "countsAfter", "(LSoupNine$Town;IIII)J"⟩, prog_3_method_6_code, 6, (some FieldType.long), cd_Bowls_countsAfter, 1, 5, 8, 0, 0, 1, [1053, 151, 1052, 29]),
  (⟨"SoupNine$Bowls", "meanFrom", "(LSoupNine$Town;IIZ)J"⟩, prog_3_method_4_code, 5, (some FieldType.long), cd_Bowls_meanFrom, 1, 4, 8, 0, 0, 1, [1062, 151, 1060, 1061]),
  (⟨"SoupNine$Bowls", "meanOnceTold", "(LSoupNine$Town;IIZ)J"⟩, prog_3_method_5_code, 6, (some FieldType.long), cd_Bowls_meanOnceTold, 1, 4, 8, 0, 0, 1, [1084, 151, 1082, 1083]),
  (⟨"SoupNine$Bowls", "chanceOfMore", "(LSoupNine$Town;IZ)J"⟩, prog_3_method_9_code, 7, (some FieldType.long), cd_Bowls_chanceOfMore, 1, 3, 8, 0, 0, 1, [1093, 151, 1091, 1092]),
  (⟨"SoupNine$Bowls", "waysTo", "(III)J"⟩, prog_3_method_10_code, 7, (some FieldType.long), cd_Bowls_waysTo, 1, 3, 8, 0, 0, 1, [1100, 151, 1099, 30]),
  (⟨"SoupNine$Routes", "<init>", "()V"⟩, prog_7_method_1_code, 1, none, cd_Routes_init, 2, 0, 9, 8, 6764, 3, [509, 152, 508, 0]),
  (⟨"SoupNine$Routes", "forget", "()V"⟩, prog_7_method_2_code, 1, none, cd_Routes_forget, 1, 0, 9, 0, 0, 3, [875, 152, 873, 874]),
  (⟨"SoupNine$Routes", "prepare", "(LSoupNine$Town;)V"⟩, prog_7_method_3_code, 2, none, cd_Routes_prepare, 1, 1, 9, 0, 0, 3, [1108, 152, 1106, 1107]),
  (⟨"SoupNine$Routes", "measure", "(LSoupNine$Town;)V"⟩, prog_7_method_4_code, 4, none, cd_Routes_measure, 1, 1, 9, 0, 0, 3, [1112, 152, 1111, 31]),
  (⟨"SoupNine$Routes", "findPaths", "(LSoupNine$Town;)V"⟩, prog_7_method_5_code, 5, none, cd_Routes_findPaths, 1, 1, 9, 0, 0, 3, [1118, 152, 1117, 32]),
  (⟨"SoupNine$Routes", "has", "(II)Z"⟩, prog_7_method_11_code, 2, (some FieldType.boolean), cd_Routes_has, 0, 2, 0, 0, 0, 0, [1122, 152, 1121, 0]),
  (⟨"SoupNine$Routes", "shortest", "(LSoupNine$Town;II)I"⟩, prog_7_method_6_code, 6, (some FieldType.int), cd_Routes_shortest, 1, 3, 9, 0, 0, 0, [1126, 152, 1125, 33]),
  (⟨"SoupNine$Routes", "findRound", "(LSoupNine$Town;)V"⟩, prog_7_method_7_code, 8, none, cd_Routes_findRound, 1, 1, 9, 0, 0, 3, [1131, 152, 1130, 34]),
  (⟨"SoupNine$Routes", "findBestOfWay", "(LSoupNine$Town;)V"⟩, prog_7_method_12_code, 4, none, cd_Routes_findBestOfWay, 1, 1, 9, 0, 0, 3, [1135, 152, 1134, 35])]
def xmt_3 : List xme := [(⟨"SoupNine$Routes", "isPeopled", "(I)Z"⟩, prog_7_method_10_code, 2, (some FieldType.boolean), cd_Routes_isPeopled, 1, 1, 9, 0, 0, 0, [1139, 152, 1138, 36]),
  (⟨"SoupNine$Routes", "fewestMinutes", "(LSoupNine$Town;I)I"⟩, prog_7_method_13_code, 5, (some FieldType.int), cd_Routes_fewestMinutes, 1, 2, 9, 0, 0, 0, [1143, 152, 1142, 37]),
  (⟨"SoupNine$Routes", "isWarm", "(LSoupNine$Town;II)Z"⟩, prog_7_method_8_code, 4, (some FieldType.boolean), cd_Routes_isWarm, 1, 3, 9, 0, 0, 0, [1147, 152, 1146, 38]),
  (⟨"SoupNine$Routes", "doneAt", "(II)I"⟩, prog_7_method_9_code, 3, (some FieldType.int), cd_Routes_doneAt, 1, 2, 9, 0, 0, 0, [1151, 152, 1150, 39]),
  (⟨"SoupNine$Routes", "findWay", "(LSoupNine$Town;)V"⟩, prog_7_method_14_code, 6, none, cd_Routes_findWay, 1, 1, 9, 0, 0, 3, [1155, 152, 1154, 40]),
  (⟨"SoupNine$Routes", "isBest", "(LSoupNine$Town;II)Z"⟩, prog_7_method_15_code, 4, (some FieldType.boolean), cd_Routes_isBest, 1, 3, 9, 0, 0, 0, [1159, 152, 1158, 41]),
  (⟨"SoupNine$Routes", "nextOf", "(LSoupNine$Town;II)I"⟩, prog_7_method_16_code, 7, (some FieldType.int), cd_Routes_nextOf, 1, 3, 9, 0, 0, 0, [1163, 152, 1162, 42]),
  (⟨"SoupNine$Routes", "talksAtFirst", "(LSoupNine$Town;)I"⟩, prog_7_method_18_code, 2, (some FieldType.int), cd_Routes_talksAtFirst, 1, 1, 9, 0, 0, 0, [1175, 152, 1173, 1174]),
  (⟨"SoupNine$Routes", "talksAheadOfLast", "(LSoupNine$Town;)I"⟩, prog_7_method_19_code, 3, (some FieldType.int), cd_Routes_talksAheadOfLast, 1, 1, 9, 0, 0, 0, [1179, 152, 1178, 43]),
  (⟨"SoupNine$Routes", "mostWarmWithout", "(LSoupNine$Town;I)I"⟩, prog_7_method_17_code, 5, (some FieldType.int), cd_Routes_mostWarmWithout, 1, 2, 9, 0, 0, 0, [1188, 152, 1186, 1187]),
  (⟨"SoupNine$Routes", "stopsOfFirstVan", "()I"⟩, prog_7_method_22_code, 3, (some FieldType.int), cd_Routes_stopsOfFirstVan, 1, 0, 9, 0, 0, 0, [1205, 152, 1203, 1204]),
  (⟨"SoupNine$Routes", "homeLast", "(I)I"⟩, prog_7_method_21_code, 2, (some FieldType.int), cd_Routes_homeLast, 1, 1, 9, 0, 0, 0, [1209, 152, 1207, 1208]),
  (⟨"SoupNine$Routes", "stopsToTalkAt", "(LSoupNine$Town;)I"⟩, prog_7_method_20_code, 7, (some FieldType.int), cd_Routes_stopsToTalkAt, 1, 1, 9, 0, 0, 0, [1233, 152, 1231, 1232]),
  (⟨"SoupNine$Search", "<init>", "()V"⟩, prog_8_method_1_code, 1, none, cd_Search_init, 2, 0, 10, 5, 2896, 3, [566, 153, 565, 0]),
  (⟨"SoupNine$Search", "forget", "()V"⟩, prog_8_method_2_code, 1, none, cd_Search_forget, 1, 0, 10, 0, 0, 3, [879, 153, 877, 878]),
  (⟨"SoupNine$Search", "prepare", "(LSoupNine$Sheet;)V"⟩, prog_8_method_3_code, 2, none, cd_Search_prepare, 1, 1, 10, 0, 0, 3, [1338, 153, 1336, 1337]),
  (⟨"SoupNine$Search", "findNeed", "(LSoupNine$Sheet;)V"⟩, prog_8_method_4_code, 6, none, cd_Search_findNeed, 1, 1, 10, 0, 0, 3, [1342, 153, 1341, 48]),
  (⟨"SoupNine$Search", "needWith", "(LSoupNine$Sheet;III)I"⟩, prog_8_method_5_code, 6, (some FieldType.int), cd_Search_needWith, 1, 4, 10, 0, 0, 0, [1346, 153, 1345, 49]),
  (⟨"SoupNine$Search", "findShoes", "(LSoupNine$Sheet;)V"⟩, prog_8_method_6_code, 5, none, cd_Search_findShoes, 1, 1, 10, 0, 0, 3, [1355, 153, 1354, 50]),
  (⟨"SoupNine$Search", "findWalked", "(LSoupNine$Sheet;)V"⟩, prog_8_method_7_code, 5, none, cd_Search_findWalked, 1, 1, 10, 0, 0, 3, [1359, 153, 1358, 51]),
  (⟨"SoupNine$Search", "leastWalked", "(LSoupNine$Sheet;II)I"⟩, prog_8_method_8_code, 6, (some FieldType.int), cd_Search_leastWalked, 1, 3, 10, 0, 0, 0, [1363, 153, 1362, 52]),
  (⟨"SoupNine$Search", "walkedBy", "(LSoupNine$Sheet;III)I"⟩, prog_8_method_9_code, 5, (some FieldType.int), cd_Search_walkedBy, 1, 4, 10, 0, 0, 0, [1368, 153, 1367, 53]),
  (⟨"SoupNine$Search", "findHides", "(LSoupNine$Sheet;)V"⟩, prog_8_method_10_code, 8, none, cd_Search_findHides, 1, 1, 10, 0, 0, 3, [1378, 153, 1377, 54]),
  (⟨"SoupNine$Walk", "<init>", "()V"⟩, prog_12_method_1_code, 1, none, cd_Walk_init, 2, 0, 7, 4, 36, 3, [446, 150, 445, 0]),
  (⟨"SoupNine$Walk", "begin", "(LSoupNine$Town;)V"⟩, prog_12_method_2_code, 3, none, cd_Walk_begin, 1, 1, 7, 0, 0, 3, [944, 150, 942, 943]),
  (⟨"SoupNine$Walk", "follow", "(LSoupNine$Town;LSoupNine$Evening;I)I"⟩, prog_12_method_3_code, 5, (some FieldType.int), cd_Walk_follow, 1, 3, 7, 0, 0, 0, [952, 150, 950, 951]),
  (⟨"SoupNine$Walk", "perform", "(LSoupNine$Town;II)Z"⟩, prog_12_method_6_code, 4, (some FieldType.boolean), cd_Walk_perform, 1, 3, 7, 0, 0, 0, [956, 150, 955, 17]),
  (⟨"SoupNine$Walk", "driveTo", "(LSoupNine$Town;I)Z"⟩, prog_12_method_8_code, 3, (some FieldType.boolean), cd_Walk_driveTo, 1, 2, 7, 0, 0, 0, [961, 150, 960, 18]),
  (⟨"SoupNine$Walk", "spend", "(I)Z"⟩, prog_12_method_7_code, 2, (some FieldType.boolean), cd_Walk_spend, 1, 1, 7, 0, 0, 0, [980, 150, 979, 21]),
  (⟨"SoupNine$Walk", "ladle", "(LSoupNine$Town;I)Z"⟩, prog_12_method_10_code, 6, (some FieldType.boolean), cd_Walk_ladle, 1, 2, 7, 0, 0, 0, [984, 150, 983, 22])]
def xmt_4 : List xme := [(⟨"SoupNine$Walk", "sendOn", "(LSoupNine$Town;I)V"⟩, prog_12_method_11_code, 5, none, cd_Walk_sendOn, 1, 2, 7, 0, 0, 3, [989, 150, 988, 23]),
  (⟨"SoupNine$Walk", "talk", "(LSoupNine$Town;)Z"⟩, prog_12_method_9_code, 2, (some FieldType.boolean), cd_Walk_talk, 1, 1, 7, 0, 0, 0, [994, 150, 993, 24]),
  (⟨"SoupNine$Walk", "detail", "(LSoupNine$Town;I)I"⟩, prog_12_method_12_code, 3, (some FieldType.int), cd_Walk_detail, 1, 2, 7, 0, 0, 0, [1002, 150, 1000, 1001]),
  (⟨"SoupNine$Walk", "detailOfStop", "(II)I"⟩, prog_12_method_13_code, 3, (some FieldType.int), cd_Walk_detailOfStop, 1, 2, 7, 0, 0, 0, [1006, 150, 1005, 25]),
  (⟨"SoupNine$Walk", "draw", "(LSoupNine$Town;II)V"⟩, prog_12_method_4_code, 6, none, cd_Walk_draw, 1, 3, 7, 0, 0, 3, [1014, 150, 1012, 1013]),
  (⟨"SoupNine$Walk", "below", "(I)I"⟩, prog_12_method_5_code, 2, (some FieldType.int), cd_Walk_below, 1, 1, 7, 0, 0, 0, [1018, 150, 1017, 26]),
  (⟨"SoupNine$Reader", "<init>", "([B)V"⟩, prog_6_method_1_code, 2, none, cd_Reader_init, 2, 1, 6, 23, 273, 3, [380, 149, 379, 0]),
  (⟨"SoupNine$Reader", "readText", "(II)V"⟩, prog_6_method_2_code, 4, none, cd_Reader_readText, 1, 2, 6, 0, 0, 3, [649, 149, 647, 648]),
  (⟨"SoupNine$Reader", "begin", "(I)V"⟩, prog_6_method_3_code, 2, none, cd_Reader_begin, 1, 1, 6, 0, 0, 3, [653, 149, 652, 1]),
  (⟨"SoupNine$Reader", "advance", "()V"⟩, prog_6_method_15_code, 1, none, cd_Reader_advance, 1, 0, 6, 0, 0, 3, [668, 149, 667, 2]),
  (⟨"SoupNine$Reader", "isLetter", "(B)Z"⟩, prog_6_method_17_code, 1, (some FieldType.boolean), cd_Reader_isLetter, 0, 1, 0, 0, 0, 0, [671, 149, 670, 0]),
  (⟨"SoupNine$Reader", "isDigit", "(B)Z"⟩, prog_6_method_18_code, 1, (some FieldType.boolean), cd_Reader_isDigit, 0, 1, 0, 0, 0, 0, [674, 149, 673, 0]),
  (⟨"SoupNine$Reader", "readDigits", "()V"⟩, prog_6_method_16_code, 1, none, cd_Reader_readDigits, 1, 0, 6, 0, 0, 3, [678, 149, 677, 3]),
  (⟨"SoupNine$Reader", "readLine", "(I)Z"⟩, prog_6_method_5_code, 3, (some FieldType.boolean), cd_Reader_readLine, 1, 1, 6, 0, 0, 0, [682, 149, 681, 4]),
  (⟨"SoupNine$Reader", "codeOf", "(I)I"⟩, prog_6_method_6_code, 3, (some FieldType.int), cd_Reader_codeOf, 1, 1, 6, 0, 0, 0, [686, 149, 685, 5]),
  (⟨"SoupNine$Reader", "wordOf", "(I)Ljava/lang/String;"⟩, prog_6_method_13_code, 1, (some (FieldType.object "java/lang/String")), cd_Reader_wordOf, 0, 1, 0, 0, 0, 2, [691, 149, 690, 0]),
  (⟨"SoupNine$Reader", "isWord", "(Ljava/lang/String;)Z"⟩, prog_6_method_14_code, 3, (some FieldType.boolean), cd_Reader_isWord, 1, 1, 6, 0, 0, 0, [714, 149, 713, 6]),
  (⟨"SoupNine$Reader", "checkRoom", "(I)V"⟩, prog_6_method_7_code, 2, none, cd_Reader_checkRoom, 1, 1, 6, 0, 0, 3, [766, 149, 765, 7]),
  (⟨"SoupNine$Reader", "noteFault", "(II)V"⟩, prog_6_method_4_code, 3, none, cd_Reader_noteFault, 1, 2, 6, 0, 0, 3, [770, 149, 769, 8]),
  (⟨"SoupNine$Reader", "readThing", "()Z"⟩, prog_6_method_8_code, 1, (some FieldType.boolean), cd_Reader_readThing, 1, 0, 6, 0, 0, 0, [774, 149, 773, 9]),
  (⟨"SoupNine$Reader", "readNumbers", "(I)Z"⟩, prog_6_method_9_code, 3, (some FieldType.boolean), cd_Reader_readNumbers, 1, 1, 6, 0, 0, 0, [781, 149, 780, 10]),
  (⟨"SoupNine$Reader", "canBe", "(II)Z"⟩, prog_6_method_10_code, 3, (some FieldType.boolean), cd_Reader_canBe, 1, 2, 6, 0, 0, 0, [787, 149, 786, 11]),
  (⟨"SoupNine$Reader", "tellLine", "(I)V"⟩, prog_6_method_11_code, 2, none, cd_Reader_tellLine, 1, 1, 6, 0, 0, 3, [795, 149, 794, 12]),
  (⟨"SoupNine$Reader", "tellOfTown", "(I)V"⟩, prog_6_method_12_code, 2, none, cd_Reader_tellOfTown, 1, 1, 6, 0, 0, 3, [803, 149, 802, 13]),
  (⟨"SoupNine$Told", "<init>", "()V"⟩, prog_10_method_1_code, 1, none, cd_Told_init, 2, 0, 1, 50, 1150, 3, [176, 144, 175, 0]),
  (⟨"SoupNine$Told", "addBytes", "(I)V"⟩, prog_10_method_2_code, 3, none, cd_Told_addBytes, 1, 1, 1, 0, 0, 3, [633, 144, 631, 632]),
  (⟨"SoupNine$Told", "copyFrom", "(LSoupNine$Told;)V"⟩, prog_10_method_3_code, 3, none, cd_Told_copyFrom, 1, 1, 1, 0, 0, 3, [895, 144, 893, 894]),
  (⟨"SoupNine$Told", "townAt", "(I)LSoupNine$Town;"⟩, prog_10_method_4_code, 2, (some (FieldType.object "SoupNine$Town")), cd_Told_townAt, 1, 1, 1, 0, 0, 2, [912, 144, 910, 911]),
  (⟨"SoupNine$Told", "eveningAt", "(I)LSoupNine$Evening;"⟩, prog_10_method_5_code, 2, (some (FieldType.object "SoupNine$Evening")), cd_Told_eveningAt, 1, 1, 1, 0, 0, 2, [932, 144, 930, 931]),
  (⟨"SoupNine$Told", "bookAt", "(I)LSoupNine$Book;"⟩, prog_10_method_6_code, 2, (some (FieldType.object "SoupNine$Book")), cd_Told_bookAt, 1, 1, 1, 0, 0, 2, [1242, 144, 1240, 1241])]
def xmt_5 : List xme := [(⟨"SoupNine$Told", "sheetAt", "(I)LSoupNine$Sheet;"⟩, prog_10_method_7_code, 2, (some (FieldType.object "SoupNine$Sheet")), cd_Told_sheetAt, 1, 1, 1, 0, 0, 2, [1322, 144, 1320, 1321]),
  (⟨"SoupNine", "<init>", "()V"⟩, prog_1_method_1_code, 1, none, cd_So_init, 2, 0, 0, 101, 17831, 3, [168, 143, 167, 0]),
  (⟨"SoupNine", "feed", "(IIIII)I"⟩, prog_1_method_2_code, 6, (some FieldType.int), cd_So_feed, 1, 5, 0, 0, 0, 0, [629, 143, 627, 628]),
  (⟨"SoupNine", "end", "(I)I"⟩, prog_1_method_3_code, 2, (some FieldType.int), cd_So_end, 1, 1, 0, 0, 0, 0, [637, 143, 635, 636]),
  (⟨"SoupNine", "text", "(II)I"⟩, prog_1_method_4_code, 5, (some FieldType.int), cd_So_text, 1, 2, 0, 0, 0, 0, [641, 143, 639, 640]),
  (⟨"SoupNine", "placeFor", "(II)I"⟩, prog_1_method_5_code, 4, (some FieldType.int), cd_So_placeFor, 1, 2, 0, 0, 0, 0, [645, 143, 644, 0]),
  (⟨"SoupNine", "isThing", "(I)Z"⟩, prog_1_method_37_code, 1, (some FieldType.boolean), cd_So_isThing, 0, 1, 0, 0, 0, 0, [822, 143, 821, 0]),
  (⟨"SoupNine", "keepDraft", "(II)V"⟩, prog_1_method_6_code, 3, none, cd_So_keepDraft, 1, 2, 0, 0, 0, 3, [838, 143, 837, 14]),
  (⟨"SoupNine", "forgetAll", "()V"⟩, prog_1_method_7_code, 1, none, cd_So_forgetAll, 1, 0, 0, 0, 0, 3, [867, 143, 866, 15]),
  (⟨"SoupNine", "fault", "(I)I"⟩, prog_1_method_8_code, 2, (some FieldType.int), cd_So_fault, 1, 1, 0, 0, 0, 0, [883, 143, 881, 882]),
  (⟨"SoupNine", "count", "(I)I"⟩, prog_1_method_9_code, 2, (some FieldType.int), cd_So_count, 1, 1, 0, 0, 0, 0, [887, 143, 885, 886]),
  (⟨"SoupNine", "image", "(I)Z"⟩, prog_1_method_10_code, 3, (some FieldType.boolean), cd_So_image, 1, 1, 0, 51, 1159, 0, [891, 143, 889, 890]),
  (⟨"SoupNine", "again", "(I)Z"⟩, prog_1_method_11_code, 3, (some FieldType.boolean), cd_So_again, 1, 1, 0, 0, 0, 0, [904, 143, 902, 903]),
  (⟨"SoupNine", "town", "(II)I"⟩, prog_1_method_12_code, 4, (some FieldType.int), cd_So_town, 1, 2, 0, 0, 0, 0, [908, 143, 906, 907]),
  (⟨"SoupNine", "deed", "(III)I"⟩, prog_1_method_13_code, 5, (some FieldType.int), cd_So_deed, 1, 3, 0, 0, 0, 0, [928, 143, 926, 927]),
  (⟨"SoupNine", "till", "(II)I"⟩, prog_1_method_14_code, 5, (some FieldType.int), cd_So_till, 1, 2, 0, 0, 0, 0, [940, 143, 938, 939]),
  (⟨"SoupNine", "state", "(IIII)I"⟩, prog_1_method_15_code, 7, (some FieldType.int), cd_So_state, 1, 4, 0, 0, 0, 0, [998, 143, 996, 997]),
  (⟨"SoupNine", "drawn", "(IIII)I"⟩, prog_1_method_16_code, 6, (some FieldType.int), cd_So_drawn, 1, 4, 0, 0, 0, 0, [1010, 143, 1008, 1009]),
  (⟨"SoupNine", "give", "(IIII)I"⟩, prog_1_method_17_code, 6, (some FieldType.int), cd_So_give, 1, 4, 0, 0, 0, 0, [1023, 143, 1021, 1022]),
  (⟨"SoupNine", "isSoup", "(I)Z"⟩, prog_1_method_22_code, 1, (some FieldType.boolean), cd_So_isSoup, 0, 1, 0, 0, 0, 0, [1026, 143, 1025, 0]),
  (⟨"SoupNine", "mean", "(IIIZ)J"⟩, prog_1_method_18_code, 6, (some FieldType.long), cd_So_mean, 1, 4, 0, 0, 0, 1, [1057, 143, 1055, 1056]),
  (⟨"SoupNine", "safe", "(I)I"⟩, prog_1_method_19_code, 3, (some FieldType.int), cd_So_safe, 1, 1, 0, 0, 0, 0, [1072, 143, 1070, 1071]),
  (⟨"SoupNine", "tells", "(IIIZ)J"⟩, prog_1_method_20_code, 6, (some FieldType.long), cd_So_tells, 1, 4, 0, 0, 0, 1, [1080, 143, 1078, 1079]),
  (⟨"SoupNine", "lack", "(IIZ)J"⟩, prog_1_method_21_code, 5, (some FieldType.long), cd_So_lack, 1, 3, 0, 0, 0, 1, [1089, 143, 1087, 1088]),
  (⟨"SoupNine", "way", "(II)I"⟩, prog_1_method_23_code, 4, (some FieldType.int), cd_So_way, 1, 2, 0, 0, 0, 0, [1104, 143, 1102, 1103]),
  (⟨"SoupNine", "round", "(II)I"⟩, prog_1_method_24_code, 4, (some FieldType.int), cd_So_round, 1, 2, 0, 0, 0, 0, [1167, 143, 1165, 1166]),
  (⟨"SoupNine", "talks", "(I)I"⟩, prog_1_method_25_code, 3, (some FieldType.int), cd_So_talks, 1, 1, 0, 0, 0, 0, [1171, 143, 1169, 1170]),
  (⟨"SoupNine", "lost", "(II)I"⟩, prog_1_method_26_code, 4, (some FieldType.int), cd_So_lost, 1, 2, 0, 0, 0, 0, [1183, 143, 1181, 1182]),
  (⟨"SoupNine", "depot", "(IZ)I"⟩, prog_1_method_27_code, 8, (some FieldType.int), cd_So_depot, 1, 2, 0, 0, 0, 0, [1192, 143, 1190, 1191]),
  (⟨"SoupNine", "vans", "(IZ)I"⟩, prog_1_method_28_code, 5, (some FieldType.int), cd_So_vans, 1, 2, 0, 0, 0, 0, [1201, 143, 1199, 1200])]
def xmt_6 : List xme := [(⟨"SoupNine", "trail", "(IIZ)I"⟩, prog_1_method_29_code, 5, (some FieldType.int), cd_So_trail, 1, 3, 0, 0, 0, 0, [1215, 143, 1213, 1214]),
  (⟨"SoupNine", "chat", "(IZ)I"⟩, prog_1_method_30_code, 5, (some FieldType.int), cd_So_chat, 1, 2, 0, 0, 0, 0, [1229, 143, 1227, 1228]),
  (⟨"SoupNine", "book", "(III)I"⟩, prog_1_method_31_code, 5, (some FieldType.int), cd_So_book, 1, 3, 0, 0, 0, 0, [1238, 143, 1236, 1237]),
  (⟨"SoupNine", "held", "(II)I"⟩, prog_1_method_32_code, 4, (some FieldType.int), cd_So_held, 1, 2, 0, 0, 0, 0, [1250, 143, 1248, 1249]),
  (⟨"SoupNine", "bring", "(III)I"⟩, prog_1_method_33_code, 5, (some FieldType.int), cd_So_bring, 1, 3, 0, 0, 0, 0, [1281, 143, 1279, 1280]),
  (⟨"SoupNine", "span", "(IIZ)I"⟩, prog_1_method_34_code, 5, (some FieldType.int), cd_So_span, 1, 3, 0, 0, 0, 0, [1290, 143, 1288, 1289]),
  (⟨"SoupNine", "lot", "(IIZ)J"⟩, prog_1_method_35_code, 6, (some FieldType.long), cd_So_lot, 1, 3, 0, 0, 0, 1, [1294, 143, 1292, 1293]),
  (⟨"SoupNine", "like", "(III)I"⟩, prog_1_method_36_code, 6, (some FieldType.int), cd_So_like, 1, 3, 0, 0, 0, 0, [1310, 143, 1308, 1309]),
  (⟨"SoupNine", "list", "(II)I"⟩, prog_1_method_38_code, 4, (some FieldType.int), cd_So_list, 1, 2, 0, 0, 0, 0, [1318, 143, 1316, 1317]),
  (⟨"SoupNine", "shod", "(II)I"⟩, prog_1_method_39_code, 4, (some FieldType.int), cd_So_shod, 1, 2, 0, 0, 0, 0, [1334, 143, 1332, 1333]),
  (⟨"SoupNine", "look", "(II)I"⟩, prog_1_method_40_code, 4, (some FieldType.int), cd_So_look, 1, 2, 0, 0, 0, 0, [1382, 143, 1380, 1381]),
  (⟨"SoupNine", "worry", "(IIIZ)J"⟩, prog_1_method_41_code, 5, (some FieldType.long), cd_So_worry, 1, 4, 0, 0, 0, 1, [1387, 143, 1385, 1386]),
  (⟨"SoupNine", "isOfTen", "(I)Z"⟩, prog_1_method_49_code, 1, (some FieldType.boolean), cd_So_isOfTen, 0, 1, 0, 0, 0, 0, [1390, 143, 1389, 0]),
  (⟨"SoupNine", "isOfHundred", "(I)Z"⟩, prog_1_method_50_code, 1, (some FieldType.boolean), cd_So_isOfHundred, 0, 1, 0, 0, 0, 0, [1393, 143, 1392, 0]),
  (⟨"SoupNine", "unwell", "(II)J"⟩, prog_1_method_43_code, 2, (some FieldType.long), cd_So_unwell, 0, 2, 0, 0, 0, 1, [1396, 143, 1395, 0]),
  (⟨"SoupNine", "wellButAway", "(III)J"⟩, prog_1_method_44_code, 3, (some FieldType.long), cd_So_wellButAway, 0, 3, 0, 0, 0, 1, [1402, 143, 1401, 0]),
  (⟨"SoupNine", "when", "(III)I"⟩, prog_1_method_42_code, 5, (some FieldType.int), cd_So_when, 1, 3, 0, 0, 0, 0, [1410, 143, 1408, 1409]),
  (⟨"SoupNine", "sick", "(IIIIIZ)J"⟩, prog_1_method_45_code, 7, (some FieldType.long), cd_So_sick, 1, 6, 0, 0, 0, 1, [1419, 143, 1417, 1418]),
  (⟨"SoupNine", "areSigns", "(IIII)Z"⟩, prog_1_method_47_code, 4, (some FieldType.boolean), cd_So_areSigns, 0, 4, 0, 0, 0, 0, [1422, 143, 1421, 0]),
  (⟨"SoupNine", "shown", "(III)J"⟩, prog_1_method_48_code, 3, (some FieldType.long), cd_So_shown, 0, 3, 0, 0, 0, 1, [1425, 143, 1424, 0]),
  (⟨"SoupNine", "call", "(IIIII)I"⟩, prog_1_method_46_code, 7, (some FieldType.int), cd_So_call, 1, 5, 0, 0, 0, 0, [1429, 143, 1427, 1428]),
  (⟨"SoupNine", "shared", "(IIIII)I"⟩, prog_1_method_51_code, 8, (some FieldType.int), cd_So_shared, 1, 5, 0, 0, 0, 0, [1433, 143, 1431, 1432]),
  (⟨"SoupNine", "areDays", "(II)Z"⟩, prog_1_method_52_code, 2, (some FieldType.boolean), cd_So_areDays, 0, 2, 0, 0, 0, 0, [1436, 143, 1435, 0]),
  (⟨"SoupNine", "vanDays", "(IIII)I"⟩, prog_1_method_53_code, 8, (some FieldType.int), cd_So_vanDays, 0, 4, 0, 0, 0, 0, [1439, 143, 1438, 0]),
  (⟨"SoupNine", "lowestBits", "(II)I"⟩, prog_1_method_54_code, 4, (some FieldType.int), cd_So_lowestBits, 0, 2, 0, 0, 0, 0, [1444, 143, 1443, 0]),
  (⟨"SoupNine", "pair", "(III)I"⟩, prog_1_method_55_code, 6, (some FieldType.int), cd_So_pair, 1, 3, 0, 0, 0, 0, [1448, 143, 1446, 1447]),
  (⟨"SoupNine", "alone", "(II)I"⟩, prog_1_method_56_code, 3, (some FieldType.int), cd_So_alone, 0, 2, 0, 0, 0, 0, [1451, 143, 1450, 0]),
  (⟨"SoupNineModel", "<init>", "()V"⟩, prog_14_method_1_code, 1, none, cd_Mo_init, 2, 0, 11, 26, 40702, 3, [1459, 154, 1458, 0]),
  (⟨"SoupNineModel", "feed", "(IIIII)I"⟩, prog_14_method_13_code, 6, (some FieldType.int), cd_Mo_feed, 1, 5, 11, 0, 0, 0, [1637, 154, 1635, 1636]),
  (⟨"SoupNineModel", "four", "(I)V"⟩, prog_14_method_14_code, 3, none, cd_Mo_four, 1, 1, 11, 0, 0, 3, [1641, 154, 1640, 55])]
def xmt_7 : List xme := [(⟨"SoupNineModel", "end", "(I)I"⟩, prog_14_method_15_code, 2, (some FieldType.int), cd_Mo_end, 1, 1, 11, 0, 0, 0, [1645, 154, 1643, 1644]),
  (⟨"SoupNineModel", "in", "(III)Z"⟩, prog_14_method_3_code, 3, (some FieldType.boolean), cd_Mo_in, 0, 3, 0, 0, 0, 0, [1648, 154, 1647, 0]),
  (⟨"SoupNineModel", "text", "(II)I"⟩, prog_14_method_45_code, 4, (some FieldType.int), cd_Mo_text, 1, 2, 11, 0, 0, 0, [1652, 154, 1650, 1651]),
  (⟨"SoupNineModel", "is", "(II)Z"⟩, prog_14_method_12_code, 3, (some FieldType.boolean), cd_Mo_is, 1, 2, 11, 0, 0, 0, [1656, 154, 1655, 56]),
  (⟨"SoupNineModel", "readText", "(I)Z"⟩, prog_14_method_42_code, 3, (some FieldType.boolean), cd_Mo_readText, 1, 1, 11, 0, 0, 0, [1660, 154, 1659, 57]),
  (⟨"SoupNineModel", "blank", "(I)V"⟩, prog_14_method_41_code, 3, none, cd_Mo_blank, 1, 1, 11, 0, 0, 3, [1664, 154, 1663, 58]),
  (⟨"SoupNineModel", "token", "()V"⟩, prog_14_method_17_code, 3, none, cd_Mo_token, 1, 0, 11, 0, 0, 3, [1668, 154, 1667, 59]),
  (⟨"SoupNineModel", "see", "()I"⟩, prog_14_method_16_code, 1, (some FieldType.int), cd_Mo_see, 1, 0, 11, 0, 0, 0, [1672, 154, 1671, 60]),
  (⟨"SoupNineModel", "lines", "(I)Z"⟩, prog_14_method_40_code, 4, (some FieldType.boolean), cd_Mo_lines, 1, 1, 11, 0, 0, 0, [1676, 154, 1675, 61]),
  (⟨"SoupNineModel", "lineOf", "(IJI)Z"⟩, prog_14_method_39_code, 5, (some FieldType.boolean), cd_Mo_lineOf, 1, 3, 11, 0, 0, 0, [1680, 154, 1679, 62]),
  (⟨"SoupNineModel", "townLine", "(JI)Z"⟩, prog_14_method_28_code, 5, (some FieldType.boolean), cd_Mo_townLine, 1, 2, 11, 0, 0, 0, [1684, 154, 1683, 63]),
  (⟨"SoupNineModel", "kindBy", "(J)I"⟩, prog_14_method_24_code, 2, (some FieldType.int), cd_Mo_kindBy, 0, 1, 0, 0, 0, 0, [1687, 154, 1686, 0]),
  (⟨"SoupNineModel", "fails", "()Z"⟩, prog_14_method_18_code, 1, (some FieldType.boolean), cd_Mo_fails, 1, 0, 11, 0, 0, 0, [1701, 154, 1700, 64]),
  (⟨"SoupNineModel", "full", "(III)V"⟩, prog_14_method_22_code, 4, none, cd_Mo_full, 1, 3, 11, 0, 0, 3, [1705, 154, 1704, 65]),
  (⟨"SoupNineModel", "later", "(II)V"⟩, prog_14_method_19_code, 3, none, cd_Mo_later, 1, 2, 11, 0, 0, 3, [1709, 154, 1708, 66]),
  (⟨"SoupNineModel", "stopLine", "(I)Z"⟩, prog_14_method_25_code, 3, (some FieldType.boolean), cd_Mo_stopLine, 1, 1, 11, 0, 0, 0, [1713, 154, 1712, 67]),
  (⟨"SoupNineModel", "take", "(III)Z"⟩, prog_14_method_21_code, 4, (some FieldType.boolean), cd_Mo_take, 1, 3, 11, 0, 0, 0, [1717, 154, 1716, 68]),
  (⟨"SoupNineModel", "takeBut", "(IIII)Z"⟩, prog_14_method_20_code, 5, (some FieldType.boolean), cd_Mo_takeBut, 1, 4, 11, 0, 0, 0, [1721, 154, 1720, 69]),
  (⟨"SoupNineModel", "followLine", "()Z"⟩, prog_14_method_26_code, 1, (some FieldType.boolean), cd_Mo_followLine, 1, 0, 11, 0, 0, 0, [1725, 154, 1724, 70]),
  (⟨"SoupNineModel", "greater", "(II)I"⟩, prog_14_method_5_code, 2, (some FieldType.int), cd_Mo_greater, 0, 2, 0, 0, 0, 0, [1728, 154, 1727, 0]),
  (⟨"SoupNineModel", "homeLine", "()Z"⟩, prog_14_method_27_code, 1, (some FieldType.boolean), cd_Mo_homeLine, 1, 0, 11, 0, 0, 0, [1732, 154, 1731, 71]),
  (⟨"SoupNineModel", "plainLine", "(III)Z"⟩, prog_14_method_23_code, 4, (some FieldType.boolean), cd_Mo_plainLine, 1, 3, 11, 0, 0, 0, [1736, 154, 1735, 72]),
  (⟨"SoupNineModel", "dayLine", "(JI)Z"⟩, prog_14_method_31_code, 5, (some FieldType.boolean), cd_Mo_dayLine, 1, 2, 11, 0, 0, 0, [1740, 154, 1739, 73]),
  (⟨"SoupNineModel", "deedBy", "(J)I"⟩, prog_14_method_30_code, 2, (some FieldType.int), cd_Mo_deedBy, 0, 1, 0, 0, 0, 0, [1743, 154, 1742, 0]),
  (⟨"SoupNineModel", "keep", "(II)V"⟩, prog_14_method_29_code, 5, none, cd_Mo_keep, 1, 2, 11, 0, 0, 3, [1751, 154, 1750, 74]),
  (⟨"SoupNineModel", "bookLine", "(JI)Z"⟩, prog_14_method_34_code, 5, (some FieldType.boolean), cd_Mo_bookLine, 1, 2, 11, 0, 0, 0, [1755, 154, 1754, 75]),
  (⟨"SoupNineModel", "askedLine", "(I)Z"⟩, prog_14_method_33_code, 3, (some FieldType.boolean), cd_Mo_askedLine, 1, 1, 11, 0, 0, 0, [1761, 154, 1760, 76]),
  (⟨"SoupNineModel", "thingBy", "(J)I"⟩, prog_14_method_32_code, 2, (some FieldType.int), cd_Mo_thingBy, 0, 1, 0, 0, 0, 0, [1764, 154, 1763, 0]),
  (⟨"SoupNineModel", "listLine", "(JI)Z"⟩, prog_14_method_38_code, 4, (some FieldType.boolean), cd_Mo_listLine, 1, 2, 11, 0, 0, 0, [1771, 154, 1770, 77]),
  (⟨"SoupNineModel", "shoeLine", "()Z"⟩, prog_14_method_35_code, 1, (some FieldType.boolean), cd_Mo_shoeLine, 1, 0, 11, 0, 0, 0, [1778, 154, 1777, 78])]
def xmt_8 : List xme := [(⟨"SoupNineModel", "footLine", "()Z"⟩, prog_14_method_36_code, 1, (some FieldType.boolean), cd_Mo_footLine, 1, 0, 11, 0, 0, 0, [1782, 154, 1781, 79]),
  (⟨"SoupNineModel", "hideLine", "()Z"⟩, prog_14_method_37_code, 1, (some FieldType.boolean), cd_Mo_hideLine, 1, 0, 11, 0, 0, 0, [1786, 154, 1785, 80]),
  (⟨"SoupNineModel", "storeAll", "(II)V"⟩, prog_14_method_44_code, 3, none, cd_Mo_storeAll, 1, 2, 11, 0, 0, 3, [1790, 154, 1789, 81]),
  (⟨"SoupNineModel", "store", "([III)V"⟩, prog_14_method_43_code, 5, none, cd_Mo_store, 1, 3, 11, 0, 0, 3, [1794, 154, 1793, 82]),
  (⟨"SoupNineModel", "fault", "(I)I"⟩, prog_14_method_46_code, 2, (some FieldType.int), cd_Mo_fault, 1, 1, 11, 0, 0, 0, [1798, 154, 1796, 1797]),
  (⟨"SoupNineModel", "town", "(II)I"⟩, prog_14_method_50_code, 3, (some FieldType.int), cd_Mo_town, 1, 2, 11, 0, 0, 0, [1802, 154, 1800, 1801]),
  (⟨"SoupNineModel", "hand", "(I)Z"⟩, prog_14_method_48_code, 2, (some FieldType.boolean), cd_Mo_hand, 1, 1, 11, 0, 0, 0, [1806, 154, 1805, 83]),
  (⟨"SoupNineModel", "of", "(I)I"⟩, prog_14_method_47_code, 2, (some FieldType.int), cd_Mo_of, 1, 1, 11, 0, 0, 0, [1810, 154, 1809, 84]),
  (⟨"SoupNineModel", "isStop", "(I)Z"⟩, prog_14_method_49_code, 2, (some FieldType.boolean), cd_Mo_isStop, 1, 1, 11, 0, 0, 0, [1814, 154, 1813, 85]),
  (⟨"SoupNineModel", "deed", "(III)I"⟩, prog_14_method_54_code, 4, (some FieldType.int), cd_Mo_deed, 1, 3, 11, 0, 0, 0, [1818, 154, 1816, 1817]),
  (⟨"SoupNineModel", "hasEvening", "(I)Z"⟩, prog_14_method_53_code, 2, (some FieldType.boolean), cd_Mo_hasEvening, 1, 1, 11, 0, 0, 0, [1822, 154, 1821, 86]),
  (⟨"SoupNineModel", "deeds", "()I"⟩, prog_14_method_51_code, 1, (some FieldType.int), cd_Mo_deeds, 1, 0, 11, 0, 0, 0, [1826, 154, 1825, 87]),
  (⟨"SoupNineModel", "deedOf", "(II)I"⟩, prog_14_method_52_code, 3, (some FieldType.int), cd_Mo_deedOf, 1, 2, 11, 0, 0, 0, [1830, 154, 1829, 88]),
  (⟨"SoupNineModel", "till", "(II)I"⟩, prog_14_method_68_code, 3, (some FieldType.int), cd_Mo_till, 1, 2, 11, 0, 0, 0, [1834, 154, 1832, 1833]),
  (⟨"SoupNineModel", "layAll", "(II)Z"⟩, prog_14_method_67_code, 3, (some FieldType.boolean), cd_Mo_layAll, 1, 2, 11, 0, 0, 0, [1838, 154, 1837, 89]),
  (⟨"SoupNineModel", "play", "(I)I"⟩, prog_14_method_66_code, 3, (some FieldType.int), cd_Mo_play, 1, 1, 11, 0, 0, 0, [1842, 154, 1841, 90]),
  (⟨"SoupNineModel", "begin", "()V"⟩, prog_14_method_60_code, 2, none, cd_Mo_begin, 1, 0, 11, 0, 0, 3, [1846, 154, 1845, 91]),
  (⟨"SoupNineModel", "middle", "(I)I"⟩, prog_14_method_55_code, 3, (some FieldType.int), cd_Mo_middle, 1, 1, 11, 0, 0, 0, [1850, 154, 1849, 92]),
  (⟨"SoupNineModel", "does", "(II)Z"⟩, prog_14_method_65_code, 3, (some FieldType.boolean), cd_Mo_does, 1, 2, 11, 0, 0, 0, [1854, 154, 1853, 93]),
  (⟨"SoupNineModel", "drivesTo", "(I)Z"⟩, prog_14_method_62_code, 2, (some FieldType.boolean), cd_Mo_drivesTo, 1, 1, 11, 0, 0, 0, [1858, 154, 1857, 94]),
  (⟨"SoupNineModel", "drives", "(II)I"⟩, prog_14_method_58_code, 3, (some FieldType.int), cd_Mo_drives, 1, 2, 11, 0, 0, 0, [1862, 154, 1861, 95]),
  (⟨"SoupNineModel", "placeX", "(I)I"⟩, prog_14_method_56_code, 2, (some FieldType.int), cd_Mo_placeX, 1, 1, 11, 0, 0, 0, [1866, 154, 1865, 96]),
  (⟨"SoupNineModel", "apart", "(II)I"⟩, prog_14_method_7_code, 2, (some FieldType.int), cd_Mo_apart, 0, 2, 0, 0, 0, 0, [1869, 154, 1868, 0]),
  (⟨"SoupNineModel", "placeY", "(I)I"⟩, prog_14_method_57_code, 2, (some FieldType.int), cd_Mo_placeY, 1, 1, 11, 0, 0, 0, [1873, 154, 1872, 97]),
  (⟨"SoupNineModel", "takes", "(I)Z"⟩, prog_14_method_61_code, 3, (some FieldType.boolean), cd_Mo_takes, 1, 1, 11, 0, 0, 0, [1877, 154, 1876, 98]),
  (⟨"SoupNineModel", "ladles", "(I)Z"⟩, prog_14_method_63_code, 6, (some FieldType.boolean), cd_Mo_ladles, 1, 1, 11, 0, 0, 0, [1881, 154, 1880, 99]),
  (⟨"SoupNineModel", "feeds", "(I)I"⟩, prog_14_method_59_code, 1, (some FieldType.int), cd_Mo_feeds, 0, 1, 0, 0, 0, 0, [1884, 154, 1883, 0]),
  (⟨"SoupNineModel", "lesser", "(II)I"⟩, prog_14_method_6_code, 2, (some FieldType.int), cd_Mo_lesser, 0, 2, 0, 0, 0, 0, [1887, 154, 1886, 0]),
  (⟨"SoupNineModel", "chats", "()Z"⟩, prog_14_method_64_code, 1, (some FieldType.boolean), cd_Mo_chats, 1, 0, 11, 0, 0, 0, [1891, 154, 1890, 100]),
  (⟨"SoupNineModel", "state", "(IIII)I"⟩, prog_14_method_71_code, 5, (some FieldType.int), cd_Mo_state, 1, 4, 11, 0, 0, 0, [1895, 154, 1893, 1894])]
def xmt_9 : List xme := [(⟨"SoupNineModel", "ofState", "(I)I"⟩, prog_14_method_70_code, 3, (some FieldType.int), cd_Mo_ofState, 1, 1, 11, 0, 0, 0, [1899, 154, 1898, 101]),
  (⟨"SoupNineModel", "ofEvening", "(I)I"⟩, prog_14_method_69_code, 2, (some FieldType.int), cd_Mo_ofEvening, 1, 1, 11, 0, 0, 0, [1903, 154, 1902, 102]),
  (⟨"SoupNineModel", "give", "(IIII)I"⟩, prog_14_method_77_code, 5, (some FieldType.int), cd_Mo_give, 1, 4, 11, 0, 0, 0, [1907, 154, 1905, 1906]),
  (⟨"SoupNineModel", "mayCome", "(II)Z"⟩, prog_14_method_76_code, 3, (some FieldType.boolean), cd_Mo_mayCome, 1, 2, 11, 0, 0, 0, [1911, 154, 1910, 103]),
  (⟨"SoupNineModel", "findCounts", "()V"⟩, prog_14_method_75_code, 6, none, cd_Mo_findCounts, 1, 0, 11, 0, 0, 3, [1915, 154, 1914, 104]),
  (⟨"SoupNineModel", "gives", "(III)I"⟩, prog_14_method_74_code, 6, (some FieldType.int), cd_Mo_gives, 1, 3, 11, 0, 0, 0, [1919, 154, 1918, 105]),
  (⟨"SoupNineModel", "countsBy", "(IIII)J"⟩, prog_14_method_73_code, 5, (some FieldType.long), cd_Mo_countsBy, 1, 4, 11, 0, 0, 1, [1923, 154, 1922, 106]),
  (⟨"SoupNineModel", "weight", "(I)I"⟩, prog_14_method_72_code, 2, (some FieldType.int), cd_Mo_weight, 1, 1, 11, 0, 0, 0, [1927, 154, 1926, 107]),
  (⟨"SoupNineModel", "mean", "(IIIZ)J"⟩, prog_14_method_79_code, 5, (some FieldType.long), cd_Mo_mean, 1, 4, 11, 0, 0, 1, [1931, 154, 1929, 1930]),
  (⟨"SoupNineModel", "part", "(JJZ)J"⟩, prog_14_method_78_code, 5, (some FieldType.long), cd_Mo_part, 0, 3, 0, 0, 0, 1, [1935, 154, 1934, 0]),
  (⟨"SoupNineModel", "common", "(JJ)J"⟩, prog_14_method_9_code, 10, (some FieldType.long), cd_Mo_common, 0, 2, 0, 0, 0, 1, [1938, 154, 1937, 0]),
  (⟨"SoupNineModel", "safe", "(I)I"⟩, prog_14_method_80_code, 4, (some FieldType.int), cd_Mo_safe, 1, 1, 11, 0, 0, 0, [1942, 154, 1940, 1941]),
  (⟨"SoupNineModel", "way", "(II)I"⟩, prog_14_method_88_code, 3, (some FieldType.int), cd_Mo_way, 1, 2, 11, 0, 0, 0, [1946, 154, 1944, 1945]),
  (⟨"SoupNineModel", "findWay", "(I)V"⟩, prog_14_method_86_code, 8, none, cd_Mo_findWay, 1, 1, 11, 0, 0, 3, [1950, 154, 1949, 108]),
  (⟨"SoupNineModel", "findOn", "(III)V"⟩, prog_14_method_84_code, 7, none, cd_Mo_findOn, 1, 3, 11, 0, 0, 3, [1954, 154, 1953, 109]),
  (⟨"SoupNineModel", "peopleOf", "(I)I"⟩, prog_14_method_82_code, 4, (some FieldType.int), cd_Mo_peopleOf, 1, 1, 11, 0, 0, 0, [1958, 154, 1957, 110]),
  (⟨"SoupNineModel", "has", "(II)Z"⟩, prog_14_method_4_code, 2, (some FieldType.boolean), cd_Mo_has, 0, 2, 0, 0, 0, 0, [1961, 154, 1960, 0]),
  (⟨"SoupNineModel", "goOn", "(III)V"⟩, prog_14_method_85_code, 8, none, cd_Mo_goOn, 1, 3, 11, 0, 0, 3, [1966, 154, 1965, 111]),
  (⟨"SoupNineModel", "isSought", "(I)Z"⟩, prog_14_method_81_code, 2, (some FieldType.boolean), cd_Mo_isSought, 1, 1, 11, 0, 0, 0, [1970, 154, 1969, 112]),
  (⟨"SoupNineModel", "doneThere", "(III)I"⟩, prog_14_method_83_code, 5, (some FieldType.int), cd_Mo_doneThere, 1, 3, 11, 0, 0, 0, [1974, 154, 1973, 113]),
  (⟨"SoupNineModel", "leads", "(IIIIII)Z"⟩, prog_14_method_87_code, 8, (some FieldType.boolean), cd_Mo_leads, 1, 6, 11, 0, 0, 0, [1978, 154, 1977, 114]),
  (⟨"SoupNineModel", "round", "(II)I"⟩, prog_14_method_91_code, 7, (some FieldType.int), cd_Mo_round, 1, 2, 11, 0, 0, 0, [1982, 154, 1980, 1981]),
  (⟨"SoupNineModel", "findRounds", "()V"⟩, prog_14_method_90_code, 5, none, cd_Mo_findRounds, 1, 0, 11, 0, 0, 3, [1986, 154, 1985, 115]),
  (⟨"SoupNineModel", "cell", "(II)I"⟩, prog_14_method_89_code, 2, (some FieldType.int), cd_Mo_cell, 0, 2, 0, 0, 0, 0, [1989, 154, 1988, 0]),
  (⟨"SoupNineModel", "talks", "(I)I"⟩, prog_14_method_93_code, 3, (some FieldType.int), cd_Mo_talks, 1, 1, 11, 0, 0, 0, [1993, 154, 1991, 1992]),
  (⟨"SoupNineModel", "areWarm", "(II)Z"⟩, prog_14_method_92_code, 6, (some FieldType.boolean), cd_Mo_areWarm, 1, 2, 11, 0, 0, 0, [1997, 154, 1996, 116]),
  (⟨"SoupNineModel", "lost", "(II)I"⟩, prog_14_method_94_code, 4, (some FieldType.int), cd_Mo_lost, 1, 2, 11, 0, 0, 0, [2001, 154, 1999, 2000]),
  (⟨"SoupNineModel", "book", "(III)I"⟩, prog_14_method_98_code, 4, (some FieldType.int), cd_Mo_book, 1, 3, 11, 0, 0, 0, [2005, 154, 2003, 2004]),
  (⟨"SoupNineModel", "hasBook", "(I)Z"⟩, prog_14_method_97_code, 2, (some FieldType.boolean), cd_Mo_hasBook, 1, 1, 11, 0, 0, 0, [2009, 154, 2008, 117]),
  (⟨"SoupNineModel", "nights", "()I"⟩, prog_14_method_95_code, 1, (some FieldType.int), cd_Mo_nights, 1, 0, 11, 0, 0, 0, [2013, 154, 2012, 118])]
def xmt_10 : List xme := [(⟨"SoupNineModel", "nightOf", "(II)I"⟩, prog_14_method_96_code, 3, (some FieldType.int), cd_Mo_nightOf, 1, 2, 11, 0, 0, 0, [2017, 154, 2016, 119]),
  (⟨"SoupNineModel", "held", "(II)I"⟩, prog_14_method_103_code, 5, (some FieldType.int), cd_Mo_held, 1, 2, 11, 0, 0, 0, [2021, 154, 2019, 2020]),
  (⟨"SoupNineModel", "heldBy", "(Z)J"⟩, prog_14_method_102_code, 8, (some FieldType.long), cd_Mo_heldBy, 1, 1, 11, 0, 0, 1, [2025, 154, 2024, 120]),
  (⟨"SoupNineModel", "doorway", "()I"⟩, prog_14_method_101_code, 5, (some FieldType.int), cd_Mo_doorway, 1, 0, 11, 0, 0, 0, [2029, 154, 2028, 121]),
  (⟨"SoupNineModel", "moreFrom", "(I)I"⟩, prog_14_method_100_code, 2, (some FieldType.int), cd_Mo_moreFrom, 1, 1, 11, 0, 0, 0, [2033, 154, 2032, 122]),
  (⟨"SoupNineModel", "seenFrom", "(II)I"⟩, prog_14_method_99_code, 5, (some FieldType.int), cd_Mo_seenFrom, 1, 2, 11, 0, 0, 0, [2037, 154, 2036, 123]),
  (⟨"SoupNineModel", "bring", "(III)I"⟩, prog_14_method_104_code, 5, (some FieldType.int), cd_Mo_bring, 1, 3, 11, 0, 0, 0, [2041, 154, 2039, 2040]),
  (⟨"SoupNineModel", "enoughOn", "(II)I"⟩, prog_14_method_105_code, 5, (some FieldType.int), cd_Mo_enoughOn, 1, 2, 11, 0, 0, 0, [2045, 154, 2044, 124]),
  (⟨"SoupNineModel", "span", "(IIZ)I"⟩, prog_14_method_106_code, 7, (some FieldType.int), cd_Mo_span, 1, 3, 11, 0, 0, 0, [2049, 154, 2047, 2048]),
  (⟨"SoupNineModel", "list", "(II)I"⟩, prog_14_method_109_code, 4, (some FieldType.int), cd_Mo_list, 1, 2, 11, 0, 0, 0, [2053, 154, 2051, 2052]),
  (⟨"SoupNineModel", "hasList", "(I)Z"⟩, prog_14_method_108_code, 2, (some FieldType.boolean), cd_Mo_hasList, 1, 1, 11, 0, 0, 0, [2057, 154, 2056, 125]),
  (⟨"SoupNineModel", "listOf", "(I)I"⟩, prog_14_method_107_code, 2, (some FieldType.int), cd_Mo_listOf, 1, 1, 11, 0, 0, 0, [2061, 154, 2060, 126]),
  (⟨"SoupNineModel", "shod", "(II)I"⟩, prog_14_method_113_code, 3, (some FieldType.int), cd_Mo_shod, 1, 2, 11, 0, 0, 0, [2065, 154, 2063, 2064]),
  (⟨"SoupNineModel", "findNeeds", "()V"⟩, prog_14_method_111_code, 5, none, cd_Mo_findNeeds, 1, 0, 11, 0, 0, 3, [2069, 154, 2068, 127]),
  (⟨"SoupNineModel", "isFit", "(II)Z"⟩, prog_14_method_110_code, 3, (some FieldType.boolean), cd_Mo_isFit, 1, 2, 11, 0, 0, 0, [2073, 154, 2072, 128]),
  (⟨"SoupNineModel", "shoeOf", "(I)I"⟩, prog_14_method_112_code, 7, (some FieldType.int), cd_Mo_shoeOf, 1, 1, 11, 0, 0, 0, [2077, 154, 2076, 129]),
  (⟨"SoupNineModel", "look", "(II)I"⟩, prog_14_method_121_code, 4, (some FieldType.int), cd_Mo_look, 1, 2, 11, 0, 0, 0, [2081, 154, 2079, 2080]),
  (⟨"SoupNineModel", "hides", "()I"⟩, prog_14_method_114_code, 1, (some FieldType.int), cd_Mo_hides, 1, 0, 11, 0, 0, 0, [2085, 154, 2084, 130]),
  (⟨"SoupNineModel", "odds", "(I)I"⟩, prog_14_method_117_code, 4, (some FieldType.int), cd_Mo_odds, 1, 1, 11, 0, 0, 0, [2089, 154, 2088, 131]),
  (⟨"SoupNineModel", "findLooks", "()V"⟩, prog_14_method_119_code, 5, none, cd_Mo_findLooks, 1, 0, 11, 0, 0, 3, [2093, 154, 2092, 132]),
  (⟨"SoupNineModel", "looksOn", "(III)I"⟩, prog_14_method_118_code, 5, (some FieldType.int), cd_Mo_looksOn, 1, 3, 11, 0, 0, 0, [2097, 154, 2096, 133]),
  (⟨"SoupNineModel", "hideX", "(I)I"⟩, prog_14_method_115_code, 2, (some FieldType.int), cd_Mo_hideX, 1, 1, 11, 0, 0, 0, [2101, 154, 2100, 134]),
  (⟨"SoupNineModel", "hideY", "(I)I"⟩, prog_14_method_116_code, 2, (some FieldType.int), cd_Mo_hideY, 1, 1, 11, 0, 0, 0, [2105, 154, 2104, 135]),
  (⟨"SoupNineModel", "hideAt", "(I)I"⟩, prog_14_method_120_code, 6, (some FieldType.int), cd_Mo_hideAt, 1, 1, 11, 0, 0, 0, [2109, 154, 2108, 136]),
  (⟨"SoupNineModel", "worry", "(IIIZ)J"⟩, prog_14_method_126_code, 7, (some FieldType.long), cd_Mo_worry, 1, 4, 11, 0, 0, 1, [2113, 154, 2111, 2112]),
  (⟨"SoupNineModel", "areOdds", "(II)Z"⟩, prog_14_method_125_code, 2, (some FieldType.boolean), cd_Mo_areOdds, 0, 2, 0, 0, 0, 0, [2116, 154, 2115, 0]),
  (⟨"SoupNineModel", "stays", "(III)J"⟩, prog_14_method_124_code, 3, (some FieldType.long), cd_Mo_stays, 0, 3, 0, 0, 0, 1, [2119, 154, 2118, 0]),
  (⟨"SoupNineModel", "ill", "(II)J"⟩, prog_14_method_123_code, 2, (some FieldType.long), cd_Mo_ill, 0, 2, 0, 0, 0, 1, [2122, 154, 2121, 0]),
  (⟨"SoupNineModel", "power", "(JI)J"⟩, prog_14_method_122_code, 6, (some FieldType.long), cd_Mo_power, 0, 2, 0, 0, 0, 1, [2126, 154, 2125, 0]),
  (⟨"SoupNineModel", "when", "(III)I"⟩, prog_14_method_127_code, 7, (some FieldType.int), cd_Mo_when, 1, 3, 11, 0, 0, 0, [2130, 154, 2128, 2129])]
def xmt_11 : List xme := [(⟨"SoupNineModel", "shared", "(IIIII)I"⟩, prog_14_method_128_code, 12, (some FieldType.int), cd_Mo_shared, 1, 5, 11, 0, 0, 0, [2134, 154, 2132, 2133]),
  (⟨"SoupNineModel", "ones", "(I)I"⟩, prog_14_method_8_code, 3, (some FieldType.int), cd_Mo_ones, 0, 1, 0, 0, 0, 0, [2137, 154, 2136, 0]),
  (⟨"SoupNineModel", "pair", "(III)I"⟩, prog_14_method_129_code, 7, (some FieldType.int), cd_Mo_pair, 1, 3, 11, 0, 0, 0, [2141, 154, 2139, 2140]),
  (⟨"SoupNineModel", "drawn", "(IIII)I"⟩, prog_14_method_132_code, 6, (some FieldType.int), cd_Mo_drawn, 1, 4, 11, 0, 0, 0, [2145, 154, 2143, 2144]),
  (⟨"SoupNineModel", "drawDeed", "()V"⟩, prog_14_method_131_code, 2, none, cd_Mo_drawDeed, 1, 0, 11, 0, 0, 3, [2149, 154, 2148, 137]),
  (⟨"SoupNineModel", "draw", "(I)I"⟩, prog_14_method_130_code, 2, (some FieldType.int), cd_Mo_draw, 1, 1, 11, 0, 0, 0, [2153, 154, 2152, 138]),
  (⟨"SoupNineModel", "tells", "(IIIZ)J"⟩, prog_14_method_133_code, 5, (some FieldType.long), cd_Mo_tells, 1, 4, 11, 0, 0, 1, [2158, 154, 2156, 2157]),
  (⟨"SoupNineModel", "depot", "(IZ)I"⟩, prog_14_method_135_code, 5, (some FieldType.int), cd_Mo_depot, 1, 2, 11, 0, 0, 0, [2162, 154, 2160, 2161]),
  (⟨"SoupNineModel", "drivenFrom", "(II)I"⟩, prog_14_method_134_code, 5, (some FieldType.int), cd_Mo_drivenFrom, 1, 2, 11, 0, 0, 0, [2166, 154, 2165, 139]),
  (⟨"SoupNineModel", "vans", "(IZ)I"⟩, prog_14_method_136_code, 8, (some FieldType.int), cd_Mo_vans, 1, 2, 11, 0, 0, 0, [2170, 154, 2168, 2169]),
  (⟨"SoupNineModel", "trail", "(IIZ)I"⟩, prog_14_method_137_code, 6, (some FieldType.int), cd_Mo_trail, 1, 3, 11, 0, 0, 0, [2174, 154, 2172, 2173]),
  (⟨"SoupNineModel", "chat", "(IZ)I"⟩, prog_14_method_138_code, 7, (some FieldType.int), cd_Mo_chat, 1, 2, 11, 0, 0, 0, [2178, 154, 2176, 2177]),
  (⟨"SoupNineModel", "lack", "(IIZ)J"⟩, prog_14_method_139_code, 11, (some FieldType.long), cd_Mo_lack, 1, 3, 11, 0, 0, 1, [2182, 154, 2180, 2181]),
  (⟨"SoupNineModel", "lot", "(IIZ)J"⟩, prog_14_method_141_code, 11, (some FieldType.long), cd_Mo_lot, 1, 3, 11, 0, 0, 1, [2186, 154, 2184, 2185]),
  (⟨"SoupNineModel", "picks", "(II)V"⟩, prog_14_method_140_code, 5, none, cd_Mo_picks, 1, 2, 11, 0, 0, 3, [2190, 154, 2189, 140]),
  (⟨"SoupNineModel", "like", "(III)I"⟩, prog_14_method_142_code, 7, (some FieldType.int), cd_Mo_like, 1, 3, 11, 0, 0, 0, [2194, 154, 2192, 2193]),
  (⟨"SoupNineModel", "sick", "(IIIIIZ)J"⟩, prog_14_method_146_code, 7, (some FieldType.long), cd_Mo_sick, 1, 6, 11, 0, 0, 1, [2198, 154, 2196, 2197]),
  (⟨"SoupNineModel", "areSigns", "(IIII)Z"⟩, prog_14_method_144_code, 4, (some FieldType.boolean), cd_Mo_areSigns, 0, 4, 0, 0, 0, 0, [2201, 154, 2200, 0]),
  (⟨"SoupNineModel", "shows", "(IIII)J"⟩, prog_14_method_143_code, 4, (some FieldType.long), cd_Mo_shows, 0, 4, 0, 0, 0, 1, [2204, 154, 2203, 0]),
  (⟨"SoupNineModel", "allShow", "(IIIII)J"⟩, prog_14_method_145_code, 7, (some FieldType.long), cd_Mo_allShow, 0, 5, 0, 0, 0, 1, [2207, 154, 2206, 0]),
  (⟨"SoupNineModel", "call", "(IIIII)I"⟩, prog_14_method_147_code, 7, (some FieldType.int), cd_Mo_call, 1, 5, 11, 0, 0, 0, [2211, 154, 2209, 2210]),
  (⟨"SoupNineModel", "count", "(I)I"⟩, prog_14_method_148_code, 2, (some FieldType.int), cd_Mo_count, 1, 1, 11, 0, 0, 0, [2215, 154, 2213, 2214]),
  (⟨"SoupNineModel", "image", "(I)Z"⟩, prog_14_method_149_code, 2, (some FieldType.boolean), cd_Mo_image, 1, 1, 11, 0, 0, 0, [2219, 154, 2217, 2218]),
  (⟨"SoupNineModel", "copyAll", "(II)V"⟩, prog_14_method_11_code, 4, none, cd_Mo_copyAll, 1, 2, 11, 0, 0, 3, [2223, 154, 2222, 141]),
  (⟨"SoupNineModel", "copyRow", "([IIII)V"⟩, prog_14_method_10_code, 5, none, cd_Mo_copyRow, 0, 4, 0, 0, 0, 3, [2226, 154, 2225, 0]),
  (⟨"SoupNineModel", "again", "(I)Z"⟩, prog_14_method_150_code, 2, (some FieldType.boolean), cd_Mo_again, 1, 1, 11, 0, 0, 0, [2230, 154, 2228, 2229])]
def xmt : List xme := xmt_0 ++ (xmt_1 ++ (xmt_2 ++ (xmt_3 ++ (xmt_4 ++ (xmt_5 ++ (xmt_6 ++ (xmt_7 ++ (xmt_8 ++ (xmt_9 ++ (xmt_10 ++ (xmt_11)))))))))))
abbrev m_Integer_bitCount : Nat := 0
abbrev m_Math_min_III : Nat := 1
abbrev m_Math_max : Nat := 2
abbrev m_Math_abs : Nat := 3
abbrev m_Math_min_JJJ : Nat := 4
abbrev m_Math_floorMod : Nat := 5
abbrev m_Arrays_fill_JJV : Nat := 6
abbrev m_Arrays_fill_IIV : Nat := 7
abbrev m_StringUTF16_charAt : Nat := 8
abbrev m_StringUTF16_checkIndex : Nat := 9
abbrev m_StringUTF16_length : Nat := 10
abbrev m_StringUTF16_getChar : Nat := 11
abbrev m_StringLatin1_charAt : Nat := 12
abbrev m_String_length : Nat := 13
abbrev m_String_coder : Nat := 14
abbrev m_String_charAt : Nat := 15
abbrev m_String_isLatin1 : Nat := 16
abbrev m_String_checkIndex : Nat := 17
abbrev m_Preconditions_checkIndex : Nat := 18
abbrev m_Fraction_part : Nat := 19
abbrev m_Fraction_divisor : Nat := 20
abbrev m_Fraction_power : Nat := 21
abbrev m_Fraction_share : Nat := 22
abbrev m_Fraction_reaches : Nat := 23
abbrev m_Evening_init : Nat := 24
abbrev m_Evening_addDeed : Nat := 25
abbrev m_Evening_copyFrom : Nat := 26
abbrev m_Evening_detail : Nat := 27
abbrev m_Sheet_init : Nat := 28
abbrev m_Sheet_clear : Nat := 29
abbrev m_Sheet_addShoe : Nat := 30
abbrev m_Sheet_addFoot : Nat := 31
abbrev m_Sheet_addHide : Nat := 32
abbrev m_Sheet_copyFrom : Nat := 33
abbrev m_Sheet_detail : Nat := 34
abbrev m_Sheet_detailOf : Nat := 35
abbrev m_Sheet_fits : Nat := 36
abbrev m_Sheet_steps : Nat := 37
abbrev m_Town_init : Nat := 38
abbrev m_Town_clear : Nat := 39
abbrev m_Town_addStop : Nat := 40
abbrev m_Town_setFollow : Nat := 41
abbrev m_Town_copyFrom : Nat := 42
abbrev m_Town_detail : Nat := 43
abbrev m_Town_hasStop : Nat := 44
abbrev m_Town_detailOfStop : Nat := 45
abbrev m_Town_middle : Nat := 46
abbrev m_Town_minutes : Nat := 47
abbrev m_Town_columnOf : Nat := 48
abbrev m_Town_rowOf : Nat := 49
abbrev m_Town_mayCome : Nat := 50
abbrev m_Town_weight : Nat := 51
abbrev m_Town_mostInAll : Nat := 52
abbrev m_Town_minutesFromPlace : Nat := 53
abbrev m_Town_trailFrom : Nat := 54
abbrev m_Book_init : Nat := 55
abbrev m_Book_lotRow : Nat := 56
abbrev m_Book_addNight : Nat := 57
abbrev m_Book_setAsked : Nat := 58
abbrev m_Book_copyFrom : Nat := 59
abbrev m_Book_detail : Nat := 60
abbrev m_Book_unlikeAheadOf : Nat := 61
abbrev m_Book_heldInAll : Nat := 62
abbrev m_Book_doorway : Nat := 63
abbrev m_Book_moreFrom : Nat := 64
abbrev m_Book_seenAheadOf : Nat := 65
abbrev m_Book_doorwayDifference : Nat := 66
abbrev m_Book_enoughOn : Nat := 67
abbrev m_Book_chanceOfAsMany : Nat := 68
abbrev m_Book_maybePick : Nat := 69
abbrev m_Book_couplesWith : Nat := 70
abbrev m_Bowls_init : Nat := 71
abbrev m_Bowls_forget : Nat := 72
abbrev m_Bowls_bestGift : Nat := 73
abbrev m_Bowls_prepare : Nat := 74
abbrev m_Bowls_countsOverAll : Nat := 75
abbrev m_Bowls_countsAfter : Nat := 76
abbrev m_Bowls_meanFrom : Nat := 77
abbrev m_Bowls_meanOnceTold : Nat := 78
abbrev m_Bowls_chanceOfMore : Nat := 79
abbrev m_Bowls_waysTo : Nat := 80
abbrev m_Routes_init : Nat := 81
abbrev m_Routes_forget : Nat := 82
abbrev m_Routes_prepare : Nat := 83
abbrev m_Routes_measure : Nat := 84
abbrev m_Routes_findPaths : Nat := 85
abbrev m_Routes_has : Nat := 86
abbrev m_Routes_shortest : Nat := 87
abbrev m_Routes_findRound : Nat := 88
abbrev m_Routes_findBestOfWay : Nat := 89
abbrev m_Routes_isPeopled : Nat := 90
abbrev m_Routes_fewestMinutes : Nat := 91
abbrev m_Routes_isWarm : Nat := 92
abbrev m_Routes_doneAt : Nat := 93
abbrev m_Routes_findWay : Nat := 94
abbrev m_Routes_isBest : Nat := 95
abbrev m_Routes_nextOf : Nat := 96
abbrev m_Routes_talksAtFirst : Nat := 97
abbrev m_Routes_talksAheadOfLast : Nat := 98
abbrev m_Routes_mostWarmWithout : Nat := 99
abbrev m_Routes_stopsOfFirstVan : Nat := 100
abbrev m_Routes_homeLast : Nat := 101
abbrev m_Routes_stopsToTalkAt : Nat := 102
abbrev m_Search_init : Nat := 103
abbrev m_Search_forget : Nat := 104
abbrev m_Search_prepare : Nat := 105
abbrev m_Search_findNeed : Nat := 106
abbrev m_Search_needWith : Nat := 107
abbrev m_Search_findShoes : Nat := 108
abbrev m_Search_findWalked : Nat := 109
abbrev m_Search_leastWalked : Nat := 110
abbrev m_Search_walkedBy : Nat := 111
abbrev m_Search_findHides : Nat := 112
abbrev m_Walk_init : Nat := 113
abbrev m_Walk_begin : Nat := 114
abbrev m_Walk_follow : Nat := 115
abbrev m_Walk_perform : Nat := 116
abbrev m_Walk_driveTo : Nat := 117
abbrev m_Walk_spend : Nat := 118
abbrev m_Walk_ladle : Nat := 119
abbrev m_Walk_sendOn : Nat := 120
abbrev m_Walk_talk : Nat := 121
abbrev m_Walk_detail : Nat := 122
abbrev m_Walk_detailOfStop : Nat := 123
abbrev m_Walk_draw : Nat := 124
abbrev m_Walk_below : Nat := 125
abbrev m_Reader_init : Nat := 126
abbrev m_Reader_readText : Nat := 127
abbrev m_Reader_begin : Nat := 128
abbrev m_Reader_advance : Nat := 129
abbrev m_Reader_isLetter : Nat := 130
abbrev m_Reader_isDigit : Nat := 131
abbrev m_Reader_readDigits : Nat := 132
abbrev m_Reader_readLine : Nat := 133
abbrev m_Reader_codeOf : Nat := 134
abbrev m_Reader_wordOf : Nat := 135
abbrev m_Reader_isWord : Nat := 136
abbrev m_Reader_checkRoom : Nat := 137
abbrev m_Reader_noteFault : Nat := 138
abbrev m_Reader_readThing : Nat := 139
abbrev m_Reader_readNumbers : Nat := 140
abbrev m_Reader_canBe : Nat := 141
abbrev m_Reader_tellLine : Nat := 142
abbrev m_Reader_tellOfTown : Nat := 143
abbrev m_Told_init : Nat := 144
abbrev m_Told_addBytes : Nat := 145
abbrev m_Told_copyFrom : Nat := 146
abbrev m_Told_townAt : Nat := 147
abbrev m_Told_eveningAt : Nat := 148
abbrev m_Told_bookAt : Nat := 149
abbrev m_Told_sheetAt : Nat := 150
abbrev m_So_init : Nat := 151
abbrev m_So_feed : Nat := 152
abbrev m_So_end : Nat := 153
abbrev m_So_text : Nat := 154
abbrev m_So_placeFor : Nat := 155
abbrev m_So_isThing : Nat := 156
abbrev m_So_keepDraft : Nat := 157
abbrev m_So_forgetAll : Nat := 158
abbrev m_So_fault : Nat := 159
abbrev m_So_count : Nat := 160
abbrev m_So_image : Nat := 161
abbrev m_So_again : Nat := 162
abbrev m_So_town : Nat := 163
abbrev m_So_deed : Nat := 164
abbrev m_So_till : Nat := 165
abbrev m_So_state : Nat := 166
abbrev m_So_drawn : Nat := 167
abbrev m_So_give : Nat := 168
abbrev m_So_isSoup : Nat := 169
abbrev m_So_mean : Nat := 170
abbrev m_So_safe : Nat := 171
abbrev m_So_tells : Nat := 172
abbrev m_So_lack : Nat := 173
abbrev m_So_way : Nat := 174
abbrev m_So_round : Nat := 175
abbrev m_So_talks : Nat := 176
abbrev m_So_lost : Nat := 177
abbrev m_So_depot : Nat := 178
abbrev m_So_vans : Nat := 179
abbrev m_So_trail : Nat := 180
abbrev m_So_chat : Nat := 181
abbrev m_So_book : Nat := 182
abbrev m_So_held : Nat := 183
abbrev m_So_bring : Nat := 184
abbrev m_So_span : Nat := 185
abbrev m_So_lot : Nat := 186
abbrev m_So_like : Nat := 187
abbrev m_So_list : Nat := 188
abbrev m_So_shod : Nat := 189
abbrev m_So_look : Nat := 190
abbrev m_So_worry : Nat := 191
abbrev m_So_isOfTen : Nat := 192
abbrev m_So_isOfHundred : Nat := 193
abbrev m_So_unwell : Nat := 194
abbrev m_So_wellButAway : Nat := 195
abbrev m_So_when : Nat := 196
abbrev m_So_sick : Nat := 197
abbrev m_So_areSigns : Nat := 198
abbrev m_So_shown : Nat := 199
abbrev m_So_call : Nat := 200
abbrev m_So_shared : Nat := 201
abbrev m_So_areDays : Nat := 202
abbrev m_So_vanDays : Nat := 203
abbrev m_So_lowestBits : Nat := 204
abbrev m_So_pair : Nat := 205
abbrev m_So_alone : Nat := 206
abbrev m_Mo_init : Nat := 207
abbrev m_Mo_feed : Nat := 208
abbrev m_Mo_four : Nat := 209
abbrev m_Mo_end : Nat := 210
abbrev m_Mo_in : Nat := 211
abbrev m_Mo_text : Nat := 212
abbrev m_Mo_is : Nat := 213
abbrev m_Mo_readText : Nat := 214
abbrev m_Mo_blank : Nat := 215
abbrev m_Mo_token : Nat := 216
abbrev m_Mo_see : Nat := 217
abbrev m_Mo_lines : Nat := 218
abbrev m_Mo_lineOf : Nat := 219
abbrev m_Mo_townLine : Nat := 220
abbrev m_Mo_kindBy : Nat := 221
abbrev m_Mo_fails : Nat := 222
abbrev m_Mo_full : Nat := 223
abbrev m_Mo_later : Nat := 224
abbrev m_Mo_stopLine : Nat := 225
abbrev m_Mo_take : Nat := 226
abbrev m_Mo_takeBut : Nat := 227
abbrev m_Mo_followLine : Nat := 228
abbrev m_Mo_greater : Nat := 229
abbrev m_Mo_homeLine : Nat := 230
abbrev m_Mo_plainLine : Nat := 231
abbrev m_Mo_dayLine : Nat := 232
abbrev m_Mo_deedBy : Nat := 233
abbrev m_Mo_keep : Nat := 234
abbrev m_Mo_bookLine : Nat := 235
abbrev m_Mo_askedLine : Nat := 236
abbrev m_Mo_thingBy : Nat := 237
abbrev m_Mo_listLine : Nat := 238
abbrev m_Mo_shoeLine : Nat := 239
abbrev m_Mo_footLine : Nat := 240
abbrev m_Mo_hideLine : Nat := 241
abbrev m_Mo_storeAll : Nat := 242
abbrev m_Mo_store : Nat := 243
abbrev m_Mo_fault : Nat := 244
abbrev m_Mo_town : Nat := 245
abbrev m_Mo_hand : Nat := 246
abbrev m_Mo_of : Nat := 247
abbrev m_Mo_isStop : Nat := 248
abbrev m_Mo_deed : Nat := 249
abbrev m_Mo_hasEvening : Nat := 250
abbrev m_Mo_deeds : Nat := 251
abbrev m_Mo_deedOf : Nat := 252
abbrev m_Mo_till : Nat := 253
abbrev m_Mo_layAll : Nat := 254
abbrev m_Mo_play : Nat := 255
abbrev m_Mo_begin : Nat := 256
abbrev m_Mo_middle : Nat := 257
abbrev m_Mo_does : Nat := 258
abbrev m_Mo_drivesTo : Nat := 259
abbrev m_Mo_drives : Nat := 260
abbrev m_Mo_placeX : Nat := 261
abbrev m_Mo_apart : Nat := 262
abbrev m_Mo_placeY : Nat := 263
abbrev m_Mo_takes : Nat := 264
abbrev m_Mo_ladles : Nat := 265
abbrev m_Mo_feeds : Nat := 266
abbrev m_Mo_lesser : Nat := 267
abbrev m_Mo_chats : Nat := 268
abbrev m_Mo_state : Nat := 269
abbrev m_Mo_ofState : Nat := 270
abbrev m_Mo_ofEvening : Nat := 271
abbrev m_Mo_give : Nat := 272
abbrev m_Mo_mayCome : Nat := 273
abbrev m_Mo_findCounts : Nat := 274
abbrev m_Mo_gives : Nat := 275
abbrev m_Mo_countsBy : Nat := 276
abbrev m_Mo_weight : Nat := 277
abbrev m_Mo_mean : Nat := 278
abbrev m_Mo_part : Nat := 279
abbrev m_Mo_common : Nat := 280
abbrev m_Mo_safe : Nat := 281
abbrev m_Mo_way : Nat := 282
abbrev m_Mo_findWay : Nat := 283
abbrev m_Mo_findOn : Nat := 284
abbrev m_Mo_peopleOf : Nat := 285
abbrev m_Mo_has : Nat := 286
abbrev m_Mo_goOn : Nat := 287
abbrev m_Mo_isSought : Nat := 288
abbrev m_Mo_doneThere : Nat := 289
abbrev m_Mo_leads : Nat := 290
abbrev m_Mo_round : Nat := 291
abbrev m_Mo_findRounds : Nat := 292
abbrev m_Mo_cell : Nat := 293
abbrev m_Mo_talks : Nat := 294
abbrev m_Mo_areWarm : Nat := 295
abbrev m_Mo_lost : Nat := 296
abbrev m_Mo_book : Nat := 297
abbrev m_Mo_hasBook : Nat := 298
abbrev m_Mo_nights : Nat := 299
abbrev m_Mo_nightOf : Nat := 300
abbrev m_Mo_held : Nat := 301
abbrev m_Mo_heldBy : Nat := 302
abbrev m_Mo_doorway : Nat := 303
abbrev m_Mo_moreFrom : Nat := 304
abbrev m_Mo_seenFrom : Nat := 305
abbrev m_Mo_bring : Nat := 306
abbrev m_Mo_enoughOn : Nat := 307
abbrev m_Mo_span : Nat := 308
abbrev m_Mo_list : Nat := 309
abbrev m_Mo_hasList : Nat := 310
abbrev m_Mo_listOf : Nat := 311
abbrev m_Mo_shod : Nat := 312
abbrev m_Mo_findNeeds : Nat := 313
abbrev m_Mo_isFit : Nat := 314
abbrev m_Mo_shoeOf : Nat := 315
abbrev m_Mo_look : Nat := 316
abbrev m_Mo_hides : Nat := 317
abbrev m_Mo_odds : Nat := 318
abbrev m_Mo_findLooks : Nat := 319
abbrev m_Mo_looksOn : Nat := 320
abbrev m_Mo_hideX : Nat := 321
abbrev m_Mo_hideY : Nat := 322
abbrev m_Mo_hideAt : Nat := 323
abbrev m_Mo_worry : Nat := 324
abbrev m_Mo_areOdds : Nat := 325
abbrev m_Mo_stays : Nat := 326
abbrev m_Mo_ill : Nat := 327
abbrev m_Mo_power : Nat := 328
abbrev m_Mo_when : Nat := 329
abbrev m_Mo_shared : Nat := 330
abbrev m_Mo_ones : Nat := 331
abbrev m_Mo_pair : Nat := 332
abbrev m_Mo_drawn : Nat := 333
abbrev m_Mo_drawDeed : Nat := 334
abbrev m_Mo_draw : Nat := 335
abbrev m_Mo_tells : Nat := 336
abbrev m_Mo_depot : Nat := 337
abbrev m_Mo_drivenFrom : Nat := 338
abbrev m_Mo_vans : Nat := 339
abbrev m_Mo_trail : Nat := 340
abbrev m_Mo_chat : Nat := 341
abbrev m_Mo_lack : Nat := 342
abbrev m_Mo_lot : Nat := 343
abbrev m_Mo_picks : Nat := 344
abbrev m_Mo_like : Nat := 345
abbrev m_Mo_sick : Nat := 346
abbrev m_Mo_areSigns : Nat := 347
abbrev m_Mo_shows : Nat := 348
abbrev m_Mo_allShow : Nat := 349
abbrev m_Mo_call : Nat := 350
abbrev m_Mo_count : Nat := 351
abbrev m_Mo_image : Nat := 352
abbrev m_Mo_copyAll : Nat := 353
abbrev m_Mo_copyRow : Nat := 354
abbrev m_Mo_again : Nat := 355
end
section
/-! what a program checks of each instruction, and of each method -/
def xts (pc : Nat) : Int → List Int → List (Int32 × Nat) → Bool
  | _, [], [] => true
  | lo, o :: os, t :: ts => decide (t.1.toInt = lo) && (decide ((pc : Int) + o = (t.2 : Int)) && xts pc (lo + 1) os ts)
  | _, _, _ => false
/-- a call's link: by the table's place, or between nest mates -/
def xlk (own : String) (x : Nat) (y : MethodName) (ts : List (Int32 × Nat)) : Bool := match ts with
  | [(0, pl)] => decide (lw_tbl[pl]? = some (.methodLink own x y))
  | [(1, _)] => decide ((own, x, y) ∈ xnest)
  | _ => false
def xdt (own : String) (nL : Nat) (ini : Bool) (rt : Option FieldType) (pc : Nat) (o : xop) : Bool :=
  match o with
  | (i, nx, a, b, c, e, f, g, k, kl, ts) =>
  match i with
  | .iconst n => decide (nx = pc + 1) && decide (Int32.ofInt n = k)
  | .bipush n => decide (nx = pc + 2) && decide ((Int8.ofInt n).toInt32 = k)
  | .sipush n => decide (nx = pc + 3) && decide ((Int16.ofInt n).toInt32 = k)
  | .ldc_w x => decide (nx = pc + 3) && decide (lw_tbl[a]? = some (.constant own x k))
  | .ldc x => decide (nx = pc + 2) && (match e with
    | 0 => decide (lw_tbl[a]? = some (.constant own x k))
    | _ => decide (own = "SoupNine$Reader") && xstr.any (fun q => decide (q.1 = x) && decide (q.2.2 = b)))
  | .lconst n => decide (nx = pc + 1) && decide (Int64.ofNat (n : Nat) = kl)
  | .ldc2_w x => decide (nx = pc + 3) && decide (lw_tbl[a]? = some (.constantLong own x kl))
  | .aconst_null => decide (nx = pc + 1)
  | .iload n => decide (nx = pc + 2) && decide (n = a)
  | .iload_n n => decide (nx = pc + 1) && decide ((n : Nat) = a)
  | .lload n => decide (nx = pc + 2) && decide (n = a)
  | .lload_n n => decide (nx = pc + 1) && decide ((n : Nat) = a)
  | .aload n => decide (nx = pc + 2) && decide (n = a)
  | .aload_n n => decide (nx = pc + 1) && decide ((n : Nat) = a)
  | .istore n => decide (nx = pc + 2) && (decide (n = a) && decide (a < nL))
  | .istore_n n => decide (nx = pc + 1) && (decide ((n : Nat) = a) && decide (a < nL))
  | .lstore n => decide (nx = pc + 2) && (decide (n = a) && decide (a + 1 < nL))
  | .lstore_n n => decide (nx = pc + 1) && (decide ((n : Nat) = a) && decide (a + 1 < nL))
  | .astore n => decide (nx = pc + 2) && (decide (n = a) && decide (a < nL))
  | .astore_n n => decide (nx = pc + 1) && (decide ((n : Nat) = a) && decide (a < nL))
  | .iinc n d => decide (nx = pc + 3) && (decide (n = a) && (decide (Int32.ofInt d = k) && decide (a < nL)))
  | .goto off => decide ((pc : Int) + off = (a : Int)) && decide (nx = pc + 3)
  | .ifCond _ off => decide (nx = pc + 3) && decide ((pc : Int) + off = (a : Int))
  | .if_icmp _ off => decide (nx = pc + 3) && decide ((pc : Int) + off = (a : Int))
  | .if_acmp _ off => decide (nx = pc + 3) && decide ((pc : Int) + off = (a : Int))
  | .ifnonnull off => decide (nx = pc + 3) && decide ((pc : Int) + off = (a : Int))
  | .ifnull off => decide (nx = pc + 3) && decide ((pc : Int) + off = (a : Int))
  | .tableswitch d lo hi offs => xts pc lo offs.toList ts && (decide ((pc : Int) + d = (a : Int)) && decide (hi + 1 = lo + (offs.toList.length : Int)))
  | .baload => decide (nx = pc + 1) && (decide (a = 21) || decide (a = 23))
  | .bastore => decide (nx = pc + 1) && ((decide (a = 21) && decide (b = 2)) || (decide (a = 23) && decide (b = 1)))
  | .aaload => decide (nx = pc + 1) && (decide (24 ≤ a) && decide (a ≤ 28))
  | .aastore => decide (nx = pc + 1) && (decide (24 ≤ a) && (decide (a ≤ 28) && decide (b = a - 23)))
  | .newarray t => decide (nx = pc + 2) && (((decide (t = .int) && decide (a = 20)) || (decide (t = .byte) && decide (a = 21))) || ((decide (t = .long) && decide (a = 22)) || (decide (t = .boolean) && decide (a = 23))))
  | .anewarray x => decide (nx = pc + 3) && (decide (24 ≤ a) && (decide (a ≤ 28) && (match xaty a with
    | .object C => decide (C ∈ xovr) && decide (lw_tbl[b]? = some (.classLink own x C))
    | _ => false)))
  | .new x => decide (nx = pc + 3) && (decide (a < 12) && (decide (b = xnf a) && (match xcls[a]? with
    | some r => decide (lw_tbl[c]? = some (.classLink own x r.1))
    | none => false)))
  | .getfield x => decide (nx = pc + 3) && (match xcls[a]? with
    | some r => decide (a < 12) && (decide (b < xnf a) && (decide (lw_tbl[e]? = some (.fieldLink own x r.1 (r.2.1 b).2.1 (r.2.1 b).2.2.1)) && ((decide (c = 0) && (decide (xft a b = 0) || decide (xft a b = 1))) || ((decide (c = 3) && decide (xft a b = 3)) || (decide (c = 2) && decide (xft a b = 2))))))
    | none => decide (a = 30) && (((decide (b = 0) && decide (c = 2)) && decide (lw_tbl[e]? = some (.fieldLink own x "java/lang/String" "value" "[B"))) || ((decide (b = 1) && decide (c = 0)) && decide (lw_tbl[e]? = some (.fieldLink own x "java/lang/String" "coder" "B")))))
  | .putfield x => decide (nx = pc + 3) && (match xcls[a]? with
    | some r => decide (a < 12) && (decide (b < xnf a) && (decide (lw_tbl[e]? = some (.fieldLink own x r.1 (r.2.1 b).2.1 (r.2.1 b).2.2.1)) && (decide (xft a b = c) && (decide ((r.2.1 b).2.2.2 = false) || (ini && decide (r.1 = own))))))
    | none => false)
  | .getstatic x => decide (nx = pc + 3) && (match e with
    | 0 => decide (k = 1) && decide (lw_tbl[b]? = some (.fieldLink own x "java/lang/String" "COMPACT_STRINGS" "Z"))
    | 1 => ((decide (a = 1) && decide (lw_tbl[b]? = some (.fieldLink own x "SoupNine$Reader" "FIRST_CODE" "[I"))) || (decide (a = 2) && decide (lw_tbl[b]? = some (.fieldLink own x "SoupNine$Reader" "NUMBERS" "[I")))) || ((decide (a = 3) && decide (lw_tbl[b]? = some (.fieldLink own x "SoupNine$Reader" "LOWEST" "[I"))) || (decide (a = 4) && decide (lw_tbl[b]? = some (.fieldLink own x "SoupNine$Reader" "HIGHEST" "[I"))))
    | _ => decide (a = 5) && decide (lw_tbl[b]? = some (.fieldLink own x "jdk/internal/util/Preconditions" "SIOOBE_FORMATTER" "Ljava/util/function/BiFunction;")))
  | .invokestatic x => decide (nx = pc + 3) && (match c with
    | 9 => (decide (a = 20) || decide (a = 21)) && (match ts with
      | [(_, pl)] => decide (lw_tbl[pl]? = some (.methodLink own x arraycopyName))
      | _ => false)
    | _ => (match xmt[a]? with
      | some (y, _, _, _, _, kd, na, _, mkk, ms, rc, _) => decide (kd = 0) && (decide (na = b) && (decide (rc = e) && (decide (mkk = f) && (decide (ms = g) && xlk own x y ts))))
      | none => false))
  | .invokevirtual x => decide (nx = pc + 3) && (match xmt[a]? with
      | some (y, _, _, _, _, kd, na, tg, mkk, ms, rc, _) => decide (kd = 1) && (decide (na = b) && (decide (tg = c) && (decide (rc = e) && (decide (mkk = f) && (decide (ms = g) && (match ts with
        | [(0, pl)] => decide (lw_tbl[pl]? = some (.methodLink own x y))
        | _ => false))))))
      | none => false)
  | .invokespecial x => decide (nx = pc + 3) && (match e with
    | 9 => decide (b = 0) && (match ts with
      | [(_, pl)] => decide (lw_tbl[pl]? = some (.methodLink own x objectInit))
      | _ => false)
    | _ => (match xmt[a]? with
      | some (y, _, _, _, _, kd, na, tg, mkk, ms, rc, _) => decide (kd = 2) && (decide (na = b) && (decide (tg = c) && (decide (rc = e) && (decide (rc = 3) && (decide (mkk = f) && (decide (ms = g) && xlk own x y ts))))))
      | none => false))
  | .ireturn => decide (nx = pc + 1) && (match e with
    | 0 => decide (rt = some .int)
    | 1 => decide (rt = some .boolean)
    | 2 => decide (rt = some .byte)
    | _ => decide (rt = some .char))
  | .lreturn => decide (nx = pc + 1) && decide (rt = some .long)
  | .areturn => decide (nx = pc + 1) && (match rt with
    | some (.object _) => true
    | some (.array _) => true
    | _ => false)
  | .return_ => decide (nx = pc + 1) && decide (rt = none)
  | _ => decide (nx = pc + 1)
def xd1 (own : String) (nL : Nat) (ini : Bool) (rt : Option FieldType) (cc : ByteArray) (pc : Nat) (o : xop) : Bool := match o.1 with
  | .nop => true
  | i => decide (decode cc pc = .ok (i, o.2.1 - pc)) && xdt own nL ini rt pc o
def xdl (own : String) (nL : Nat) (ini : Bool) (rt : Option FieldType) (cc : ByteArray) : Nat → List xop → Bool
  | _, [] => true
  | pc, o :: r => xd1 own nL ini rt cc pc o && xdl own nL ini rt cc (pc + 1) r
def xdc (own : String) (nL : Nat) (ini : Bool) (rt : Option FieldType) (cc : ByteArray) : Nat → List (List xop) → Bool
  | _, [] => true
  | n, o :: r => xdl own nL ini rt cc (32 * n) o && xdc own nL ini rt cc (n + 1) r
theorem xdl_at {own : String} {nL : Nat} {ini : Bool} {rt : Option FieldType} {cc : ByteArray} : ∀ (r : List xop) (pc k : Nat), xdl own nL ini rt cc pc r = true → xd1 own nL ini rt cc (pc + k) (xat1 r k) = true
  | [], _, _, _ => rfl
  | o :: r, pc, 0, h => (Bool.and_eq_true _ _ ▸ h : _ ∧ _).1
  | o :: r, pc, k + 1, h => by
    have := xdl_at r (pc + 1) k (Bool.and_eq_true _ _ ▸ h : _ ∧ _).2
    rw [show pc + (k + 1) = pc + 1 + k by omega]
    exact this
theorem xdc_at {own : String} {nL : Nat} {ini : Bool} {rt : Option FieldType} {cc : ByteArray} : ∀ (cd : List (List xop)) (n a k : Nat), xdc own nL ini rt cc n cd = true → xd1 own nL ini rt cc (32 * (n + a) + k) (xat2 cd a k) = true
  | [], _, _, _, _ => rfl
  | o :: r, n, 0, k, h => xdl_at o (32 * n) k (Bool.and_eq_true _ _ ▸ h : _ ∧ _).1
  | o :: r, n, a + 1, k, h => by
    have := xdc_at r (n + 1) a k (Bool.and_eq_true _ _ ▸ h : _ ∧ _).2
    rw [show n + (a + 1) = n + 1 + a by omega]
    exact this
theorem xd_at {own : String} {nL : Nat} {ini : Bool} {rt : Option FieldType} {cc : ByteArray} {cd : List (List xop)} (h : xdc own nL ini rt cc 0 cd = true) (pc : Nat) : xd1 own nL ini rt cc pc (xat cd pc) = true := by
  have := xdc_at cd 0 (pc / 32) (pc % 32) h
  rw [Nat.zero_add, Nat.div_add_mod] at this
  exact this
/-- the words of a method, its descriptor, its kinds -/
def xmo (q : xme) : Bool := match q with
  | (y, b, ml, rt, _, kd, na, tg, mkk, ms, rc, [p0, p1, p2, p3]) =>
    decide (lw_tbl[p0]? = some (.code y b ml rt)) && (decide (lw_tbl[p1]? = some (.initialized y.cls)) && ((match kd with
      | 0 => decide (lw_tbl[p2]? = some (.static y))
      | 1 => decide (lw_tbl[p2]? = some (.instanceMethod y)) && decide (lw_tbl[p3]? = some (.selects y.cls y y))
      | _ => decide (lw_tbl[p2]? = some (.instanceMethod y)) && (decide (y.name = "<init>") && decide (rt = none))) && (decide (y.cls ≠ "java/lang/invoke/MethodHandle" ∧ y.cls ≠ "java/lang/invoke/VarHandle") && (decide ((parseMethodDescriptor y.desc).map (fun d => d.parameters.length) = some na) && (decide (ml ≤ 13) && (decide (mkk = 0 → ms = 0) && (plainName y.cls && ((match kd with
      | 0 => true
      | _ => (match xcls[tg]? with
        | some r => decide (r.1 = y.cls) && decide (tg < 12)
        | none => decide (tg = 30) && decide (y.cls = "java/lang/String"))) && (decide (ms ≤ 8000000) && (match rc with
      | 0 => decide (rt = some .int) || decide (rt = some .boolean) || decide (rt = some .byte) || decide (rt = some .char)
      | 1 => decide (rt = some .long)
      | 2 => (match rt with
        | some (.object _) => true
        | some (.array _) => true
        | _ => false)
      | _ => decide (rt = none)))))))))))
  | _ => false
def xmd (q : xme) : Bool := match q with
  | (y, b, ml, rt, cd, _, _, _, _, _, _, _) => xdc y.cls ml (decide (y.name = "<init>")) rt b 0 cd
end
section
/-! calls: a method's contract by the abstract machine, and what a caller gets of it -/
def xPc (dC : Nat → ClassId) (dI : Nat → Nat → Nat) (cA : Nat → ClassId) (f : Nat → Nat) (B : Nat) (h0 h : xh) (as : List Value) : Array Value → State → Prop := fun v U =>
  v = (as.map (xtv f)).toArray ∧ va_K (dC, dI) xcls (xtys cA) U ∧ xCon f h0 B U U.heap ∧ xRel dC dI cA f B h0 h U.heap ∧ B ≤ U.heap.size
def xQc (dC : Nat → ClassId) (dI : Nat → Nat → Nat) (cA : Nat → ClassId) (f : Nat → Nat) (B : Nat) (h0 : xh) (Q : Option Value → xh → Prop) : Array Value → State → Outcome → State → Prop := fun _ st o t =>
  (∃ r h', o = .returned (r.map (xtv f)) ∧ Q r h' ∧ xRel dC dI cA f B h0 h' t.heap) ∧ va_F (xA B) st t
theorem xCon_same {f : Nat → Nat} {h0 : xh} {B : Nat} {s U : State} {H : Heap} (hv : U.vm = s.vm) (h : xCon f h0 B s H) : xCon f h0 B U H := by
  have hvm : s.vm.Alike U.vm := by rw [hv]; exact Vm.Alike.refl _
  obtain ⟨c1, c2, c3, c4, ⟨z1, z2, z3, z4, z5⟩, z6, c6, c7, c8⟩ := h
  refine ⟨fun k n hk e => (c1 k n hk e).moved hvm, fun k n hk e => (c2 k n hk e).moved hvm, fun k n hk e => ?_, c4, ⟨z1.moved hvm, z2.moved hvm, z3.moved hvm, z4.moved hvm, z5.moved hvm⟩, ?_, fun q h => (c6 q h).same hv, fun q h => va_Nw.same rfl hv.symm (c7 q h), fun C h => (c8 C h).moved hvm⟩
  · obtain ⟨d1, d2, v, d3, d4⟩ := c3 k n hk e
    exact ⟨d1.moved hvm, d2.moved hvm, v, d3, d4.moved hvm⟩
  · rcases z6 with z6 | z6
    · exact Or.inl (z6.moved hvm)
    · exact Or.inr (z6.moved hvm)
theorem xPc_blind {dC : Nat → ClassId} {dI : Nat → Nat → Nat} {cA : Nat → ClassId} {f : Nat → Nat} {B : Nat} {h0 h : xh} {as : List Value} : FrameBlind (xPc dC dI cA f B h0 h as) := by
  intro a U g mk' ⟨h1, h2, h3, h4, h5⟩
  exact ⟨h1, va_K.moved (u := U) (U := U.calling g mk' a) (Vm.Alike.refl U.vm) h2, xCon_same (s := U) (U := U.calling g mk' a) rfl h3, h4, h5⟩
/-- the words of a method -/
def xwd (q : xme) : List Cond := Cond.code q.1 q.2.1 q.2.2.1 q.2.2.2.1 :: lw_tbl.filter goodWord
def xrm (n : Nat) (q : xme) : Room := { frames := n, cells := q.2.2.2.2.2.2.2.2.1, slots := q.2.2.2.2.2.2.2.2.2.1, locals := 32 * n }
section XCL
variable {p : Program} {l : Launch} {e : Env} {R : Room} {s : State} {m : MethodId} {args : Array Value} {below : List Frame} {meth : Method} {c : Code} {H : Heap} {locs : List Loc} {cells slots : Nat} {Q : State → Prop}
variable {cc : ByteArray} {nL pc : Nat} {own : String} {dC : Nat → ClassId} {dI : Nat → Nat → Nat} {cA : Nat → ClassId} {f : Nat → Nat} {B : Nat} {h0 h : xh} {ls : Array Slot}
theorem xwd_good (q : xme) (hcode : Cond.code q.1 q.2.1 q.2.2.1 q.2.2.2.1 ∈ lw_tbl) : GoodIn (lw_tbl.filter goodWord) (xwd q) := by
  intro w hw
  rcases List.mem_cons.mp hw with h | h
  · subst h
    exact ⟨List.mem_filter.mpr ⟨hcode, rfl⟩, Or.inl rfl⟩
  · exact ⟨h, good_of_word (List.mem_filter.mp h).2⟩
theorem xtsF (E : xEnv p s m args c cc nL own dC dI cA f B h0) : ∀ w ∈ lw_tbl.filter goodWord, w.before args s = true := fun w hw => E.2.2.2.2.1 w (List.mem_filter.mp hw).1 (List.mem_filter.mp hw).2
theorem xcs_eq (f : Nat → Nat) : ∀ r : List Value, ((r.map (xtv f)).map fun v => v.category).sum = xcs r
  | [] => rfl
  | v :: r => by
    show (xtv f v).category + ((r.map (xtv f)).map fun v => v.category).sum = v.category + xcs r
    rw [xtv_cat, xcs_eq f r]
theorem xPre (E : xEnv p s m args c cc nL own dC dI cA f B h0) (hR : xRel dC dI cA f B h0 h H) (hS : va_S (xA B) s.heap H locs) (as : List Value) : ∀ U : State, U.heap = H → s.WarmedH U.vm → xPc dC dI cA f B h0 h as (as.map (xtv f)).toArray U := by
  intro U hU hW
  obtain ⟨-, -, -, -, -, hK, hC, -, hB⟩ := E
  refine ⟨rfl, va_K.moved hW.alike hK, ?_, by rw [hU]; exact hR, by rw [hU]; exact Nat.le_trans hB hS.1⟩
  rw [hU]
  exact xCon_move hW hS.2.1 hC
/-- what comes behind a call -/
theorem xs_back {g : JFrame} {rest : List Value} {Q' : Option Value → xh → Prop} {a : Array Value} {mc ms : Nat} (hS : va_S (xA B) s.heap H locs)
    (hr : va_Run p l e R s m args below meth c H locs cells slots mc ms g rest (xQc dC dI cA f B h0 Q' a) (xA B))
    (kk : ∀ (r : Option Value) (h' : xh) (H1 : Heap) (locs1 : List Loc), Q' r h' → xRel dC dI cA f B h0 h' H1 → va_S (xA B) s.heap H1 locs1 → W p l e R s m args below meth c H1 locs1 (cells + mc) (slots + ms) Q { g with pc := g.pc + 3, stack := (r.map (xtv f)).toList ++ rest }) : W p l e R s m args below meth c H locs cells slots Q g := by
  intro T hT X
  obtain ⟨v, st₀, t, T', L, e0, X', hL, e1, e2, ⟨⟨r, h', ev, hq, hrel⟩, hF⟩, st⟩ := hr T hT X
  have ev' : v = r.map (xtv f) := by injection ev
  subst ev'
  have hS' : va_S (xA B) s.heap t.heap (locs ++ L) := by
    rw [va_F, e0] at hF
    refine ⟨Nat.le_trans hS.1 hF.1, fun q h1 h2 => ?_, fun q hq => ?_⟩
    · rw [hF.2 q (Nat.lt_of_lt_of_le h1 hS.1) h2]
      exact hS.2.1 q h1 h2
    · rcases List.mem_append.mp hq with h | h
      · exact hS.2.2 q h
      · exact hL q h
  obtain ⟨t2, a1, b1⟩ := kk r h' t.heap (locs ++ L) hq hrel hS' T' e1 X'
  exact ⟨t2, st t2 a1, b1⟩
/-- the three kinds of call -/
theorem xs_runV (E : xEnv p s m args c cc nL own dC dI cA f B h0) (hR : xRel dC dI cA f B h0 h H) (hS : va_S (xA B) s.heap H locs) {n x qr : Nat} {y : MethodName} {b : ByteArray} {ml : Nat} {rt : Option FieldType} {cd : List (List xop)} {na tg mc ms rc : Nat} {ps : List Nat} {Q' : Option Value → xh → Prop} {as r : List Value}
    (hM : Met l y (Cond.code y b ml rt :: lw_tbl.filter goodWord) ({ frames := n, cells := mc, slots := ms, locals := 32 * n } : Room) (xPc dC dI cA f B h0 h (.ref qr :: as)) (xQc dC dI cA f B h0 Q') mc ms (xA B))
    (hmo : xmo (y, b, ml, rt, cd, 1, na, tg, mc, ms, rc, ps) = true) (hl : Cond.methodLink own x y ∈ lw_tbl) (hq : xS h qr = (tg, 0)) (hna : as.length = na) (hfr : n + 1 ≤ R.frames) (hlo : 32 * (n + 1) ≤ R.locals) (hcs : xcs r ≤ 8) (hls : ls.size = nL) (hdg : decode cc pc = .ok (.invokevirtual x, 3)) (hf : cells + mc ≤ R.cells ∧ slots + ms ≤ R.slots) :
    va_Run p l e R s m args below meth c H locs cells slots mc ms (F0 m pc ls ((as.map (xtv f)).reverse ++ .ref (f qr) :: r.map (xtv f))) (r.map (xtv f)) (xQc dC dI cA f B h0 Q' (Value.ref (f qr) :: as.map (xtv f)).toArray) (xA B) := by
  have hts := xtsF E
  unfold xmo at hmo
  split at hmo
  next y' b' ml' rt' cd' kd' na' tg' mc' ms' rc' p0 p1 p2 p3 heq =>
    simp only [Prod.mk.injEq] at heq
    obtain ⟨rfl, rfl, rfl, rfl, rfl, rfl, rfl, rfl, rfl, rfl, rfl, rfl⟩ := heq
    simp only [Bool.and_eq_true, decide_eq_true_eq] at hmo
    obtain ⟨m0, m1, ⟨m2, m3⟩, m4, m5, m6, m7, m8, m9, m10, m11⟩ := hmo
    have g0 := List.mem_of_getElem? m0
    have g1 := List.mem_of_getElem? m1
    have g2 := List.mem_of_getElem? m2
    have g3 := List.mem_of_getElem? m3
    have hG := xwd_good (y, b, ml, rt, cd, 1, na, tg, mc, ms, rc, [p0, p1, p2, p3]) g0
    have hcb : CallW R s args own y.cls x y b ml rt (Cond.code y b ml rt :: lw_tbl.filter goodWord) ({ frames := n, cells := mc, slots := ms, locals := 32 * n } : Room) mc ms na :=
      ⟨callB_of na hts hG rfl rfl rfl (E.2.2.2.2.1 _ g1 rfl) (E.2.2.2.2.1 _ hl rfl) ⟨m4.1, m4.2, m5⟩ ⟨hfr, by show 8 + (ml + 11) + 32 * n ≤ R.locals; omega⟩, E.2.2.2.2.1 _ g2 rfl, E.2.2.2.2.1 _ g3 rfl⟩
    have hrecv : ∃ cellB : Cell, H[f qr]? = some cellB ∧ cellB.vm.isStatics = false ∧ s.vm.findClass y.cls = some cellB.cls := by
      split at m9
      · next r' hr' =>
        simp only [Bool.and_eq_true, decide_eq_true_eq] at m9
        obtain ⟨cl, g1, g2, g3, -⟩ := xobj hR (xnew64 E hR hq m9.2) hq m9.2
        exact ⟨cl, g1, by rw [g3]; rfl, by rw [g2, ← m9.1]; exact (E.2.2.2.2.2.1.1 _ _ hr').2.1⟩
      · simp only [Bool.and_eq_true, decide_eq_true_eq] at m9
        obtain ⟨e1, e2⟩ := m9
        subst e1
        have hlt : qr < 64 := by
          by_cases hlt : qr < 64
          · exact hlt
          · rcases hR.2.2.1 qr (by omega) (xRel_lt hR (by rw [hq]; decide)) with ⟨z, -⟩ | ⟨z, -⟩
            · rw [hq] at z; exact absurd z (by decide)
            · rw [hq] at z; exact absurd z.2 (by decide)
        have e3 := (hR.2.2.2.2.1 qr hlt).1
        obtain ⟨d1, -⟩ := E.2.2.2.2.2.2.1.2.2.1 qr 0 hlt (e3.symm.trans hq)
        obtain ⟨cl, k1, k2, k3, -⟩ := d1.kept hS.2.1
        exact ⟨cl, k1, k2, by rw [e2]; exact k3⟩
    refine va_runV (Ts := lw_tbl.filter goodWord) (nL := nL) ⟨E.1, E.2.1, E.2.2.1, E.2.2.2.1, hts⟩ hM hcb ⟨xPc_blind, hrecv, fun U hU hW => ?_⟩ rfl (by rw [List.length_map]; exact hna) hls rfl (by
      show 2 * 0 + _ ≤ 8
      rw [xcs_eq]; omega) hdg hf
    exact xPre E hR hS (.ref qr :: as) U hU hW
  next => cases hmo
theorem xs_runS (E : xEnv p s m args c cc nL own dC dI cA f B h0) (hR : xRel dC dI cA f B h0 h H) (hS : va_S (xA B) s.heap H locs) {n x : Nat} {y : MethodName} {b : ByteArray} {ml : Nat} {rt : Option FieldType} {cd : List (List xop)} {na tg mc ms rc : Nat} {ps : List Nat} {ts : List (Int32 × Nat)} {Q' : Option Value → xh → Prop} {as r : List Value}
    (hM : Met l y (Cond.code y b ml rt :: lw_tbl.filter goodWord) ({ frames := n, cells := mc, slots := ms, locals := 32 * n } : Room) (xPc dC dI cA f B h0 h as) (xQc dC dI cA f B h0 Q') mc ms (xA B))
    (hmo : xmo (y, b, ml, rt, cd, 0, na, tg, mc, ms, rc, ps) = true) (hl : xlk own x y ts = true) (hna : as.length = na) (hfr : n + 1 ≤ R.frames) (hlo : 32 * (n + 1) ≤ R.locals) (hcs : xcs r ≤ 8) (hls : ls.size = nL) (hdg : decode cc pc = .ok (.invokestatic x, 3)) (hf : cells + mc ≤ R.cells ∧ slots + ms ≤ R.slots) :
    va_Run p l e R s m args below meth c H locs cells slots mc ms (F0 m pc ls ((as.map (xtv f)).reverse ++ r.map (xtv f))) (r.map (xtv f)) (xQc dC dI cA f B h0 Q' (as.map (xtv f)).toArray) (xA B) := by
  have hts := xtsF E
  unfold xmo at hmo
  split at hmo
  next y' b' ml' rt' cd' kd' na' tg' mc' ms' rc' p0 p1 p2 p3 heq =>
    simp only [Prod.mk.injEq] at heq
    obtain ⟨rfl, rfl, rfl, rfl, rfl, rfl, rfl, rfl, rfl, rfl, rfl, rfl⟩ := heq
    simp only [Bool.and_eq_true, decide_eq_true_eq] at hmo
    obtain ⟨m0, m1, m2, m4, m5, m6, m7, m8, -, m10, m11⟩ := hmo
    have g0 := List.mem_of_getElem? m0
    have g1 := List.mem_of_getElem? m1
    have g2 := List.mem_of_getElem? m2
    have hG := xwd_good (y, b, ml, rt, cd, 0, na, tg, mc, ms, rc, [p0, p1, p2, p3]) g0
    have hRm : n + 1 ≤ R.frames ∧ 8 + (ml + 11) + 32 * n ≤ R.locals := ⟨hfr, by omega⟩
    unfold xlk at hl
    split at hl
    · next pl =>
      have hl2 := List.mem_of_getElem? (of_decide_eq_true hl)
      refine va_runS (Ts := lw_tbl.filter goodWord) (nL := nL) ⟨E.1, E.2.1, E.2.2.1, E.2.2.2.1, hts⟩ hM ⟨callB_of na hts hG rfl rfl rfl (E.2.2.2.2.1 _ g1 rfl) (E.2.2.2.2.1 _ hl2 rfl) ⟨m4.1, m4.2, m5⟩ hRm, E.2.2.2.2.1 _ g2 rfl⟩ ⟨xPc_blind, fun U hU hW => xPre E hR hS as U hU hW⟩ rfl (by rw [List.length_map]; exact hna) hls rfl (by
        show 2 * 0 + _ ≤ 8
        rw [xcs_eq]; omega) hdg hf
    · have hl2 := E.2.2.2.2.2.2.1.2.2.2.2.2.2.2.1 _ (of_decide_eq_true hl)
      refine va_runSN (Ts := lw_tbl.filter goodWord) (nL := nL) (host := "SoupNine") ⟨E.1, E.2.1, E.2.2.1, E.2.2.2.1, hts⟩ hM ⟨va_cnB na hts hG rfl rfl rfl hl2 (E.2.2.2.2.1 _ g1 rfl) ⟨m4.1, m4.2, m5⟩ hRm, E.2.2.2.2.1 _ g2 rfl, trivial⟩ ⟨xPc_blind, fun U hU hW => xPre E hR hS as U hU hW⟩ rfl (by rw [List.length_map]; exact hna) hls rfl (by
        show 2 * 0 + _ ≤ 8
        rw [xcs_eq]; omega) hdg hf
    · cases hl
  next => cases hmo
theorem xs_runI (E : xEnv p s m args c cc nL own dC dI cA f B h0) (hR : xRel dC dI cA f B h0 h H) (hS : va_S (xA B) s.heap H locs) {n x qr : Nat} {y : MethodName} {b : ByteArray} {ml : Nat} {rt : Option FieldType} {cd : List (List xop)} {na tg mc ms rc : Nat} {ps : List Nat} {ts : List (Int32 × Nat)} {Q' : Option Value → xh → Prop} {as r : List Value}
    (hM : Met l y (Cond.code y b ml rt :: lw_tbl.filter goodWord) ({ frames := n, cells := mc, slots := ms, locals := 32 * n } : Room) (xPc dC dI cA f B h0 h (.ref qr :: as)) (xQc dC dI cA f B h0 Q') mc ms (xA B))
    (hmo : xmo (y, b, ml, rt, cd, 2, na, tg, mc, ms, rc, ps) = true) (hl : xlk own x y ts = true) (hna : as.length = na) (hfr : n + 1 ≤ R.frames) (hlo : 32 * (n + 1) ≤ R.locals) (hcs : xcs r ≤ 8) (hls : ls.size = nL) (hdg : decode cc pc = .ok (.invokespecial x, 3)) (hf : cells + mc ≤ R.cells ∧ slots + ms ≤ R.slots) :
    va_Run p l e R s m args below meth c H locs cells slots mc ms (F0 m pc ls ((as.map (xtv f)).reverse ++ .ref (f qr) :: r.map (xtv f))) (r.map (xtv f)) (xQc dC dI cA f B h0 Q' (Value.ref (f qr) :: as.map (xtv f)).toArray) (xA B) := by
  have hts := xtsF E
  unfold xmo at hmo
  split at hmo
  next y' b' ml' rt' cd' kd' na' tg' mc' ms' rc' p0 p1 p2 p3 heq =>
    simp only [Prod.mk.injEq] at heq
    obtain ⟨rfl, rfl, rfl, rfl, rfl, rfl, rfl, rfl, rfl, rfl, rfl, rfl⟩ := heq
    simp only [Bool.and_eq_true, decide_eq_true_eq] at hmo
    obtain ⟨m0, m1, ⟨m2, m3, mr⟩, m4, m5, m6, m7, m8, m9, m10, m11⟩ := hmo
    subst mr
    have g0 := List.mem_of_getElem? m0
    have g1 := List.mem_of_getElem? m1
    have g2 := List.mem_of_getElem? m2
    have hG := xwd_good (y, b, ml, none, cd, 2, na, tg, mc, ms, rc, [p0, p1, p2, p3]) g0
    have hRm : n + 1 ≤ R.frames ∧ 8 + (ml + 11) + 32 * n ≤ R.locals := ⟨hfr, by omega⟩
    unfold xlk at hl
    split at hl
    · next pl =>
      have hl2 := List.mem_of_getElem? (of_decide_eq_true hl)
      refine va_runI (Ts := lw_tbl.filter goodWord) (nL := nL) ⟨E.1, E.2.1, E.2.2.1, E.2.2.2.1, hts⟩ hM ⟨callB_of na hts hG rfl rfl rfl (E.2.2.2.2.1 _ g1 rfl) (E.2.2.2.2.1 _ hl2 rfl) ⟨m4.1, m4.2, m5⟩ hRm, m3, E.2.2.2.2.1 _ g2 rfl⟩ ⟨xPc_blind, fun U hU hW => xPre E hR hS (.ref qr :: as) U hU hW⟩ rfl (by rw [List.length_map]; exact hna) hls rfl (by
        show 2 * 0 + _ ≤ 8
        rw [xcs_eq]; omega) hdg hf
    · have hl2 := E.2.2.2.2.2.2.1.2.2.2.2.2.2.2.1 _ (of_decide_eq_true hl)
      refine va_runIN (Ts := lw_tbl.filter goodWord) (nL := nL) (host := "SoupNine") ⟨E.1, E.2.1, E.2.2.1, E.2.2.2.1, hts⟩ hM ⟨va_cnB na hts hG rfl rfl rfl hl2 (E.2.2.2.2.1 _ g1 rfl) ⟨m4.1, m4.2, m5⟩ hRm, m3, E.2.2.2.2.1 _ g2 rfl⟩ ⟨xPc_blind, fun U hU hW => xPre E hR hS (.ref qr :: as) U hU hW⟩ rfl (by rw [List.length_map]; exact hna) hls rfl (by
        show 2 * 0 + _ ≤ 8
        rw [xcs_eq]; omega) hdg hf
    · cases hl
  next => cases hmo
end XCL
end
section
/-! a row copied into another; values off the stack -/
theorem xpop_eq : ∀ (n : Nat) (acc st : List Value), (xpop n acc st).1.reverse ++ (xpop n acc st).2 = acc.reverse ++ st
  | 0, acc, st => rfl
  | n + 1, acc, [] => rfl
  | n + 1, acc, v :: st => by
    show (xpop n (v :: acc) st).1.reverse ++ (xpop n (v :: acc) st).2 = _
    rw [xpop_eq n (v :: acc) st]
    simp
theorem xpop_len : ∀ (n : Nat) (acc st : List Value), (xpop n acc st).2 ≠ [] → (xpop n acc st).1.length = n + acc.length
  | 0, acc, st, _ => by show acc.length = 0 + acc.length; omega
  | n + 1, acc, [], h => absurd rfl h
  | n + 1, acc, v :: st, h => by
    show (xpop n (v :: acc) st).1.length = _
    rw [xpop_len n (v :: acc) st h, List.length_cons]
    omega
section XCP
variable {p : Program} {l : Launch} {e : Env} {R : Room} {s : State} {m : MethodId} {args : Array Value} {below : List Frame} {meth : Method} {c : Code} {H : Heap} {locs : List Loc} {cells slots : Nat} {Q : State → Prop}
variable {cc : ByteArray} {nL pc : Nat} {own : String} {dC : Nat → ClassId} {dI : Nat → Nat → Nat} {cA : Nat → ClassId} {f : Nat → Nat} {B : Nat} {h0 h : xh} {ls : Array Slot} {rest : List Value}
theorem xs_copy (E : xEnv p s m args c cc nL own dC dI cA f B h0) (hR : xRel dC dI cA f B h0 h H) (hS : va_S (xA B) s.heap H locs) {x sq dq t : Nat} {sp dp n : Int32} (ht : t = 20 ∨ t = 21) (hs : 64 ≤ sq) (hd : 64 ≤ dq) (hts : (xS h sq).1 = t) (htd : (xS h dq).1 = t) (h3 : ¬ n < 0) (h1 : ¬ sp < 0) (h2 : ¬ dp < 0) (h4 : sp.toNatClampNeg + n.toNatClampNeg ≤ (xS h sq).2) (h5 : dp.toNatClampNeg + n.toNatClampNeg ≤ (xS h dq).2)
    (hl : Cond.methodLink own x arraycopyName ∈ lw_tbl) (hls : ls.size = nL) (hcs : (rest.map fun v => v.category).sum ≤ 8) (hfr : 1 ≤ R.frames) (hlo : 32 ≤ R.locals) (hdg : decode cc pc = .ok (.invokestatic x, 3))
    (kk : ∀ (H1 : Heap) (locs1 : List Loc), xRel dC dI cA f B h0 (xcp h sq sp.toNatClampNeg dq dp.toNatClampNeg n.toNatClampNeg) H1 → va_S (xA B) s.heap H1 locs1 → W p l e R s m args below meth c H1 locs1 cells slots Q (F0 m (pc + 3) ls rest)) : W p l e R s m args below meth c H locs cells slots Q (F0 m pc ls (.int n :: .int dp :: .ref (f dq) :: .int sp :: .ref (f sq) :: rest)) := by
  obtain ⟨hx, hb, hml, hown, hw, hK, -, hf, -⟩ := E
  have nn : ∀ z : Int32, ¬ z < 0 → z.toInt = (z.toNatClampNeg : Int) := by
    intro z hz
    have hz0 : (0 : Int) ≤ z.toInt := by
      have := Int32.not_lt.mp hz
      simpa using Int32.le_iff_toInt_le.mp this
    show z.toInt = ((z.toInt.toNat : Nat) : Int)
    omega
  have ht20 : 20 ≤ t ∧ t ≤ 28 := by omega
  have hc0 := xarrW hR hs (xpair hts) ht20.1 ht20.2
  have hc1 := xarrW hR hd (xpair htd) ht20.1 ht20.2
  have hav : ∀ (g : xh) (k : Nat), xav f g k t = fun j => .int (xI g k j) := by
    intro g k
    rcases ht with rfl | rfl <;> rfl
  rw [hav] at hc0 hc1
  have hty := (hK.2 _ _ (xtys_at (cA := cA) ht20.1 ht20.2)).1
  have hprim : refKind (xaty t) = false := by rcases ht with rfl | rfl <;> rfl
  have hfit : ∀ j, fits (xaty t) (.int (xI h sq j)) = true := by
    intro j
    rcases ht with rfl | rfl
    · rfl
    · have := hR.2.2.2.2.2 sq hs hts j
      rw [← this]
      exact pk_fb _
  intro T hT X
  obtain ⟨-, k0, hk0, cm0, hkk0⟩ := hty (xS h sq).2 (fun j => .int (xI h sq j))
  obtain ⟨-, k1, hk1, cm1, hkk1⟩ := hty (xS h dq).2 (fun j => .int (xI h dq j))
  obtain ⟨vm', X', step⟩ := X.arraycopy hx hown (hw _ hl rfl) (hw _ xsys_in.1 xsys_good.1) (hw _ xsys_in.2.1 xsys_good.2.1) (hw _ xsys_in.2.2 xsys_good.2.2) (src := f sq) (dst := f dq) (srcPos := sp) (destPos := dp) (n := n) (by rw [hT]; exact hc0) (by rw [hT]; exact hc1)
    (fun _ h => by cases h) (fun _ h => by cases h) (fun h => by cases h) (fun h => by cases h) hk0 hk1 hkk0 hkk1 (by simp [hprim]) h1 h2 h3
    (by rw [nn sp h1, nn n h3, arrV_size]; omega)
    (by rw [nn dp h2, nn n h3, arrV_size]; omega)
    (fun vm₁ _ i hi => by
      have e : (arrV (cA t) (xS h sq).2 (fun j => .int (xI h sq j))).slots.getD (sp.toNatClampNeg + i) .null = .int (xI h sq (sp.toNatClampNeg + i)) := by
        rw [Array.getD_eq_getD_getElem?, arrV_read _ _ (by omega)]
        rfl
      rw [e]
      exact ⟨hfit _, trivial⟩)
    (g := F0 m pc ls (.int n :: .int dp :: .ref (f dq) :: .int sp :: .ref (f sq) :: rest)) rfl (by rw [hml]; exact hls) (rest := rest) rfl (by rw [hb]; exact hdg) hfr (by show 2 * 0 + _ + (5 + 2 + 11) ≤ _; omega)
  have e1 : copied (arrV (cA t) (xS h sq).2 (fun j => .int (xI h sq j))) (arrV (cA t) (xS h dq).2 (fun j => .int (xI h dq j))) sp dp n = arrV (cA t) (xS h dq).2 (fun j => .int (va_cpy (xI h sq) (xI h dq) sp.toNatClampNeg dp.toNatClampNeg n.toNatClampNeg j)) := va_copied (fun z => .int z) (cA t) (cA t) (xI h sq) (xI h dq) h4
  rw [e1] at X' step
  have hlt : f dq < H.size := (Array.getElem?_eq_some_iff.mp hc1).1
  generalize hnew : arrV (cA t) (xS h dq).2 (fun j => .int (va_cpy (xI h sq) (xI h dq) sp.toNatClampNeg dp.toNatClampNeg n.toNatClampNeg j)) = nw at X' step
  have hheap : ((T.setVm vm').setCell (f dq) nw).heap = H.setIfInBounds (f dq) nw := by rw [← hT]; rfl
  have oq : ∀ q : Nat, q ≠ f dq → (H.setIfInBounds (f dq) nw)[q]? = H[q]? := fun q hq => by simp [Array.getElem?_setIfInBounds, Ne.symm hq]
  have hz : (H.setIfInBounds (f dq) nw).size = H.size := by simp
  have hself : (H.setIfInBounds (f dq) nw)[f dq]? = some nw := by simp [Array.getElem?_setIfInBounds, hlt]
  have hrel : xRel dC dI cA f B h0 (xcp h sq sp.toNatClampNeg dq dp.toNatClampNeg n.toNatClampNeg) (H.setIfInBounds (f dq) nw) := by
    refine xRel_upd hf hR hd rfl rfl (fun k hk => ⟨xcp_ne h _ _ _ _ hk, rfl, rfl⟩) hz oq (Or.inr ?_) (fun ht21 j => ?_)
    · have eS : xS (xcp h sq sp.toNatClampNeg dq dp.toNatClampNeg n.toNatClampNeg) dq = (t, (xS h dq).2) := xpair htd
      rw [eS]
      refine ⟨ht20, ?_⟩
      rw [hself, ← hnew, hav, xcp_at]
    · rw [xcp_at]
      unfold va_cpy
      have t21 : t = 21 := by rw [← htd]; exact ht21
      split
      · exact hR.2.2.2.2.2 sq hs (by rw [hts]; exact t21) _
      · exact hR.2.2.2.2.2 dq hd ht21 _
  obtain ⟨t', a1, b1⟩ := kk _ _ hrel ⟨by rw [hz]; exact hS.1, fun q g1 g2 => by
      rw [oq q (fun e => g2 (by rw [e]; exact xA_of hf hd))]
      exact hS.2.1 q g1 g2, fun q hq => by
      rcases List.mem_append.mp hq with h | h
      · exact hS.2.2 q h
      · obtain ⟨z, -, hz⟩ := List.mem_map.mp h
        rw [← hz]
        exact xA_of hf hd⟩ _ hheap X'
  exact ⟨t', step t' a1, b1⟩
end XCP
end
section
/-! ONE STEP: an instruction of the abstract machine is one of the machine -/
def xKW (p : Program) (l : Launch) (e : Env) (R : Room) (s : State) (m : MethodId) (args : Array Value) (below : List Frame) (meth : Method) (c : Code) (QW : State → Prop) (nL : Nat) (dC : Nat → ClassId) (dI : Nat → Nat → Nat) (cA : Nat → ClassId) (f : Nat → Nat) (B : Nat) (h0 : xh) : Nat → List (Option Value) → List Value → xh → Nat → Nat → Prop :=
  fun pc ls st h kc ks => ∀ (H : Heap) (locs : List Loc) (lsA : Array Slot), xRel dC dI cA f B h0 h H → va_S (xA B) s.heap H locs → xlv f lsA nL ls → kc ≤ R.cells → ks ≤ R.slots → W p l e R s m args below meth c H locs kc ks QW (F0 m pc lsA (st.map (xtv f)))
/-- what a return gives back -/
def xrok (rt : Option FieldType) (i : Instr) (v : Option Value) : Prop :=
  (i = .ireturn ∧ ∃ x ty, v = some (.int x) ∧ rt = some ty ∧ narrow ty (.int x) = .int x) ∨ (i = .lreturn ∧ (∃ x, v = some (.long x)) ∧ rt = some .long) ∨ (i = .areturn ∧ ((∃ q, v = some (.ref q)) ∨ v = some .null) ∧ ∃ ty, rt = some ty ∧ ((∃ n, ty = .object n) ∨ ∃ t, ty = .array t)) ∨ (i = .return_ ∧ v = none ∧ rt = none)
def xRet (p : Program) (l : Launch) (e : Env) (R : Room) (s : State) (m : MethodId) (args : Array Value) (below : List Frame) (meth : Method) (c : Code) (QW : State → Prop) (dC : Nat → ClassId) (dI : Nat → Nat → Nat) (cA : Nat → ClassId) (f : Nat → Nat) (B : Nat) (h0 : xh) (cc : ByteArray) (rt : Option FieldType) (Qa : Option Value → xh → Prop) : Prop :=
  ∀ (v : Option Value) (h' : xh) (H : Heap) (locs : List Loc) (lsA : Array Slot) (kc ks pc : Nat) (i : Instr), decode cc pc = .ok (i, 1) → xrok rt i v → Qa v h' → xRel dC dI cA f B h0 h' H → va_S (xA B) s.heap H locs → kc ≤ R.cells → ks ≤ R.slots → W p l e R s m args below meth c H locs kc ks QW (F0 m pc lsA (v.toList.map (xtv f)))
/-- the contracts of the methods that may be called -/
def xCon2 (l : Launch) (n : Nat) (MC : Nat → List Value → xh → (Option Value → xh → Prop) → Prop) (dC : Nat → ClassId) (dI : Nat → Nat → Nat) (cA : Nat → ClassId) (f : Nat → Nat) (B : Nat) (h0 : xh) : Prop :=
  ∀ (j : Nat) (q : xme) (as : List Value) (h : xh) (Q' : Option Value → xh → Prop), xmt[j]? = some q → MC j as h Q' → Met l q.1 (Cond.code q.1 q.2.1 q.2.2.1 q.2.2.2.1 :: lw_tbl.filter goodWord) ({ frames := n, cells := q.2.2.2.2.2.2.2.2.1, slots := q.2.2.2.2.2.2.2.2.2.1, locals := 32 * n } : Room) (xPc dC dI cA f B h0 h as) (xQc dC dI cA f B h0 Q') q.2.2.2.2.2.2.2.2.1 q.2.2.2.2.2.2.2.2.2.1 (xA B)
theorem xtsw {pc : Nat} {x : Int32} {K : Nat → Prop} : ∀ (lo : Int) (os : List Int) (ts : List (Int32 × Nat)) (d : Nat), xts pc lo os ts = true → xsw x K ts d →
    (∀ i : Nat, ∀ off, os[i]? = some off → x.toInt = lo + i → ∃ t : Nat, (pc : Int) + off = (t : Int) ∧ K t) ∧ ((x.toInt < lo ∨ lo + os.length ≤ x.toInt) → K d)
  | lo, [], [], d, _, hs => ⟨fun i off h => by simp at h, fun _ => hs⟩
  | lo, [], _ :: _, d, h, _ => by cases h
  | lo, _ :: _, [], d, h, _ => by cases h
  | lo, o :: os, t :: ts, d, h, hs => by
    simp only [xts, Bool.and_eq_true, decide_eq_true_eq] at h
    obtain ⟨h1, h2, h3⟩ := h
    obtain ⟨s1, s2⟩ := hs
    by_cases hx : x = t.1
    · refine ⟨fun i off hi he => ?_, fun hr => ?_⟩
      · have e0 : i = 0 := by rw [hx, h1] at he; omega
        subst e0
        have : o = off := by simpa using hi
        subst this
        exact ⟨t.2, h2, s1 hx⟩
      · rw [hx, h1] at hr
        simp only [List.length_cons] at hr
        omega
    · obtain ⟨r1, r2⟩ := xtsw (lo + 1) os ts d h3 (s2 hx)
      have hne : x.toInt ≠ lo := fun z => hx (Int32.toInt_inj.mp (z.trans h1.symm))
      refine ⟨fun i off hi he => ?_, fun hr => r2 ?_⟩
      · cases i with
        | zero => exact absurd (by simpa using he) hne
        | succ i =>
          refine r1 i off (by simpa using hi) (by rw [he]; push_cast; omega)
      · simp only [List.length_cons] at hr
        push_cast at hr
        omega
section XST
variable {p : Program} {l : Launch} {e : Env} {R : Room} {s : State} {m : MethodId} {args : Array Value} {below : List Frame} {meth : Method} {c : Code} {QW : State → Prop} {cc : ByteArray} {nL : Nat} {own : String} {dC : Nat → ClassId} {dI : Nat → Nat → Nat} {cA : Nat → ClassId} {f : Nat → Nat} {B : Nat} {h0 : xh}
theorem xs_cm {MC : Nat → List Value → xh → (Option Value → xh → Prop) → Prop} {rc j mc ms pc : Nat} {as r : List Value} {h : xh} {ls : List (Option Value)} {kc ks : Nat} {H : Heap} {locs : List Loc} {lsA : Array Slot} {st : List Value}
    (hcm : xcm MC R.cells R.slots rc j mc ms as h (fun st h kc ks => xKW p l e R s m args below meth c QW nL dC dI cA f B h0 (pc + 3) ls st h kc ks) kc ks r) (h00 : mc = 0 → ms = 0) (hS : va_S (xA B) s.heap H locs) (hl : xlv f lsA nL ls) (hc1 : kc ≤ R.cells) (hc2 : ks ≤ R.slots) {av : Array Value}
    (hrun : ∀ Q' : Option Value → xh → Prop, MC j as h Q' → xcs r ≤ 8 → kc + mc ≤ R.cells ∧ ks + ms ≤ R.slots → va_Run p l e R s m args below meth c H locs kc ks mc ms (F0 m pc lsA st) (r.map (xtv f)) (xQc dC dI cA f B h0 Q' av) (xA B)) : W p l e R s m args below meth c H locs kc ks QW (F0 m pc lsA st) := by
  have key : ∀ kc' ks', kc' = kc + mc → ks' = ks + ms → kc + mc ≤ R.cells ∧ ks + ms ≤ R.slots → xcs r ≤ 8 → xcall MC rc j as h (fun st h' => xKW p l e R s m args below meth c QW nL dC dI cA f B h0 (pc + 3) ls st h' kc' ks') r → W p l e R s m args below meth c H locs kc ks QW (F0 m pc lsA st) := by
    intro kc' ks' e1 e2 hb hcs hc
    subst e1; subst e2
    unfold xcall at hc
    split at hc
    · refine xs_back hS (hrun _ hc hcs hb) fun v h' H1 locs1 hq hR1 hS1 => ?_
      split at hq
      · exact hq H1 locs1 lsA hR1 hS1 hl hb.1 hb.2
      · exact hq.elim
    · refine xs_back hS (hrun _ hc hcs hb) fun v h' H1 locs1 hq hR1 hS1 => ?_
      split at hq
      · exact hq H1 locs1 lsA hR1 hS1 hl hb.1 hb.2
      · exact hq.elim
    · refine xs_back hS (hrun _ hc hcs hb) fun v h' H1 locs1 hq hR1 hS1 => ?_
      split at hq
      · exact hq.1 _ rfl H1 locs1 lsA hR1 hS1 hl hb.1 hb.2
      · exact hq.2 rfl H1 locs1 lsA hR1 hS1 hl hb.1 hb.2
      · exact hq.elim
    · refine xs_back hS (hrun _ hc hcs hb) fun v h' H1 locs1 hq hR1 hS1 => ?_
      split at hq
      · exact hq H1 locs1 lsA hR1 hS1 hl hb.1 hb.2
      · exact hq.elim
  unfold xcm at hcm
  split at hcm
  · exact hcm.elim
  · next hble =>
    have hcs : xcs r ≤ 8 := Nat.le_of_ble_eq_true hble
    cases mc with
    | zero =>
      have e0 : ms = 0 := h00 rfl
      subst e0
      exact key kc ks rfl rfl ⟨hc1, hc2⟩ hcs hcm
    | succ mc =>
      exact key _ _ rfl rfl hcm.1 hcs hcm.2
theorem xf_inj (hf : ∀ k, 64 ≤ k → f k = B + (k - 64)) {x y : Nat} (g1 : 64 ≤ x) (g2 : 64 ≤ y) (h : f x = f y) : x = y := by
  rw [hf x g1, hf y g2] at h
  omega
theorem xmo_00 {y : MethodName} {b : ByteArray} {ml : Nat} {rt : Option FieldType} {cd : List (List xop)} {kd na tg mc ms rc : Nat} {ps : List Nat} (hmo : xmo (y, b, ml, rt, cd, kd, na, tg, mc, ms, rc, ps) = true) : mc = 0 → ms = 0 := by
  unfold xmo at hmo
  split at hmo
  next y' b' ml' rt' cd' kd' na' tg' mc' ms' rc' p0 p1 p2 p3 heq =>
    simp only [Prod.mk.injEq] at heq
    obtain ⟨rfl, rfl, rfl, rfl, rfl, rfl, rfl, rfl, rfl, rfl, rfl, rfl⟩ := heq
    simp only [Bool.and_eq_true, decide_eq_true_eq] at hmo
    exact hmo.2.2.2.2.2.2.1
  next => cases hmo
theorem xobj_in : Cond.instanceMethod objectInit ∈ lw_tbl ∧ Cond.code objectInit ⟨#[0xb1]⟩ 1 none ∈ lw_tbl := by decide +kernel
set_option maxHeartbeats 4000000 in
set_option maxRecDepth 100000 in
theorem xz_iconst {MC : Nat → List Value → xh → (Option Value → xh → Prop) → Prop} {Qa : Option Value → xh → Prop} {n : Nat} {ini : Bool} {rt : Option FieldType} (E : xEnv p s m args c cc nL own dC dI cA f B h0) (hRs : R.slots ≤ 8000000) (hfr : n + 1 ≤ R.frames) (hlo : 32 * (n + 1) ≤ R.locals) (hini : ini = true → meth.name = "<init>") (hmt : ∀ q ∈ xmt, xmo q = true) (hMC : xCon2 l n MC dC dI cA f B h0)
    (hret : xRet p l e R s m args below meth c QW dC dI cA f B h0 cc rt Qa) {pc : Nat} (n : Int) {nx a b c' e' f' g' : Nat} {k : Int32} {kl : Int64} {ts : List (Int32 × Nat)} {ls : List (Option Value)} {st : List Value} {h : xh} {kc ks : Nat} (hd : xd1 own nL ini rt cc pc (.iconst n, nx, a, b, c', e', f', g', k, kl, ts) = true)
    (hF : xF MC R.cells R.slots Qa (xKW p l e R s m args below meth c QW nL dC dI cA f B h0) (.iconst n, nx, a, b, c', e', f', g', k, kl, ts) ls st h kc ks) : xKW p l e R s m args below meth c QW nL dC dI cA f B h0 pc ls st h kc ks := by
  obtain ⟨hx, hb, hml, hown, hts, hK, hC, hf, hB⟩ := id E
  unfold xd1 at hd; dsimp only at hd; unfold xdt at hd; dsimp only at hd; simp only [Bool.and_eq_true, decide_eq_true_eq] at hd
  obtain ⟨hdg, rfl, hk⟩ := hd
  rw [Nat.add_sub_cancel_left] at hdg
  intro H locs lsA hR hS hl hc1 hc2
  exact lv_iconst hx hb hdg hk (hF H locs lsA hR hS hl hc1 hc2)
set_option maxHeartbeats 4000000 in
set_option maxRecDepth 100000 in
theorem xz_bipush {MC : Nat → List Value → xh → (Option Value → xh → Prop) → Prop} {Qa : Option Value → xh → Prop} {n : Nat} {ini : Bool} {rt : Option FieldType} (E : xEnv p s m args c cc nL own dC dI cA f B h0) (hRs : R.slots ≤ 8000000) (hfr : n + 1 ≤ R.frames) (hlo : 32 * (n + 1) ≤ R.locals) (hini : ini = true → meth.name = "<init>") (hmt : ∀ q ∈ xmt, xmo q = true) (hMC : xCon2 l n MC dC dI cA f B h0)
    (hret : xRet p l e R s m args below meth c QW dC dI cA f B h0 cc rt Qa) {pc : Nat} (n : Int) {nx a b c' e' f' g' : Nat} {k : Int32} {kl : Int64} {ts : List (Int32 × Nat)} {ls : List (Option Value)} {st : List Value} {h : xh} {kc ks : Nat} (hd : xd1 own nL ini rt cc pc (.bipush n, nx, a, b, c', e', f', g', k, kl, ts) = true)
    (hF : xF MC R.cells R.slots Qa (xKW p l e R s m args below meth c QW nL dC dI cA f B h0) (.bipush n, nx, a, b, c', e', f', g', k, kl, ts) ls st h kc ks) : xKW p l e R s m args below meth c QW nL dC dI cA f B h0 pc ls st h kc ks := by
  obtain ⟨hx, hb, hml, hown, hts, hK, hC, hf, hB⟩ := id E
  unfold xd1 at hd; dsimp only at hd; unfold xdt at hd; dsimp only at hd; simp only [Bool.and_eq_true, decide_eq_true_eq] at hd
  obtain ⟨hdg, rfl, hk⟩ := hd
  rw [Nat.add_sub_cancel_left] at hdg
  intro H locs lsA hR hS hl hc1 hc2
  exact lv_bipush hx hb hdg hk (hF H locs lsA hR hS hl hc1 hc2)
set_option maxHeartbeats 4000000 in
set_option maxRecDepth 100000 in
theorem xz_sipush {MC : Nat → List Value → xh → (Option Value → xh → Prop) → Prop} {Qa : Option Value → xh → Prop} {n : Nat} {ini : Bool} {rt : Option FieldType} (E : xEnv p s m args c cc nL own dC dI cA f B h0) (hRs : R.slots ≤ 8000000) (hfr : n + 1 ≤ R.frames) (hlo : 32 * (n + 1) ≤ R.locals) (hini : ini = true → meth.name = "<init>") (hmt : ∀ q ∈ xmt, xmo q = true) (hMC : xCon2 l n MC dC dI cA f B h0)
    (hret : xRet p l e R s m args below meth c QW dC dI cA f B h0 cc rt Qa) {pc : Nat} (n : Int) {nx a b c' e' f' g' : Nat} {k : Int32} {kl : Int64} {ts : List (Int32 × Nat)} {ls : List (Option Value)} {st : List Value} {h : xh} {kc ks : Nat} (hd : xd1 own nL ini rt cc pc (.sipush n, nx, a, b, c', e', f', g', k, kl, ts) = true)
    (hF : xF MC R.cells R.slots Qa (xKW p l e R s m args below meth c QW nL dC dI cA f B h0) (.sipush n, nx, a, b, c', e', f', g', k, kl, ts) ls st h kc ks) : xKW p l e R s m args below meth c QW nL dC dI cA f B h0 pc ls st h kc ks := by
  obtain ⟨hx, hb, hml, hown, hts, hK, hC, hf, hB⟩ := id E
  unfold xd1 at hd; dsimp only at hd; unfold xdt at hd; dsimp only at hd; simp only [Bool.and_eq_true, decide_eq_true_eq] at hd
  obtain ⟨hdg, rfl, hk⟩ := hd
  rw [Nat.add_sub_cancel_left] at hdg
  intro H locs lsA hR hS hl hc1 hc2
  exact lv_sipush hx hb hdg hk (hF H locs lsA hR hS hl hc1 hc2)
set_option maxHeartbeats 4000000 in
set_option maxRecDepth 100000 in
theorem xz_lconst {MC : Nat → List Value → xh → (Option Value → xh → Prop) → Prop} {Qa : Option Value → xh → Prop} {n : Nat} {ini : Bool} {rt : Option FieldType} (E : xEnv p s m args c cc nL own dC dI cA f B h0) (hRs : R.slots ≤ 8000000) (hfr : n + 1 ≤ R.frames) (hlo : 32 * (n + 1) ≤ R.locals) (hini : ini = true → meth.name = "<init>") (hmt : ∀ q ∈ xmt, xmo q = true) (hMC : xCon2 l n MC dC dI cA f B h0)
    (hret : xRet p l e R s m args below meth c QW dC dI cA f B h0 cc rt Qa) {pc : Nat} (n : Fin 2) {nx a b c' e' f' g' : Nat} {k : Int32} {kl : Int64} {ts : List (Int32 × Nat)} {ls : List (Option Value)} {st : List Value} {h : xh} {kc ks : Nat} (hd : xd1 own nL ini rt cc pc (.lconst n, nx, a, b, c', e', f', g', k, kl, ts) = true)
    (hF : xF MC R.cells R.slots Qa (xKW p l e R s m args below meth c QW nL dC dI cA f B h0) (.lconst n, nx, a, b, c', e', f', g', k, kl, ts) ls st h kc ks) : xKW p l e R s m args below meth c QW nL dC dI cA f B h0 pc ls st h kc ks := by
  obtain ⟨hx, hb, hml, hown, hts, hK, hC, hf, hB⟩ := id E
  unfold xd1 at hd; dsimp only at hd; unfold xdt at hd; dsimp only at hd; simp only [Bool.and_eq_true, decide_eq_true_eq] at hd
  obtain ⟨hdg, rfl, hk⟩ := hd
  rw [Nat.add_sub_cancel_left] at hdg
  intro H locs lsA hR hS hl hc1 hc2
  exact lv_lconst hx hb hdg hk (hF H locs lsA hR hS hl hc1 hc2)
set_option maxHeartbeats 4000000 in
set_option maxRecDepth 100000 in
theorem xz_ldc_w {MC : Nat → List Value → xh → (Option Value → xh → Prop) → Prop} {Qa : Option Value → xh → Prop} {n : Nat} {ini : Bool} {rt : Option FieldType} (E : xEnv p s m args c cc nL own dC dI cA f B h0) (hRs : R.slots ≤ 8000000) (hfr : n + 1 ≤ R.frames) (hlo : 32 * (n + 1) ≤ R.locals) (hini : ini = true → meth.name = "<init>") (hmt : ∀ q ∈ xmt, xmo q = true) (hMC : xCon2 l n MC dC dI cA f B h0)
    (hret : xRet p l e R s m args below meth c QW dC dI cA f B h0 cc rt Qa) {pc : Nat} (x : Nat) {nx a b c' e' f' g' : Nat} {k : Int32} {kl : Int64} {ts : List (Int32 × Nat)} {ls : List (Option Value)} {st : List Value} {h : xh} {kc ks : Nat} (hd : xd1 own nL ini rt cc pc (.ldc_w x, nx, a, b, c', e', f', g', k, kl, ts) = true)
    (hF : xF MC R.cells R.slots Qa (xKW p l e R s m args below meth c QW nL dC dI cA f B h0) (.ldc_w x, nx, a, b, c', e', f', g', k, kl, ts) ls st h kc ks) : xKW p l e R s m args below meth c QW nL dC dI cA f B h0 pc ls st h kc ks := by
  obtain ⟨hx, hb, hml, hown, hts, hK, hC, hf, hB⟩ := id E
  unfold xd1 at hd; dsimp only at hd; unfold xdt at hd; dsimp only at hd; simp only [Bool.and_eq_true, decide_eq_true_eq] at hd
  obtain ⟨hdg, rfl, hk⟩ := hd
  rw [Nat.add_sub_cancel_left] at hdg
  intro H locs lsA hR hS hl hc1 hc2
  exact lv_ldcw hx hb hown (hts _ (List.mem_of_getElem? hk) rfl) hdg (hF H locs lsA hR hS hl hc1 hc2)
set_option maxHeartbeats 4000000 in
set_option maxRecDepth 100000 in
theorem xz_ldc2_w {MC : Nat → List Value → xh → (Option Value → xh → Prop) → Prop} {Qa : Option Value → xh → Prop} {n : Nat} {ini : Bool} {rt : Option FieldType} (E : xEnv p s m args c cc nL own dC dI cA f B h0) (hRs : R.slots ≤ 8000000) (hfr : n + 1 ≤ R.frames) (hlo : 32 * (n + 1) ≤ R.locals) (hini : ini = true → meth.name = "<init>") (hmt : ∀ q ∈ xmt, xmo q = true) (hMC : xCon2 l n MC dC dI cA f B h0)
    (hret : xRet p l e R s m args below meth c QW dC dI cA f B h0 cc rt Qa) {pc : Nat} (x : Nat) {nx a b c' e' f' g' : Nat} {k : Int32} {kl : Int64} {ts : List (Int32 × Nat)} {ls : List (Option Value)} {st : List Value} {h : xh} {kc ks : Nat} (hd : xd1 own nL ini rt cc pc (.ldc2_w x, nx, a, b, c', e', f', g', k, kl, ts) = true)
    (hF : xF MC R.cells R.slots Qa (xKW p l e R s m args below meth c QW nL dC dI cA f B h0) (.ldc2_w x, nx, a, b, c', e', f', g', k, kl, ts) ls st h kc ks) : xKW p l e R s m args below meth c QW nL dC dI cA f B h0 pc ls st h kc ks := by
  obtain ⟨hx, hb, hml, hown, hts, hK, hC, hf, hB⟩ := id E
  unfold xd1 at hd; dsimp only at hd; unfold xdt at hd; dsimp only at hd; simp only [Bool.and_eq_true, decide_eq_true_eq] at hd
  obtain ⟨hdg, rfl, hk⟩ := hd
  rw [Nat.add_sub_cancel_left] at hdg
  intro H locs lsA hR hS hl hc1 hc2
  exact lv_ldc2 hx hb hown (hts _ (List.mem_of_getElem? hk) rfl) hdg (hF H locs lsA hR hS hl hc1 hc2)
set_option maxHeartbeats 4000000 in
set_option maxRecDepth 100000 in
theorem xz_ldc {MC : Nat → List Value → xh → (Option Value → xh → Prop) → Prop} {Qa : Option Value → xh → Prop} {n : Nat} {ini : Bool} {rt : Option FieldType} (E : xEnv p s m args c cc nL own dC dI cA f B h0) (hRs : R.slots ≤ 8000000) (hfr : n + 1 ≤ R.frames) (hlo : 32 * (n + 1) ≤ R.locals) (hini : ini = true → meth.name = "<init>") (hmt : ∀ q ∈ xmt, xmo q = true) (hMC : xCon2 l n MC dC dI cA f B h0)
    (hret : xRet p l e R s m args below meth c QW dC dI cA f B h0 cc rt Qa) {pc : Nat} (x : Nat) {nx a b c' e' f' g' : Nat} {k : Int32} {kl : Int64} {ts : List (Int32 × Nat)} {ls : List (Option Value)} {st : List Value} {h : xh} {kc ks : Nat} (hd : xd1 own nL ini rt cc pc (.ldc x, nx, a, b, c', e', f', g', k, kl, ts) = true)
    (hF : xF MC R.cells R.slots Qa (xKW p l e R s m args below meth c QW nL dC dI cA f B h0) (.ldc x, nx, a, b, c', e', f', g', k, kl, ts) ls st h kc ks) : xKW p l e R s m args below meth c QW nL dC dI cA f B h0 pc ls st h kc ks := by
  obtain ⟨hx, hb, hml, hown, hts, hK, hC, hf, hB⟩ := id E
  unfold xd1 at hd; dsimp only at hd; unfold xdt at hd; dsimp only at hd; simp only [Bool.and_eq_true, decide_eq_true_eq] at hd
  obtain ⟨hdg, rfl, hk⟩ := hd
  rw [Nat.add_sub_cancel_left] at hdg
  intro H locs lsA hR hS hl hc1 hc2
  revert hF; unfold xF; intro hF; dsimp only at hF
  split at hF
  · exact lv_ldc hx hb hown (hts _ (List.mem_of_getElem? (by simpa only [decide_eq_true_eq] using hk)) rfl) hdg (hF H locs lsA hR hS hl hc1 hc2)
  · split at hk
    · next hne => exact absurd rfl hne
    · simp only [Bool.and_eq_true, decide_eq_true_eq, List.any_eq_true] at hk
      obtain ⟨rfl, q, hq, rfl, rfl⟩ := hk
      exact va_ldcS hx hb hown (hC.2.2.2.2.2.2.1 q hq) hdg (hF H locs lsA hR hS hl hc1 hc2)
set_option maxHeartbeats 4000000 in
set_option maxRecDepth 100000 in
theorem xz_aconst_null {MC : Nat → List Value → xh → (Option Value → xh → Prop) → Prop} {Qa : Option Value → xh → Prop} {n : Nat} {ini : Bool} {rt : Option FieldType} (E : xEnv p s m args c cc nL own dC dI cA f B h0) (hRs : R.slots ≤ 8000000) (hfr : n + 1 ≤ R.frames) (hlo : 32 * (n + 1) ≤ R.locals) (hini : ini = true → meth.name = "<init>") (hmt : ∀ q ∈ xmt, xmo q = true) (hMC : xCon2 l n MC dC dI cA f B h0)
    (hret : xRet p l e R s m args below meth c QW dC dI cA f B h0 cc rt Qa) {pc : Nat}  {nx a b c' e' f' g' : Nat} {k : Int32} {kl : Int64} {ts : List (Int32 × Nat)} {ls : List (Option Value)} {st : List Value} {h : xh} {kc ks : Nat} (hd : xd1 own nL ini rt cc pc (.aconst_null, nx, a, b, c', e', f', g', k, kl, ts) = true)
    (hF : xF MC R.cells R.slots Qa (xKW p l e R s m args below meth c QW nL dC dI cA f B h0) (.aconst_null, nx, a, b, c', e', f', g', k, kl, ts) ls st h kc ks) : xKW p l e R s m args below meth c QW nL dC dI cA f B h0 pc ls st h kc ks := by
  obtain ⟨hx, hb, hml, hown, hts, hK, hC, hf, hB⟩ := id E
  unfold xd1 at hd; dsimp only at hd; unfold xdt at hd; dsimp only at hd; simp only [Bool.and_eq_true, decide_eq_true_eq] at hd
  obtain ⟨hdg, rfl⟩ := hd
  rw [Nat.add_sub_cancel_left] at hdg
  intro H locs lsA hR hS hl hc1 hc2
  exact lv_null hx hb hdg (hF H locs lsA hR hS hl hc1 hc2)
set_option maxHeartbeats 4000000 in
set_option maxRecDepth 100000 in
theorem xz_iload {MC : Nat → List Value → xh → (Option Value → xh → Prop) → Prop} {Qa : Option Value → xh → Prop} {n : Nat} {ini : Bool} {rt : Option FieldType} (E : xEnv p s m args c cc nL own dC dI cA f B h0) (hRs : R.slots ≤ 8000000) (hfr : n + 1 ≤ R.frames) (hlo : 32 * (n + 1) ≤ R.locals) (hini : ini = true → meth.name = "<init>") (hmt : ∀ q ∈ xmt, xmo q = true) (hMC : xCon2 l n MC dC dI cA f B h0)
    (hret : xRet p l e R s m args below meth c QW dC dI cA f B h0 cc rt Qa) {pc : Nat} (n : Nat) {nx a b c' e' f' g' : Nat} {k : Int32} {kl : Int64} {ts : List (Int32 × Nat)} {ls : List (Option Value)} {st : List Value} {h : xh} {kc ks : Nat} (hd : xd1 own nL ini rt cc pc (.iload n, nx, a, b, c', e', f', g', k, kl, ts) = true)
    (hF : xF MC R.cells R.slots Qa (xKW p l e R s m args below meth c QW nL dC dI cA f B h0) (.iload n, nx, a, b, c', e', f', g', k, kl, ts) ls st h kc ks) : xKW p l e R s m args below meth c QW nL dC dI cA f B h0 pc ls st h kc ks := by
  obtain ⟨hx, hb, hml, hown, hts, hK, hC, hf, hB⟩ := id E
  unfold xd1 at hd; dsimp only at hd; unfold xdt at hd; dsimp only at hd; simp only [Bool.and_eq_true, decide_eq_true_eq] at hd
  obtain ⟨hdg, rfl, hk⟩ := hd
  rw [Nat.add_sub_cancel_left] at hdg
  intro H locs lsA hR hS hl hc1 hc2
  revert hF; unfold xF; intro hF; dsimp only at hF
  split at hF
  · next x hg =>
    have ha := xlv_at hl hg
    subst hk
    exact lv_iload hx hb hdg ha (hF H locs lsA hR hS hl hc1 hc2)
  · exact hF.elim
set_option maxHeartbeats 4000000 in
set_option maxRecDepth 100000 in
theorem xz_iload_n {MC : Nat → List Value → xh → (Option Value → xh → Prop) → Prop} {Qa : Option Value → xh → Prop} {n : Nat} {ini : Bool} {rt : Option FieldType} (E : xEnv p s m args c cc nL own dC dI cA f B h0) (hRs : R.slots ≤ 8000000) (hfr : n + 1 ≤ R.frames) (hlo : 32 * (n + 1) ≤ R.locals) (hini : ini = true → meth.name = "<init>") (hmt : ∀ q ∈ xmt, xmo q = true) (hMC : xCon2 l n MC dC dI cA f B h0)
    (hret : xRet p l e R s m args below meth c QW dC dI cA f B h0 cc rt Qa) {pc : Nat} (n : Fin 4) {nx a b c' e' f' g' : Nat} {k : Int32} {kl : Int64} {ts : List (Int32 × Nat)} {ls : List (Option Value)} {st : List Value} {h : xh} {kc ks : Nat} (hd : xd1 own nL ini rt cc pc (.iload_n n, nx, a, b, c', e', f', g', k, kl, ts) = true)
    (hF : xF MC R.cells R.slots Qa (xKW p l e R s m args below meth c QW nL dC dI cA f B h0) (.iload_n n, nx, a, b, c', e', f', g', k, kl, ts) ls st h kc ks) : xKW p l e R s m args below meth c QW nL dC dI cA f B h0 pc ls st h kc ks := by
  obtain ⟨hx, hb, hml, hown, hts, hK, hC, hf, hB⟩ := id E
  unfold xd1 at hd; dsimp only at hd; unfold xdt at hd; dsimp only at hd; simp only [Bool.and_eq_true, decide_eq_true_eq] at hd
  obtain ⟨hdg, rfl, hk⟩ := hd
  rw [Nat.add_sub_cancel_left] at hdg
  intro H locs lsA hR hS hl hc1 hc2
  revert hF; unfold xF; intro hF; dsimp only at hF
  split at hF
  · next x hg =>
    have ha := xlv_at hl hg
    exact lv_iload_n hx hb hdg hk ha (hF H locs lsA hR hS hl hc1 hc2)
  · exact hF.elim
set_option maxHeartbeats 4000000 in
set_option maxRecDepth 100000 in
theorem xz_lload {MC : Nat → List Value → xh → (Option Value → xh → Prop) → Prop} {Qa : Option Value → xh → Prop} {n : Nat} {ini : Bool} {rt : Option FieldType} (E : xEnv p s m args c cc nL own dC dI cA f B h0) (hRs : R.slots ≤ 8000000) (hfr : n + 1 ≤ R.frames) (hlo : 32 * (n + 1) ≤ R.locals) (hini : ini = true → meth.name = "<init>") (hmt : ∀ q ∈ xmt, xmo q = true) (hMC : xCon2 l n MC dC dI cA f B h0)
    (hret : xRet p l e R s m args below meth c QW dC dI cA f B h0 cc rt Qa) {pc : Nat} (n : Nat) {nx a b c' e' f' g' : Nat} {k : Int32} {kl : Int64} {ts : List (Int32 × Nat)} {ls : List (Option Value)} {st : List Value} {h : xh} {kc ks : Nat} (hd : xd1 own nL ini rt cc pc (.lload n, nx, a, b, c', e', f', g', k, kl, ts) = true)
    (hF : xF MC R.cells R.slots Qa (xKW p l e R s m args below meth c QW nL dC dI cA f B h0) (.lload n, nx, a, b, c', e', f', g', k, kl, ts) ls st h kc ks) : xKW p l e R s m args below meth c QW nL dC dI cA f B h0 pc ls st h kc ks := by
  obtain ⟨hx, hb, hml, hown, hts, hK, hC, hf, hB⟩ := id E
  unfold xd1 at hd; dsimp only at hd; unfold xdt at hd; dsimp only at hd; simp only [Bool.and_eq_true, decide_eq_true_eq] at hd
  obtain ⟨hdg, rfl, hk⟩ := hd
  rw [Nat.add_sub_cancel_left] at hdg
  intro H locs lsA hR hS hl hc1 hc2
  revert hF; unfold xF; intro hF; dsimp only at hF
  split at hF
  · next x hg =>
    have ha := xlv_at hl hg
    subst hk
    exact lv_lload hx hb hdg ha (hF H locs lsA hR hS hl hc1 hc2)
  · exact hF.elim
set_option maxHeartbeats 4000000 in
set_option maxRecDepth 100000 in
theorem xz_lload_n {MC : Nat → List Value → xh → (Option Value → xh → Prop) → Prop} {Qa : Option Value → xh → Prop} {n : Nat} {ini : Bool} {rt : Option FieldType} (E : xEnv p s m args c cc nL own dC dI cA f B h0) (hRs : R.slots ≤ 8000000) (hfr : n + 1 ≤ R.frames) (hlo : 32 * (n + 1) ≤ R.locals) (hini : ini = true → meth.name = "<init>") (hmt : ∀ q ∈ xmt, xmo q = true) (hMC : xCon2 l n MC dC dI cA f B h0)
    (hret : xRet p l e R s m args below meth c QW dC dI cA f B h0 cc rt Qa) {pc : Nat} (n : Fin 4) {nx a b c' e' f' g' : Nat} {k : Int32} {kl : Int64} {ts : List (Int32 × Nat)} {ls : List (Option Value)} {st : List Value} {h : xh} {kc ks : Nat} (hd : xd1 own nL ini rt cc pc (.lload_n n, nx, a, b, c', e', f', g', k, kl, ts) = true)
    (hF : xF MC R.cells R.slots Qa (xKW p l e R s m args below meth c QW nL dC dI cA f B h0) (.lload_n n, nx, a, b, c', e', f', g', k, kl, ts) ls st h kc ks) : xKW p l e R s m args below meth c QW nL dC dI cA f B h0 pc ls st h kc ks := by
  obtain ⟨hx, hb, hml, hown, hts, hK, hC, hf, hB⟩ := id E
  unfold xd1 at hd; dsimp only at hd; unfold xdt at hd; dsimp only at hd; simp only [Bool.and_eq_true, decide_eq_true_eq] at hd
  obtain ⟨hdg, rfl, hk⟩ := hd
  rw [Nat.add_sub_cancel_left] at hdg
  intro H locs lsA hR hS hl hc1 hc2
  revert hF; unfold xF; intro hF; dsimp only at hF
  split at hF
  · next x hg =>
    have ha := xlv_at hl hg
    exact lv_lload_n hx hb hdg hk ha (hF H locs lsA hR hS hl hc1 hc2)
  · exact hF.elim
set_option maxHeartbeats 4000000 in
set_option maxRecDepth 100000 in
theorem xz_aload {MC : Nat → List Value → xh → (Option Value → xh → Prop) → Prop} {Qa : Option Value → xh → Prop} {n : Nat} {ini : Bool} {rt : Option FieldType} (E : xEnv p s m args c cc nL own dC dI cA f B h0) (hRs : R.slots ≤ 8000000) (hfr : n + 1 ≤ R.frames) (hlo : 32 * (n + 1) ≤ R.locals) (hini : ini = true → meth.name = "<init>") (hmt : ∀ q ∈ xmt, xmo q = true) (hMC : xCon2 l n MC dC dI cA f B h0)
    (hret : xRet p l e R s m args below meth c QW dC dI cA f B h0 cc rt Qa) {pc : Nat} (n : Nat) {nx a b c' e' f' g' : Nat} {k : Int32} {kl : Int64} {ts : List (Int32 × Nat)} {ls : List (Option Value)} {st : List Value} {h : xh} {kc ks : Nat} (hd : xd1 own nL ini rt cc pc (.aload n, nx, a, b, c', e', f', g', k, kl, ts) = true)
    (hF : xF MC R.cells R.slots Qa (xKW p l e R s m args below meth c QW nL dC dI cA f B h0) (.aload n, nx, a, b, c', e', f', g', k, kl, ts) ls st h kc ks) : xKW p l e R s m args below meth c QW nL dC dI cA f B h0 pc ls st h kc ks := by
  obtain ⟨hx, hb, hml, hown, hts, hK, hC, hf, hB⟩ := id E
  unfold xd1 at hd; dsimp only at hd; unfold xdt at hd; dsimp only at hd; simp only [Bool.and_eq_true, decide_eq_true_eq] at hd
  obtain ⟨hdg, rfl, hk⟩ := hd
  rw [Nat.add_sub_cancel_left] at hdg
  intro H locs lsA hR hS hl hc1 hc2
  revert hF; unfold xF; intro hF; dsimp only at hF
  split at hF
  · next x hg =>
    subst hk
    exact lv_aload hx hb hdg (xlv_at hl hg) (hF H locs lsA hR hS hl hc1 hc2)
  · next hg =>
    subst hk
    exact lv_aloadN hx hb hdg (xlv_at hl hg) (hF H locs lsA hR hS hl hc1 hc2)
  · exact hF.elim
set_option maxHeartbeats 4000000 in
set_option maxRecDepth 100000 in
theorem xz_aload_n {MC : Nat → List Value → xh → (Option Value → xh → Prop) → Prop} {Qa : Option Value → xh → Prop} {n : Nat} {ini : Bool} {rt : Option FieldType} (E : xEnv p s m args c cc nL own dC dI cA f B h0) (hRs : R.slots ≤ 8000000) (hfr : n + 1 ≤ R.frames) (hlo : 32 * (n + 1) ≤ R.locals) (hini : ini = true → meth.name = "<init>") (hmt : ∀ q ∈ xmt, xmo q = true) (hMC : xCon2 l n MC dC dI cA f B h0)
    (hret : xRet p l e R s m args below meth c QW dC dI cA f B h0 cc rt Qa) {pc : Nat} (n : Fin 4) {nx a b c' e' f' g' : Nat} {k : Int32} {kl : Int64} {ts : List (Int32 × Nat)} {ls : List (Option Value)} {st : List Value} {h : xh} {kc ks : Nat} (hd : xd1 own nL ini rt cc pc (.aload_n n, nx, a, b, c', e', f', g', k, kl, ts) = true)
    (hF : xF MC R.cells R.slots Qa (xKW p l e R s m args below meth c QW nL dC dI cA f B h0) (.aload_n n, nx, a, b, c', e', f', g', k, kl, ts) ls st h kc ks) : xKW p l e R s m args below meth c QW nL dC dI cA f B h0 pc ls st h kc ks := by
  obtain ⟨hx, hb, hml, hown, hts, hK, hC, hf, hB⟩ := id E
  unfold xd1 at hd; dsimp only at hd; unfold xdt at hd; dsimp only at hd; simp only [Bool.and_eq_true, decide_eq_true_eq] at hd
  obtain ⟨hdg, rfl, hk⟩ := hd
  rw [Nat.add_sub_cancel_left] at hdg
  intro H locs lsA hR hS hl hc1 hc2
  revert hF; unfold xF; intro hF; dsimp only at hF
  split at hF
  · next x hg =>
    exact lv_aload_n hx hb hdg hk (xlv_at hl hg) (hF H locs lsA hR hS hl hc1 hc2)
  · next hg =>
    exact lv_aload_nN hx hb hdg hk (xlv_at hl hg) (hF H locs lsA hR hS hl hc1 hc2)
  · exact hF.elim
set_option maxHeartbeats 4000000 in
set_option maxRecDepth 100000 in
theorem xz_istore {MC : Nat → List Value → xh → (Option Value → xh → Prop) → Prop} {Qa : Option Value → xh → Prop} {n : Nat} {ini : Bool} {rt : Option FieldType} (E : xEnv p s m args c cc nL own dC dI cA f B h0) (hRs : R.slots ≤ 8000000) (hfr : n + 1 ≤ R.frames) (hlo : 32 * (n + 1) ≤ R.locals) (hini : ini = true → meth.name = "<init>") (hmt : ∀ q ∈ xmt, xmo q = true) (hMC : xCon2 l n MC dC dI cA f B h0)
    (hret : xRet p l e R s m args below meth c QW dC dI cA f B h0 cc rt Qa) {pc : Nat} (n : Nat) {nx a b c' e' f' g' : Nat} {k : Int32} {kl : Int64} {ts : List (Int32 × Nat)} {ls : List (Option Value)} {st : List Value} {h : xh} {kc ks : Nat} (hd : xd1 own nL ini rt cc pc (.istore n, nx, a, b, c', e', f', g', k, kl, ts) = true)
    (hF : xF MC R.cells R.slots Qa (xKW p l e R s m args below meth c QW nL dC dI cA f B h0) (.istore n, nx, a, b, c', e', f', g', k, kl, ts) ls st h kc ks) : xKW p l e R s m args below meth c QW nL dC dI cA f B h0 pc ls st h kc ks := by
  obtain ⟨hx, hb, hml, hown, hts, hK, hC, hf, hB⟩ := id E
  unfold xd1 at hd; dsimp only at hd; unfold xdt at hd; dsimp only at hd; simp only [Bool.and_eq_true, decide_eq_true_eq] at hd
  obtain ⟨hdg, rfl, hk, hlt⟩ := hd
  rw [Nat.add_sub_cancel_left] at hdg
  intro H locs lsA hR hS hl hc1 hc2
  revert hF; unfold xF; intro hF; dsimp only at hF
  split at hF
  · next x r =>
    subst hk
    exact lv_istore hx hb hdg hl hlt rfl (fun ls2 hl2 => hF H locs ls2 hR hS (xlv_set (v := .int x) hl2) hc1 hc2)
  · exact hF.elim
set_option maxHeartbeats 4000000 in
set_option maxRecDepth 100000 in
theorem xz_istore_n {MC : Nat → List Value → xh → (Option Value → xh → Prop) → Prop} {Qa : Option Value → xh → Prop} {n : Nat} {ini : Bool} {rt : Option FieldType} (E : xEnv p s m args c cc nL own dC dI cA f B h0) (hRs : R.slots ≤ 8000000) (hfr : n + 1 ≤ R.frames) (hlo : 32 * (n + 1) ≤ R.locals) (hini : ini = true → meth.name = "<init>") (hmt : ∀ q ∈ xmt, xmo q = true) (hMC : xCon2 l n MC dC dI cA f B h0)
    (hret : xRet p l e R s m args below meth c QW dC dI cA f B h0 cc rt Qa) {pc : Nat} (n : Fin 4) {nx a b c' e' f' g' : Nat} {k : Int32} {kl : Int64} {ts : List (Int32 × Nat)} {ls : List (Option Value)} {st : List Value} {h : xh} {kc ks : Nat} (hd : xd1 own nL ini rt cc pc (.istore_n n, nx, a, b, c', e', f', g', k, kl, ts) = true)
    (hF : xF MC R.cells R.slots Qa (xKW p l e R s m args below meth c QW nL dC dI cA f B h0) (.istore_n n, nx, a, b, c', e', f', g', k, kl, ts) ls st h kc ks) : xKW p l e R s m args below meth c QW nL dC dI cA f B h0 pc ls st h kc ks := by
  obtain ⟨hx, hb, hml, hown, hts, hK, hC, hf, hB⟩ := id E
  unfold xd1 at hd; dsimp only at hd; unfold xdt at hd; dsimp only at hd; simp only [Bool.and_eq_true, decide_eq_true_eq] at hd
  obtain ⟨hdg, rfl, hk, hlt⟩ := hd
  rw [Nat.add_sub_cancel_left] at hdg
  intro H locs lsA hR hS hl hc1 hc2
  revert hF; unfold xF; intro hF; dsimp only at hF
  split at hF
  · next x r =>
    exact lv_istore_n hx hb hdg hk hl hlt rfl (fun ls2 hl2 => hF H locs ls2 hR hS (xlv_set (v := .int x) hl2) hc1 hc2)
  · exact hF.elim
set_option maxHeartbeats 4000000 in
set_option maxRecDepth 100000 in
theorem xz_lstore {MC : Nat → List Value → xh → (Option Value → xh → Prop) → Prop} {Qa : Option Value → xh → Prop} {n : Nat} {ini : Bool} {rt : Option FieldType} (E : xEnv p s m args c cc nL own dC dI cA f B h0) (hRs : R.slots ≤ 8000000) (hfr : n + 1 ≤ R.frames) (hlo : 32 * (n + 1) ≤ R.locals) (hini : ini = true → meth.name = "<init>") (hmt : ∀ q ∈ xmt, xmo q = true) (hMC : xCon2 l n MC dC dI cA f B h0)
    (hret : xRet p l e R s m args below meth c QW dC dI cA f B h0 cc rt Qa) {pc : Nat} (n : Nat) {nx a b c' e' f' g' : Nat} {k : Int32} {kl : Int64} {ts : List (Int32 × Nat)} {ls : List (Option Value)} {st : List Value} {h : xh} {kc ks : Nat} (hd : xd1 own nL ini rt cc pc (.lstore n, nx, a, b, c', e', f', g', k, kl, ts) = true)
    (hF : xF MC R.cells R.slots Qa (xKW p l e R s m args below meth c QW nL dC dI cA f B h0) (.lstore n, nx, a, b, c', e', f', g', k, kl, ts) ls st h kc ks) : xKW p l e R s m args below meth c QW nL dC dI cA f B h0 pc ls st h kc ks := by
  obtain ⟨hx, hb, hml, hown, hts, hK, hC, hf, hB⟩ := id E
  unfold xd1 at hd; dsimp only at hd; unfold xdt at hd; dsimp only at hd; simp only [Bool.and_eq_true, decide_eq_true_eq] at hd
  obtain ⟨hdg, rfl, hk, hlt⟩ := hd
  rw [Nat.add_sub_cancel_left] at hdg
  intro H locs lsA hR hS hl hc1 hc2
  revert hF; unfold xF; intro hF; dsimp only at hF
  split at hF
  · next x r =>
    subst hk
    exact lv_lstore hx hb hdg hl hlt rfl (fun ls2 hl2 => hF H locs ls2 hR hS (xlv_set2 (v := .long x) hl2) hc1 hc2)
  · exact hF.elim
set_option maxHeartbeats 4000000 in
set_option maxRecDepth 100000 in
theorem xz_lstore_n {MC : Nat → List Value → xh → (Option Value → xh → Prop) → Prop} {Qa : Option Value → xh → Prop} {n : Nat} {ini : Bool} {rt : Option FieldType} (E : xEnv p s m args c cc nL own dC dI cA f B h0) (hRs : R.slots ≤ 8000000) (hfr : n + 1 ≤ R.frames) (hlo : 32 * (n + 1) ≤ R.locals) (hini : ini = true → meth.name = "<init>") (hmt : ∀ q ∈ xmt, xmo q = true) (hMC : xCon2 l n MC dC dI cA f B h0)
    (hret : xRet p l e R s m args below meth c QW dC dI cA f B h0 cc rt Qa) {pc : Nat} (n : Fin 4) {nx a b c' e' f' g' : Nat} {k : Int32} {kl : Int64} {ts : List (Int32 × Nat)} {ls : List (Option Value)} {st : List Value} {h : xh} {kc ks : Nat} (hd : xd1 own nL ini rt cc pc (.lstore_n n, nx, a, b, c', e', f', g', k, kl, ts) = true)
    (hF : xF MC R.cells R.slots Qa (xKW p l e R s m args below meth c QW nL dC dI cA f B h0) (.lstore_n n, nx, a, b, c', e', f', g', k, kl, ts) ls st h kc ks) : xKW p l e R s m args below meth c QW nL dC dI cA f B h0 pc ls st h kc ks := by
  obtain ⟨hx, hb, hml, hown, hts, hK, hC, hf, hB⟩ := id E
  unfold xd1 at hd; dsimp only at hd; unfold xdt at hd; dsimp only at hd; simp only [Bool.and_eq_true, decide_eq_true_eq] at hd
  obtain ⟨hdg, rfl, hk, hlt⟩ := hd
  rw [Nat.add_sub_cancel_left] at hdg
  intro H locs lsA hR hS hl hc1 hc2
  revert hF; unfold xF; intro hF; dsimp only at hF
  split at hF
  · next x r =>
    exact lv_lstore_n hx hb hdg hk hl hlt rfl (fun ls2 hl2 => hF H locs ls2 hR hS (xlv_set2 (v := .long x) hl2) hc1 hc2)
  · exact hF.elim
set_option maxHeartbeats 4000000 in
set_option maxRecDepth 100000 in
theorem xz_astore {MC : Nat → List Value → xh → (Option Value → xh → Prop) → Prop} {Qa : Option Value → xh → Prop} {n : Nat} {ini : Bool} {rt : Option FieldType} (E : xEnv p s m args c cc nL own dC dI cA f B h0) (hRs : R.slots ≤ 8000000) (hfr : n + 1 ≤ R.frames) (hlo : 32 * (n + 1) ≤ R.locals) (hini : ini = true → meth.name = "<init>") (hmt : ∀ q ∈ xmt, xmo q = true) (hMC : xCon2 l n MC dC dI cA f B h0)
    (hret : xRet p l e R s m args below meth c QW dC dI cA f B h0 cc rt Qa) {pc : Nat} (n : Nat) {nx a b c' e' f' g' : Nat} {k : Int32} {kl : Int64} {ts : List (Int32 × Nat)} {ls : List (Option Value)} {st : List Value} {h : xh} {kc ks : Nat} (hd : xd1 own nL ini rt cc pc (.astore n, nx, a, b, c', e', f', g', k, kl, ts) = true)
    (hF : xF MC R.cells R.slots Qa (xKW p l e R s m args below meth c QW nL dC dI cA f B h0) (.astore n, nx, a, b, c', e', f', g', k, kl, ts) ls st h kc ks) : xKW p l e R s m args below meth c QW nL dC dI cA f B h0 pc ls st h kc ks := by
  obtain ⟨hx, hb, hml, hown, hts, hK, hC, hf, hB⟩ := id E
  unfold xd1 at hd; dsimp only at hd; unfold xdt at hd; dsimp only at hd; simp only [Bool.and_eq_true, decide_eq_true_eq] at hd
  obtain ⟨hdg, rfl, hk, hlt⟩ := hd
  rw [Nat.add_sub_cancel_left] at hdg
  intro H locs lsA hR hS hl hc1 hc2
  revert hF; unfold xF; intro hF; dsimp only at hF
  split at hF
  · next x r =>
    subst hk
    exact lv_astore hx hb hdg hl hlt rfl (fun ls2 hl2 => hF H locs ls2 hR hS (xlv_set (v := .ref x) hl2) hc1 hc2)
  · next r =>
    subst hk
    exact lv_astoreN hx hb hdg hl hlt rfl (fun ls2 hl2 => hF H locs ls2 hR hS (xlv_set (v := .null) hl2) hc1 hc2)
  · exact hF.elim
set_option maxHeartbeats 4000000 in
set_option maxRecDepth 100000 in
theorem xz_astore_n {MC : Nat → List Value → xh → (Option Value → xh → Prop) → Prop} {Qa : Option Value → xh → Prop} {n : Nat} {ini : Bool} {rt : Option FieldType} (E : xEnv p s m args c cc nL own dC dI cA f B h0) (hRs : R.slots ≤ 8000000) (hfr : n + 1 ≤ R.frames) (hlo : 32 * (n + 1) ≤ R.locals) (hini : ini = true → meth.name = "<init>") (hmt : ∀ q ∈ xmt, xmo q = true) (hMC : xCon2 l n MC dC dI cA f B h0)
    (hret : xRet p l e R s m args below meth c QW dC dI cA f B h0 cc rt Qa) {pc : Nat} (n : Fin 4) {nx a b c' e' f' g' : Nat} {k : Int32} {kl : Int64} {ts : List (Int32 × Nat)} {ls : List (Option Value)} {st : List Value} {h : xh} {kc ks : Nat} (hd : xd1 own nL ini rt cc pc (.astore_n n, nx, a, b, c', e', f', g', k, kl, ts) = true)
    (hF : xF MC R.cells R.slots Qa (xKW p l e R s m args below meth c QW nL dC dI cA f B h0) (.astore_n n, nx, a, b, c', e', f', g', k, kl, ts) ls st h kc ks) : xKW p l e R s m args below meth c QW nL dC dI cA f B h0 pc ls st h kc ks := by
  obtain ⟨hx, hb, hml, hown, hts, hK, hC, hf, hB⟩ := id E
  unfold xd1 at hd; dsimp only at hd; unfold xdt at hd; dsimp only at hd; simp only [Bool.and_eq_true, decide_eq_true_eq] at hd
  obtain ⟨hdg, rfl, hk, hlt⟩ := hd
  rw [Nat.add_sub_cancel_left] at hdg
  intro H locs lsA hR hS hl hc1 hc2
  revert hF; unfold xF; intro hF; dsimp only at hF
  split at hF
  · next x r =>
    exact lv_astore_n hx hb hdg hk hl hlt rfl (fun ls2 hl2 => hF H locs ls2 hR hS (xlv_set (v := .ref x) hl2) hc1 hc2)
  · next r =>
    exact lv_astore_nN hx hb hdg hk hl hlt rfl (fun ls2 hl2 => hF H locs ls2 hR hS (xlv_set (v := .null) hl2) hc1 hc2)
  · exact hF.elim
set_option maxHeartbeats 4000000 in
set_option maxRecDepth 100000 in
theorem xz_iinc {MC : Nat → List Value → xh → (Option Value → xh → Prop) → Prop} {Qa : Option Value → xh → Prop} {n : Nat} {ini : Bool} {rt : Option FieldType} (E : xEnv p s m args c cc nL own dC dI cA f B h0) (hRs : R.slots ≤ 8000000) (hfr : n + 1 ≤ R.frames) (hlo : 32 * (n + 1) ≤ R.locals) (hini : ini = true → meth.name = "<init>") (hmt : ∀ q ∈ xmt, xmo q = true) (hMC : xCon2 l n MC dC dI cA f B h0)
    (hret : xRet p l e R s m args below meth c QW dC dI cA f B h0 cc rt Qa) {pc : Nat} (n : Nat) (d : Int) {nx a b c' e' f' g' : Nat} {k : Int32} {kl : Int64} {ts : List (Int32 × Nat)} {ls : List (Option Value)} {st : List Value} {h : xh} {kc ks : Nat} (hd : xd1 own nL ini rt cc pc (.iinc n d, nx, a, b, c', e', f', g', k, kl, ts) = true)
    (hF : xF MC R.cells R.slots Qa (xKW p l e R s m args below meth c QW nL dC dI cA f B h0) (.iinc n d, nx, a, b, c', e', f', g', k, kl, ts) ls st h kc ks) : xKW p l e R s m args below meth c QW nL dC dI cA f B h0 pc ls st h kc ks := by
  obtain ⟨hx, hb, hml, hown, hts, hK, hC, hf, hB⟩ := id E
  unfold xd1 at hd; dsimp only at hd; unfold xdt at hd; dsimp only at hd; simp only [Bool.and_eq_true, decide_eq_true_eq] at hd
  obtain ⟨hdg, rfl, hk, hkk, hlt⟩ := hd
  rw [Nat.add_sub_cancel_left] at hdg
  intro H locs lsA hR hS hl hc1 hc2
  revert hF; unfold xF; intro hF; dsimp only at hF
  split at hF
  · next x hg =>
    subst hk
    have hm := xents_mem f ls 0 _ _ hg
    rw [Nat.zero_add] at hm
    obtain ⟨kk, hkx⟩ := List.getElem?_of_mem hm
    exact lv_iinc (x := x) hx hb hdg hl hkx (by rw [hkk]) hlt rfl (fun ls2 hl2 => hF H locs ls2 hR hS (xlv_set (v := .int (x + k)) hl2) hc1 hc2)
  · exact hF.elim
set_option maxHeartbeats 4000000 in
set_option maxRecDepth 100000 in
theorem xz_iadd {MC : Nat → List Value → xh → (Option Value → xh → Prop) → Prop} {Qa : Option Value → xh → Prop} {n : Nat} {ini : Bool} {rt : Option FieldType} (E : xEnv p s m args c cc nL own dC dI cA f B h0) (hRs : R.slots ≤ 8000000) (hfr : n + 1 ≤ R.frames) (hlo : 32 * (n + 1) ≤ R.locals) (hini : ini = true → meth.name = "<init>") (hmt : ∀ q ∈ xmt, xmo q = true) (hMC : xCon2 l n MC dC dI cA f B h0)
    (hret : xRet p l e R s m args below meth c QW dC dI cA f B h0 cc rt Qa) {pc : Nat}  {nx a b c' e' f' g' : Nat} {k : Int32} {kl : Int64} {ts : List (Int32 × Nat)} {ls : List (Option Value)} {st : List Value} {h : xh} {kc ks : Nat} (hd : xd1 own nL ini rt cc pc (.iadd, nx, a, b, c', e', f', g', k, kl, ts) = true)
    (hF : xF MC R.cells R.slots Qa (xKW p l e R s m args below meth c QW nL dC dI cA f B h0) (.iadd, nx, a, b, c', e', f', g', k, kl, ts) ls st h kc ks) : xKW p l e R s m args below meth c QW nL dC dI cA f B h0 pc ls st h kc ks := by
  obtain ⟨hx, hb, hml, hown, hts, hK, hC, hf, hB⟩ := id E
  unfold xd1 at hd; dsimp only at hd; unfold xdt at hd; dsimp only at hd; simp only [Bool.and_eq_true, decide_eq_true_eq] at hd
  obtain ⟨hdg, rfl⟩ := hd
  rw [Nat.add_sub_cancel_left] at hdg
  intro H locs lsA hR hS hl hc1 hc2
  revert hF; unfold xF; intro hF; dsimp only at hF
  split at hF
  · exact lv_iadd hx hb hdg (hF H locs lsA hR hS hl hc1 hc2)
  · exact hF.elim
set_option maxHeartbeats 4000000 in
set_option maxRecDepth 100000 in
theorem xz_isub {MC : Nat → List Value → xh → (Option Value → xh → Prop) → Prop} {Qa : Option Value → xh → Prop} {n : Nat} {ini : Bool} {rt : Option FieldType} (E : xEnv p s m args c cc nL own dC dI cA f B h0) (hRs : R.slots ≤ 8000000) (hfr : n + 1 ≤ R.frames) (hlo : 32 * (n + 1) ≤ R.locals) (hini : ini = true → meth.name = "<init>") (hmt : ∀ q ∈ xmt, xmo q = true) (hMC : xCon2 l n MC dC dI cA f B h0)
    (hret : xRet p l e R s m args below meth c QW dC dI cA f B h0 cc rt Qa) {pc : Nat}  {nx a b c' e' f' g' : Nat} {k : Int32} {kl : Int64} {ts : List (Int32 × Nat)} {ls : List (Option Value)} {st : List Value} {h : xh} {kc ks : Nat} (hd : xd1 own nL ini rt cc pc (.isub, nx, a, b, c', e', f', g', k, kl, ts) = true)
    (hF : xF MC R.cells R.slots Qa (xKW p l e R s m args below meth c QW nL dC dI cA f B h0) (.isub, nx, a, b, c', e', f', g', k, kl, ts) ls st h kc ks) : xKW p l e R s m args below meth c QW nL dC dI cA f B h0 pc ls st h kc ks := by
  obtain ⟨hx, hb, hml, hown, hts, hK, hC, hf, hB⟩ := id E
  unfold xd1 at hd; dsimp only at hd; unfold xdt at hd; dsimp only at hd; simp only [Bool.and_eq_true, decide_eq_true_eq] at hd
  obtain ⟨hdg, rfl⟩ := hd
  rw [Nat.add_sub_cancel_left] at hdg
  intro H locs lsA hR hS hl hc1 hc2
  revert hF; unfold xF; intro hF; dsimp only at hF
  split at hF
  · exact lv_isub hx hb hdg (hF H locs lsA hR hS hl hc1 hc2)
  · exact hF.elim
set_option maxHeartbeats 4000000 in
set_option maxRecDepth 100000 in
theorem xz_imul {MC : Nat → List Value → xh → (Option Value → xh → Prop) → Prop} {Qa : Option Value → xh → Prop} {n : Nat} {ini : Bool} {rt : Option FieldType} (E : xEnv p s m args c cc nL own dC dI cA f B h0) (hRs : R.slots ≤ 8000000) (hfr : n + 1 ≤ R.frames) (hlo : 32 * (n + 1) ≤ R.locals) (hini : ini = true → meth.name = "<init>") (hmt : ∀ q ∈ xmt, xmo q = true) (hMC : xCon2 l n MC dC dI cA f B h0)
    (hret : xRet p l e R s m args below meth c QW dC dI cA f B h0 cc rt Qa) {pc : Nat}  {nx a b c' e' f' g' : Nat} {k : Int32} {kl : Int64} {ts : List (Int32 × Nat)} {ls : List (Option Value)} {st : List Value} {h : xh} {kc ks : Nat} (hd : xd1 own nL ini rt cc pc (.imul, nx, a, b, c', e', f', g', k, kl, ts) = true)
    (hF : xF MC R.cells R.slots Qa (xKW p l e R s m args below meth c QW nL dC dI cA f B h0) (.imul, nx, a, b, c', e', f', g', k, kl, ts) ls st h kc ks) : xKW p l e R s m args below meth c QW nL dC dI cA f B h0 pc ls st h kc ks := by
  obtain ⟨hx, hb, hml, hown, hts, hK, hC, hf, hB⟩ := id E
  unfold xd1 at hd; dsimp only at hd; unfold xdt at hd; dsimp only at hd; simp only [Bool.and_eq_true, decide_eq_true_eq] at hd
  obtain ⟨hdg, rfl⟩ := hd
  rw [Nat.add_sub_cancel_left] at hdg
  intro H locs lsA hR hS hl hc1 hc2
  revert hF; unfold xF; intro hF; dsimp only at hF
  split at hF
  · exact lv_imul hx hb hdg (hF H locs lsA hR hS hl hc1 hc2)
  · exact hF.elim
set_option maxHeartbeats 4000000 in
set_option maxRecDepth 100000 in
theorem xz_iand {MC : Nat → List Value → xh → (Option Value → xh → Prop) → Prop} {Qa : Option Value → xh → Prop} {n : Nat} {ini : Bool} {rt : Option FieldType} (E : xEnv p s m args c cc nL own dC dI cA f B h0) (hRs : R.slots ≤ 8000000) (hfr : n + 1 ≤ R.frames) (hlo : 32 * (n + 1) ≤ R.locals) (hini : ini = true → meth.name = "<init>") (hmt : ∀ q ∈ xmt, xmo q = true) (hMC : xCon2 l n MC dC dI cA f B h0)
    (hret : xRet p l e R s m args below meth c QW dC dI cA f B h0 cc rt Qa) {pc : Nat}  {nx a b c' e' f' g' : Nat} {k : Int32} {kl : Int64} {ts : List (Int32 × Nat)} {ls : List (Option Value)} {st : List Value} {h : xh} {kc ks : Nat} (hd : xd1 own nL ini rt cc pc (.iand, nx, a, b, c', e', f', g', k, kl, ts) = true)
    (hF : xF MC R.cells R.slots Qa (xKW p l e R s m args below meth c QW nL dC dI cA f B h0) (.iand, nx, a, b, c', e', f', g', k, kl, ts) ls st h kc ks) : xKW p l e R s m args below meth c QW nL dC dI cA f B h0 pc ls st h kc ks := by
  obtain ⟨hx, hb, hml, hown, hts, hK, hC, hf, hB⟩ := id E
  unfold xd1 at hd; dsimp only at hd; unfold xdt at hd; dsimp only at hd; simp only [Bool.and_eq_true, decide_eq_true_eq] at hd
  obtain ⟨hdg, rfl⟩ := hd
  rw [Nat.add_sub_cancel_left] at hdg
  intro H locs lsA hR hS hl hc1 hc2
  revert hF; unfold xF; intro hF; dsimp only at hF
  split at hF
  · exact lv_iand hx hb hdg (hF H locs lsA hR hS hl hc1 hc2)
  · exact hF.elim
set_option maxHeartbeats 4000000 in
set_option maxRecDepth 100000 in
theorem xz_ior {MC : Nat → List Value → xh → (Option Value → xh → Prop) → Prop} {Qa : Option Value → xh → Prop} {n : Nat} {ini : Bool} {rt : Option FieldType} (E : xEnv p s m args c cc nL own dC dI cA f B h0) (hRs : R.slots ≤ 8000000) (hfr : n + 1 ≤ R.frames) (hlo : 32 * (n + 1) ≤ R.locals) (hini : ini = true → meth.name = "<init>") (hmt : ∀ q ∈ xmt, xmo q = true) (hMC : xCon2 l n MC dC dI cA f B h0)
    (hret : xRet p l e R s m args below meth c QW dC dI cA f B h0 cc rt Qa) {pc : Nat}  {nx a b c' e' f' g' : Nat} {k : Int32} {kl : Int64} {ts : List (Int32 × Nat)} {ls : List (Option Value)} {st : List Value} {h : xh} {kc ks : Nat} (hd : xd1 own nL ini rt cc pc (.ior, nx, a, b, c', e', f', g', k, kl, ts) = true)
    (hF : xF MC R.cells R.slots Qa (xKW p l e R s m args below meth c QW nL dC dI cA f B h0) (.ior, nx, a, b, c', e', f', g', k, kl, ts) ls st h kc ks) : xKW p l e R s m args below meth c QW nL dC dI cA f B h0 pc ls st h kc ks := by
  obtain ⟨hx, hb, hml, hown, hts, hK, hC, hf, hB⟩ := id E
  unfold xd1 at hd; dsimp only at hd; unfold xdt at hd; dsimp only at hd; simp only [Bool.and_eq_true, decide_eq_true_eq] at hd
  obtain ⟨hdg, rfl⟩ := hd
  rw [Nat.add_sub_cancel_left] at hdg
  intro H locs lsA hR hS hl hc1 hc2
  revert hF; unfold xF; intro hF; dsimp only at hF
  split at hF
  · exact lv_ior hx hb hdg (hF H locs lsA hR hS hl hc1 hc2)
  · exact hF.elim
set_option maxHeartbeats 4000000 in
set_option maxRecDepth 100000 in
theorem xz_ixor {MC : Nat → List Value → xh → (Option Value → xh → Prop) → Prop} {Qa : Option Value → xh → Prop} {n : Nat} {ini : Bool} {rt : Option FieldType} (E : xEnv p s m args c cc nL own dC dI cA f B h0) (hRs : R.slots ≤ 8000000) (hfr : n + 1 ≤ R.frames) (hlo : 32 * (n + 1) ≤ R.locals) (hini : ini = true → meth.name = "<init>") (hmt : ∀ q ∈ xmt, xmo q = true) (hMC : xCon2 l n MC dC dI cA f B h0)
    (hret : xRet p l e R s m args below meth c QW dC dI cA f B h0 cc rt Qa) {pc : Nat}  {nx a b c' e' f' g' : Nat} {k : Int32} {kl : Int64} {ts : List (Int32 × Nat)} {ls : List (Option Value)} {st : List Value} {h : xh} {kc ks : Nat} (hd : xd1 own nL ini rt cc pc (.ixor, nx, a, b, c', e', f', g', k, kl, ts) = true)
    (hF : xF MC R.cells R.slots Qa (xKW p l e R s m args below meth c QW nL dC dI cA f B h0) (.ixor, nx, a, b, c', e', f', g', k, kl, ts) ls st h kc ks) : xKW p l e R s m args below meth c QW nL dC dI cA f B h0 pc ls st h kc ks := by
  obtain ⟨hx, hb, hml, hown, hts, hK, hC, hf, hB⟩ := id E
  unfold xd1 at hd; dsimp only at hd; unfold xdt at hd; dsimp only at hd; simp only [Bool.and_eq_true, decide_eq_true_eq] at hd
  obtain ⟨hdg, rfl⟩ := hd
  rw [Nat.add_sub_cancel_left] at hdg
  intro H locs lsA hR hS hl hc1 hc2
  revert hF; unfold xF; intro hF; dsimp only at hF
  split at hF
  · exact lv_ixor hx hb hdg (hF H locs lsA hR hS hl hc1 hc2)
  · exact hF.elim
set_option maxHeartbeats 4000000 in
set_option maxRecDepth 100000 in
theorem xz_ishl {MC : Nat → List Value → xh → (Option Value → xh → Prop) → Prop} {Qa : Option Value → xh → Prop} {n : Nat} {ini : Bool} {rt : Option FieldType} (E : xEnv p s m args c cc nL own dC dI cA f B h0) (hRs : R.slots ≤ 8000000) (hfr : n + 1 ≤ R.frames) (hlo : 32 * (n + 1) ≤ R.locals) (hini : ini = true → meth.name = "<init>") (hmt : ∀ q ∈ xmt, xmo q = true) (hMC : xCon2 l n MC dC dI cA f B h0)
    (hret : xRet p l e R s m args below meth c QW dC dI cA f B h0 cc rt Qa) {pc : Nat}  {nx a b c' e' f' g' : Nat} {k : Int32} {kl : Int64} {ts : List (Int32 × Nat)} {ls : List (Option Value)} {st : List Value} {h : xh} {kc ks : Nat} (hd : xd1 own nL ini rt cc pc (.ishl, nx, a, b, c', e', f', g', k, kl, ts) = true)
    (hF : xF MC R.cells R.slots Qa (xKW p l e R s m args below meth c QW nL dC dI cA f B h0) (.ishl, nx, a, b, c', e', f', g', k, kl, ts) ls st h kc ks) : xKW p l e R s m args below meth c QW nL dC dI cA f B h0 pc ls st h kc ks := by
  obtain ⟨hx, hb, hml, hown, hts, hK, hC, hf, hB⟩ := id E
  unfold xd1 at hd; dsimp only at hd; unfold xdt at hd; dsimp only at hd; simp only [Bool.and_eq_true, decide_eq_true_eq] at hd
  obtain ⟨hdg, rfl⟩ := hd
  rw [Nat.add_sub_cancel_left] at hdg
  intro H locs lsA hR hS hl hc1 hc2
  revert hF; unfold xF; intro hF; dsimp only at hF
  split at hF
  · exact lv_ishl hx hb hdg (hF H locs lsA hR hS hl hc1 hc2)
  · exact hF.elim
set_option maxHeartbeats 4000000 in
set_option maxRecDepth 100000 in
theorem xz_ishr {MC : Nat → List Value → xh → (Option Value → xh → Prop) → Prop} {Qa : Option Value → xh → Prop} {n : Nat} {ini : Bool} {rt : Option FieldType} (E : xEnv p s m args c cc nL own dC dI cA f B h0) (hRs : R.slots ≤ 8000000) (hfr : n + 1 ≤ R.frames) (hlo : 32 * (n + 1) ≤ R.locals) (hini : ini = true → meth.name = "<init>") (hmt : ∀ q ∈ xmt, xmo q = true) (hMC : xCon2 l n MC dC dI cA f B h0)
    (hret : xRet p l e R s m args below meth c QW dC dI cA f B h0 cc rt Qa) {pc : Nat}  {nx a b c' e' f' g' : Nat} {k : Int32} {kl : Int64} {ts : List (Int32 × Nat)} {ls : List (Option Value)} {st : List Value} {h : xh} {kc ks : Nat} (hd : xd1 own nL ini rt cc pc (.ishr, nx, a, b, c', e', f', g', k, kl, ts) = true)
    (hF : xF MC R.cells R.slots Qa (xKW p l e R s m args below meth c QW nL dC dI cA f B h0) (.ishr, nx, a, b, c', e', f', g', k, kl, ts) ls st h kc ks) : xKW p l e R s m args below meth c QW nL dC dI cA f B h0 pc ls st h kc ks := by
  obtain ⟨hx, hb, hml, hown, hts, hK, hC, hf, hB⟩ := id E
  unfold xd1 at hd; dsimp only at hd; unfold xdt at hd; dsimp only at hd; simp only [Bool.and_eq_true, decide_eq_true_eq] at hd
  obtain ⟨hdg, rfl⟩ := hd
  rw [Nat.add_sub_cancel_left] at hdg
  intro H locs lsA hR hS hl hc1 hc2
  revert hF; unfold xF; intro hF; dsimp only at hF
  split at hF
  · exact lv_ishr hx hb hdg (hF H locs lsA hR hS hl hc1 hc2)
  · exact hF.elim
set_option maxHeartbeats 4000000 in
set_option maxRecDepth 100000 in
theorem xz_ineg {MC : Nat → List Value → xh → (Option Value → xh → Prop) → Prop} {Qa : Option Value → xh → Prop} {n : Nat} {ini : Bool} {rt : Option FieldType} (E : xEnv p s m args c cc nL own dC dI cA f B h0) (hRs : R.slots ≤ 8000000) (hfr : n + 1 ≤ R.frames) (hlo : 32 * (n + 1) ≤ R.locals) (hini : ini = true → meth.name = "<init>") (hmt : ∀ q ∈ xmt, xmo q = true) (hMC : xCon2 l n MC dC dI cA f B h0)
    (hret : xRet p l e R s m args below meth c QW dC dI cA f B h0 cc rt Qa) {pc : Nat}  {nx a b c' e' f' g' : Nat} {k : Int32} {kl : Int64} {ts : List (Int32 × Nat)} {ls : List (Option Value)} {st : List Value} {h : xh} {kc ks : Nat} (hd : xd1 own nL ini rt cc pc (.ineg, nx, a, b, c', e', f', g', k, kl, ts) = true)
    (hF : xF MC R.cells R.slots Qa (xKW p l e R s m args below meth c QW nL dC dI cA f B h0) (.ineg, nx, a, b, c', e', f', g', k, kl, ts) ls st h kc ks) : xKW p l e R s m args below meth c QW nL dC dI cA f B h0 pc ls st h kc ks := by
  obtain ⟨hx, hb, hml, hown, hts, hK, hC, hf, hB⟩ := id E
  unfold xd1 at hd; dsimp only at hd; unfold xdt at hd; dsimp only at hd; simp only [Bool.and_eq_true, decide_eq_true_eq] at hd
  obtain ⟨hdg, rfl⟩ := hd
  rw [Nat.add_sub_cancel_left] at hdg
  intro H locs lsA hR hS hl hc1 hc2
  revert hF; unfold xF; intro hF; dsimp only at hF
  split at hF
  · exact lv_ineg hx hb hdg (hF H locs lsA hR hS hl hc1 hc2)
  · exact hF.elim
set_option maxHeartbeats 4000000 in
set_option maxRecDepth 100000 in
theorem xz_ladd {MC : Nat → List Value → xh → (Option Value → xh → Prop) → Prop} {Qa : Option Value → xh → Prop} {n : Nat} {ini : Bool} {rt : Option FieldType} (E : xEnv p s m args c cc nL own dC dI cA f B h0) (hRs : R.slots ≤ 8000000) (hfr : n + 1 ≤ R.frames) (hlo : 32 * (n + 1) ≤ R.locals) (hini : ini = true → meth.name = "<init>") (hmt : ∀ q ∈ xmt, xmo q = true) (hMC : xCon2 l n MC dC dI cA f B h0)
    (hret : xRet p l e R s m args below meth c QW dC dI cA f B h0 cc rt Qa) {pc : Nat}  {nx a b c' e' f' g' : Nat} {k : Int32} {kl : Int64} {ts : List (Int32 × Nat)} {ls : List (Option Value)} {st : List Value} {h : xh} {kc ks : Nat} (hd : xd1 own nL ini rt cc pc (.ladd, nx, a, b, c', e', f', g', k, kl, ts) = true)
    (hF : xF MC R.cells R.slots Qa (xKW p l e R s m args below meth c QW nL dC dI cA f B h0) (.ladd, nx, a, b, c', e', f', g', k, kl, ts) ls st h kc ks) : xKW p l e R s m args below meth c QW nL dC dI cA f B h0 pc ls st h kc ks := by
  obtain ⟨hx, hb, hml, hown, hts, hK, hC, hf, hB⟩ := id E
  unfold xd1 at hd; dsimp only at hd; unfold xdt at hd; dsimp only at hd; simp only [Bool.and_eq_true, decide_eq_true_eq] at hd
  obtain ⟨hdg, rfl⟩ := hd
  rw [Nat.add_sub_cancel_left] at hdg
  intro H locs lsA hR hS hl hc1 hc2
  revert hF; unfold xF; intro hF; dsimp only at hF
  split at hF
  · exact lv_ladd hx hb hdg (hF H locs lsA hR hS hl hc1 hc2)
  · exact hF.elim
set_option maxHeartbeats 4000000 in
set_option maxRecDepth 100000 in
theorem xz_lmul {MC : Nat → List Value → xh → (Option Value → xh → Prop) → Prop} {Qa : Option Value → xh → Prop} {n : Nat} {ini : Bool} {rt : Option FieldType} (E : xEnv p s m args c cc nL own dC dI cA f B h0) (hRs : R.slots ≤ 8000000) (hfr : n + 1 ≤ R.frames) (hlo : 32 * (n + 1) ≤ R.locals) (hini : ini = true → meth.name = "<init>") (hmt : ∀ q ∈ xmt, xmo q = true) (hMC : xCon2 l n MC dC dI cA f B h0)
    (hret : xRet p l e R s m args below meth c QW dC dI cA f B h0 cc rt Qa) {pc : Nat}  {nx a b c' e' f' g' : Nat} {k : Int32} {kl : Int64} {ts : List (Int32 × Nat)} {ls : List (Option Value)} {st : List Value} {h : xh} {kc ks : Nat} (hd : xd1 own nL ini rt cc pc (.lmul, nx, a, b, c', e', f', g', k, kl, ts) = true)
    (hF : xF MC R.cells R.slots Qa (xKW p l e R s m args below meth c QW nL dC dI cA f B h0) (.lmul, nx, a, b, c', e', f', g', k, kl, ts) ls st h kc ks) : xKW p l e R s m args below meth c QW nL dC dI cA f B h0 pc ls st h kc ks := by
  obtain ⟨hx, hb, hml, hown, hts, hK, hC, hf, hB⟩ := id E
  unfold xd1 at hd; dsimp only at hd; unfold xdt at hd; dsimp only at hd; simp only [Bool.and_eq_true, decide_eq_true_eq] at hd
  obtain ⟨hdg, rfl⟩ := hd
  rw [Nat.add_sub_cancel_left] at hdg
  intro H locs lsA hR hS hl hc1 hc2
  revert hF; unfold xF; intro hF; dsimp only at hF
  split at hF
  · exact lv_lmul hx hb hdg (hF H locs lsA hR hS hl hc1 hc2)
  · exact hF.elim
set_option maxHeartbeats 4000000 in
set_option maxRecDepth 100000 in
theorem xz_lor {MC : Nat → List Value → xh → (Option Value → xh → Prop) → Prop} {Qa : Option Value → xh → Prop} {n : Nat} {ini : Bool} {rt : Option FieldType} (E : xEnv p s m args c cc nL own dC dI cA f B h0) (hRs : R.slots ≤ 8000000) (hfr : n + 1 ≤ R.frames) (hlo : 32 * (n + 1) ≤ R.locals) (hini : ini = true → meth.name = "<init>") (hmt : ∀ q ∈ xmt, xmo q = true) (hMC : xCon2 l n MC dC dI cA f B h0)
    (hret : xRet p l e R s m args below meth c QW dC dI cA f B h0 cc rt Qa) {pc : Nat}  {nx a b c' e' f' g' : Nat} {k : Int32} {kl : Int64} {ts : List (Int32 × Nat)} {ls : List (Option Value)} {st : List Value} {h : xh} {kc ks : Nat} (hd : xd1 own nL ini rt cc pc (.lor, nx, a, b, c', e', f', g', k, kl, ts) = true)
    (hF : xF MC R.cells R.slots Qa (xKW p l e R s m args below meth c QW nL dC dI cA f B h0) (.lor, nx, a, b, c', e', f', g', k, kl, ts) ls st h kc ks) : xKW p l e R s m args below meth c QW nL dC dI cA f B h0 pc ls st h kc ks := by
  obtain ⟨hx, hb, hml, hown, hts, hK, hC, hf, hB⟩ := id E
  unfold xd1 at hd; dsimp only at hd; unfold xdt at hd; dsimp only at hd; simp only [Bool.and_eq_true, decide_eq_true_eq] at hd
  obtain ⟨hdg, rfl⟩ := hd
  rw [Nat.add_sub_cancel_left] at hdg
  intro H locs lsA hR hS hl hc1 hc2
  revert hF; unfold xF; intro hF; dsimp only at hF
  split at hF
  · exact lv_lor hx hb hdg (hF H locs lsA hR hS hl hc1 hc2)
  · exact hF.elim
set_option maxHeartbeats 4000000 in
set_option maxRecDepth 100000 in
theorem xz_iushr {MC : Nat → List Value → xh → (Option Value → xh → Prop) → Prop} {Qa : Option Value → xh → Prop} {n : Nat} {ini : Bool} {rt : Option FieldType} (E : xEnv p s m args c cc nL own dC dI cA f B h0) (hRs : R.slots ≤ 8000000) (hfr : n + 1 ≤ R.frames) (hlo : 32 * (n + 1) ≤ R.locals) (hini : ini = true → meth.name = "<init>") (hmt : ∀ q ∈ xmt, xmo q = true) (hMC : xCon2 l n MC dC dI cA f B h0)
    (hret : xRet p l e R s m args below meth c QW dC dI cA f B h0 cc rt Qa) {pc : Nat}  {nx a b c' e' f' g' : Nat} {k : Int32} {kl : Int64} {ts : List (Int32 × Nat)} {ls : List (Option Value)} {st : List Value} {h : xh} {kc ks : Nat} (hd : xd1 own nL ini rt cc pc (.iushr, nx, a, b, c', e', f', g', k, kl, ts) = true)
    (hF : xF MC R.cells R.slots Qa (xKW p l e R s m args below meth c QW nL dC dI cA f B h0) (.iushr, nx, a, b, c', e', f', g', k, kl, ts) ls st h kc ks) : xKW p l e R s m args below meth c QW nL dC dI cA f B h0 pc ls st h kc ks := by
  obtain ⟨hx, hb, hml, hown, hts, hK, hC, hf, hB⟩ := id E
  unfold xd1 at hd; dsimp only at hd; unfold xdt at hd; dsimp only at hd; simp only [Bool.and_eq_true, decide_eq_true_eq] at hd
  obtain ⟨hdg, rfl⟩ := hd
  rw [Nat.add_sub_cancel_left] at hdg
  intro H locs lsA hR hS hl hc1 hc2
  revert hF; unfold xF; intro hF; dsimp only at hF
  split at hF
  · exact lv_iushr hx hb hdg rfl (hF H locs lsA hR hS hl hc1 hc2)
  · exact hF.elim
set_option maxHeartbeats 4000000 in
set_option maxRecDepth 100000 in
theorem xz_lshl {MC : Nat → List Value → xh → (Option Value → xh → Prop) → Prop} {Qa : Option Value → xh → Prop} {n : Nat} {ini : Bool} {rt : Option FieldType} (E : xEnv p s m args c cc nL own dC dI cA f B h0) (hRs : R.slots ≤ 8000000) (hfr : n + 1 ≤ R.frames) (hlo : 32 * (n + 1) ≤ R.locals) (hini : ini = true → meth.name = "<init>") (hmt : ∀ q ∈ xmt, xmo q = true) (hMC : xCon2 l n MC dC dI cA f B h0)
    (hret : xRet p l e R s m args below meth c QW dC dI cA f B h0 cc rt Qa) {pc : Nat}  {nx a b c' e' f' g' : Nat} {k : Int32} {kl : Int64} {ts : List (Int32 × Nat)} {ls : List (Option Value)} {st : List Value} {h : xh} {kc ks : Nat} (hd : xd1 own nL ini rt cc pc (.lshl, nx, a, b, c', e', f', g', k, kl, ts) = true)
    (hF : xF MC R.cells R.slots Qa (xKW p l e R s m args below meth c QW nL dC dI cA f B h0) (.lshl, nx, a, b, c', e', f', g', k, kl, ts) ls st h kc ks) : xKW p l e R s m args below meth c QW nL dC dI cA f B h0 pc ls st h kc ks := by
  obtain ⟨hx, hb, hml, hown, hts, hK, hC, hf, hB⟩ := id E
  unfold xd1 at hd; dsimp only at hd; unfold xdt at hd; dsimp only at hd; simp only [Bool.and_eq_true, decide_eq_true_eq] at hd
  obtain ⟨hdg, rfl⟩ := hd
  rw [Nat.add_sub_cancel_left] at hdg
  intro H locs lsA hR hS hl hc1 hc2
  revert hF; unfold xF; intro hF; dsimp only at hF
  split at hF
  · exact lv_lshl hx hb hdg rfl (hF H locs lsA hR hS hl hc1 hc2)
  · exact hF.elim
set_option maxHeartbeats 4000000 in
set_option maxRecDepth 100000 in
theorem xz_i2l {MC : Nat → List Value → xh → (Option Value → xh → Prop) → Prop} {Qa : Option Value → xh → Prop} {n : Nat} {ini : Bool} {rt : Option FieldType} (E : xEnv p s m args c cc nL own dC dI cA f B h0) (hRs : R.slots ≤ 8000000) (hfr : n + 1 ≤ R.frames) (hlo : 32 * (n + 1) ≤ R.locals) (hini : ini = true → meth.name = "<init>") (hmt : ∀ q ∈ xmt, xmo q = true) (hMC : xCon2 l n MC dC dI cA f B h0)
    (hret : xRet p l e R s m args below meth c QW dC dI cA f B h0 cc rt Qa) {pc : Nat}  {nx a b c' e' f' g' : Nat} {k : Int32} {kl : Int64} {ts : List (Int32 × Nat)} {ls : List (Option Value)} {st : List Value} {h : xh} {kc ks : Nat} (hd : xd1 own nL ini rt cc pc (.i2l, nx, a, b, c', e', f', g', k, kl, ts) = true)
    (hF : xF MC R.cells R.slots Qa (xKW p l e R s m args below meth c QW nL dC dI cA f B h0) (.i2l, nx, a, b, c', e', f', g', k, kl, ts) ls st h kc ks) : xKW p l e R s m args below meth c QW nL dC dI cA f B h0 pc ls st h kc ks := by
  obtain ⟨hx, hb, hml, hown, hts, hK, hC, hf, hB⟩ := id E
  unfold xd1 at hd; dsimp only at hd; unfold xdt at hd; dsimp only at hd; simp only [Bool.and_eq_true, decide_eq_true_eq] at hd
  obtain ⟨hdg, rfl⟩ := hd
  rw [Nat.add_sub_cancel_left] at hdg
  intro H locs lsA hR hS hl hc1 hc2
  revert hF; unfold xF; intro hF; dsimp only at hF
  split at hF
  · exact lv_i2l hx hb hdg rfl (hF H locs lsA hR hS hl hc1 hc2)
  · exact hF.elim
set_option maxHeartbeats 4000000 in
set_option maxRecDepth 100000 in
theorem xz_l2i {MC : Nat → List Value → xh → (Option Value → xh → Prop) → Prop} {Qa : Option Value → xh → Prop} {n : Nat} {ini : Bool} {rt : Option FieldType} (E : xEnv p s m args c cc nL own dC dI cA f B h0) (hRs : R.slots ≤ 8000000) (hfr : n + 1 ≤ R.frames) (hlo : 32 * (n + 1) ≤ R.locals) (hini : ini = true → meth.name = "<init>") (hmt : ∀ q ∈ xmt, xmo q = true) (hMC : xCon2 l n MC dC dI cA f B h0)
    (hret : xRet p l e R s m args below meth c QW dC dI cA f B h0 cc rt Qa) {pc : Nat}  {nx a b c' e' f' g' : Nat} {k : Int32} {kl : Int64} {ts : List (Int32 × Nat)} {ls : List (Option Value)} {st : List Value} {h : xh} {kc ks : Nat} (hd : xd1 own nL ini rt cc pc (.l2i, nx, a, b, c', e', f', g', k, kl, ts) = true)
    (hF : xF MC R.cells R.slots Qa (xKW p l e R s m args below meth c QW nL dC dI cA f B h0) (.l2i, nx, a, b, c', e', f', g', k, kl, ts) ls st h kc ks) : xKW p l e R s m args below meth c QW nL dC dI cA f B h0 pc ls st h kc ks := by
  obtain ⟨hx, hb, hml, hown, hts, hK, hC, hf, hB⟩ := id E
  unfold xd1 at hd; dsimp only at hd; unfold xdt at hd; dsimp only at hd; simp only [Bool.and_eq_true, decide_eq_true_eq] at hd
  obtain ⟨hdg, rfl⟩ := hd
  rw [Nat.add_sub_cancel_left] at hdg
  intro H locs lsA hR hS hl hc1 hc2
  revert hF; unfold xF; intro hF; dsimp only at hF
  split at hF
  · exact lv_l2i hx hb hdg rfl (hF H locs lsA hR hS hl hc1 hc2)
  · exact hF.elim
set_option maxHeartbeats 4000000 in
set_option maxRecDepth 100000 in
theorem xz_i2b {MC : Nat → List Value → xh → (Option Value → xh → Prop) → Prop} {Qa : Option Value → xh → Prop} {n : Nat} {ini : Bool} {rt : Option FieldType} (E : xEnv p s m args c cc nL own dC dI cA f B h0) (hRs : R.slots ≤ 8000000) (hfr : n + 1 ≤ R.frames) (hlo : 32 * (n + 1) ≤ R.locals) (hini : ini = true → meth.name = "<init>") (hmt : ∀ q ∈ xmt, xmo q = true) (hMC : xCon2 l n MC dC dI cA f B h0)
    (hret : xRet p l e R s m args below meth c QW dC dI cA f B h0 cc rt Qa) {pc : Nat}  {nx a b c' e' f' g' : Nat} {k : Int32} {kl : Int64} {ts : List (Int32 × Nat)} {ls : List (Option Value)} {st : List Value} {h : xh} {kc ks : Nat} (hd : xd1 own nL ini rt cc pc (.i2b, nx, a, b, c', e', f', g', k, kl, ts) = true)
    (hF : xF MC R.cells R.slots Qa (xKW p l e R s m args below meth c QW nL dC dI cA f B h0) (.i2b, nx, a, b, c', e', f', g', k, kl, ts) ls st h kc ks) : xKW p l e R s m args below meth c QW nL dC dI cA f B h0 pc ls st h kc ks := by
  obtain ⟨hx, hb, hml, hown, hts, hK, hC, hf, hB⟩ := id E
  unfold xd1 at hd; dsimp only at hd; unfold xdt at hd; dsimp only at hd; simp only [Bool.and_eq_true, decide_eq_true_eq] at hd
  obtain ⟨hdg, rfl⟩ := hd
  rw [Nat.add_sub_cancel_left] at hdg
  intro H locs lsA hR hS hl hc1 hc2
  revert hF; unfold xF; intro hF; dsimp only at hF
  split at hF
  · exact lv_i2b hx hb hdg rfl (hF H locs lsA hR hS hl hc1 hc2)
  · exact hF.elim
set_option maxHeartbeats 4000000 in
set_option maxRecDepth 100000 in
theorem xz_i2c {MC : Nat → List Value → xh → (Option Value → xh → Prop) → Prop} {Qa : Option Value → xh → Prop} {n : Nat} {ini : Bool} {rt : Option FieldType} (E : xEnv p s m args c cc nL own dC dI cA f B h0) (hRs : R.slots ≤ 8000000) (hfr : n + 1 ≤ R.frames) (hlo : 32 * (n + 1) ≤ R.locals) (hini : ini = true → meth.name = "<init>") (hmt : ∀ q ∈ xmt, xmo q = true) (hMC : xCon2 l n MC dC dI cA f B h0)
    (hret : xRet p l e R s m args below meth c QW dC dI cA f B h0 cc rt Qa) {pc : Nat}  {nx a b c' e' f' g' : Nat} {k : Int32} {kl : Int64} {ts : List (Int32 × Nat)} {ls : List (Option Value)} {st : List Value} {h : xh} {kc ks : Nat} (hd : xd1 own nL ini rt cc pc (.i2c, nx, a, b, c', e', f', g', k, kl, ts) = true)
    (hF : xF MC R.cells R.slots Qa (xKW p l e R s m args below meth c QW nL dC dI cA f B h0) (.i2c, nx, a, b, c', e', f', g', k, kl, ts) ls st h kc ks) : xKW p l e R s m args below meth c QW nL dC dI cA f B h0 pc ls st h kc ks := by
  obtain ⟨hx, hb, hml, hown, hts, hK, hC, hf, hB⟩ := id E
  unfold xd1 at hd; dsimp only at hd; unfold xdt at hd; dsimp only at hd; simp only [Bool.and_eq_true, decide_eq_true_eq] at hd
  obtain ⟨hdg, rfl⟩ := hd
  rw [Nat.add_sub_cancel_left] at hdg
  intro H locs lsA hR hS hl hc1 hc2
  revert hF; unfold xF; intro hF; dsimp only at hF
  split at hF
  · exact lv_i2c hx hb hdg rfl (hF H locs lsA hR hS hl hc1 hc2)
  · exact hF.elim
set_option maxHeartbeats 4000000 in
set_option maxRecDepth 100000 in
theorem xz_idiv {MC : Nat → List Value → xh → (Option Value → xh → Prop) → Prop} {Qa : Option Value → xh → Prop} {n : Nat} {ini : Bool} {rt : Option FieldType} (E : xEnv p s m args c cc nL own dC dI cA f B h0) (hRs : R.slots ≤ 8000000) (hfr : n + 1 ≤ R.frames) (hlo : 32 * (n + 1) ≤ R.locals) (hini : ini = true → meth.name = "<init>") (hmt : ∀ q ∈ xmt, xmo q = true) (hMC : xCon2 l n MC dC dI cA f B h0)
    (hret : xRet p l e R s m args below meth c QW dC dI cA f B h0 cc rt Qa) {pc : Nat}  {nx a b c' e' f' g' : Nat} {k : Int32} {kl : Int64} {ts : List (Int32 × Nat)} {ls : List (Option Value)} {st : List Value} {h : xh} {kc ks : Nat} (hd : xd1 own nL ini rt cc pc (.idiv, nx, a, b, c', e', f', g', k, kl, ts) = true)
    (hF : xF MC R.cells R.slots Qa (xKW p l e R s m args below meth c QW nL dC dI cA f B h0) (.idiv, nx, a, b, c', e', f', g', k, kl, ts) ls st h kc ks) : xKW p l e R s m args below meth c QW nL dC dI cA f B h0 pc ls st h kc ks := by
  obtain ⟨hx, hb, hml, hown, hts, hK, hC, hf, hB⟩ := id E
  unfold xd1 at hd; dsimp only at hd; unfold xdt at hd; dsimp only at hd; simp only [Bool.and_eq_true, decide_eq_true_eq] at hd
  obtain ⟨hdg, rfl⟩ := hd
  rw [Nat.add_sub_cancel_left] at hdg
  intro H locs lsA hR hS hl hc1 hc2
  revert hF; unfold xF; intro hF; dsimp only at hF
  split at hF
  · exact lv_idiv hx hb hdg hF.1 (hF.2 H locs lsA hR hS hl hc1 hc2)
  · exact hF.elim
set_option maxHeartbeats 4000000 in
set_option maxRecDepth 100000 in
theorem xz_irem {MC : Nat → List Value → xh → (Option Value → xh → Prop) → Prop} {Qa : Option Value → xh → Prop} {n : Nat} {ini : Bool} {rt : Option FieldType} (E : xEnv p s m args c cc nL own dC dI cA f B h0) (hRs : R.slots ≤ 8000000) (hfr : n + 1 ≤ R.frames) (hlo : 32 * (n + 1) ≤ R.locals) (hini : ini = true → meth.name = "<init>") (hmt : ∀ q ∈ xmt, xmo q = true) (hMC : xCon2 l n MC dC dI cA f B h0)
    (hret : xRet p l e R s m args below meth c QW dC dI cA f B h0 cc rt Qa) {pc : Nat}  {nx a b c' e' f' g' : Nat} {k : Int32} {kl : Int64} {ts : List (Int32 × Nat)} {ls : List (Option Value)} {st : List Value} {h : xh} {kc ks : Nat} (hd : xd1 own nL ini rt cc pc (.irem, nx, a, b, c', e', f', g', k, kl, ts) = true)
    (hF : xF MC R.cells R.slots Qa (xKW p l e R s m args below meth c QW nL dC dI cA f B h0) (.irem, nx, a, b, c', e', f', g', k, kl, ts) ls st h kc ks) : xKW p l e R s m args below meth c QW nL dC dI cA f B h0 pc ls st h kc ks := by
  obtain ⟨hx, hb, hml, hown, hts, hK, hC, hf, hB⟩ := id E
  unfold xd1 at hd; dsimp only at hd; unfold xdt at hd; dsimp only at hd; simp only [Bool.and_eq_true, decide_eq_true_eq] at hd
  obtain ⟨hdg, rfl⟩ := hd
  rw [Nat.add_sub_cancel_left] at hdg
  intro H locs lsA hR hS hl hc1 hc2
  revert hF; unfold xF; intro hF; dsimp only at hF
  split at hF
  · exact lv_irem hx hb hdg hF.1 (hF.2 H locs lsA hR hS hl hc1 hc2)
  · exact hF.elim
set_option maxHeartbeats 4000000 in
set_option maxRecDepth 100000 in
theorem xz_ldiv {MC : Nat → List Value → xh → (Option Value → xh → Prop) → Prop} {Qa : Option Value → xh → Prop} {n : Nat} {ini : Bool} {rt : Option FieldType} (E : xEnv p s m args c cc nL own dC dI cA f B h0) (hRs : R.slots ≤ 8000000) (hfr : n + 1 ≤ R.frames) (hlo : 32 * (n + 1) ≤ R.locals) (hini : ini = true → meth.name = "<init>") (hmt : ∀ q ∈ xmt, xmo q = true) (hMC : xCon2 l n MC dC dI cA f B h0)
    (hret : xRet p l e R s m args below meth c QW dC dI cA f B h0 cc rt Qa) {pc : Nat}  {nx a b c' e' f' g' : Nat} {k : Int32} {kl : Int64} {ts : List (Int32 × Nat)} {ls : List (Option Value)} {st : List Value} {h : xh} {kc ks : Nat} (hd : xd1 own nL ini rt cc pc (.ldiv, nx, a, b, c', e', f', g', k, kl, ts) = true)
    (hF : xF MC R.cells R.slots Qa (xKW p l e R s m args below meth c QW nL dC dI cA f B h0) (.ldiv, nx, a, b, c', e', f', g', k, kl, ts) ls st h kc ks) : xKW p l e R s m args below meth c QW nL dC dI cA f B h0 pc ls st h kc ks := by
  obtain ⟨hx, hb, hml, hown, hts, hK, hC, hf, hB⟩ := id E
  unfold xd1 at hd; dsimp only at hd; unfold xdt at hd; dsimp only at hd; simp only [Bool.and_eq_true, decide_eq_true_eq] at hd
  obtain ⟨hdg, rfl⟩ := hd
  rw [Nat.add_sub_cancel_left] at hdg
  intro H locs lsA hR hS hl hc1 hc2
  revert hF; unfold xF; intro hF; dsimp only at hF
  split at hF
  · exact lv_ldiv hx hb hdg hF.1 (hF.2 H locs lsA hR hS hl hc1 hc2)
  · exact hF.elim
set_option maxHeartbeats 4000000 in
set_option maxRecDepth 100000 in
theorem xz_lrem {MC : Nat → List Value → xh → (Option Value → xh → Prop) → Prop} {Qa : Option Value → xh → Prop} {n : Nat} {ini : Bool} {rt : Option FieldType} (E : xEnv p s m args c cc nL own dC dI cA f B h0) (hRs : R.slots ≤ 8000000) (hfr : n + 1 ≤ R.frames) (hlo : 32 * (n + 1) ≤ R.locals) (hini : ini = true → meth.name = "<init>") (hmt : ∀ q ∈ xmt, xmo q = true) (hMC : xCon2 l n MC dC dI cA f B h0)
    (hret : xRet p l e R s m args below meth c QW dC dI cA f B h0 cc rt Qa) {pc : Nat}  {nx a b c' e' f' g' : Nat} {k : Int32} {kl : Int64} {ts : List (Int32 × Nat)} {ls : List (Option Value)} {st : List Value} {h : xh} {kc ks : Nat} (hd : xd1 own nL ini rt cc pc (.lrem, nx, a, b, c', e', f', g', k, kl, ts) = true)
    (hF : xF MC R.cells R.slots Qa (xKW p l e R s m args below meth c QW nL dC dI cA f B h0) (.lrem, nx, a, b, c', e', f', g', k, kl, ts) ls st h kc ks) : xKW p l e R s m args below meth c QW nL dC dI cA f B h0 pc ls st h kc ks := by
  obtain ⟨hx, hb, hml, hown, hts, hK, hC, hf, hB⟩ := id E
  unfold xd1 at hd; dsimp only at hd; unfold xdt at hd; dsimp only at hd; simp only [Bool.and_eq_true, decide_eq_true_eq] at hd
  obtain ⟨hdg, rfl⟩ := hd
  rw [Nat.add_sub_cancel_left] at hdg
  intro H locs lsA hR hS hl hc1 hc2
  revert hF; unfold xF; intro hF; dsimp only at hF
  split at hF
  · exact lv_lrem hx hb hdg hF.1 (hF.2 H locs lsA hR hS hl hc1 hc2)
  · exact hF.elim
set_option maxHeartbeats 4000000 in
set_option maxRecDepth 100000 in
theorem xz_lcmp {MC : Nat → List Value → xh → (Option Value → xh → Prop) → Prop} {Qa : Option Value → xh → Prop} {n : Nat} {ini : Bool} {rt : Option FieldType} (E : xEnv p s m args c cc nL own dC dI cA f B h0) (hRs : R.slots ≤ 8000000) (hfr : n + 1 ≤ R.frames) (hlo : 32 * (n + 1) ≤ R.locals) (hini : ini = true → meth.name = "<init>") (hmt : ∀ q ∈ xmt, xmo q = true) (hMC : xCon2 l n MC dC dI cA f B h0)
    (hret : xRet p l e R s m args below meth c QW dC dI cA f B h0 cc rt Qa) {pc : Nat}  {nx a b c' e' f' g' : Nat} {k : Int32} {kl : Int64} {ts : List (Int32 × Nat)} {ls : List (Option Value)} {st : List Value} {h : xh} {kc ks : Nat} (hd : xd1 own nL ini rt cc pc (.lcmp, nx, a, b, c', e', f', g', k, kl, ts) = true)
    (hF : xF MC R.cells R.slots Qa (xKW p l e R s m args below meth c QW nL dC dI cA f B h0) (.lcmp, nx, a, b, c', e', f', g', k, kl, ts) ls st h kc ks) : xKW p l e R s m args below meth c QW nL dC dI cA f B h0 pc ls st h kc ks := by
  obtain ⟨hx, hb, hml, hown, hts, hK, hC, hf, hB⟩ := id E
  unfold xd1 at hd; dsimp only at hd; unfold xdt at hd; dsimp only at hd; simp only [Bool.and_eq_true, decide_eq_true_eq] at hd
  obtain ⟨hdg, rfl⟩ := hd
  rw [Nat.add_sub_cancel_left] at hdg
  intro H locs lsA hR hS hl hc1 hc2
  revert hF; unfold xF; intro hF; dsimp only at hF
  split at hF
  · next y x r =>
    refine W.lcmp hx hb hdg ?_
    have tri : x < y ∨ x = y ∨ y < x := by
      by_cases q1 : x.toInt < y.toInt
      · exact Or.inl (Int64.lt_iff_toInt_lt.mpr q1)
      · by_cases q2 : x.toInt = y.toInt
        · exact Or.inr (Or.inl (Int64.toInt_inj.mp q2))
        · exact Or.inr (Or.inr (Int64.lt_iff_toInt_lt.mpr (by omega)))
    rcases tri with h1 | h1 | h1
    · have e1 : lg_cmp x y = -1 := by
        have h2 : ¬ y < x := fun z => by rw [Int64.lt_iff_toInt_lt] at z h1; omega
        have h3 : ¬ x = y := fun z => by rw [z, Int64.lt_iff_toInt_lt] at h1; omega
        simp [lg_cmp, h2, h3, h1]
      rw [e1]
      exact hF.1 h1 H locs lsA hR hS hl hc1 hc2
    · have e1 : lg_cmp x y = 0 := by subst h1; simp [lg_cmp]
      rw [e1]
      exact hF.2.1 h1 H locs lsA hR hS hl hc1 hc2
    · have e1 : lg_cmp x y = 1 := by simp [lg_cmp, h1]
      rw [e1]
      exact hF.2.2 h1 H locs lsA hR hS hl hc1 hc2
  · exact hF.elim
set_option maxHeartbeats 4000000 in
set_option maxRecDepth 100000 in
theorem xz_dup {MC : Nat → List Value → xh → (Option Value → xh → Prop) → Prop} {Qa : Option Value → xh → Prop} {n : Nat} {ini : Bool} {rt : Option FieldType} (E : xEnv p s m args c cc nL own dC dI cA f B h0) (hRs : R.slots ≤ 8000000) (hfr : n + 1 ≤ R.frames) (hlo : 32 * (n + 1) ≤ R.locals) (hini : ini = true → meth.name = "<init>") (hmt : ∀ q ∈ xmt, xmo q = true) (hMC : xCon2 l n MC dC dI cA f B h0)
    (hret : xRet p l e R s m args below meth c QW dC dI cA f B h0 cc rt Qa) {pc : Nat}  {nx a b c' e' f' g' : Nat} {k : Int32} {kl : Int64} {ts : List (Int32 × Nat)} {ls : List (Option Value)} {st : List Value} {h : xh} {kc ks : Nat} (hd : xd1 own nL ini rt cc pc (.dup, nx, a, b, c', e', f', g', k, kl, ts) = true)
    (hF : xF MC R.cells R.slots Qa (xKW p l e R s m args below meth c QW nL dC dI cA f B h0) (.dup, nx, a, b, c', e', f', g', k, kl, ts) ls st h kc ks) : xKW p l e R s m args below meth c QW nL dC dI cA f B h0 pc ls st h kc ks := by
  obtain ⟨hx, hb, hml, hown, hts, hK, hC, hf, hB⟩ := id E
  unfold xd1 at hd; dsimp only at hd; unfold xdt at hd; dsimp only at hd; simp only [Bool.and_eq_true, decide_eq_true_eq] at hd
  obtain ⟨hdg, rfl⟩ := hd
  rw [Nat.add_sub_cancel_left] at hdg
  intro H locs lsA hR hS hl hc1 hc2
  revert hF; unfold xF; intro hF; dsimp only at hF
  split at hF
  · exact lv_dup hx hb hdg rfl (hF H locs lsA hR hS hl hc1 hc2)
  · exact lv_dup hx hb hdg rfl (hF H locs lsA hR hS hl hc1 hc2)
  · exact hF.elim
set_option maxHeartbeats 4000000 in
set_option maxRecDepth 100000 in
theorem xz_pop {MC : Nat → List Value → xh → (Option Value → xh → Prop) → Prop} {Qa : Option Value → xh → Prop} {n : Nat} {ini : Bool} {rt : Option FieldType} (E : xEnv p s m args c cc nL own dC dI cA f B h0) (hRs : R.slots ≤ 8000000) (hfr : n + 1 ≤ R.frames) (hlo : 32 * (n + 1) ≤ R.locals) (hini : ini = true → meth.name = "<init>") (hmt : ∀ q ∈ xmt, xmo q = true) (hMC : xCon2 l n MC dC dI cA f B h0)
    (hret : xRet p l e R s m args below meth c QW dC dI cA f B h0 cc rt Qa) {pc : Nat}  {nx a b c' e' f' g' : Nat} {k : Int32} {kl : Int64} {ts : List (Int32 × Nat)} {ls : List (Option Value)} {st : List Value} {h : xh} {kc ks : Nat} (hd : xd1 own nL ini rt cc pc (.pop, nx, a, b, c', e', f', g', k, kl, ts) = true)
    (hF : xF MC R.cells R.slots Qa (xKW p l e R s m args below meth c QW nL dC dI cA f B h0) (.pop, nx, a, b, c', e', f', g', k, kl, ts) ls st h kc ks) : xKW p l e R s m args below meth c QW nL dC dI cA f B h0 pc ls st h kc ks := by
  obtain ⟨hx, hb, hml, hown, hts, hK, hC, hf, hB⟩ := id E
  unfold xd1 at hd; dsimp only at hd; unfold xdt at hd; dsimp only at hd; simp only [Bool.and_eq_true, decide_eq_true_eq] at hd
  obtain ⟨hdg, rfl⟩ := hd
  rw [Nat.add_sub_cancel_left] at hdg
  intro H locs lsA hR hS hl hc1 hc2
  revert hF; unfold xF; intro hF; dsimp only at hF
  split at hF
  · exact lv_pop hx hb hdg rfl (hF H locs lsA hR hS hl hc1 hc2)
  · exact lv_pop hx hb hdg rfl (hF H locs lsA hR hS hl hc1 hc2)
  · exact hF.elim
set_option maxHeartbeats 4000000 in
set_option maxRecDepth 100000 in
theorem xz_dup2 {MC : Nat → List Value → xh → (Option Value → xh → Prop) → Prop} {Qa : Option Value → xh → Prop} {n : Nat} {ini : Bool} {rt : Option FieldType} (E : xEnv p s m args c cc nL own dC dI cA f B h0) (hRs : R.slots ≤ 8000000) (hfr : n + 1 ≤ R.frames) (hlo : 32 * (n + 1) ≤ R.locals) (hini : ini = true → meth.name = "<init>") (hmt : ∀ q ∈ xmt, xmo q = true) (hMC : xCon2 l n MC dC dI cA f B h0)
    (hret : xRet p l e R s m args below meth c QW dC dI cA f B h0 cc rt Qa) {pc : Nat}  {nx a b c' e' f' g' : Nat} {k : Int32} {kl : Int64} {ts : List (Int32 × Nat)} {ls : List (Option Value)} {st : List Value} {h : xh} {kc ks : Nat} (hd : xd1 own nL ini rt cc pc (.dup2, nx, a, b, c', e', f', g', k, kl, ts) = true)
    (hF : xF MC R.cells R.slots Qa (xKW p l e R s m args below meth c QW nL dC dI cA f B h0) (.dup2, nx, a, b, c', e', f', g', k, kl, ts) ls st h kc ks) : xKW p l e R s m args below meth c QW nL dC dI cA f B h0 pc ls st h kc ks := by
  obtain ⟨hx, hb, hml, hown, hts, hK, hC, hf, hB⟩ := id E
  unfold xd1 at hd; dsimp only at hd; unfold xdt at hd; dsimp only at hd; simp only [Bool.and_eq_true, decide_eq_true_eq] at hd
  obtain ⟨hdg, rfl⟩ := hd
  rw [Nat.add_sub_cancel_left] at hdg
  intro H locs lsA hR hS hl hc1 hc2
  revert hF; unfold xF; intro hF; dsimp only at hF
  split at hF
  · exact lv_dup2_11 hx hb hdg rfl rfl (hF H locs lsA hR hS hl hc1 hc2)
  · exact hF.elim
set_option maxHeartbeats 4000000 in
set_option maxRecDepth 100000 in
theorem xz_goto {MC : Nat → List Value → xh → (Option Value → xh → Prop) → Prop} {Qa : Option Value → xh → Prop} {n : Nat} {ini : Bool} {rt : Option FieldType} (E : xEnv p s m args c cc nL own dC dI cA f B h0) (hRs : R.slots ≤ 8000000) (hfr : n + 1 ≤ R.frames) (hlo : 32 * (n + 1) ≤ R.locals) (hini : ini = true → meth.name = "<init>") (hmt : ∀ q ∈ xmt, xmo q = true) (hMC : xCon2 l n MC dC dI cA f B h0)
    (hret : xRet p l e R s m args below meth c QW dC dI cA f B h0 cc rt Qa) {pc : Nat} (off : Int) {nx a b c' e' f' g' : Nat} {k : Int32} {kl : Int64} {ts : List (Int32 × Nat)} {ls : List (Option Value)} {st : List Value} {h : xh} {kc ks : Nat} (hd : xd1 own nL ini rt cc pc (.goto off, nx, a, b, c', e', f', g', k, kl, ts) = true)
    (hF : xF MC R.cells R.slots Qa (xKW p l e R s m args below meth c QW nL dC dI cA f B h0) (.goto off, nx, a, b, c', e', f', g', k, kl, ts) ls st h kc ks) : xKW p l e R s m args below meth c QW nL dC dI cA f B h0 pc ls st h kc ks := by
  obtain ⟨hx, hb, hml, hown, hts, hK, hC, hf, hB⟩ := id E
  unfold xd1 at hd; dsimp only at hd; unfold xdt at hd; dsimp only at hd; simp only [Bool.and_eq_true, decide_eq_true_eq] at hd
  obtain ⟨hdg, ht, rfl⟩ := hd
  rw [Nat.add_sub_cancel_left] at hdg
  intro H locs lsA hR hS hl hc1 hc2
  exact lv_goto hx hb hdg ht (hF H locs lsA hR hS hl hc1 hc2)
set_option maxHeartbeats 4000000 in
set_option maxRecDepth 100000 in
theorem xz_ifCond {MC : Nat → List Value → xh → (Option Value → xh → Prop) → Prop} {Qa : Option Value → xh → Prop} {n : Nat} {ini : Bool} {rt : Option FieldType} (E : xEnv p s m args c cc nL own dC dI cA f B h0) (hRs : R.slots ≤ 8000000) (hfr : n + 1 ≤ R.frames) (hlo : 32 * (n + 1) ≤ R.locals) (hini : ini = true → meth.name = "<init>") (hmt : ∀ q ∈ xmt, xmo q = true) (hMC : xCon2 l n MC dC dI cA f B h0)
    (hret : xRet p l e R s m args below meth c QW dC dI cA f B h0 cc rt Qa) {pc : Nat} (cd : ClassFile.Cond) (off : Int) {nx a b c' e' f' g' : Nat} {k : Int32} {kl : Int64} {ts : List (Int32 × Nat)} {ls : List (Option Value)} {st : List Value} {h : xh} {kc ks : Nat} (hd : xd1 own nL ini rt cc pc (.ifCond cd off, nx, a, b, c', e', f', g', k, kl, ts) = true)
    (hF : xF MC R.cells R.slots Qa (xKW p l e R s m args below meth c QW nL dC dI cA f B h0) (.ifCond cd off, nx, a, b, c', e', f', g', k, kl, ts) ls st h kc ks) : xKW p l e R s m args below meth c QW nL dC dI cA f B h0 pc ls st h kc ks := by
  obtain ⟨hx, hb, hml, hown, hts, hK, hC, hf, hB⟩ := id E
  unfold xd1 at hd; dsimp only at hd; unfold xdt at hd; dsimp only at hd; simp only [Bool.and_eq_true, decide_eq_true_eq] at hd
  obtain ⟨hdg, rfl, ht⟩ := hd
  rw [Nat.add_sub_cancel_left] at hdg
  intro H locs lsA hR hS hl hc1 hc2
  cases cd <;> (revert hF; unfold xF; intro hF; dsimp only at hF; split at hF <;> first
    | exact hF.elim
    | exact lv_if_eq hx hb hdg ht (fun z => hF.1 z H locs lsA hR hS hl hc1 hc2) (fun z => hF.2 z H locs lsA hR hS hl hc1 hc2)
    | exact lv_if_ne hx hb hdg ht (fun z => hF.1 z H locs lsA hR hS hl hc1 hc2) (fun z => hF.2 z H locs lsA hR hS hl hc1 hc2)
    | exact lv_if_lt hx hb hdg ht (fun z => hF.1 z H locs lsA hR hS hl hc1 hc2) (fun z => hF.2 z H locs lsA hR hS hl hc1 hc2)
    | exact lv_if_ge hx hb hdg ht (fun z => hF.1 z H locs lsA hR hS hl hc1 hc2) (fun z => hF.2 z H locs lsA hR hS hl hc1 hc2)
    | exact lv_if_gt hx hb hdg ht (fun z => hF.1 z H locs lsA hR hS hl hc1 hc2) (fun z => hF.2 z H locs lsA hR hS hl hc1 hc2)
    | exact lv_if_le hx hb hdg ht (fun z => hF.1 z H locs lsA hR hS hl hc1 hc2) (fun z => hF.2 z H locs lsA hR hS hl hc1 hc2))
set_option maxHeartbeats 4000000 in
set_option maxRecDepth 100000 in
theorem xz_if_icmp {MC : Nat → List Value → xh → (Option Value → xh → Prop) → Prop} {Qa : Option Value → xh → Prop} {n : Nat} {ini : Bool} {rt : Option FieldType} (E : xEnv p s m args c cc nL own dC dI cA f B h0) (hRs : R.slots ≤ 8000000) (hfr : n + 1 ≤ R.frames) (hlo : 32 * (n + 1) ≤ R.locals) (hini : ini = true → meth.name = "<init>") (hmt : ∀ q ∈ xmt, xmo q = true) (hMC : xCon2 l n MC dC dI cA f B h0)
    (hret : xRet p l e R s m args below meth c QW dC dI cA f B h0 cc rt Qa) {pc : Nat} (cd : ClassFile.Cond) (off : Int) {nx a b c' e' f' g' : Nat} {k : Int32} {kl : Int64} {ts : List (Int32 × Nat)} {ls : List (Option Value)} {st : List Value} {h : xh} {kc ks : Nat} (hd : xd1 own nL ini rt cc pc (.if_icmp cd off, nx, a, b, c', e', f', g', k, kl, ts) = true)
    (hF : xF MC R.cells R.slots Qa (xKW p l e R s m args below meth c QW nL dC dI cA f B h0) (.if_icmp cd off, nx, a, b, c', e', f', g', k, kl, ts) ls st h kc ks) : xKW p l e R s m args below meth c QW nL dC dI cA f B h0 pc ls st h kc ks := by
  obtain ⟨hx, hb, hml, hown, hts, hK, hC, hf, hB⟩ := id E
  unfold xd1 at hd; dsimp only at hd; unfold xdt at hd; dsimp only at hd; simp only [Bool.and_eq_true, decide_eq_true_eq] at hd
  obtain ⟨hdg, rfl, ht⟩ := hd
  rw [Nat.add_sub_cancel_left] at hdg
  intro H locs lsA hR hS hl hc1 hc2
  cases cd <;> (revert hF; unfold xF; intro hF; dsimp only at hF; split at hF <;> first
    | exact hF.elim
    | exact lv_icmp_eq hx hb hdg ht (fun z => hF.1 z H locs lsA hR hS hl hc1 hc2) (fun z => hF.2 z H locs lsA hR hS hl hc1 hc2)
    | exact lv_icmp_ne hx hb hdg ht (fun z => hF.1 z H locs lsA hR hS hl hc1 hc2) (fun z => hF.2 z H locs lsA hR hS hl hc1 hc2)
    | exact lv_icmp_lt hx hb hdg ht (fun z => hF.1 z H locs lsA hR hS hl hc1 hc2) (fun z => hF.2 z H locs lsA hR hS hl hc1 hc2)
    | exact lv_icmp_ge hx hb hdg ht (fun z => hF.1 z H locs lsA hR hS hl hc1 hc2) (fun z => hF.2 z H locs lsA hR hS hl hc1 hc2)
    | exact lv_icmp_gt hx hb hdg ht (fun z => hF.1 z H locs lsA hR hS hl hc1 hc2) (fun z => hF.2 z H locs lsA hR hS hl hc1 hc2)
    | exact lv_icmp_le hx hb hdg ht (fun z => hF.1 z H locs lsA hR hS hl hc1 hc2) (fun z => hF.2 z H locs lsA hR hS hl hc1 hc2))
set_option maxHeartbeats 4000000 in
set_option maxRecDepth 100000 in
theorem xz_if_acmp {MC : Nat → List Value → xh → (Option Value → xh → Prop) → Prop} {Qa : Option Value → xh → Prop} {n : Nat} {ini : Bool} {rt : Option FieldType} (E : xEnv p s m args c cc nL own dC dI cA f B h0) (hRs : R.slots ≤ 8000000) (hfr : n + 1 ≤ R.frames) (hlo : 32 * (n + 1) ≤ R.locals) (hini : ini = true → meth.name = "<init>") (hmt : ∀ q ∈ xmt, xmo q = true) (hMC : xCon2 l n MC dC dI cA f B h0)
    (hret : xRet p l e R s m args below meth c QW dC dI cA f B h0 cc rt Qa) {pc : Nat} (cd : ACond) (off : Int) {nx a b c' e' f' g' : Nat} {k : Int32} {kl : Int64} {ts : List (Int32 × Nat)} {ls : List (Option Value)} {st : List Value} {h : xh} {kc ks : Nat} (hd : xd1 own nL ini rt cc pc (.if_acmp cd off, nx, a, b, c', e', f', g', k, kl, ts) = true)
    (hF : xF MC R.cells R.slots Qa (xKW p l e R s m args below meth c QW nL dC dI cA f B h0) (.if_acmp cd off, nx, a, b, c', e', f', g', k, kl, ts) ls st h kc ks) : xKW p l e R s m args below meth c QW nL dC dI cA f B h0 pc ls st h kc ks := by
  obtain ⟨hx, hb, hml, hown, hts, hK, hC, hf, hB⟩ := id E
  unfold xd1 at hd; dsimp only at hd; unfold xdt at hd; dsimp only at hd; simp only [Bool.and_eq_true, decide_eq_true_eq] at hd
  obtain ⟨hdg, rfl, ht⟩ := hd
  rw [Nat.add_sub_cancel_left] at hdg
  intro H locs lsA hR hS hl hc1 hc2
  cases cd with
  | eq => exact (show False from hF).elim
  | ne =>
    revert hF; unfold xF; intro hF; dsimp only at hF
    split at hF
    · next y x r =>
      obtain ⟨⟨g1, g2⟩, g3, g4⟩ := hF
      refine lv_acmp_ne (rx := some (f x)) (ry := some (f y)) hx hb hdg ht (fun z => g3 (fun z2 => z (by rw [z2])) H locs lsA hR hS hl hc1 hc2) (fun z => g4 ?_ H locs lsA hR hS hl hc1 hc2)
      exact xf_inj hf g1 g2 (Option.some.inj z)
    · next y r => exact lv_acmp_ne (rx := none) (ry := some (f y)) hx hb hdg ht (fun _ => hF H locs lsA hR hS hl hc1 hc2) (fun z => by cases z)
    · exact hF.elim
set_option maxHeartbeats 4000000 in
set_option maxRecDepth 100000 in
theorem xz_ifnonnull {MC : Nat → List Value → xh → (Option Value → xh → Prop) → Prop} {Qa : Option Value → xh → Prop} {n : Nat} {ini : Bool} {rt : Option FieldType} (E : xEnv p s m args c cc nL own dC dI cA f B h0) (hRs : R.slots ≤ 8000000) (hfr : n + 1 ≤ R.frames) (hlo : 32 * (n + 1) ≤ R.locals) (hini : ini = true → meth.name = "<init>") (hmt : ∀ q ∈ xmt, xmo q = true) (hMC : xCon2 l n MC dC dI cA f B h0)
    (hret : xRet p l e R s m args below meth c QW dC dI cA f B h0 cc rt Qa) {pc : Nat} (off : Int) {nx a b c' e' f' g' : Nat} {k : Int32} {kl : Int64} {ts : List (Int32 × Nat)} {ls : List (Option Value)} {st : List Value} {h : xh} {kc ks : Nat} (hd : xd1 own nL ini rt cc pc (.ifnonnull off, nx, a, b, c', e', f', g', k, kl, ts) = true)
    (hF : xF MC R.cells R.slots Qa (xKW p l e R s m args below meth c QW nL dC dI cA f B h0) (.ifnonnull off, nx, a, b, c', e', f', g', k, kl, ts) ls st h kc ks) : xKW p l e R s m args below meth c QW nL dC dI cA f B h0 pc ls st h kc ks := by
  obtain ⟨hx, hb, hml, hown, hts, hK, hC, hf, hB⟩ := id E
  unfold xd1 at hd; dsimp only at hd; unfold xdt at hd; dsimp only at hd; simp only [Bool.and_eq_true, decide_eq_true_eq] at hd
  obtain ⟨hdg, rfl, ht⟩ := hd
  rw [Nat.add_sub_cancel_left] at hdg
  intro H locs lsA hR hS hl hc1 hc2
  revert hF; unfold xF; intro hF; dsimp only at hF
  split at hF
  · exact lv_ifnonnull hx hb hdg ht (hF H locs lsA hR hS hl hc1 hc2)
  · exact lv_ifnonnullN hx hb hdg (hF H locs lsA hR hS hl hc1 hc2)
  · exact hF.elim
set_option maxHeartbeats 4000000 in
set_option maxRecDepth 100000 in
theorem xz_ifnull {MC : Nat → List Value → xh → (Option Value → xh → Prop) → Prop} {Qa : Option Value → xh → Prop} {n : Nat} {ini : Bool} {rt : Option FieldType} (E : xEnv p s m args c cc nL own dC dI cA f B h0) (hRs : R.slots ≤ 8000000) (hfr : n + 1 ≤ R.frames) (hlo : 32 * (n + 1) ≤ R.locals) (hini : ini = true → meth.name = "<init>") (hmt : ∀ q ∈ xmt, xmo q = true) (hMC : xCon2 l n MC dC dI cA f B h0)
    (hret : xRet p l e R s m args below meth c QW dC dI cA f B h0 cc rt Qa) {pc : Nat} (off : Int) {nx a b c' e' f' g' : Nat} {k : Int32} {kl : Int64} {ts : List (Int32 × Nat)} {ls : List (Option Value)} {st : List Value} {h : xh} {kc ks : Nat} (hd : xd1 own nL ini rt cc pc (.ifnull off, nx, a, b, c', e', f', g', k, kl, ts) = true)
    (hF : xF MC R.cells R.slots Qa (xKW p l e R s m args below meth c QW nL dC dI cA f B h0) (.ifnull off, nx, a, b, c', e', f', g', k, kl, ts) ls st h kc ks) : xKW p l e R s m args below meth c QW nL dC dI cA f B h0 pc ls st h kc ks := by
  obtain ⟨hx, hb, hml, hown, hts, hK, hC, hf, hB⟩ := id E
  unfold xd1 at hd; dsimp only at hd; unfold xdt at hd; dsimp only at hd; simp only [Bool.and_eq_true, decide_eq_true_eq] at hd
  obtain ⟨hdg, rfl, ht⟩ := hd
  rw [Nat.add_sub_cancel_left] at hdg
  intro H locs lsA hR hS hl hc1 hc2
  revert hF; unfold xF; intro hF; dsimp only at hF
  split at hF
  · exact lv_ifnull hx hb hdg (hF H locs lsA hR hS hl hc1 hc2)
  · exact lv_ifnullN hx hb hdg ht (hF H locs lsA hR hS hl hc1 hc2)
  · exact hF.elim
set_option maxHeartbeats 4000000 in
set_option maxRecDepth 100000 in
theorem xz_tableswitch {MC : Nat → List Value → xh → (Option Value → xh → Prop) → Prop} {Qa : Option Value → xh → Prop} {n : Nat} {ini : Bool} {rt : Option FieldType} (E : xEnv p s m args c cc nL own dC dI cA f B h0) (hRs : R.slots ≤ 8000000) (hfr : n + 1 ≤ R.frames) (hlo : 32 * (n + 1) ≤ R.locals) (hini : ini = true → meth.name = "<init>") (hmt : ∀ q ∈ xmt, xmo q = true) (hMC : xCon2 l n MC dC dI cA f B h0)
    (hret : xRet p l e R s m args below meth c QW dC dI cA f B h0 cc rt Qa) {pc : Nat} (d lo hi : Int) (offs : Array Int) {nx a b c' e' f' g' : Nat} {k : Int32} {kl : Int64} {ts : List (Int32 × Nat)} {ls : List (Option Value)} {st : List Value} {h : xh} {kc ks : Nat} (hd : xd1 own nL ini rt cc pc (.tableswitch d lo hi offs, nx, a, b, c', e', f', g', k, kl, ts) = true)
    (hF : xF MC R.cells R.slots Qa (xKW p l e R s m args below meth c QW nL dC dI cA f B h0) (.tableswitch d lo hi offs, nx, a, b, c', e', f', g', k, kl, ts) ls st h kc ks) : xKW p l e R s m args below meth c QW nL dC dI cA f B h0 pc ls st h kc ks := by
  obtain ⟨hx, hb, hml, hown, hts, hK, hC, hf, hB⟩ := id E
  unfold xd1 at hd; dsimp only at hd; unfold xdt at hd; dsimp only at hd; simp only [Bool.and_eq_true, decide_eq_true_eq] at hd
  obtain ⟨hdg, h1, h2, h3⟩ := hd
  intro H locs lsA hR hS hl hc1 hc2
  revert hF; unfold xF; intro hF; dsimp only at hF
  split at hF
  · next x r =>
    obtain ⟨t1, t2⟩ := xtsw lo _ ts a h1 hF
    by_cases hr : x.toInt < lo ∨ hi < x.toInt
    · exact lv_tableOut hx hb hdg hr h2 (t2 (by omega) H locs lsA hR hS hl hc1 hc2)
    · have hr1 : ¬ x.toInt < lo := fun z => hr (Or.inl z)
      have hr2 : ¬ hi < x.toInt := fun z => hr (Or.inr z)
      have hlt : (x.toInt - lo).toNat < offs.toList.length := by omega
      have ho : offs.toList[(x.toInt - lo).toNat]? = some (offs.toList[(x.toInt - lo).toNat]) := List.getElem?_eq_getElem hlt
      obtain ⟨t, e1, e2⟩ := t1 _ _ ho (by omega)
      refine lv_tableIn (off := offs.toList[(x.toInt - lo).toNat]) hx hb hdg hr1 hr2 ?_ e1 (e2 H locs lsA hR hS hl hc1 hc2)
      rw [← Array.getElem?_toList]
      exact ho
  · exact hF.elim
set_option maxHeartbeats 4000000 in
set_option maxRecDepth 100000 in
theorem xz_arraylength {MC : Nat → List Value → xh → (Option Value → xh → Prop) → Prop} {Qa : Option Value → xh → Prop} {n : Nat} {ini : Bool} {rt : Option FieldType} (E : xEnv p s m args c cc nL own dC dI cA f B h0) (hRs : R.slots ≤ 8000000) (hfr : n + 1 ≤ R.frames) (hlo : 32 * (n + 1) ≤ R.locals) (hini : ini = true → meth.name = "<init>") (hmt : ∀ q ∈ xmt, xmo q = true) (hMC : xCon2 l n MC dC dI cA f B h0)
    (hret : xRet p l e R s m args below meth c QW dC dI cA f B h0 cc rt Qa) {pc : Nat}  {nx a b c' e' f' g' : Nat} {k : Int32} {kl : Int64} {ts : List (Int32 × Nat)} {ls : List (Option Value)} {st : List Value} {h : xh} {kc ks : Nat} (hd : xd1 own nL ini rt cc pc (.arraylength, nx, a, b, c', e', f', g', k, kl, ts) = true)
    (hF : xF MC R.cells R.slots Qa (xKW p l e R s m args below meth c QW nL dC dI cA f B h0) (.arraylength, nx, a, b, c', e', f', g', k, kl, ts) ls st h kc ks) : xKW p l e R s m args below meth c QW nL dC dI cA f B h0 pc ls st h kc ks := by
  obtain ⟨hx, hb, hml, hown, hts, hK, hC, hf, hB⟩ := id E
  unfold xd1 at hd; dsimp only at hd; unfold xdt at hd; dsimp only at hd; simp only [Bool.and_eq_true, decide_eq_true_eq] at hd
  obtain ⟨hdg, rfl⟩ := hd
  rw [Nat.add_sub_cancel_left] at hdg
  intro H locs lsA hR hS hl hc1 hc2
  revert hF; unfold xF; intro hF; dsimp only at hF
  split at hF
  · exact xs_alen E hR hS hF.1 hdg (hF.2 H locs lsA hR hS hl hc1 hc2)
  · exact hF.elim
set_option maxHeartbeats 4000000 in
set_option maxRecDepth 100000 in
theorem xz_iaload {MC : Nat → List Value → xh → (Option Value → xh → Prop) → Prop} {Qa : Option Value → xh → Prop} {n : Nat} {ini : Bool} {rt : Option FieldType} (E : xEnv p s m args c cc nL own dC dI cA f B h0) (hRs : R.slots ≤ 8000000) (hfr : n + 1 ≤ R.frames) (hlo : 32 * (n + 1) ≤ R.locals) (hini : ini = true → meth.name = "<init>") (hmt : ∀ q ∈ xmt, xmo q = true) (hMC : xCon2 l n MC dC dI cA f B h0)
    (hret : xRet p l e R s m args below meth c QW dC dI cA f B h0 cc rt Qa) {pc : Nat}  {nx a b c' e' f' g' : Nat} {k : Int32} {kl : Int64} {ts : List (Int32 × Nat)} {ls : List (Option Value)} {st : List Value} {h : xh} {kc ks : Nat} (hd : xd1 own nL ini rt cc pc (.iaload, nx, a, b, c', e', f', g', k, kl, ts) = true)
    (hF : xF MC R.cells R.slots Qa (xKW p l e R s m args below meth c QW nL dC dI cA f B h0) (.iaload, nx, a, b, c', e', f', g', k, kl, ts) ls st h kc ks) : xKW p l e R s m args below meth c QW nL dC dI cA f B h0 pc ls st h kc ks := by
  obtain ⟨hx, hb, hml, hown, hts, hK, hC, hf, hB⟩ := id E
  unfold xd1 at hd; dsimp only at hd; unfold xdt at hd; dsimp only at hd; simp only [Bool.and_eq_true, decide_eq_true_eq] at hd
  obtain ⟨hdg, rfl⟩ := hd
  rw [Nat.add_sub_cancel_left] at hdg
  intro H locs lsA hR hS hl hc1 hc2
  revert hF; unfold xF; intro hF; dsimp only at hF
  split at hF
  · exact xs_iald E hR hS hF.1 hdg (hF.2 H locs lsA hR hS hl hc1 hc2)
  · exact hF.elim
set_option maxHeartbeats 4000000 in
set_option maxRecDepth 100000 in
theorem xz_laload {MC : Nat → List Value → xh → (Option Value → xh → Prop) → Prop} {Qa : Option Value → xh → Prop} {n : Nat} {ini : Bool} {rt : Option FieldType} (E : xEnv p s m args c cc nL own dC dI cA f B h0) (hRs : R.slots ≤ 8000000) (hfr : n + 1 ≤ R.frames) (hlo : 32 * (n + 1) ≤ R.locals) (hini : ini = true → meth.name = "<init>") (hmt : ∀ q ∈ xmt, xmo q = true) (hMC : xCon2 l n MC dC dI cA f B h0)
    (hret : xRet p l e R s m args below meth c QW dC dI cA f B h0 cc rt Qa) {pc : Nat}  {nx a b c' e' f' g' : Nat} {k : Int32} {kl : Int64} {ts : List (Int32 × Nat)} {ls : List (Option Value)} {st : List Value} {h : xh} {kc ks : Nat} (hd : xd1 own nL ini rt cc pc (.laload, nx, a, b, c', e', f', g', k, kl, ts) = true)
    (hF : xF MC R.cells R.slots Qa (xKW p l e R s m args below meth c QW nL dC dI cA f B h0) (.laload, nx, a, b, c', e', f', g', k, kl, ts) ls st h kc ks) : xKW p l e R s m args below meth c QW nL dC dI cA f B h0 pc ls st h kc ks := by
  obtain ⟨hx, hb, hml, hown, hts, hK, hC, hf, hB⟩ := id E
  unfold xd1 at hd; dsimp only at hd; unfold xdt at hd; dsimp only at hd; simp only [Bool.and_eq_true, decide_eq_true_eq] at hd
  obtain ⟨hdg, rfl⟩ := hd
  rw [Nat.add_sub_cancel_left] at hdg
  intro H locs lsA hR hS hl hc1 hc2
  revert hF; unfold xF; intro hF; dsimp only at hF
  split at hF
  · exact xs_lald E hR hS hF.1 hdg (hF.2 H locs lsA hR hS hl hc1 hc2)
  · exact hF.elim
set_option maxHeartbeats 4000000 in
set_option maxRecDepth 100000 in
theorem xz_baload {MC : Nat → List Value → xh → (Option Value → xh → Prop) → Prop} {Qa : Option Value → xh → Prop} {n : Nat} {ini : Bool} {rt : Option FieldType} (E : xEnv p s m args c cc nL own dC dI cA f B h0) (hRs : R.slots ≤ 8000000) (hfr : n + 1 ≤ R.frames) (hlo : 32 * (n + 1) ≤ R.locals) (hini : ini = true → meth.name = "<init>") (hmt : ∀ q ∈ xmt, xmo q = true) (hMC : xCon2 l n MC dC dI cA f B h0)
    (hret : xRet p l e R s m args below meth c QW dC dI cA f B h0 cc rt Qa) {pc : Nat}  {nx a b c' e' f' g' : Nat} {k : Int32} {kl : Int64} {ts : List (Int32 × Nat)} {ls : List (Option Value)} {st : List Value} {h : xh} {kc ks : Nat} (hd : xd1 own nL ini rt cc pc (.baload, nx, a, b, c', e', f', g', k, kl, ts) = true)
    (hF : xF MC R.cells R.slots Qa (xKW p l e R s m args below meth c QW nL dC dI cA f B h0) (.baload, nx, a, b, c', e', f', g', k, kl, ts) ls st h kc ks) : xKW p l e R s m args below meth c QW nL dC dI cA f B h0 pc ls st h kc ks := by
  obtain ⟨hx, hb, hml, hown, hts, hK, hC, hf, hB⟩ := id E
  unfold xd1 at hd; dsimp only at hd; unfold xdt at hd; dsimp only at hd; simp only [Bool.and_eq_true, Bool.or_eq_true, decide_eq_true_eq] at hd
  obtain ⟨hdg, rfl, hk⟩ := hd
  rw [Nat.add_sub_cancel_left] at hdg
  intro H locs lsA hR hS hl hc1 hc2
  revert hF; unfold xF; intro hF; dsimp only at hF
  split at hF
  · rcases hk with hk | hk
    · subst hk; exact xs_bald E hR hS hF.1 hdg (hF.2 H locs lsA hR hS hl hc1 hc2)
    · subst hk; exact xs_zald E hR hS hF.1 hdg (hF.2 H locs lsA hR hS hl hc1 hc2)
  · exact hF.elim
set_option maxHeartbeats 4000000 in
set_option maxRecDepth 100000 in
theorem xz_aaload {MC : Nat → List Value → xh → (Option Value → xh → Prop) → Prop} {Qa : Option Value → xh → Prop} {n : Nat} {ini : Bool} {rt : Option FieldType} (E : xEnv p s m args c cc nL own dC dI cA f B h0) (hRs : R.slots ≤ 8000000) (hfr : n + 1 ≤ R.frames) (hlo : 32 * (n + 1) ≤ R.locals) (hini : ini = true → meth.name = "<init>") (hmt : ∀ q ∈ xmt, xmo q = true) (hMC : xCon2 l n MC dC dI cA f B h0)
    (hret : xRet p l e R s m args below meth c QW dC dI cA f B h0 cc rt Qa) {pc : Nat}  {nx a b c' e' f' g' : Nat} {k : Int32} {kl : Int64} {ts : List (Int32 × Nat)} {ls : List (Option Value)} {st : List Value} {h : xh} {kc ks : Nat} (hd : xd1 own nL ini rt cc pc (.aaload, nx, a, b, c', e', f', g', k, kl, ts) = true)
    (hF : xF MC R.cells R.slots Qa (xKW p l e R s m args below meth c QW nL dC dI cA f B h0) (.aaload, nx, a, b, c', e', f', g', k, kl, ts) ls st h kc ks) : xKW p l e R s m args below meth c QW nL dC dI cA f B h0 pc ls st h kc ks := by
  obtain ⟨hx, hb, hml, hown, hts, hK, hC, hf, hB⟩ := id E
  unfold xd1 at hd; dsimp only at hd; unfold xdt at hd; dsimp only at hd; simp only [Bool.and_eq_true, decide_eq_true_eq] at hd
  obtain ⟨hdg, rfl, k1, k2⟩ := hd
  rw [Nat.add_sub_cancel_left] at hdg
  intro H locs lsA hR hS hl hc1 hc2
  revert hF; unfold xF; intro hF; dsimp only at hF
  split at hF
  · next i q r =>
    refine xs_aald E hR hS hF.1 k1 k2 hdg ?_
    cases hr : xR h q i.toNatClampNeg with
    | none => exact hF.2.2 hr H locs lsA hR hS hl hc1 hc2
    | some v => exact hF.2.1 v hr H locs lsA hR hS hl hc1 hc2
  · exact hF.elim
set_option maxHeartbeats 4000000 in
set_option maxRecDepth 100000 in
theorem xz_iastore {MC : Nat → List Value → xh → (Option Value → xh → Prop) → Prop} {Qa : Option Value → xh → Prop} {n : Nat} {ini : Bool} {rt : Option FieldType} (E : xEnv p s m args c cc nL own dC dI cA f B h0) (hRs : R.slots ≤ 8000000) (hfr : n + 1 ≤ R.frames) (hlo : 32 * (n + 1) ≤ R.locals) (hini : ini = true → meth.name = "<init>") (hmt : ∀ q ∈ xmt, xmo q = true) (hMC : xCon2 l n MC dC dI cA f B h0)
    (hret : xRet p l e R s m args below meth c QW dC dI cA f B h0 cc rt Qa) {pc : Nat}  {nx a b c' e' f' g' : Nat} {k : Int32} {kl : Int64} {ts : List (Int32 × Nat)} {ls : List (Option Value)} {st : List Value} {h : xh} {kc ks : Nat} (hd : xd1 own nL ini rt cc pc (.iastore, nx, a, b, c', e', f', g', k, kl, ts) = true)
    (hF : xF MC R.cells R.slots Qa (xKW p l e R s m args below meth c QW nL dC dI cA f B h0) (.iastore, nx, a, b, c', e', f', g', k, kl, ts) ls st h kc ks) : xKW p l e R s m args below meth c QW nL dC dI cA f B h0 pc ls st h kc ks := by
  obtain ⟨hx, hb, hml, hown, hts, hK, hC, hf, hB⟩ := id E
  unfold xd1 at hd; dsimp only at hd; unfold xdt at hd; dsimp only at hd; simp only [Bool.and_eq_true, decide_eq_true_eq] at hd
  obtain ⟨hdg, rfl⟩ := hd
  rw [Nat.add_sub_cancel_left] at hdg
  intro H locs lsA hR hS hl hc1 hc2
  revert hF; unfold xF; intro hF; dsimp only at hF
  split at hF
  · exact xs_iast E hR hS hF.1.1 hF.1.2 hdg (fun H1 locs1 hR1 hS1 => hF.2 H1 locs1 lsA hR1 hS1 hl hc1 hc2)
  · exact hF.elim
set_option maxHeartbeats 4000000 in
set_option maxRecDepth 100000 in
theorem xz_lastore {MC : Nat → List Value → xh → (Option Value → xh → Prop) → Prop} {Qa : Option Value → xh → Prop} {n : Nat} {ini : Bool} {rt : Option FieldType} (E : xEnv p s m args c cc nL own dC dI cA f B h0) (hRs : R.slots ≤ 8000000) (hfr : n + 1 ≤ R.frames) (hlo : 32 * (n + 1) ≤ R.locals) (hini : ini = true → meth.name = "<init>") (hmt : ∀ q ∈ xmt, xmo q = true) (hMC : xCon2 l n MC dC dI cA f B h0)
    (hret : xRet p l e R s m args below meth c QW dC dI cA f B h0 cc rt Qa) {pc : Nat}  {nx a b c' e' f' g' : Nat} {k : Int32} {kl : Int64} {ts : List (Int32 × Nat)} {ls : List (Option Value)} {st : List Value} {h : xh} {kc ks : Nat} (hd : xd1 own nL ini rt cc pc (.lastore, nx, a, b, c', e', f', g', k, kl, ts) = true)
    (hF : xF MC R.cells R.slots Qa (xKW p l e R s m args below meth c QW nL dC dI cA f B h0) (.lastore, nx, a, b, c', e', f', g', k, kl, ts) ls st h kc ks) : xKW p l e R s m args below meth c QW nL dC dI cA f B h0 pc ls st h kc ks := by
  obtain ⟨hx, hb, hml, hown, hts, hK, hC, hf, hB⟩ := id E
  unfold xd1 at hd; dsimp only at hd; unfold xdt at hd; dsimp only at hd; simp only [Bool.and_eq_true, decide_eq_true_eq] at hd
  obtain ⟨hdg, rfl⟩ := hd
  rw [Nat.add_sub_cancel_left] at hdg
  intro H locs lsA hR hS hl hc1 hc2
  revert hF; unfold xF; intro hF; dsimp only at hF
  split at hF
  · exact xs_last E hR hS hF.1.1 hF.1.2 hdg (fun H1 locs1 hR1 hS1 => hF.2 H1 locs1 lsA hR1 hS1 hl hc1 hc2)
  · exact hF.elim
set_option maxHeartbeats 4000000 in
set_option maxRecDepth 100000 in
theorem xz_bastore {MC : Nat → List Value → xh → (Option Value → xh → Prop) → Prop} {Qa : Option Value → xh → Prop} {n : Nat} {ini : Bool} {rt : Option FieldType} (E : xEnv p s m args c cc nL own dC dI cA f B h0) (hRs : R.slots ≤ 8000000) (hfr : n + 1 ≤ R.frames) (hlo : 32 * (n + 1) ≤ R.locals) (hini : ini = true → meth.name = "<init>") (hmt : ∀ q ∈ xmt, xmo q = true) (hMC : xCon2 l n MC dC dI cA f B h0)
    (hret : xRet p l e R s m args below meth c QW dC dI cA f B h0 cc rt Qa) {pc : Nat}  {nx a b c' e' f' g' : Nat} {k : Int32} {kl : Int64} {ts : List (Int32 × Nat)} {ls : List (Option Value)} {st : List Value} {h : xh} {kc ks : Nat} (hd : xd1 own nL ini rt cc pc (.bastore, nx, a, b, c', e', f', g', k, kl, ts) = true)
    (hF : xF MC R.cells R.slots Qa (xKW p l e R s m args below meth c QW nL dC dI cA f B h0) (.bastore, nx, a, b, c', e', f', g', k, kl, ts) ls st h kc ks) : xKW p l e R s m args below meth c QW nL dC dI cA f B h0 pc ls st h kc ks := by
  obtain ⟨hx, hb, hml, hown, hts, hK, hC, hf, hB⟩ := id E
  unfold xd1 at hd; dsimp only at hd; unfold xdt at hd; dsimp only at hd; simp only [Bool.and_eq_true, Bool.or_eq_true, decide_eq_true_eq] at hd
  obtain ⟨hdg, rfl, hk⟩ := hd
  rw [Nat.add_sub_cancel_left] at hdg
  intro H locs lsA hR hS hl hc1 hc2
  revert hF; unfold xF; intro hF; dsimp only at hF
  split at hF
  · rcases hk with ⟨hk, hk2⟩ | ⟨hk, hk2⟩
    · subst hk; subst hk2; exact xs_bast E hR hS hF.1.1 hF.1.2.1 hF.1.2.2 hdg (fun H1 locs1 hR1 hS1 => hF.2 H1 locs1 lsA hR1 hS1 hl hc1 hc2)
    · subst hk; subst hk2; exact xs_zast E hR hS hF.1.1 hF.1.2.1 hF.1.2.2 hdg (fun H1 locs1 hR1 hS1 => hF.2 H1 locs1 lsA hR1 hS1 hl hc1 hc2)
  · exact hF.elim
set_option maxHeartbeats 4000000 in
set_option maxRecDepth 100000 in
theorem xz_aastore {MC : Nat → List Value → xh → (Option Value → xh → Prop) → Prop} {Qa : Option Value → xh → Prop} {n : Nat} {ini : Bool} {rt : Option FieldType} (E : xEnv p s m args c cc nL own dC dI cA f B h0) (hRs : R.slots ≤ 8000000) (hfr : n + 1 ≤ R.frames) (hlo : 32 * (n + 1) ≤ R.locals) (hini : ini = true → meth.name = "<init>") (hmt : ∀ q ∈ xmt, xmo q = true) (hMC : xCon2 l n MC dC dI cA f B h0)
    (hret : xRet p l e R s m args below meth c QW dC dI cA f B h0 cc rt Qa) {pc : Nat}  {nx a b c' e' f' g' : Nat} {k : Int32} {kl : Int64} {ts : List (Int32 × Nat)} {ls : List (Option Value)} {st : List Value} {h : xh} {kc ks : Nat} (hd : xd1 own nL ini rt cc pc (.aastore, nx, a, b, c', e', f', g', k, kl, ts) = true)
    (hF : xF MC R.cells R.slots Qa (xKW p l e R s m args below meth c QW nL dC dI cA f B h0) (.aastore, nx, a, b, c', e', f', g', k, kl, ts) ls st h kc ks) : xKW p l e R s m args below meth c QW nL dC dI cA f B h0 pc ls st h kc ks := by
  obtain ⟨hx, hb, hml, hown, hts, hK, hC, hf, hB⟩ := id E
  unfold xd1 at hd; dsimp only at hd; unfold xdt at hd; dsimp only at hd; simp only [Bool.and_eq_true, decide_eq_true_eq] at hd
  obtain ⟨hdg, rfl, k1, k2, k3⟩ := hd
  rw [Nat.add_sub_cancel_left] at hdg
  intro H locs lsA hR hS hl hc1 hc2
  revert hF; unfold xF; intro hF; dsimp only at hF
  split at hF
  · subst k3; exact xs_aast E hR hS hF.1.1 hF.1.2.1 k1 k2 hF.1.2.2.1 hF.1.2.2.2 hdg (fun H1 locs1 hR1 hS1 => hF.2 H1 locs1 lsA hR1 hS1 hl hc1 hc2)
  · exact hF.elim
set_option maxHeartbeats 4000000 in
set_option maxRecDepth 100000 in
theorem xz_newarray {MC : Nat → List Value → xh → (Option Value → xh → Prop) → Prop} {Qa : Option Value → xh → Prop} {n : Nat} {ini : Bool} {rt : Option FieldType} (E : xEnv p s m args c cc nL own dC dI cA f B h0) (hRs : R.slots ≤ 8000000) (hfr : n + 1 ≤ R.frames) (hlo : 32 * (n + 1) ≤ R.locals) (hini : ini = true → meth.name = "<init>") (hmt : ∀ q ∈ xmt, xmo q = true) (hMC : xCon2 l n MC dC dI cA f B h0)
    (hret : xRet p l e R s m args below meth c QW dC dI cA f B h0 cc rt Qa) {pc : Nat} (t : ArrayType) {nx a b c' e' f' g' : Nat} {k : Int32} {kl : Int64} {ts : List (Int32 × Nat)} {ls : List (Option Value)} {st : List Value} {h : xh} {kc ks : Nat} (hd : xd1 own nL ini rt cc pc (.newarray t, nx, a, b, c', e', f', g', k, kl, ts) = true)
    (hF : xF MC R.cells R.slots Qa (xKW p l e R s m args below meth c QW nL dC dI cA f B h0) (.newarray t, nx, a, b, c', e', f', g', k, kl, ts) ls st h kc ks) : xKW p l e R s m args below meth c QW nL dC dI cA f B h0 pc ls st h kc ks := by
  obtain ⟨hx, hb, hml, hown, hts, hK, hC, hf, hB⟩ := id E
  unfold xd1 at hd; dsimp only at hd; unfold xdt at hd; dsimp only at hd; simp only [Bool.and_eq_true, Bool.or_eq_true, decide_eq_true_eq] at hd
  obtain ⟨hdg, rfl, hk⟩ := hd
  rw [Nat.add_sub_cancel_left] at hdg
  intro H locs lsA hR hS hl hc1 hc2
  revert hF; unfold xF; intro hF; dsimp only at hF
  split at hF
  · exact xs_newa E hR hS (by rcases hk with (hk | hk) | hk | hk <;> simp [hk]) hF.1.1 hRs hF.1.2.1 hF.1.2.2 hdg (fun H1 hR1 hS1 => hF.2 H1 locs lsA hR1 hS1 hl hF.1.2.1 hF.1.2.2)
  · exact hF.elim
set_option maxHeartbeats 4000000 in
set_option maxRecDepth 100000 in
theorem xz_anewarray {MC : Nat → List Value → xh → (Option Value → xh → Prop) → Prop} {Qa : Option Value → xh → Prop} {n : Nat} {ini : Bool} {rt : Option FieldType} (E : xEnv p s m args c cc nL own dC dI cA f B h0) (hRs : R.slots ≤ 8000000) (hfr : n + 1 ≤ R.frames) (hlo : 32 * (n + 1) ≤ R.locals) (hini : ini = true → meth.name = "<init>") (hmt : ∀ q ∈ xmt, xmo q = true) (hMC : xCon2 l n MC dC dI cA f B h0)
    (hret : xRet p l e R s m args below meth c QW dC dI cA f B h0 cc rt Qa) {pc : Nat} (x : Nat) {nx a b c' e' f' g' : Nat} {k : Int32} {kl : Int64} {ts : List (Int32 × Nat)} {ls : List (Option Value)} {st : List Value} {h : xh} {kc ks : Nat} (hd : xd1 own nL ini rt cc pc (.anewarray x, nx, a, b, c', e', f', g', k, kl, ts) = true)
    (hF : xF MC R.cells R.slots Qa (xKW p l e R s m args below meth c QW nL dC dI cA f B h0) (.anewarray x, nx, a, b, c', e', f', g', k, kl, ts) ls st h kc ks) : xKW p l e R s m args below meth c QW nL dC dI cA f B h0 pc ls st h kc ks := by
  obtain ⟨hx, hb, hml, hown, hts, hK, hC, hf, hB⟩ := id E
  unfold xd1 at hd; dsimp only at hd; unfold xdt at hd; dsimp only at hd; simp only [Bool.and_eq_true, decide_eq_true_eq] at hd
  obtain ⟨hdg, rfl, k1, k2, k3⟩ := hd
  rw [Nat.add_sub_cancel_left] at hdg
  intro H locs lsA hR hS hl hc1 hc2
  revert hF; unfold xF; intro hF; dsimp only at hF
  split at hF
  · split at k3
    · next C hC =>
      simp only [Bool.and_eq_true, decide_eq_true_eq] at k3
      exact xs_anew E hR hS k1 k2 hC k3.1 (List.mem_of_getElem? k3.2) hF.1.1 hRs hF.1.2.1 hF.1.2.2 hdg (fun H1 hR1 hS1 => hF.2 H1 locs lsA hR1 hS1 hl hF.1.2.1 hF.1.2.2)
    · cases k3
  · exact hF.elim
set_option maxHeartbeats 4000000 in
set_option maxRecDepth 100000 in
theorem xz_new {MC : Nat → List Value → xh → (Option Value → xh → Prop) → Prop} {Qa : Option Value → xh → Prop} {n : Nat} {ini : Bool} {rt : Option FieldType} (E : xEnv p s m args c cc nL own dC dI cA f B h0) (hRs : R.slots ≤ 8000000) (hfr : n + 1 ≤ R.frames) (hlo : 32 * (n + 1) ≤ R.locals) (hini : ini = true → meth.name = "<init>") (hmt : ∀ q ∈ xmt, xmo q = true) (hMC : xCon2 l n MC dC dI cA f B h0)
    (hret : xRet p l e R s m args below meth c QW dC dI cA f B h0 cc rt Qa) {pc : Nat} (x : Nat) {nx a b c' e' f' g' : Nat} {k : Int32} {kl : Int64} {ts : List (Int32 × Nat)} {ls : List (Option Value)} {st : List Value} {h : xh} {kc ks : Nat} (hd : xd1 own nL ini rt cc pc (.new x, nx, a, b, c', e', f', g', k, kl, ts) = true)
    (hF : xF MC R.cells R.slots Qa (xKW p l e R s m args below meth c QW nL dC dI cA f B h0) (.new x, nx, a, b, c', e', f', g', k, kl, ts) ls st h kc ks) : xKW p l e R s m args below meth c QW nL dC dI cA f B h0 pc ls st h kc ks := by
  obtain ⟨hx, hb, hml, hown, hts, hK, hC, hf, hB⟩ := id E
  unfold xd1 at hd; dsimp only at hd; unfold xdt at hd; dsimp only at hd; simp only [Bool.and_eq_true, decide_eq_true_eq] at hd
  obtain ⟨hdg, rfl, k1, rfl, k3⟩ := hd
  rw [Nat.add_sub_cancel_left] at hdg
  intro H locs lsA hR hS hl hc1 hc2
  revert hF; unfold xF; intro hF; dsimp only at hF
  split at k3
  · next r hr =>
    exact xs_new E hR hS k1 hr (List.mem_of_getElem? (of_decide_eq_true k3)) hF.1.1 hF.1.2 hdg (fun H1 hR1 hS1 => hF.2 H1 locs lsA hR1 hS1 hl hF.1.1 hF.1.2)
  · cases k3
set_option maxHeartbeats 4000000 in
set_option maxRecDepth 100000 in
theorem xz_getfield {MC : Nat → List Value → xh → (Option Value → xh → Prop) → Prop} {Qa : Option Value → xh → Prop} {n : Nat} {ini : Bool} {rt : Option FieldType} (E : xEnv p s m args c cc nL own dC dI cA f B h0) (hRs : R.slots ≤ 8000000) (hfr : n + 1 ≤ R.frames) (hlo : 32 * (n + 1) ≤ R.locals) (hini : ini = true → meth.name = "<init>") (hmt : ∀ q ∈ xmt, xmo q = true) (hMC : xCon2 l n MC dC dI cA f B h0)
    (hret : xRet p l e R s m args below meth c QW dC dI cA f B h0 cc rt Qa) {pc : Nat} (x : Nat) {nx a b c' e' f' g' : Nat} {k : Int32} {kl : Int64} {ts : List (Int32 × Nat)} {ls : List (Option Value)} {st : List Value} {h : xh} {kc ks : Nat} (hd : xd1 own nL ini rt cc pc (.getfield x, nx, a, b, c', e', f', g', k, kl, ts) = true)
    (hF : xF MC R.cells R.slots Qa (xKW p l e R s m args below meth c QW nL dC dI cA f B h0) (.getfield x, nx, a, b, c', e', f', g', k, kl, ts) ls st h kc ks) : xKW p l e R s m args below meth c QW nL dC dI cA f B h0 pc ls st h kc ks := by
  obtain ⟨hx, hb, hml, hown, hts, hK, hC, hf, hB⟩ := id E
  unfold xd1 at hd; dsimp only at hd; unfold xdt at hd; dsimp only at hd; simp only [Bool.and_eq_true, decide_eq_true_eq] at hd
  obtain ⟨hdg, rfl, hk⟩ := hd
  rw [Nat.add_sub_cancel_left] at hdg
  intro H locs lsA hR hS hl hc1 hc2
  revert hF; unfold xF; intro hF; dsimp only at hF
  split at hF
  · next q r =>
    obtain ⟨hq, hF⟩ := hF
    split at hk
    · next rr hr =>
      simp only [Bool.and_eq_true, Bool.or_eq_true, decide_eq_true_eq] at hk
      obtain ⟨k1, k2, k3, k4⟩ := hk
      refine xs_get E hR hq k1 k2 hr (List.mem_of_getElem? k3) hdg ?_
      rcases k4 with ⟨rfl, k4 | k4⟩ | ⟨rfl, k4⟩ | ⟨rfl, k4⟩
      · simp only [xfv, k4]; exact hF H locs lsA hR hS hl hc1 hc2
      · simp only [xfv, k4]; exact hF H locs lsA hR hS hl hc1 hc2
      · simp only [xfv, k4]; exact hF H locs lsA hR hS hl hc1 hc2
      · simp only [xfv, k4]
        cases hv : xR h q b with
        | none => exact hF.2 hv H locs lsA hR hS hl hc1 hc2
        | some v => exact hF.1 v hv H locs lsA hR hS hl hc1 hc2
    · simp only [Bool.and_eq_true, Bool.or_eq_true, decide_eq_true_eq] at hk
      obtain ⟨rfl, hk⟩ := hk
      have hlt : q < 64 := by
        by_cases hlt : q < 64
        · exact hlt
        · rcases hR.2.2.1 q (Nat.not_lt.mp hlt) (xRel_lt hR (by rw [hq]; decide)) with ⟨z, -⟩ | ⟨z, -⟩
          · rw [hq] at z; exact absurd z (by decide)
          · rw [hq] at z; exact absurd z.2 (by decide)
      obtain ⟨e3, e4, e5⟩ := hR.2.2.2.2.1 q hlt
      obtain ⟨d1, d2, v, d3, d4⟩ := hC.2.2.1 q 0 hlt (e3.symm.trans hq)
      rcases hk with ⟨⟨rfl, rfl⟩, k3⟩ | ⟨⟨rfl, rfl⟩, k3⟩
      · refine vk_getf hx hb d4 hS hown (hts _ (List.mem_of_getElem? k3) rfl) (fun _ z => z) hdg ?_
        exact hF.1 v (by rw [e5]; exact d3) H locs lsA hR hS hl hc1 hc2
      · refine vk_getf hx hb d2 hS hown (hts _ (List.mem_of_getElem? k3) rfl) (fun _ z => z) hdg ?_
        rw [← e4]
        exact hF H locs lsA hR hS hl hc1 hc2
  · exact hF.elim
set_option maxHeartbeats 4000000 in
set_option maxRecDepth 100000 in
theorem xz_putfield {MC : Nat → List Value → xh → (Option Value → xh → Prop) → Prop} {Qa : Option Value → xh → Prop} {n : Nat} {ini : Bool} {rt : Option FieldType} (E : xEnv p s m args c cc nL own dC dI cA f B h0) (hRs : R.slots ≤ 8000000) (hfr : n + 1 ≤ R.frames) (hlo : 32 * (n + 1) ≤ R.locals) (hini : ini = true → meth.name = "<init>") (hmt : ∀ q ∈ xmt, xmo q = true) (hMC : xCon2 l n MC dC dI cA f B h0)
    (hret : xRet p l e R s m args below meth c QW dC dI cA f B h0 cc rt Qa) {pc : Nat} (x : Nat) {nx a b c' e' f' g' : Nat} {k : Int32} {kl : Int64} {ts : List (Int32 × Nat)} {ls : List (Option Value)} {st : List Value} {h : xh} {kc ks : Nat} (hd : xd1 own nL ini rt cc pc (.putfield x, nx, a, b, c', e', f', g', k, kl, ts) = true)
    (hF : xF MC R.cells R.slots Qa (xKW p l e R s m args below meth c QW nL dC dI cA f B h0) (.putfield x, nx, a, b, c', e', f', g', k, kl, ts) ls st h kc ks) : xKW p l e R s m args below meth c QW nL dC dI cA f B h0 pc ls st h kc ks := by
  obtain ⟨hx, hb, hml, hown, hts, hK, hC, hf, hB⟩ := id E
  unfold xd1 at hd; dsimp only at hd; unfold xdt at hd; dsimp only at hd; simp only [Bool.and_eq_true, decide_eq_true_eq] at hd
  obtain ⟨hdg, rfl, hk⟩ := hd
  rw [Nat.add_sub_cancel_left] at hdg
  intro H locs lsA hR hS hl hc1 hc2
  revert hF; unfold xF; intro hF; dsimp only at hF
  split at hk
  · next rr hr =>
    simp only [Bool.and_eq_true, Bool.or_eq_true, decide_eq_true_eq] at hk
    obtain ⟨k1, k2, k3, k4, k5⟩ := hk
    have hfin : (rr.2.1 b).2.2.2 = false ∨ (meth.name = "<init>" ∧ rr.1 = own) := by
      rcases k5 with k5 | ⟨k5, k6⟩
      · exact Or.inl k5
      · exact Or.inr ⟨hini k5, k6⟩
    have hty := xft_cases k1 k2
    split at hF
    · next v q r =>
      have hz : ∀ (hn : narrow (xtyf a b) (.int v) = .int v) (hfit : fits (xtyf a b) (.int v) = true) (hk4 : xft a b = 0 ∨ xft a b = 1) (g1 : 64 ≤ q) (g2 : xS h q = (a, 0)) (hF : xKW p l e R s m args below meth c QW nL dC dI cA f B h0 (pc + 3) ls r (xsI h q b v) kc ks), W p l e R s m args below meth c H locs kc ks QW (F0 m pc lsA (.int v :: .ref (f q) :: r.map (xtv f))) := by
        intro hn hfit hk4 g1 g2 hF
        refine xs_put (h' := xsI h q b v) E hR hS g1 g2 k1 k2 hr (List.mem_of_getElem? k3) hfin hn hfit rfl rfl (fun k9 hk9 => ⟨xsI_ne h _ _ hk9, rfl, rfl⟩) (fun i9 _ => ?_) hdg (fun H1 locs1 hR1 hS1 => hF H1 locs1 lsA hR1 hS1 hl hc1 hc2)
        show (if i9 = b then Value.int v else xfv f h q a i9) = xfv f (xsI h q b v) q a i9
        by_cases hi9 : i9 = b
        · subst hi9
          rw [if_pos rfl]
          rcases hk4 with hk4 | hk4 <;> simp only [xfv, hk4, xsI_at, va_up, if_pos]
        · rw [if_neg hi9]
          simp only [xfv, xsI_at, va_up, if_neg hi9]
          rfl
      split at hF
      · rcases hty with ⟨t1, t2⟩ | ⟨t1, t2⟩ | ⟨t1, t2⟩ | ⟨t1, t2⟩ <;> rw [t1] at k4
        · exact hz (by rw [t2]; rfl) (by rw [t2]; rfl) (Or.inl t1) hF.1.1 hF.1.2 hF.2
        · cases k4
        · cases k4
        · cases k4
      · rcases hty with ⟨t1, t2⟩ | ⟨t1, t2⟩ | ⟨t1, t2⟩ | ⟨t1, t2⟩ <;> rw [t1] at k4
        · cases k4
        · refine hz ?_ ?_ (Or.inr t1) hF.1.1.1 hF.1.1.2 hF.2
          · rw [t2]; rcases hF.1.2 with z | z <;> rw [z] <;> rfl
          · rw [t2]; rcases hF.1.2 with z | z <;> rw [z] <;> rfl
        · cases k4
        · cases k4
      · exact hF.elim
    · next v q r =>
      split at hF
      · rcases hty with ⟨t1, t2⟩ | ⟨t1, t2⟩ | ⟨t1, t2⟩ | ⟨t1, t2⟩ <;> rw [t1] at k4
        · cases k4
        · cases k4
        · refine xs_put (h' := xsL h q b v) E hR hS hF.1.1 hF.1.2 k1 k2 hr (List.mem_of_getElem? k3) hfin (by rw [t2]; rfl) (by rw [t2]; rfl) rfl rfl (fun k9 hk9 => ⟨rfl, xsL_ne h _ _ hk9, rfl⟩) (fun i9 _ => ?_) hdg (fun H1 locs1 hR1 hS1 => hF.2 H1 locs1 lsA hR1 hS1 hl hc1 hc2)
          show (if i9 = b then Value.long v else xfv f h q a i9) = xfv f (xsL h q b v) q a i9
          by_cases hi9 : i9 = b
          · subst hi9
            rw [if_pos rfl]
            simp only [xfv, t1, xsL_at, va_up, if_pos]
          · rw [if_neg hi9]
            simp only [xfv, xsL_at, va_up, if_neg hi9]
            rfl
        · cases k4
      · exact hF.elim
    · next v q r =>
      split at hF
      · rcases hty with ⟨t1, t2⟩ | ⟨t1, t2⟩ | ⟨t1, t2⟩ | ⟨t1, t2⟩ <;> rw [t1] at k4
        · cases k4
        · cases k4
        · cases k4
        · refine xs_put (v := .ref (f v)) (h' := xsR h q b (some v)) E hR hS hF.1.1 hF.1.2 k1 k2 hr (List.mem_of_getElem? k3) hfin (by rcases t2 with ⟨z, t2⟩ | ⟨z, t2⟩ <;> rw [t2] <;> rfl) (by rcases t2 with ⟨z, t2⟩ | ⟨z, t2⟩ <;> rw [t2] <;> rfl) rfl rfl (fun k9 hk9 => ⟨rfl, rfl, xsR_ne h _ _ hk9⟩) (fun i9 _ => ?_) hdg (fun H1 locs1 hR1 hS1 => hF.2 H1 locs1 lsA hR1 hS1 hl hc1 hc2)
          show (if i9 = b then Value.ref (f v) else xfv f h q a i9) = xfv f (xsR h q b (some v)) q a i9
          by_cases hi9 : i9 = b
          · subst hi9
            rw [if_pos rfl]
            simp only [xfv, t1, xsR_at, va_up, if_pos]
            rfl
          · rw [if_neg hi9]
            simp only [xfv, xsR_at, va_up, if_neg hi9]
            rfl
      · exact hF.elim
    · next q r =>
      split at hF
      · rcases hty with ⟨t1, t2⟩ | ⟨t1, t2⟩ | ⟨t1, t2⟩ | ⟨t1, t2⟩ <;> rw [t1] at k4
        · cases k4
        · cases k4
        · cases k4
        · refine xs_put (v := .null) (h' := xsR h q b none) E hR hS hF.1.1 hF.1.2 k1 k2 hr (List.mem_of_getElem? k3) hfin (by rcases t2 with ⟨z, t2⟩ | ⟨z, t2⟩ <;> rw [t2] <;> rfl) (by rcases t2 with ⟨z, t2⟩ | ⟨z, t2⟩ <;> rw [t2] <;> rfl) rfl rfl (fun k9 hk9 => ⟨rfl, rfl, xsR_ne h _ _ hk9⟩) (fun i9 _ => ?_) hdg (fun H1 locs1 hR1 hS1 => hF.2 H1 locs1 lsA hR1 hS1 hl hc1 hc2)
          show (if i9 = b then Value.null else xfv f h q a i9) = xfv f (xsR h q b none) q a i9
          by_cases hi9 : i9 = b
          · subst hi9
            rw [if_pos rfl]
            simp only [xfv, t1, xsR_at, va_up, if_pos]
            rfl
          · rw [if_neg hi9]
            simp only [xfv, xsR_at, va_up, if_neg hi9]
            rfl
      · exact hF.elim
    · exact hF.elim
  · cases hk
set_option maxHeartbeats 4000000 in
set_option maxRecDepth 100000 in
theorem xz_getstatic {MC : Nat → List Value → xh → (Option Value → xh → Prop) → Prop} {Qa : Option Value → xh → Prop} {n : Nat} {ini : Bool} {rt : Option FieldType} (E : xEnv p s m args c cc nL own dC dI cA f B h0) (hRs : R.slots ≤ 8000000) (hfr : n + 1 ≤ R.frames) (hlo : 32 * (n + 1) ≤ R.locals) (hini : ini = true → meth.name = "<init>") (hmt : ∀ q ∈ xmt, xmo q = true) (hMC : xCon2 l n MC dC dI cA f B h0)
    (hret : xRet p l e R s m args below meth c QW dC dI cA f B h0 cc rt Qa) {pc : Nat} (x : Nat) {nx a b c' e' f' g' : Nat} {k : Int32} {kl : Int64} {ts : List (Int32 × Nat)} {ls : List (Option Value)} {st : List Value} {h : xh} {kc ks : Nat} (hd : xd1 own nL ini rt cc pc (.getstatic x, nx, a, b, c', e', f', g', k, kl, ts) = true)
    (hF : xF MC R.cells R.slots Qa (xKW p l e R s m args below meth c QW nL dC dI cA f B h0) (.getstatic x, nx, a, b, c', e', f', g', k, kl, ts) ls st h kc ks) : xKW p l e R s m args below meth c QW nL dC dI cA f B h0 pc ls st h kc ks := by
  obtain ⟨hx, hb, hml, hown, hts, hK, hC, hf, hB⟩ := id E
  unfold xd1 at hd; dsimp only at hd; unfold xdt at hd; dsimp only at hd; simp only [Bool.and_eq_true, decide_eq_true_eq] at hd
  obtain ⟨hdg, rfl, hk⟩ := hd
  rw [Nat.add_sub_cancel_left] at hdg
  intro H locs lsA hR hS hl hc1 hc2
  revert hF; unfold xF; intro hF; dsimp only at hF
  obtain ⟨z1, z2, z3, z4, z5⟩ := hC.2.2.2.2.1
  split at hF
  · simp only [Bool.and_eq_true, decide_eq_true_eq] at hk
    obtain ⟨rfl, hk⟩ := hk
    exact va_gets hx hb z5 hS hown (hts _ (List.mem_of_getElem? hk) rfl) (fun _ z => z) hdg (hF H locs lsA hR hS hl hc1 hc2)
  · simp only [Bool.and_eq_true, Bool.or_eq_true, decide_eq_true_eq] at hk
    rcases hk with (⟨rfl, hk⟩ | ⟨rfl, hk⟩) | ⟨rfl, hk⟩ | ⟨rfl, hk⟩
    · exact va_gets hx hb z1 hS hown (hts _ (List.mem_of_getElem? hk) rfl) (fun _ z => z) hdg (hF H locs lsA hR hS hl hc1 hc2)
    · exact va_gets hx hb z2 hS hown (hts _ (List.mem_of_getElem? hk) rfl) (fun _ z => z) hdg (hF H locs lsA hR hS hl hc1 hc2)
    · exact va_gets hx hb z3 hS hown (hts _ (List.mem_of_getElem? hk) rfl) (fun _ z => z) hdg (hF H locs lsA hR hS hl hc1 hc2)
    · exact va_gets hx hb z4 hS hown (hts _ (List.mem_of_getElem? hk) rfl) (fun _ z => z) hdg (hF H locs lsA hR hS hl hc1 hc2)
  · next n0 n1 =>
    split at hk
    · exact absurd rfl n0
    · exact absurd rfl n1
    · simp only [Bool.and_eq_true, decide_eq_true_eq] at hk
      obtain ⟨rfl, hk⟩ := hk
      rcases hC.2.2.2.2.2.1 with z6 | z6
      · exact va_gets hx hb z6 hS hown (hts _ (List.mem_of_getElem? hk) rfl) (fun _ z => z) hdg (hF.2 H locs lsA hR hS hl hc1 hc2)
      · exact va_gets hx hb z6 hS hown (hts _ (List.mem_of_getElem? hk) rfl) (fun _ z => z) hdg (hF.1 H locs lsA hR hS hl hc1 hc2)
set_option maxHeartbeats 4000000 in
set_option maxRecDepth 100000 in
theorem xz_invokestatic {MC : Nat → List Value → xh → (Option Value → xh → Prop) → Prop} {Qa : Option Value → xh → Prop} {n : Nat} {ini : Bool} {rt : Option FieldType} (E : xEnv p s m args c cc nL own dC dI cA f B h0) (hRs : R.slots ≤ 8000000) (hfr : n + 1 ≤ R.frames) (hlo : 32 * (n + 1) ≤ R.locals) (hini : ini = true → meth.name = "<init>") (hmt : ∀ q ∈ xmt, xmo q = true) (hMC : xCon2 l n MC dC dI cA f B h0)
    (hret : xRet p l e R s m args below meth c QW dC dI cA f B h0 cc rt Qa) {pc : Nat} (x : Nat) {nx a b c' e' f' g' : Nat} {k : Int32} {kl : Int64} {ts : List (Int32 × Nat)} {ls : List (Option Value)} {st : List Value} {h : xh} {kc ks : Nat} (hd : xd1 own nL ini rt cc pc (.invokestatic x, nx, a, b, c', e', f', g', k, kl, ts) = true)
    (hF : xF MC R.cells R.slots Qa (xKW p l e R s m args below meth c QW nL dC dI cA f B h0) (.invokestatic x, nx, a, b, c', e', f', g', k, kl, ts) ls st h kc ks) : xKW p l e R s m args below meth c QW nL dC dI cA f B h0 pc ls st h kc ks := by
  obtain ⟨hx, hb, hml, hown, hts, hK, hC, hf, hB⟩ := id E
  unfold xCon2 at hMC; unfold xd1 at hd; dsimp only at hd; unfold xdt at hd; generalize xmt = X at hd hmt hMC; dsimp only at hd; simp only [Bool.and_eq_true, decide_eq_true_eq] at hd
  obtain ⟨hdg, rfl, hk⟩ := hd
  rw [Nat.add_sub_cancel_left] at hdg
  intro H locs lsA hR hS hl hc1 hc2
  revert hF; unfold xF; intro hF; dsimp only at hF
  split at hF
  · simp only [Bool.and_eq_true, Bool.or_eq_true, decide_eq_true_eq] at hk
    split at hF
    · next n dp d sp s9 r =>
      split at hF
      · exact hF.elim
      · next hble =>
        obtain ⟨k1, k2⟩ := hk
        split at k2
        · next w pl =>
          obtain ⟨⟨⟨g1, g2⟩, ⟨g3, g4⟩, ⟨g5, g6, g7⟩, g8, g9⟩, hF⟩ := hF
          exact xs_copy E hR hS k1 g2 g1 g3 g4 g5 g6 g7 g8 g9 (List.mem_of_getElem? (of_decide_eq_true k2)) hl.1 (by rw [xcs_eq]; exact Nat.le_of_ble_eq_true hble) (by omega) (by omega) hdg (fun H1 locs1 hR1 hS1 => hF H1 locs1 lsA hR1 hS1 hl hc1 hc2)
        · cases k2
    · exact hF.elim
  · next hne =>
    split at hk
    · exact absurd rfl hne
    · split at hF
      · exact hF.elim
      · next hbeq =>
        split at hk
        · next y b9 ml rt9 cd kd na tg mc9 ms9 rc9 ps hq =>
          simp only [Bool.and_eq_true, decide_eq_true_eq] at hk
          obtain ⟨rfl, rfl, rfl, rfl, rfl, hlk⟩ := hk
          have hm := hmt _ (List.mem_of_getElem? hq)
          have hst : st.map (xtv f) = ((xpop na [] st).1.map (xtv f)).reverse ++ (xpop na [] st).2.map (xtv f) := by
            rw [← List.map_reverse, ← List.map_append, xpop_eq]
            rfl
          rw [hst]
          refine xs_cm (av := ((xpop na [] st).1.map (xtv f)).toArray) hF (xmo_00 hm) hS hl hc1 hc2 (fun Q' hmc hcs hb2 => ?_)
          have hM2 := hMC _ _ _ _ _ hq hmc
          dsimp only at hM2
          have hmc2 : kc + mc9 ≤ R.cells ∧ ks + ms9 ≤ R.slots := hb2
          exact xs_runS (n := n) (Q' := Q') (as := (xpop na [] st).1) (r := (xpop na [] st).2) E hR hS hM2 hm hlk (Nat.eq_of_beq_eq_true hbeq) hfr hlo hcs hl.1 hdg hmc2
        · cases hk
set_option maxHeartbeats 4000000 in
set_option maxRecDepth 100000 in
theorem xz_invokevirtual {MC : Nat → List Value → xh → (Option Value → xh → Prop) → Prop} {Qa : Option Value → xh → Prop} {n : Nat} {ini : Bool} {rt : Option FieldType} (E : xEnv p s m args c cc nL own dC dI cA f B h0) (hRs : R.slots ≤ 8000000) (hfr : n + 1 ≤ R.frames) (hlo : 32 * (n + 1) ≤ R.locals) (hini : ini = true → meth.name = "<init>") (hmt : ∀ q ∈ xmt, xmo q = true) (hMC : xCon2 l n MC dC dI cA f B h0)
    (hret : xRet p l e R s m args below meth c QW dC dI cA f B h0 cc rt Qa) {pc : Nat} (x : Nat) {nx a b c' e' f' g' : Nat} {k : Int32} {kl : Int64} {ts : List (Int32 × Nat)} {ls : List (Option Value)} {st : List Value} {h : xh} {kc ks : Nat} (hd : xd1 own nL ini rt cc pc (.invokevirtual x, nx, a, b, c', e', f', g', k, kl, ts) = true)
    (hF : xF MC R.cells R.slots Qa (xKW p l e R s m args below meth c QW nL dC dI cA f B h0) (.invokevirtual x, nx, a, b, c', e', f', g', k, kl, ts) ls st h kc ks) : xKW p l e R s m args below meth c QW nL dC dI cA f B h0 pc ls st h kc ks := by
  obtain ⟨hx, hb, hml, hown, hts, hK, hC, hf, hB⟩ := id E
  unfold xCon2 at hMC; unfold xd1 at hd; dsimp only at hd; unfold xdt at hd; generalize xmt = X at hd hmt hMC; dsimp only at hd; simp only [Bool.and_eq_true, decide_eq_true_eq] at hd
  obtain ⟨hdg, rfl, hk⟩ := hd
  rw [Nat.add_sub_cancel_left] at hdg
  intro H locs lsA hR hS hl hc1 hc2
  revert hF; unfold xF; intro hF; dsimp only at hF
  split at hF
  · next as q r hpop =>
    obtain ⟨hqs, hF⟩ := hF
    split at hk
    · next y b9 ml rt9 cd kd na tg mc9 ms9 rc9 ps hq =>
      simp only [Bool.and_eq_true, decide_eq_true_eq] at hk
      obtain ⟨rfl, rfl, rfl, rfl, rfl, rfl, hlk⟩ := hk
      have hm := hmt _ (List.mem_of_getElem? hq)
      have hst : st.map (xtv f) = (as.map (xtv f)).reverse ++ .ref (f q) :: r.map (xtv f) := by
        have e1 := xpop_eq na [] st
        rw [hpop] at e1
        have e2 : st = as.reverse ++ (.ref q :: r) := e1.symm
        rw [e2, List.map_append, List.map_reverse]
        rfl
      have hlen : as.length = na := by
        have e1 := xpop_len na [] st
        rw [hpop] at e1
        exact e1 (by simp)
      rw [hst]
      split at hlk
      · next pl =>
        refine xs_cm (av := (Value.ref (f q) :: as.map (xtv f)).toArray) hF (xmo_00 hm) hS hl hc1 hc2 (fun Q' hmc hcs hb2 => ?_)
        have hM2 := hMC _ _ _ _ _ hq hmc
        dsimp only at hM2
        have hl2 := List.mem_of_getElem? (of_decide_eq_true hlk)
        have hmc2 : kc + mc9 ≤ R.cells ∧ ks + ms9 ≤ R.slots := hb2
        exact xs_runV (n := n) (Q' := Q') (as := as) (r := r) E hR hS hM2 hm hl2 hqs hlen hfr hlo hcs hl.1 hdg hmc2
      · cases hlk
    · cases hk
  · exact hF.elim
set_option maxHeartbeats 4000000 in
set_option maxRecDepth 100000 in
theorem xz_invokespecial {MC : Nat → List Value → xh → (Option Value → xh → Prop) → Prop} {Qa : Option Value → xh → Prop} {n : Nat} {ini : Bool} {rt : Option FieldType} (E : xEnv p s m args c cc nL own dC dI cA f B h0) (hRs : R.slots ≤ 8000000) (hfr : n + 1 ≤ R.frames) (hlo : 32 * (n + 1) ≤ R.locals) (hini : ini = true → meth.name = "<init>") (hmt : ∀ q ∈ xmt, xmo q = true) (hMC : xCon2 l n MC dC dI cA f B h0)
    (hret : xRet p l e R s m args below meth c QW dC dI cA f B h0 cc rt Qa) {pc : Nat} (x : Nat) {nx a b c' e' f' g' : Nat} {k : Int32} {kl : Int64} {ts : List (Int32 × Nat)} {ls : List (Option Value)} {st : List Value} {h : xh} {kc ks : Nat} (hd : xd1 own nL ini rt cc pc (.invokespecial x, nx, a, b, c', e', f', g', k, kl, ts) = true)
    (hF : xF MC R.cells R.slots Qa (xKW p l e R s m args below meth c QW nL dC dI cA f B h0) (.invokespecial x, nx, a, b, c', e', f', g', k, kl, ts) ls st h kc ks) : xKW p l e R s m args below meth c QW nL dC dI cA f B h0 pc ls st h kc ks := by
  obtain ⟨hx, hb, hml, hown, hts, hK, hC, hf, hB⟩ := id E
  unfold xCon2 at hMC; unfold xd1 at hd; dsimp only at hd; unfold xdt at hd; generalize xmt = X at hd hmt hMC; dsimp only at hd; simp only [Bool.and_eq_true, decide_eq_true_eq] at hd
  obtain ⟨hdg, rfl, hk⟩ := hd
  rw [Nat.add_sub_cancel_left] at hdg
  intro H locs lsA hR hS hl hc1 hc2
  revert hF; unfold xF; intro hF; dsimp only at hF
  split at hF
  · next as q r hpop =>
    have hst : st.map (xtv f) = (as.map (xtv f)).reverse ++ .ref (f q) :: r.map (xtv f) := by
      have e1 := xpop_eq b [] st
      rw [hpop] at e1
      have e2 : st = as.reverse ++ (.ref q :: r) := e1.symm
      rw [e2, List.map_append, List.map_reverse]
      rfl
    have hlen : as.length = b := by
      have e1 := xpop_len b [] st
      rw [hpop] at e1
      exact e1 (by simp)
    rw [hst]
    split at hF
    · simp only [Bool.and_eq_true, decide_eq_true_eq] at hk
      obtain ⟨rfl, hk⟩ := hk
      have has : as = [] := List.eq_nil_of_length_eq_zero hlen
      subst has
      split at hF
      · exact hF.elim
      · next hble =>
        split at hk
        · next w pl =>
          refine W.objInit hx hb hown (hts _ (List.mem_of_getElem? (of_decide_eq_true hk)) rfl) (hts _ xobj_in.1 rfl) (hts _ xobj_in.2 rfl) rfl (by rw [hml]; exact hl.1) rfl hdg (by omega) ?_ (hF H locs lsA hR hS hl hc1 hc2)
          show 2 * 0 + ((r.map (xtv f)).map fun v => v.category).sum + 12 ≤ R.locals
          rw [xcs_eq]
          have := Nat.le_of_ble_eq_true hble
          omega
        · cases hk
    · next hne =>
      obtain ⟨hqs, hF⟩ := hF
      split at hk
      · exact absurd rfl hne
      · split at hk
        · next y b9 ml rt9 cd kd na tg mc9 ms9 rc9 ps hq =>
          simp only [Bool.and_eq_true, decide_eq_true_eq] at hk
          obtain ⟨rfl, rfl, rfl, rfl, e3, rfl, rfl, hlk⟩ := hk
          have hm := hmt _ (List.mem_of_getElem? hq)
          refine xs_cm (av := (Value.ref (f q) :: as.map (xtv f)).toArray) hF (xmo_00 hm) hS hl hc1 hc2 (fun Q' hmc hcs hb2 => ?_)
          have hM2 := hMC _ _ _ _ _ hq hmc
          dsimp only at hM2
          have hmc2 : kc + mc9 ≤ R.cells ∧ ks + ms9 ≤ R.slots := hb2
          exact xs_runI (n := n) (Q' := Q') (as := as) (r := r) E hR hS hM2 hm hlk hlen hfr hlo hcs hl.1 hdg hmc2
        · cases hk
  · exact hF.elim
set_option maxHeartbeats 4000000 in
set_option maxRecDepth 100000 in
theorem xz_ireturn {MC : Nat → List Value → xh → (Option Value → xh → Prop) → Prop} {Qa : Option Value → xh → Prop} {n : Nat} {ini : Bool} {rt : Option FieldType} (E : xEnv p s m args c cc nL own dC dI cA f B h0) (hRs : R.slots ≤ 8000000) (hfr : n + 1 ≤ R.frames) (hlo : 32 * (n + 1) ≤ R.locals) (hini : ini = true → meth.name = "<init>") (hmt : ∀ q ∈ xmt, xmo q = true) (hMC : xCon2 l n MC dC dI cA f B h0)
    (hret : xRet p l e R s m args below meth c QW dC dI cA f B h0 cc rt Qa) {pc : Nat}  {nx a b c' e' f' g' : Nat} {k : Int32} {kl : Int64} {ts : List (Int32 × Nat)} {ls : List (Option Value)} {st : List Value} {h : xh} {kc ks : Nat} (hd : xd1 own nL ini rt cc pc (.ireturn, nx, a, b, c', e', f', g', k, kl, ts) = true)
    (hF : xF MC R.cells R.slots Qa (xKW p l e R s m args below meth c QW nL dC dI cA f B h0) (.ireturn, nx, a, b, c', e', f', g', k, kl, ts) ls st h kc ks) : xKW p l e R s m args below meth c QW nL dC dI cA f B h0 pc ls st h kc ks := by
  obtain ⟨hx, hb, hml, hown, hts, hK, hC, hf, hB⟩ := id E
  unfold xd1 at hd; dsimp only at hd; unfold xdt at hd; dsimp only at hd; simp only [Bool.and_eq_true, decide_eq_true_eq] at hd
  obtain ⟨hdg, rfl, hk⟩ := hd
  rw [Nat.add_sub_cancel_left] at hdg
  intro H locs lsA hR hS hl hc1 hc2
  revert hF; unfold xF; intro hF; dsimp only at hF
  split at hF
  · next x =>
    split at hF
    · refine hret (some (.int x)) h H locs lsA kc ks pc .ireturn hdg (Or.inl ⟨rfl, x, .int, rfl, of_decide_eq_true hk, rfl⟩) hF hR hS hc1 hc2
    · next hne =>
      obtain ⟨hn, hF⟩ := hF
      split at hk
      · exact absurd rfl hne
      · refine hret (some (.int x)) h H locs lsA kc ks pc .ireturn hdg (Or.inl ⟨rfl, x, .boolean, rfl, of_decide_eq_true hk, ?_⟩) hF hR hS hc1 hc2
        rcases (show x = 0 ∨ x = 1 from hn) with z | z <;> rw [z] <;> rfl
      · refine hret (some (.int x)) h H locs lsA kc ks pc .ireturn hdg (Or.inl ⟨rfl, x, .byte, rfl, of_decide_eq_true hk, ?_⟩) hF hR hS hc1 hc2
        show Value.int x.toInt8.toInt32 = .int x
        rw [show x.toInt8.toInt32 = x from hn]
      · next n0 n1 n2 =>
        have hn' : (x.toUInt32 % 65536).toInt32 = x := by
          unfold xnar at hn
          split at hn
          · exact absurd rfl n0
          · exact absurd rfl n1
          · exact absurd rfl n2
          · exact hn
        refine hret (some (.int x)) h H locs lsA kc ks pc .ireturn hdg (Or.inl ⟨rfl, x, .char, rfl, of_decide_eq_true hk, ?_⟩) hF hR hS hc1 hc2
        have := pk_nc x
        rw [hn'] at this
        exact this
  · exact hF.elim
set_option maxHeartbeats 4000000 in
set_option maxRecDepth 100000 in
theorem xz_lreturn {MC : Nat → List Value → xh → (Option Value → xh → Prop) → Prop} {Qa : Option Value → xh → Prop} {n : Nat} {ini : Bool} {rt : Option FieldType} (E : xEnv p s m args c cc nL own dC dI cA f B h0) (hRs : R.slots ≤ 8000000) (hfr : n + 1 ≤ R.frames) (hlo : 32 * (n + 1) ≤ R.locals) (hini : ini = true → meth.name = "<init>") (hmt : ∀ q ∈ xmt, xmo q = true) (hMC : xCon2 l n MC dC dI cA f B h0)
    (hret : xRet p l e R s m args below meth c QW dC dI cA f B h0 cc rt Qa) {pc : Nat}  {nx a b c' e' f' g' : Nat} {k : Int32} {kl : Int64} {ts : List (Int32 × Nat)} {ls : List (Option Value)} {st : List Value} {h : xh} {kc ks : Nat} (hd : xd1 own nL ini rt cc pc (.lreturn, nx, a, b, c', e', f', g', k, kl, ts) = true)
    (hF : xF MC R.cells R.slots Qa (xKW p l e R s m args below meth c QW nL dC dI cA f B h0) (.lreturn, nx, a, b, c', e', f', g', k, kl, ts) ls st h kc ks) : xKW p l e R s m args below meth c QW nL dC dI cA f B h0 pc ls st h kc ks := by
  obtain ⟨hx, hb, hml, hown, hts, hK, hC, hf, hB⟩ := id E
  unfold xd1 at hd; dsimp only at hd; unfold xdt at hd; dsimp only at hd; simp only [Bool.and_eq_true, decide_eq_true_eq] at hd
  obtain ⟨hdg, rfl, hk⟩ := hd
  rw [Nat.add_sub_cancel_left] at hdg
  intro H locs lsA hR hS hl hc1 hc2
  revert hF; unfold xF; intro hF; dsimp only at hF
  split at hF
  · next x => exact hret (some (.long x)) h H locs lsA kc ks pc .lreturn hdg (Or.inr (Or.inl ⟨rfl, ⟨x, rfl⟩, hk⟩)) hF hR hS hc1 hc2
  · exact hF.elim
set_option maxHeartbeats 4000000 in
set_option maxRecDepth 100000 in
theorem xz_areturn {MC : Nat → List Value → xh → (Option Value → xh → Prop) → Prop} {Qa : Option Value → xh → Prop} {n : Nat} {ini : Bool} {rt : Option FieldType} (E : xEnv p s m args c cc nL own dC dI cA f B h0) (hRs : R.slots ≤ 8000000) (hfr : n + 1 ≤ R.frames) (hlo : 32 * (n + 1) ≤ R.locals) (hini : ini = true → meth.name = "<init>") (hmt : ∀ q ∈ xmt, xmo q = true) (hMC : xCon2 l n MC dC dI cA f B h0)
    (hret : xRet p l e R s m args below meth c QW dC dI cA f B h0 cc rt Qa) {pc : Nat}  {nx a b c' e' f' g' : Nat} {k : Int32} {kl : Int64} {ts : List (Int32 × Nat)} {ls : List (Option Value)} {st : List Value} {h : xh} {kc ks : Nat} (hd : xd1 own nL ini rt cc pc (.areturn, nx, a, b, c', e', f', g', k, kl, ts) = true)
    (hF : xF MC R.cells R.slots Qa (xKW p l e R s m args below meth c QW nL dC dI cA f B h0) (.areturn, nx, a, b, c', e', f', g', k, kl, ts) ls st h kc ks) : xKW p l e R s m args below meth c QW nL dC dI cA f B h0 pc ls st h kc ks := by
  obtain ⟨hx, hb, hml, hown, hts, hK, hC, hf, hB⟩ := id E
  unfold xd1 at hd; dsimp only at hd; unfold xdt at hd; dsimp only at hd; simp only [Bool.and_eq_true, decide_eq_true_eq] at hd
  obtain ⟨hdg, rfl, hk⟩ := hd
  rw [Nat.add_sub_cancel_left] at hdg
  intro H locs lsA hR hS hl hc1 hc2
  revert hF; unfold xF; intro hF; dsimp only at hF
  have hty : ∃ ty, rt = some ty ∧ ((∃ n, ty = .object n) ∨ ∃ t, ty = .array t) := by
    split at hk
    · next n => exact ⟨_, rfl, Or.inl ⟨n, rfl⟩⟩
    · next t => exact ⟨_, rfl, Or.inr ⟨t, rfl⟩⟩
    · cases hk
  split at hF
  · next x => exact hret (some (.ref x)) h H locs lsA kc ks pc .areturn hdg (Or.inr (Or.inr (Or.inl ⟨rfl, Or.inl ⟨x, rfl⟩, hty⟩))) hF hR hS hc1 hc2
  · exact hret (some .null) h H locs lsA kc ks pc .areturn hdg (Or.inr (Or.inr (Or.inl ⟨rfl, Or.inr rfl, hty⟩))) hF hR hS hc1 hc2
  · exact hF.elim
set_option maxHeartbeats 4000000 in
set_option maxRecDepth 100000 in
theorem xz_return_ {MC : Nat → List Value → xh → (Option Value → xh → Prop) → Prop} {Qa : Option Value → xh → Prop} {n : Nat} {ini : Bool} {rt : Option FieldType} (E : xEnv p s m args c cc nL own dC dI cA f B h0) (hRs : R.slots ≤ 8000000) (hfr : n + 1 ≤ R.frames) (hlo : 32 * (n + 1) ≤ R.locals) (hini : ini = true → meth.name = "<init>") (hmt : ∀ q ∈ xmt, xmo q = true) (hMC : xCon2 l n MC dC dI cA f B h0)
    (hret : xRet p l e R s m args below meth c QW dC dI cA f B h0 cc rt Qa) {pc : Nat}  {nx a b c' e' f' g' : Nat} {k : Int32} {kl : Int64} {ts : List (Int32 × Nat)} {ls : List (Option Value)} {st : List Value} {h : xh} {kc ks : Nat} (hd : xd1 own nL ini rt cc pc (.return_, nx, a, b, c', e', f', g', k, kl, ts) = true)
    (hF : xF MC R.cells R.slots Qa (xKW p l e R s m args below meth c QW nL dC dI cA f B h0) (.return_, nx, a, b, c', e', f', g', k, kl, ts) ls st h kc ks) : xKW p l e R s m args below meth c QW nL dC dI cA f B h0 pc ls st h kc ks := by
  obtain ⟨hx, hb, hml, hown, hts, hK, hC, hf, hB⟩ := id E
  unfold xd1 at hd; dsimp only at hd; unfold xdt at hd; dsimp only at hd; simp only [Bool.and_eq_true, decide_eq_true_eq] at hd
  obtain ⟨hdg, rfl, hk⟩ := hd
  rw [Nat.add_sub_cancel_left] at hdg
  intro H locs lsA hR hS hl hc1 hc2
  revert hF; unfold xF; intro hF; dsimp only at hF
  split at hF
  · exact hret none h H locs lsA kc ks pc .return_ hdg (Or.inr (Or.inr (Or.inr ⟨rfl, rfl, hk⟩))) hF hR hS hc1 hc2
  · exact hF.elim
set_option maxHeartbeats 32000000 in
set_option maxRecDepth 100000 in
theorem xs_step {MC : Nat → List Value → xh → (Option Value → xh → Prop) → Prop} {Qa : Option Value → xh → Prop} {n : Nat} {ini : Bool} {rt : Option FieldType} (E : xEnv p s m args c cc nL own dC dI cA f B h0) (hRs : R.slots ≤ 8000000) (hfr : n + 1 ≤ R.frames) (hlo : 32 * (n + 1) ≤ R.locals) (hini : ini = true → meth.name = "<init>") (hmt : ∀ q ∈ xmt, xmo q = true) (hMC : xCon2 l n MC dC dI cA f B h0)
    (hret : xRet p l e R s m args below meth c QW dC dI cA f B h0 cc rt Qa) {pc : Nat} {o : xop} {ls : List (Option Value)} {st : List Value} {h : xh} {kc ks : Nat} (hd : xd1 own nL ini rt cc pc o = true)
    (hF : xF MC R.cells R.slots Qa (xKW p l e R s m args below meth c QW nL dC dI cA f B h0) o ls st h kc ks) : xKW p l e R s m args below meth c QW nL dC dI cA f B h0 pc ls st h kc ks := by
  obtain ⟨i, nx, a, b, c', e', f', g', k, kl, ts⟩ := o
  cases i
  case iconst n => exact xz_iconst E hRs hfr hlo hini hmt hMC hret n hd hF
  case bipush n => exact xz_bipush E hRs hfr hlo hini hmt hMC hret n hd hF
  case sipush n => exact xz_sipush E hRs hfr hlo hini hmt hMC hret n hd hF
  case lconst n => exact xz_lconst E hRs hfr hlo hini hmt hMC hret n hd hF
  case ldc_w x => exact xz_ldc_w E hRs hfr hlo hini hmt hMC hret x hd hF
  case ldc2_w x => exact xz_ldc2_w E hRs hfr hlo hini hmt hMC hret x hd hF
  case ldc x => exact xz_ldc E hRs hfr hlo hini hmt hMC hret x hd hF
  case aconst_null => exact xz_aconst_null E hRs hfr hlo hini hmt hMC hret hd hF
  case iload n => exact xz_iload E hRs hfr hlo hini hmt hMC hret n hd hF
  case iload_n n => exact xz_iload_n E hRs hfr hlo hini hmt hMC hret n hd hF
  case lload n => exact xz_lload E hRs hfr hlo hini hmt hMC hret n hd hF
  case lload_n n => exact xz_lload_n E hRs hfr hlo hini hmt hMC hret n hd hF
  case aload n => exact xz_aload E hRs hfr hlo hini hmt hMC hret n hd hF
  case aload_n n => exact xz_aload_n E hRs hfr hlo hini hmt hMC hret n hd hF
  case istore n => exact xz_istore E hRs hfr hlo hini hmt hMC hret n hd hF
  case istore_n n => exact xz_istore_n E hRs hfr hlo hini hmt hMC hret n hd hF
  case lstore n => exact xz_lstore E hRs hfr hlo hini hmt hMC hret n hd hF
  case lstore_n n => exact xz_lstore_n E hRs hfr hlo hini hmt hMC hret n hd hF
  case astore n => exact xz_astore E hRs hfr hlo hini hmt hMC hret n hd hF
  case astore_n n => exact xz_astore_n E hRs hfr hlo hini hmt hMC hret n hd hF
  case iinc n d => exact xz_iinc E hRs hfr hlo hini hmt hMC hret n d hd hF
  case iadd => exact xz_iadd E hRs hfr hlo hini hmt hMC hret hd hF
  case isub => exact xz_isub E hRs hfr hlo hini hmt hMC hret hd hF
  case imul => exact xz_imul E hRs hfr hlo hini hmt hMC hret hd hF
  case iand => exact xz_iand E hRs hfr hlo hini hmt hMC hret hd hF
  case ior => exact xz_ior E hRs hfr hlo hini hmt hMC hret hd hF
  case ixor => exact xz_ixor E hRs hfr hlo hini hmt hMC hret hd hF
  case ishl => exact xz_ishl E hRs hfr hlo hini hmt hMC hret hd hF
  case ishr => exact xz_ishr E hRs hfr hlo hini hmt hMC hret hd hF
  case ineg => exact xz_ineg E hRs hfr hlo hini hmt hMC hret hd hF
  case ladd => exact xz_ladd E hRs hfr hlo hini hmt hMC hret hd hF
  case lmul => exact xz_lmul E hRs hfr hlo hini hmt hMC hret hd hF
  case lor => exact xz_lor E hRs hfr hlo hini hmt hMC hret hd hF
  case iushr => exact xz_iushr E hRs hfr hlo hini hmt hMC hret hd hF
  case lshl => exact xz_lshl E hRs hfr hlo hini hmt hMC hret hd hF
  case i2l => exact xz_i2l E hRs hfr hlo hini hmt hMC hret hd hF
  case l2i => exact xz_l2i E hRs hfr hlo hini hmt hMC hret hd hF
  case i2b => exact xz_i2b E hRs hfr hlo hini hmt hMC hret hd hF
  case i2c => exact xz_i2c E hRs hfr hlo hini hmt hMC hret hd hF
  case idiv => exact xz_idiv E hRs hfr hlo hini hmt hMC hret hd hF
  case irem => exact xz_irem E hRs hfr hlo hini hmt hMC hret hd hF
  case ldiv => exact xz_ldiv E hRs hfr hlo hini hmt hMC hret hd hF
  case lrem => exact xz_lrem E hRs hfr hlo hini hmt hMC hret hd hF
  case lcmp => exact xz_lcmp E hRs hfr hlo hini hmt hMC hret hd hF
  case dup => exact xz_dup E hRs hfr hlo hini hmt hMC hret hd hF
  case pop => exact xz_pop E hRs hfr hlo hini hmt hMC hret hd hF
  case dup2 => exact xz_dup2 E hRs hfr hlo hini hmt hMC hret hd hF
  case goto off => exact xz_goto E hRs hfr hlo hini hmt hMC hret off hd hF
  case ifCond cd off => exact xz_ifCond E hRs hfr hlo hini hmt hMC hret cd off hd hF
  case if_icmp cd off => exact xz_if_icmp E hRs hfr hlo hini hmt hMC hret cd off hd hF
  case if_acmp cd off => exact xz_if_acmp E hRs hfr hlo hini hmt hMC hret cd off hd hF
  case ifnonnull off => exact xz_ifnonnull E hRs hfr hlo hini hmt hMC hret off hd hF
  case ifnull off => exact xz_ifnull E hRs hfr hlo hini hmt hMC hret off hd hF
  case tableswitch d lo hi offs => exact xz_tableswitch E hRs hfr hlo hini hmt hMC hret d lo hi offs hd hF
  case arraylength => exact xz_arraylength E hRs hfr hlo hini hmt hMC hret hd hF
  case iaload => exact xz_iaload E hRs hfr hlo hini hmt hMC hret hd hF
  case laload => exact xz_laload E hRs hfr hlo hini hmt hMC hret hd hF
  case baload => exact xz_baload E hRs hfr hlo hini hmt hMC hret hd hF
  case aaload => exact xz_aaload E hRs hfr hlo hini hmt hMC hret hd hF
  case iastore => exact xz_iastore E hRs hfr hlo hini hmt hMC hret hd hF
  case lastore => exact xz_lastore E hRs hfr hlo hini hmt hMC hret hd hF
  case bastore => exact xz_bastore E hRs hfr hlo hini hmt hMC hret hd hF
  case aastore => exact xz_aastore E hRs hfr hlo hini hmt hMC hret hd hF
  case newarray t => exact xz_newarray E hRs hfr hlo hini hmt hMC hret t hd hF
  case anewarray x => exact xz_anewarray E hRs hfr hlo hini hmt hMC hret x hd hF
  case new x => exact xz_new E hRs hfr hlo hini hmt hMC hret x hd hF
  case getfield x => exact xz_getfield E hRs hfr hlo hini hmt hMC hret x hd hF
  case putfield x => exact xz_putfield E hRs hfr hlo hini hmt hMC hret x hd hF
  case getstatic x => exact xz_getstatic E hRs hfr hlo hini hmt hMC hret x hd hF
  case invokestatic x => exact xz_invokestatic E hRs hfr hlo hini hmt hMC hret x hd hF
  case invokevirtual x => exact xz_invokevirtual E hRs hfr hlo hini hmt hMC hret x hd hF
  case invokespecial x => exact xz_invokespecial E hRs hfr hlo hini hmt hMC hret x hd hF
  case ireturn => exact xz_ireturn E hRs hfr hlo hini hmt hMC hret hd hF
  case lreturn => exact xz_lreturn E hRs hfr hlo hini hmt hMC hret hd hF
  case areturn => exact xz_areturn E hRs hfr hlo hini hmt hMC hret hd hF
  case return_ => exact xz_return_ E hRs hfr hlo hini hmt hMC hret hd hF
  all_goals exact (show False from hF).elim
end XST
end
section
/-! THE METHODS: a call of the abstract machine is a contract of the machine -/
def xnd (as : List Value) : Bool := as.all (fun v => match v with
  | .double _ => false
  | _ => true)
/-- a call of method j, with n frames of room -/
def xMC : Nat → Nat → List Value → xh → (Option Value → xh → Prop) → Prop
  | 0, _, _, _, _ => False
  | n + 1, j, as, h, Q => ∃ q : xme, xmt[j]? = some q ∧ (Nat.ble (xarg as).length q.2.2.1 && xnd as) = true ∧ xW (xMC n) q.2.2.2.2.1 q.2.2.2.2.2.2.2.2.1 q.2.2.2.2.2.2.2.2.2.1 Q 0 (xpad q.2.2.1 (xarg as)) [] h 0 0
theorem xMC_mono : ∀ n, xMono (xMC n)
  | 0 => fun _ _ _ _ _ _ h => h
  | n + 1 => fun j as h Q Q' hQ hm => by
    obtain ⟨q, h1, h2, h3⟩ := hm
    exact ⟨q, h1, h2, xW_mono (xMC_mono n) hQ h3⟩
theorem xnd_of {as : List Value} (h : xnd as = true) : ∀ a ∈ as, ∀ x, a ≠ .double x := by
  intro a ha x e
  have := List.all_eq_true.mp h a ha
  rw [e] at this
  cases this
theorem xsl_len (f : Nat → Nat) : ∀ as : List Value, xnd as = true → (lg_sl (as.map (xtv f))).length = (xarg as).length
  | [], _ => rfl
  | v :: r, h => by
    have h2 : xnd r = true := by
      have := List.all_eq_true.mp h
      exact List.all_eq_true.mpr fun a ha => this a (List.mem_cons_of_mem _ ha)
    have ih := xsl_len f r h2
    have e : ∀ (a : Value) (l : List Value), (lg_sl (a :: l)).length = (if a.category = 2 then 2 else 1) + (lg_sl l).length := by
      intro a l
      simp [lg_sl]
      split <;> rfl
    rw [List.map_cons, e, ih]
    cases v with
    | double x => exact absurd rfl (xnd_of h _ List.mem_cons_self x)
    | long x => show 2 + (xarg r).length = (xarg r).length + 1 + 1; omega
    | int x => show 1 + (xarg r).length = (xarg r).length + 1; omega
    | float x => show 1 + (xarg r).length = (xarg r).length + 1; omega
    | null => show 1 + (xarg r).length = (xarg r).length + 1; omega
    | ref x => show 1 + (xarg r).length = (xarg r).length + 1; omega
    | retAddr x => show 1 + (xarg r).length = (xarg r).length + 1; omega
theorem xlv_entry (f : Nat → Nat) {as : List Value} {nL : Nat} (h1 : (xarg as).length ≤ nL) (h2 : xnd as = true) : xlv f ((lg_sl (as.map (xtv f)) ++ List.replicate (nL - (lg_sl (as.map (xtv f))).length) Slot.unset).toArray) nL (xpad nL (xarg as)) := by
  have he := lv_entry (as.map (xtv f)) (n := nL) (by rw [xsl_len f as h2]; exact h1)
  refine ⟨he.1, he.2.1, fun q hq => he.2.2 q ?_⟩
  obtain ⟨i, v, e1, e2⟩ := xents_of f _ 0 q hq
  subst e1
  exact xarg_in f as 0 i v (xnd_of h2) (xpad_get _ _ _ _ e2)
set_option maxHeartbeats 4000000 in
theorem xMC_met {l : Launch} {dC : Nat → ClassId} {dI : Nat → Nat → Nat} {cA : Nat → ClassId} {f : Nat → Nat} {B : Nat} {h0 : xh} (hf : ∀ k, 64 ≤ k → f k = B + (k - 64)) (hmt : ∀ q ∈ xmt, xmo q = true) (hmd : ∀ q ∈ xmt, xmd q = true) : ∀ n, xCon2 l n (xMC n) dC dI cA f B h0
  | 0 => fun _ _ _ _ _ _ hm => (show False from hm).elim
  | n + 1 => by
    intro j q as h Q' hq hm
    obtain ⟨q', hq', hlen, hw⟩ := hm
    have eq : q' = q := Option.some.inj (hq'.symm.trans hq)
    subst eq
    have hmo := hmt q' (List.mem_of_getElem? hq)
    have hmdq := hmd q' (List.mem_of_getElem? hq)
    clear hq hq'
    obtain ⟨y, b, ml, rt, cd, kd, na, tg, mc, ms, rc, ps⟩ := q'
    dsimp only at hlen hw ⊢
    simp only [Bool.and_eq_true] at hlen
    have hlen1 : (xarg as).length ≤ ml := Nat.le_of_ble_eq_true hlen.1
    have hmo2 := hmo
    unfold xmo at hmo2
    split at hmo2
    next y' b' ml' rt' cd' kd' na' tg' mc' ms' rc' p0 p1 p2 p3 heq =>
      simp only [Prod.mk.injEq] at heq
      obtain ⟨rfl, rfl, rfl, rfl, rfl, rfl, rfl, rfl, rfl, rfl, rfl, rfl⟩ := heq
      simp only [Bool.and_eq_true, decide_eq_true_eq] at hmo2
      obtain ⟨-, -, -, -, -, m6, m7, m8, -, m10, -⟩ := hmo2
      refine Met.ofW (cc := b) (maxL := ml) (ret := rt) m8 rfl ?_
      intro p e s m args below meth c s₁ Bd hml hv
      obtain ⟨rfl, hK, hC, hR, hB⟩ := hv
      have hts0 := atoms_spec (ws := Cond.code y b ml rt :: lw_tbl.filter goodWord) Bd.pre
      have E : xEnv p s m (as.map (xtv f)).toArray c b ml y.cls dC dI cA f B h0 := ⟨Bd.exec, Bd.bytes, hml, findClass_of_methodNamed Bd.named, fun w h1 h2 => hts0 w (List.mem_cons_of_mem _ (List.mem_filter.mpr ⟨h1, h2⟩)), hK, hC, hf, hB⟩
      have hr := Bd.returns
      have hlocks := Bd.notSynchronized
      have hret : xRet p l e ({ frames := n + 1, cells := mc, slots := ms, locals := 32 * (n + 1) } : Room) s m (as.map (xtv f)).toArray below meth c (MQ below (xQc dC dI cA f B h0 Q') (as.map (xtv f)).toArray s mc ms (xA B)) dC dI cA f B h0 b rt Q' := by
        intro v h' H locs lsA kc ks pc i hdg hok hq hR' hS' hc1 hc2
        have hQ : ∀ t : State, t.heap = H → s.WarmedH t.vm → xQc dC dI cA f B h0 Q' (as.map (xtv f)).toArray s (.returned (v.map (xtv f))) t := fun t ht _ => ⟨⟨v, h', rfl, hq, by rw [ht]; exact hR'⟩, ⟨by rw [ht]; exact hS'.1, fun q h1 h2 => by rw [ht]; exact hS'.2.1 q h1 h2⟩⟩
        refine W.widen (k := mc) (n := ms) hc1 hc2 ?_
        rcases hok with ⟨rfl, x, ty, rfl, rfl, hn⟩ | ⟨rfl, ⟨x, rfl⟩, rfl⟩ | ⟨rfl, hv, ty, rfl, hty⟩ | ⟨rfl, rfl, rfl⟩
        · exact W.zret Bd.exec Bd.bytes hr hn hQ hS'.2.2 hdg hlocks
        · exact W.lret Bd.exec Bd.bytes hr hQ hS'.2.2 hdg hlocks
        · rcases hv with ⟨x, rfl⟩ | rfl
          · exact W.aret Bd.exec Bd.bytes hr hty (Or.inr ⟨_, rfl⟩) hQ hS'.2.2 hdg hlocks
          · exact W.aret Bd.exec Bd.bytes hr hty (Or.inl rfl) hQ hS'.2.2 hdg hlocks
        · exact W.vret Bd.exec Bd.bytes hr hQ hS'.2.2 hdg hlocks
      have hini : decide (y.name = "<init>") = true → meth.name = "<init>" := fun z => by rw [(name_of_methodNamed Bd.named Bd.method).1]; exact of_decide_eq_true z
      have key := hw (xKW p l e ({ frames := n + 1, cells := mc, slots := ms, locals := 32 * (n + 1) } : Room) s m (as.map (xtv f)).toArray below meth c (MQ below (xQc dC dI cA f B h0 Q') (as.map (xtv f)).toArray s mc ms (xA B)) ml dC dI cA f B h0) (fun pc ls st h kc ks hF => xs_step (n := n) E m10 (Nat.le_refl _) (Nat.le_refl _) hini hmt (xMC_met hf hmt hmd n) hret (xd_at hmdq pc) hF)
      rw [lg_entry_eq]
      exact key s.heap [] _ hR va_S.rf (xlv_entry f hlen1 hlen.2) (Nat.zero_le _) (Nat.zero_le _)
    next => cases hmo2
end
section
/-! THE START: the abstract heap at the law's entry, and the law out of the abstract machine -/
def xtab : List (List Int32) := [[0, 10, 15, 17, 20], [4, 4, 4, 4, 3, 2, 1, 1, 1, 1, 1, 1, 1, 0, 0, 2, 1, 1, 2, 3], [0, 0, 0, 0, 0, 0, 0, 0, 0, 0, 0, 0, 0, 0, 0, 0, 0, 0, 0, 0, 0, 0, 0, 0, 0, 0, 0, 0, 1, 0, 0, 0, 0, 0, 0, 0, 1, 0, 0, 0, 0, 0, 0, 0, 1, 0, 0, 0, 1, 0, 0, 0, 0, 0, 0, 0, 0, 0, 0, 0, 0, 0, 0, 0, 0, 0, 0, 0, 1, 0, 0, 0, 1, 0, 0, 0, 0, 0, 0, 0], [9, 9, 20, 20, 9, 9, 20, 20, 9, 9, 20, 20, 9, 9, 20, 20, 8, 8, 9, 0, 9, 9, 0, 0, 99, 0, 0, 0, 9, 0, 0, 0, 99, 0, 0, 0, 30, 0, 0, 0, 8, 0, 0, 0, 40, 0, 0, 0, 60, 0, 0, 0, 0, 0, 0, 0, 0, 0, 0, 0, 99, 99, 0, 0, 99, 0, 0, 0, 20, 0, 0, 0, 20, 9, 0, 0, 9, 9, 20, 0]]
def xbyt : List (List Int32) := [[115, 111, 99, 107, 115], [103, 108, 111, 118, 101, 115], [98, 97, 103, 115], [101, 118, 101, 110], [99, 114, 111, 119, 100, 101, 100], [101, 109, 112, 116, 121], [108, 97, 115, 116], [102, 111, 108, 108, 111, 119], [104, 111, 109, 101], [115, 111, 117, 112], [112, 97, 99, 101], [99, 111, 108, 100], [116, 97, 108, 107], [100, 114, 105, 118, 101], [108, 97, 100, 108, 101], [119, 97, 105, 116], [114, 101, 116, 117, 114, 110], [110, 105, 103, 104, 116], [97, 115, 107, 101, 100], [115, 104, 111, 101], [102, 111, 111, 116], [104, 105, 100, 101]]
def xsln : List Nat := [5, 6, 4, 4, 7, 5, 4, 6, 4, 4, 4, 4, 4, 5, 5, 4, 6, 5, 5, 4, 4, 4]
def xsix : List Nat := [140, 145, 147, 212, 214, 216, 218, 220, 222, 224, 225, 226, 227, 228, 230, 232, 234, 236, 238, 240, 242, 244]
def xh0 (L : Nat) (xs : Nat → Int32) : xh :=
  (fun k j => if k = 0 then xs j else if k < 5 then (xtab.getD (k - 1) []).getD j 0 else if 32 ≤ k ∧ k < 54 then (xbyt.getD (k - 32) []).getD j 0 else 0,
   fun _ _ => 0,
   fun k j => if (8 ≤ k ∧ k < 30) ∧ j = 0 then some (k + 24) else none,
   fun k => if k = 0 then (20, L) else if k < 5 then (20, (xtab.getD (k - 1) []).length) else if 8 ≤ k ∧ k < 30 then (30, 0) else if 32 ≤ k ∧ k < 54 then (21, xsln.getD (k - 32) 0) else (99, 0),
   64)
def xgn : Jvm.Cond := Jvm.Cond.and given_1 narrow_1
def xsm (i : Nat) : Term := Term.string "SoupNine$Reader" (xsix.getD i 0)
def xtn : List String := ["FIRST_CODE", "NUMBERS", "LOWEST", "HIGHEST"]
theorem xq_t0 : (flatC xgn)[5]? = some (Cond.arrayOf (.static "SoupNine$Reader" (xtn.getD 0 "") "[I") .int) ∧ (flatC xgn)[6]? = some (Cond.eq (.length (.static "SoupNine$Reader" (xtn.getD 0 "") "[I")) (.int (Int32.ofNat (xtab.getD 0 []).length))) := by decide +kernel
theorem xq_e0_0 : ∀ j, j < 5 → (flatC xgn)[([7, 8, 9, 10, 11] : List Nat).getD j 0]? = some (Cond.eq (.elem (.static "SoupNine$Reader" (xtn.getD 0 "") "[I") (.int (Int32.ofNat (0 + j)))) (.int ((xtab.getD 0 []).getD (0 + j) 0))) := by decide +kernel
theorem xq_f0 : ∀ j, j < 5 → Cond.eq (.elem (.static "SoupNine$Reader" (xtn.getD 0 "") "[I") (.int (Int32.ofNat j))) (.int ((xtab.getD 0 []).getD j 0)) ∈ flatC xgn := by
  intro j hj
  have := List.mem_of_getElem? (xq_e0_0 (j - 0) (by omega))
  rw [show 0 + (j - 0) = j by omega] at this
  exact this
theorem xq_t1 : (flatC xgn)[18]? = some (Cond.arrayOf (.static "SoupNine$Reader" (xtn.getD 1 "") "[I") .int) ∧ (flatC xgn)[19]? = some (Cond.eq (.length (.static "SoupNine$Reader" (xtn.getD 1 "") "[I")) (.int (Int32.ofNat (xtab.getD 1 []).length))) := by decide +kernel
theorem xq_e1_0 : ∀ j, j < 20 → (flatC xgn)[([20, 21, 22, 23, 24, 25, 26, 27, 28, 29, 30, 31, 32, 33, 34, 35, 36, 37, 38, 39] : List Nat).getD j 0]? = some (Cond.eq (.elem (.static "SoupNine$Reader" (xtn.getD 1 "") "[I") (.int (Int32.ofNat (0 + j)))) (.int ((xtab.getD 1 []).getD (0 + j) 0))) := by decide +kernel
theorem xq_f1 : ∀ j, j < 20 → Cond.eq (.elem (.static "SoupNine$Reader" (xtn.getD 1 "") "[I") (.int (Int32.ofNat j))) (.int ((xtab.getD 1 []).getD j 0)) ∈ flatC xgn := by
  intro j hj
  have := List.mem_of_getElem? (xq_e1_0 (j - 0) (by omega))
  rw [show 0 + (j - 0) = j by omega] at this
  exact this
theorem xq_t2 : (flatC xgn)[41]? = some (Cond.arrayOf (.static "SoupNine$Reader" (xtn.getD 2 "") "[I") .int) ∧ (flatC xgn)[42]? = some (Cond.eq (.length (.static "SoupNine$Reader" (xtn.getD 2 "") "[I")) (.int (Int32.ofNat (xtab.getD 2 []).length))) := by decide +kernel
theorem xq_e2_0 : ∀ j, j < 20 → (flatC xgn)[([43, 44, 45, 46, 47, 48, 49, 50, 51, 52, 53, 54, 55, 56, 57, 58, 59, 60, 61, 62] : List Nat).getD j 0]? = some (Cond.eq (.elem (.static "SoupNine$Reader" (xtn.getD 2 "") "[I") (.int (Int32.ofNat (0 + j)))) (.int ((xtab.getD 2 []).getD (0 + j) 0))) := by decide +kernel
theorem xq_e2_20 : ∀ j, j < 20 → (flatC xgn)[([63, 64, 65, 66, 67, 68, 69, 70, 71, 72, 73, 74, 75, 76, 77, 78, 79, 80, 81, 82] : List Nat).getD j 0]? = some (Cond.eq (.elem (.static "SoupNine$Reader" (xtn.getD 2 "") "[I") (.int (Int32.ofNat (20 + j)))) (.int ((xtab.getD 2 []).getD (20 + j) 0))) := by decide +kernel
theorem xq_e2_40 : ∀ j, j < 20 → (flatC xgn)[([83, 84, 85, 86, 87, 88, 89, 90, 91, 92, 93, 94, 95, 96, 97, 98, 99, 100, 101, 102] : List Nat).getD j 0]? = some (Cond.eq (.elem (.static "SoupNine$Reader" (xtn.getD 2 "") "[I") (.int (Int32.ofNat (40 + j)))) (.int ((xtab.getD 2 []).getD (40 + j) 0))) := by decide +kernel
theorem xq_e2_60 : ∀ j, j < 20 → (flatC xgn)[([103, 104, 105, 106, 107, 108, 109, 110, 111, 112, 113, 114, 115, 116, 117, 118, 119, 120, 121, 122] : List Nat).getD j 0]? = some (Cond.eq (.elem (.static "SoupNine$Reader" (xtn.getD 2 "") "[I") (.int (Int32.ofNat (60 + j)))) (.int ((xtab.getD 2 []).getD (60 + j) 0))) := by decide +kernel
theorem xq_f2 : ∀ j, j < 80 → Cond.eq (.elem (.static "SoupNine$Reader" (xtn.getD 2 "") "[I") (.int (Int32.ofNat j))) (.int ((xtab.getD 2 []).getD j 0)) ∈ flatC xgn := by
  intro j hj
  by_cases h0 : j < 20
  · have := List.mem_of_getElem? (xq_e2_0 (j - 0) (by omega))
    rw [show 0 + (j - 0) = j by omega] at this
    exact this
  by_cases h20 : j < 40
  · have := List.mem_of_getElem? (xq_e2_20 (j - 20) (by omega))
    rw [show 20 + (j - 20) = j by omega] at this
    exact this
  by_cases h40 : j < 60
  · have := List.mem_of_getElem? (xq_e2_40 (j - 40) (by omega))
    rw [show 40 + (j - 40) = j by omega] at this
    exact this
  have := List.mem_of_getElem? (xq_e2_60 (j - 60) (by omega))
  rw [show 60 + (j - 60) = j by omega] at this
  exact this
theorem xq_t3 : (flatC xgn)[124]? = some (Cond.arrayOf (.static "SoupNine$Reader" (xtn.getD 3 "") "[I") .int) ∧ (flatC xgn)[125]? = some (Cond.eq (.length (.static "SoupNine$Reader" (xtn.getD 3 "") "[I")) (.int (Int32.ofNat (xtab.getD 3 []).length))) := by decide +kernel
theorem xq_e3_0 : ∀ j, j < 20 → (flatC xgn)[([126, 127, 128, 129, 130, 131, 132, 133, 134, 135, 136, 137, 138, 139, 140, 141, 142, 143, 144, 145] : List Nat).getD j 0]? = some (Cond.eq (.elem (.static "SoupNine$Reader" (xtn.getD 3 "") "[I") (.int (Int32.ofNat (0 + j)))) (.int ((xtab.getD 3 []).getD (0 + j) 0))) := by decide +kernel
theorem xq_e3_20 : ∀ j, j < 20 → (flatC xgn)[([146, 147, 148, 149, 150, 151, 152, 153, 154, 155, 156, 157, 158, 159, 160, 161, 162, 163, 164, 165] : List Nat).getD j 0]? = some (Cond.eq (.elem (.static "SoupNine$Reader" (xtn.getD 3 "") "[I") (.int (Int32.ofNat (20 + j)))) (.int ((xtab.getD 3 []).getD (20 + j) 0))) := by decide +kernel
theorem xq_e3_40 : ∀ j, j < 20 → (flatC xgn)[([166, 167, 168, 169, 170, 171, 172, 173, 174, 175, 176, 177, 178, 179, 180, 181, 182, 183, 184, 185] : List Nat).getD j 0]? = some (Cond.eq (.elem (.static "SoupNine$Reader" (xtn.getD 3 "") "[I") (.int (Int32.ofNat (40 + j)))) (.int ((xtab.getD 3 []).getD (40 + j) 0))) := by decide +kernel
theorem xq_e3_60 : ∀ j, j < 20 → (flatC xgn)[([186, 187, 188, 189, 190, 191, 192, 193, 194, 195, 196, 197, 198, 199, 200, 201, 202, 203, 204, 205] : List Nat).getD j 0]? = some (Cond.eq (.elem (.static "SoupNine$Reader" (xtn.getD 3 "") "[I") (.int (Int32.ofNat (60 + j)))) (.int ((xtab.getD 3 []).getD (60 + j) 0))) := by decide +kernel
theorem xq_f3 : ∀ j, j < 80 → Cond.eq (.elem (.static "SoupNine$Reader" (xtn.getD 3 "") "[I") (.int (Int32.ofNat j))) (.int ((xtab.getD 3 []).getD j 0)) ∈ flatC xgn := by
  intro j hj
  by_cases h0 : j < 20
  · have := List.mem_of_getElem? (xq_e3_0 (j - 0) (by omega))
    rw [show 0 + (j - 0) = j by omega] at this
    exact this
  by_cases h20 : j < 40
  · have := List.mem_of_getElem? (xq_e3_20 (j - 20) (by omega))
    rw [show 20 + (j - 20) = j by omega] at this
    exact this
  by_cases h40 : j < 60
  · have := List.mem_of_getElem? (xq_e3_40 (j - 40) (by omega))
    rw [show 40 + (j - 40) = j by omega] at this
    exact this
  have := List.mem_of_getElem? (xq_e3_60 (j - 60) (by omega))
  rw [show 60 + (j - 60) = j by omega] at this
  exact this
theorem xn_tab : ∀ i, i < 4 → Cond.arrayOf (.static "SoupNine$Reader" (xtn.getD i "") "[I") .int ∈ flatC xgn ∧ Cond.eq (.length (.static "SoupNine$Reader" (xtn.getD i "") "[I")) (.int (Int32.ofNat (xtab.getD i []).length)) ∈ flatC xgn ∧ ∀ j, j < (xtab.getD i []).length → Cond.eq (.elem (.static "SoupNine$Reader" (xtn.getD i "") "[I") (.int (Int32.ofNat j))) (.int ((xtab.getD i []).getD j 0)) ∈ flatC xgn
  | 0, _ => ⟨List.mem_of_getElem? xq_t0.1, List.mem_of_getElem? xq_t0.2, xq_f0⟩
  | 1, _ => ⟨List.mem_of_getElem? xq_t1.1, List.mem_of_getElem? xq_t1.2, xq_f1⟩
  | 2, _ => ⟨List.mem_of_getElem? xq_t2.1, List.mem_of_getElem? xq_t2.2, xq_f2⟩
  | 3, _ => ⟨List.mem_of_getElem? xq_t3.1, List.mem_of_getElem? xq_t3.2, xq_f3⟩
  | _ + 4, h => absurd h (by omega)
theorem xn_tab2 : ∀ i, i < 4 → Cond.laysStatic "SoupNine$Reader" (xtn.getD i "") "[I" ∈ lw_tbl := by decide +kernel
theorem xn_ini : Cond.initialized "SoupNine$Reader" ∈ lw_tbl ∧ Cond.initialized "java/lang/String" ∈ lw_tbl ∧ Cond.initialized "jdk/internal/util/Preconditions" ∈ lw_tbl ∧ Cond.laysStatic "java/lang/String" "COMPACT_STRINGS" "Z" ∈ lw_tbl ∧ Cond.laysStatic "jdk/internal/util/Preconditions" "SIOOBE_FORMATTER" "Ljava/util/function/BiFunction;" ∈ lw_tbl := by decide +kernel
theorem xq_m : (flatC xgn)[12]? = some (Cond.eq (.static "java/lang/String" "COMPACT_STRINGS" "Z") (.int 1)) ∧ (flatC xgn)[13]? = some (Cond.isRef (.static "jdk/internal/util/Preconditions" "SIOOBE_FORMATTER" "Ljava/util/function/BiFunction;")) := by decide +kernel
theorem xn_com : Cond.eq (.static "java/lang/String" "COMPACT_STRINGS" "Z") (.int 1) ∈ flatC xgn ∧ Cond.isRef (.static "jdk/internal/util/Preconditions" "SIOOBE_FORMATTER" "Ljava/util/function/BiFunction;") ∈ flatC xgn := ⟨List.mem_of_getElem? xq_m.1, List.mem_of_getElem? xq_m.2⟩
theorem xq_a0 : (flatC xgn)[601]? = some (Cond.exactly (xsm 0) "java/lang/String") ∧ (flatC xgn)[602]? = some (Cond.eq (.field (xsm 0) "java/lang/String" "coder" "B") (.int 0)) ∧ (flatC xgn)[603]? = some (Cond.arrayOf (.field (xsm 0) "java/lang/String" "value" "[B") .byte) ∧ (flatC xgn)[604]? = some (Cond.eq (.length (.field (xsm 0) "java/lang/String" "value" "[B")) (.int (Int32.ofNat (xsln.getD 0 0)))) := by decide +kernel
theorem xq_b0 : ∀ j, j < 5 → (flatC xgn)[([605, 606, 607, 608, 609] : List Nat).getD j 0]? = some (Cond.eq (.elem (.field (xsm 0) "java/lang/String" "value" "[B") (.int (Int32.ofNat j))) (.int ((xbyt.getD 0 []).getD j 0))) := by decide +kernel
theorem xq_d0 : ∀ j, j < 0 → Cond.not (Cond.eq (xsm 0) (xsm j)) ∈ flatC xgn ∨ Cond.not (Cond.eq (xsm j) (xsm 0)) ∈ flatC xgn := fun j h => absurd h (by omega)
theorem xq_a1 : (flatC xgn)[629]? = some (Cond.exactly (xsm 1) "java/lang/String") ∧ (flatC xgn)[630]? = some (Cond.eq (.field (xsm 1) "java/lang/String" "coder" "B") (.int 0)) ∧ (flatC xgn)[631]? = some (Cond.arrayOf (.field (xsm 1) "java/lang/String" "value" "[B") .byte) ∧ (flatC xgn)[632]? = some (Cond.eq (.length (.field (xsm 1) "java/lang/String" "value" "[B")) (.int (Int32.ofNat (xsln.getD 1 0)))) := by decide +kernel
theorem xq_b1 : ∀ j, j < 6 → (flatC xgn)[([633, 634, 635, 636, 637, 638] : List Nat).getD j 0]? = some (Cond.eq (.elem (.field (xsm 1) "java/lang/String" "value" "[B") (.int (Int32.ofNat j))) (.int ((xbyt.getD 1 []).getD j 0))) := by decide +kernel
theorem xq_c1 : ∀ j, j < 1 → (flatC xgn)[(([1317] : List Nat).getD j 0) / 2]? = some (if ([1317] : List Nat).getD j 0 % 2 = 0 then Cond.not (Cond.eq (xsm 1) (xsm j)) else Cond.not (Cond.eq (xsm j) (xsm 1))) := by decide +kernel
theorem xq_d1 : ∀ j, j < 1 → Cond.not (Cond.eq (xsm 1) (xsm j)) ∈ flatC xgn ∨ Cond.not (Cond.eq (xsm j) (xsm 1)) ∈ flatC xgn := by
  intro j hj
  have := List.mem_of_getElem? (xq_c1 j hj)
  split at this
  · exact Or.inl this
  · exact Or.inr this
theorem xq_a2 : (flatC xgn)[659]? = some (Cond.exactly (xsm 2) "java/lang/String") ∧ (flatC xgn)[660]? = some (Cond.eq (.field (xsm 2) "java/lang/String" "coder" "B") (.int 0)) ∧ (flatC xgn)[661]? = some (Cond.arrayOf (.field (xsm 2) "java/lang/String" "value" "[B") .byte) ∧ (flatC xgn)[662]? = some (Cond.eq (.length (.field (xsm 2) "java/lang/String" "value" "[B")) (.int (Int32.ofNat (xsln.getD 2 0)))) := by decide +kernel
theorem xq_b2 : ∀ j, j < 4 → (flatC xgn)[([663, 664, 665, 666] : List Nat).getD j 0]? = some (Cond.eq (.elem (.field (xsm 2) "java/lang/String" "value" "[B") (.int (Int32.ofNat j))) (.int ((xbyt.getD 2 []).getD j 0))) := by decide +kernel
theorem xq_c2 : ∀ j, j < 2 → (flatC xgn)[(([1373, 1375] : List Nat).getD j 0) / 2]? = some (if ([1373, 1375] : List Nat).getD j 0 % 2 = 0 then Cond.not (Cond.eq (xsm 2) (xsm j)) else Cond.not (Cond.eq (xsm j) (xsm 2))) := by decide +kernel
theorem xq_d2 : ∀ j, j < 2 → Cond.not (Cond.eq (xsm 2) (xsm j)) ∈ flatC xgn ∨ Cond.not (Cond.eq (xsm j) (xsm 2)) ∈ flatC xgn := by
  intro j hj
  have := List.mem_of_getElem? (xq_c2 j hj)
  split at this
  · exact Or.inl this
  · exact Or.inr this
theorem xq_a3 : (flatC xgn)[266]? = some (Cond.exactly (xsm 3) "java/lang/String") ∧ (flatC xgn)[267]? = some (Cond.eq (.field (xsm 3) "java/lang/String" "coder" "B") (.int 0)) ∧ (flatC xgn)[268]? = some (Cond.arrayOf (.field (xsm 3) "java/lang/String" "value" "[B") .byte) ∧ (flatC xgn)[269]? = some (Cond.eq (.length (.field (xsm 3) "java/lang/String" "value" "[B")) (.int (Int32.ofNat (xsln.getD 3 0)))) := by decide +kernel
theorem xq_b3 : ∀ j, j < 4 → (flatC xgn)[([270, 271, 272, 273] : List Nat).getD j 0]? = some (Cond.eq (.elem (.field (xsm 3) "java/lang/String" "value" "[B") (.int (Int32.ofNat j))) (.int ((xbyt.getD 3 []).getD j 0))) := by decide +kernel
theorem xq_c3 : ∀ j, j < 3 → (flatC xgn)[(([1220, 1278, 1334] : List Nat).getD j 0) / 2]? = some (if ([1220, 1278, 1334] : List Nat).getD j 0 % 2 = 0 then Cond.not (Cond.eq (xsm 3) (xsm j)) else Cond.not (Cond.eq (xsm j) (xsm 3))) := by decide +kernel
theorem xq_d3 : ∀ j, j < 3 → Cond.not (Cond.eq (xsm 3) (xsm j)) ∈ flatC xgn ∨ Cond.not (Cond.eq (xsm j) (xsm 3)) ∈ flatC xgn := by
  intro j hj
  have := List.mem_of_getElem? (xq_c3 j hj)
  split at this
  · exact Or.inl this
  · exact Or.inr this
theorem xq_a4 : (flatC xgn)[274]? = some (Cond.exactly (xsm 4) "java/lang/String") ∧ (flatC xgn)[275]? = some (Cond.eq (.field (xsm 4) "java/lang/String" "coder" "B") (.int 0)) ∧ (flatC xgn)[276]? = some (Cond.arrayOf (.field (xsm 4) "java/lang/String" "value" "[B") .byte) ∧ (flatC xgn)[277]? = some (Cond.eq (.length (.field (xsm 4) "java/lang/String" "value" "[B")) (.int (Int32.ofNat (xsln.getD 4 0)))) := by decide +kernel
theorem xq_b4 : ∀ j, j < 7 → (flatC xgn)[([278, 279, 280, 281, 282, 283, 284] : List Nat).getD j 0]? = some (Cond.eq (.elem (.field (xsm 4) "java/lang/String" "value" "[B") (.int (Int32.ofNat j))) (.int ((xbyt.getD 4 []).getD j 0))) := by decide +kernel
theorem xq_c4 : ∀ j, j < 4 → (flatC xgn)[(([1222, 1280, 1336, 571] : List Nat).getD j 0) / 2]? = some (if ([1222, 1280, 1336, 571] : List Nat).getD j 0 % 2 = 0 then Cond.not (Cond.eq (xsm 4) (xsm j)) else Cond.not (Cond.eq (xsm j) (xsm 4))) := by decide +kernel
theorem xq_d4 : ∀ j, j < 4 → Cond.not (Cond.eq (xsm 4) (xsm j)) ∈ flatC xgn ∨ Cond.not (Cond.eq (xsm j) (xsm 4)) ∈ flatC xgn := by
  intro j hj
  have := List.mem_of_getElem? (xq_c4 j hj)
  split at this
  · exact Or.inl this
  · exact Or.inr this
theorem xq_a5 : (flatC xgn)[286]? = some (Cond.exactly (xsm 5) "java/lang/String") ∧ (flatC xgn)[287]? = some (Cond.eq (.field (xsm 5) "java/lang/String" "coder" "B") (.int 0)) ∧ (flatC xgn)[288]? = some (Cond.arrayOf (.field (xsm 5) "java/lang/String" "value" "[B") .byte) ∧ (flatC xgn)[289]? = some (Cond.eq (.length (.field (xsm 5) "java/lang/String" "value" "[B")) (.int (Int32.ofNat (xsln.getD 5 0)))) := by decide +kernel
theorem xq_b5 : ∀ j, j < 5 → (flatC xgn)[([290, 291, 292, 293, 294] : List Nat).getD j 0]? = some (Cond.eq (.elem (.field (xsm 5) "java/lang/String" "value" "[B") (.int (Int32.ofNat j))) (.int ((xbyt.getD 5 []).getD j 0))) := by decide +kernel
theorem xq_c5 : ∀ j, j < 5 → (flatC xgn)[(([1224, 1282, 1338, 591, 593] : List Nat).getD j 0) / 2]? = some (if ([1224, 1282, 1338, 591, 593] : List Nat).getD j 0 % 2 = 0 then Cond.not (Cond.eq (xsm 5) (xsm j)) else Cond.not (Cond.eq (xsm j) (xsm 5))) := by decide +kernel
theorem xq_d5 : ∀ j, j < 5 → Cond.not (Cond.eq (xsm 5) (xsm j)) ∈ flatC xgn ∨ Cond.not (Cond.eq (xsm j) (xsm 5)) ∈ flatC xgn := by
  intro j hj
  have := List.mem_of_getElem? (xq_c5 j hj)
  split at this
  · exact Or.inl this
  · exact Or.inr this
theorem xq_a6 : (flatC xgn)[297]? = some (Cond.exactly (xsm 6) "java/lang/String") ∧ (flatC xgn)[298]? = some (Cond.eq (.field (xsm 6) "java/lang/String" "coder" "B") (.int 0)) ∧ (flatC xgn)[299]? = some (Cond.arrayOf (.field (xsm 6) "java/lang/String" "value" "[B") .byte) ∧ (flatC xgn)[300]? = some (Cond.eq (.length (.field (xsm 6) "java/lang/String" "value" "[B")) (.int (Int32.ofNat (xsln.getD 6 0)))) := by decide +kernel
theorem xq_b6 : ∀ j, j < 4 → (flatC xgn)[([301, 302, 303, 304] : List Nat).getD j 0]? = some (Cond.eq (.elem (.field (xsm 6) "java/lang/String" "value" "[B") (.int (Int32.ofNat j))) (.int ((xbyt.getD 6 []).getD j 0))) := by decide +kernel
theorem xq_c6 : ∀ j, j < 6 → (flatC xgn)[(([1226, 1284, 1340, 611, 613, 615] : List Nat).getD j 0) / 2]? = some (if ([1226, 1284, 1340, 611, 613, 615] : List Nat).getD j 0 % 2 = 0 then Cond.not (Cond.eq (xsm 6) (xsm j)) else Cond.not (Cond.eq (xsm j) (xsm 6))) := by decide +kernel
theorem xq_d6 : ∀ j, j < 6 → Cond.not (Cond.eq (xsm 6) (xsm j)) ∈ flatC xgn ∨ Cond.not (Cond.eq (xsm j) (xsm 6)) ∈ flatC xgn := by
  intro j hj
  have := List.mem_of_getElem? (xq_c6 j hj)
  split at this
  · exact Or.inl this
  · exact Or.inr this
theorem xq_a7 : (flatC xgn)[308]? = some (Cond.exactly (xsm 7) "java/lang/String") ∧ (flatC xgn)[309]? = some (Cond.eq (.field (xsm 7) "java/lang/String" "coder" "B") (.int 0)) ∧ (flatC xgn)[310]? = some (Cond.arrayOf (.field (xsm 7) "java/lang/String" "value" "[B") .byte) ∧ (flatC xgn)[311]? = some (Cond.eq (.length (.field (xsm 7) "java/lang/String" "value" "[B")) (.int (Int32.ofNat (xsln.getD 7 0)))) := by decide +kernel
theorem xq_b7 : ∀ j, j < 6 → (flatC xgn)[([312, 313, 314, 315, 316, 317] : List Nat).getD j 0]? = some (Cond.eq (.elem (.field (xsm 7) "java/lang/String" "value" "[B") (.int (Int32.ofNat j))) (.int ((xbyt.getD 7 []).getD j 0))) := by decide +kernel
theorem xq_c7 : ∀ j, j < 7 → (flatC xgn)[(([1228, 1286, 1342, 637, 639, 641, 643] : List Nat).getD j 0) / 2]? = some (if ([1228, 1286, 1342, 637, 639, 641, 643] : List Nat).getD j 0 % 2 = 0 then Cond.not (Cond.eq (xsm 7) (xsm j)) else Cond.not (Cond.eq (xsm j) (xsm 7))) := by decide +kernel
theorem xq_d7 : ∀ j, j < 7 → Cond.not (Cond.eq (xsm 7) (xsm j)) ∈ flatC xgn ∨ Cond.not (Cond.eq (xsm j) (xsm 7)) ∈ flatC xgn := by
  intro j hj
  have := List.mem_of_getElem? (xq_c7 j hj)
  split at this
  · exact Or.inl this
  · exact Or.inr this
theorem xq_a8 : (flatC xgn)[322]? = some (Cond.exactly (xsm 8) "java/lang/String") ∧ (flatC xgn)[323]? = some (Cond.eq (.field (xsm 8) "java/lang/String" "coder" "B") (.int 0)) ∧ (flatC xgn)[324]? = some (Cond.arrayOf (.field (xsm 8) "java/lang/String" "value" "[B") .byte) ∧ (flatC xgn)[325]? = some (Cond.eq (.length (.field (xsm 8) "java/lang/String" "value" "[B")) (.int (Int32.ofNat (xsln.getD 8 0)))) := by decide +kernel
theorem xq_b8 : ∀ j, j < 4 → (flatC xgn)[([326, 327, 328, 329] : List Nat).getD j 0]? = some (Cond.eq (.elem (.field (xsm 8) "java/lang/String" "value" "[B") (.int (Int32.ofNat j))) (.int ((xbyt.getD 8 []).getD j 0))) := by decide +kernel
theorem xq_c8 : ∀ j, j < 8 → (flatC xgn)[(([1230, 1288, 1344, 661, 663, 665, 667, 669] : List Nat).getD j 0) / 2]? = some (if ([1230, 1288, 1344, 661, 663, 665, 667, 669] : List Nat).getD j 0 % 2 = 0 then Cond.not (Cond.eq (xsm 8) (xsm j)) else Cond.not (Cond.eq (xsm j) (xsm 8))) := by decide +kernel
theorem xq_d8 : ∀ j, j < 8 → Cond.not (Cond.eq (xsm 8) (xsm j)) ∈ flatC xgn ∨ Cond.not (Cond.eq (xsm j) (xsm 8)) ∈ flatC xgn := by
  intro j hj
  have := List.mem_of_getElem? (xq_c8 j hj)
  split at this
  · exact Or.inl this
  · exact Or.inr this
theorem xq_a9 : (flatC xgn)[335]? = some (Cond.exactly (xsm 9) "java/lang/String") ∧ (flatC xgn)[336]? = some (Cond.eq (.field (xsm 9) "java/lang/String" "coder" "B") (.int 0)) ∧ (flatC xgn)[337]? = some (Cond.arrayOf (.field (xsm 9) "java/lang/String" "value" "[B") .byte) ∧ (flatC xgn)[338]? = some (Cond.eq (.length (.field (xsm 9) "java/lang/String" "value" "[B")) (.int (Int32.ofNat (xsln.getD 9 0)))) := by decide +kernel
theorem xq_b9 : ∀ j, j < 4 → (flatC xgn)[([339, 340, 341, 342] : List Nat).getD j 0]? = some (Cond.eq (.elem (.field (xsm 9) "java/lang/String" "value" "[B") (.int (Int32.ofNat j))) (.int ((xbyt.getD 9 []).getD j 0))) := by decide +kernel
theorem xq_c9 : ∀ j, j < 9 → (flatC xgn)[(([1232, 1290, 1346, 687, 689, 691, 693, 695, 697] : List Nat).getD j 0) / 2]? = some (if ([1232, 1290, 1346, 687, 689, 691, 693, 695, 697] : List Nat).getD j 0 % 2 = 0 then Cond.not (Cond.eq (xsm 9) (xsm j)) else Cond.not (Cond.eq (xsm j) (xsm 9))) := by decide +kernel
theorem xq_d9 : ∀ j, j < 9 → Cond.not (Cond.eq (xsm 9) (xsm j)) ∈ flatC xgn ∨ Cond.not (Cond.eq (xsm j) (xsm 9)) ∈ flatC xgn := by
  intro j hj
  have := List.mem_of_getElem? (xq_c9 j hj)
  split at this
  · exact Or.inl this
  · exact Or.inr this
theorem xq_a10 : (flatC xgn)[349]? = some (Cond.exactly (xsm 10) "java/lang/String") ∧ (flatC xgn)[350]? = some (Cond.eq (.field (xsm 10) "java/lang/String" "coder" "B") (.int 0)) ∧ (flatC xgn)[351]? = some (Cond.arrayOf (.field (xsm 10) "java/lang/String" "value" "[B") .byte) ∧ (flatC xgn)[352]? = some (Cond.eq (.length (.field (xsm 10) "java/lang/String" "value" "[B")) (.int (Int32.ofNat (xsln.getD 10 0)))) := by decide +kernel
theorem xq_b10 : ∀ j, j < 4 → (flatC xgn)[([353, 354, 355, 356] : List Nat).getD j 0]? = some (Cond.eq (.elem (.field (xsm 10) "java/lang/String" "value" "[B") (.int (Int32.ofNat j))) (.int ((xbyt.getD 10 []).getD j 0))) := by decide +kernel
theorem xq_c10 : ∀ j, j < 10 → (flatC xgn)[(([1234, 1292, 1348, 715, 717, 719, 721, 723, 725, 727] : List Nat).getD j 0) / 2]? = some (if ([1234, 1292, 1348, 715, 717, 719, 721, 723, 725, 727] : List Nat).getD j 0 % 2 = 0 then Cond.not (Cond.eq (xsm 10) (xsm j)) else Cond.not (Cond.eq (xsm j) (xsm 10))) := by decide +kernel
theorem xq_d10 : ∀ j, j < 10 → Cond.not (Cond.eq (xsm 10) (xsm j)) ∈ flatC xgn ∨ Cond.not (Cond.eq (xsm j) (xsm 10)) ∈ flatC xgn := by
  intro j hj
  have := List.mem_of_getElem? (xq_c10 j hj)
  split at this
  · exact Or.inl this
  · exact Or.inr this
theorem xq_a11 : (flatC xgn)[364]? = some (Cond.exactly (xsm 11) "java/lang/String") ∧ (flatC xgn)[365]? = some (Cond.eq (.field (xsm 11) "java/lang/String" "coder" "B") (.int 0)) ∧ (flatC xgn)[366]? = some (Cond.arrayOf (.field (xsm 11) "java/lang/String" "value" "[B") .byte) ∧ (flatC xgn)[367]? = some (Cond.eq (.length (.field (xsm 11) "java/lang/String" "value" "[B")) (.int (Int32.ofNat (xsln.getD 11 0)))) := by decide +kernel
theorem xq_b11 : ∀ j, j < 4 → (flatC xgn)[([368, 369, 370, 371] : List Nat).getD j 0]? = some (Cond.eq (.elem (.field (xsm 11) "java/lang/String" "value" "[B") (.int (Int32.ofNat j))) (.int ((xbyt.getD 11 []).getD j 0))) := by decide +kernel
theorem xq_c11 : ∀ j, j < 11 → (flatC xgn)[(([1236, 1294, 1350, 745, 747, 749, 751, 753, 755, 757, 759] : List Nat).getD j 0) / 2]? = some (if ([1236, 1294, 1350, 745, 747, 749, 751, 753, 755, 757, 759] : List Nat).getD j 0 % 2 = 0 then Cond.not (Cond.eq (xsm 11) (xsm j)) else Cond.not (Cond.eq (xsm j) (xsm 11))) := by decide +kernel
theorem xq_d11 : ∀ j, j < 11 → Cond.not (Cond.eq (xsm 11) (xsm j)) ∈ flatC xgn ∨ Cond.not (Cond.eq (xsm j) (xsm 11)) ∈ flatC xgn := by
  intro j hj
  have := List.mem_of_getElem? (xq_c11 j hj)
  split at this
  · exact Or.inl this
  · exact Or.inr this
theorem xq_a12 : (flatC xgn)[380]? = some (Cond.exactly (xsm 12) "java/lang/String") ∧ (flatC xgn)[381]? = some (Cond.eq (.field (xsm 12) "java/lang/String" "coder" "B") (.int 0)) ∧ (flatC xgn)[382]? = some (Cond.arrayOf (.field (xsm 12) "java/lang/String" "value" "[B") .byte) ∧ (flatC xgn)[383]? = some (Cond.eq (.length (.field (xsm 12) "java/lang/String" "value" "[B")) (.int (Int32.ofNat (xsln.getD 12 0)))) := by decide +kernel
theorem xq_b12 : ∀ j, j < 4 → (flatC xgn)[([384, 385, 386, 387] : List Nat).getD j 0]? = some (Cond.eq (.elem (.field (xsm 12) "java/lang/String" "value" "[B") (.int (Int32.ofNat j))) (.int ((xbyt.getD 12 []).getD j 0))) := by decide +kernel
theorem xq_c12 : ∀ j, j < 12 → (flatC xgn)[(([1238, 1296, 1352, 777, 779, 781, 783, 785, 787, 789, 791, 793] : List Nat).getD j 0) / 2]? = some (if ([1238, 1296, 1352, 777, 779, 781, 783, 785, 787, 789, 791, 793] : List Nat).getD j 0 % 2 = 0 then Cond.not (Cond.eq (xsm 12) (xsm j)) else Cond.not (Cond.eq (xsm j) (xsm 12))) := by decide +kernel
theorem xq_d12 : ∀ j, j < 12 → Cond.not (Cond.eq (xsm 12) (xsm j)) ∈ flatC xgn ∨ Cond.not (Cond.eq (xsm j) (xsm 12)) ∈ flatC xgn := by
  intro j hj
  have := List.mem_of_getElem? (xq_c12 j hj)
  split at this
  · exact Or.inl this
  · exact Or.inr this
theorem xq_a13 : (flatC xgn)[397]? = some (Cond.exactly (xsm 13) "java/lang/String") ∧ (flatC xgn)[398]? = some (Cond.eq (.field (xsm 13) "java/lang/String" "coder" "B") (.int 0)) ∧ (flatC xgn)[399]? = some (Cond.arrayOf (.field (xsm 13) "java/lang/String" "value" "[B") .byte) ∧ (flatC xgn)[400]? = some (Cond.eq (.length (.field (xsm 13) "java/lang/String" "value" "[B")) (.int (Int32.ofNat (xsln.getD 13 0)))) := by decide +kernel
theorem xq_b13 : ∀ j, j < 5 → (flatC xgn)[([401, 402, 403, 404, 405] : List Nat).getD j 0]? = some (Cond.eq (.elem (.field (xsm 13) "java/lang/String" "value" "[B") (.int (Int32.ofNat j))) (.int ((xbyt.getD 13 []).getD j 0))) := by decide +kernel
theorem xq_c13 : ∀ j, j < 13 → (flatC xgn)[(([1240, 1298, 1354, 813, 815, 817, 819, 821, 823, 825, 827, 829, 831] : List Nat).getD j 0) / 2]? = some (if ([1240, 1298, 1354, 813, 815, 817, 819, 821, 823, 825, 827, 829, 831] : List Nat).getD j 0 % 2 = 0 then Cond.not (Cond.eq (xsm 13) (xsm j)) else Cond.not (Cond.eq (xsm j) (xsm 13))) := by decide +kernel
theorem xq_d13 : ∀ j, j < 13 → Cond.not (Cond.eq (xsm 13) (xsm j)) ∈ flatC xgn ∨ Cond.not (Cond.eq (xsm j) (xsm 13)) ∈ flatC xgn := by
  intro j hj
  have := List.mem_of_getElem? (xq_c13 j hj)
  split at this
  · exact Or.inl this
  · exact Or.inr this
theorem xq_a14 : (flatC xgn)[416]? = some (Cond.exactly (xsm 14) "java/lang/String") ∧ (flatC xgn)[417]? = some (Cond.eq (.field (xsm 14) "java/lang/String" "coder" "B") (.int 0)) ∧ (flatC xgn)[418]? = some (Cond.arrayOf (.field (xsm 14) "java/lang/String" "value" "[B") .byte) ∧ (flatC xgn)[419]? = some (Cond.eq (.length (.field (xsm 14) "java/lang/String" "value" "[B")) (.int (Int32.ofNat (xsln.getD 14 0)))) := by decide +kernel
theorem xq_b14 : ∀ j, j < 5 → (flatC xgn)[([420, 421, 422, 423, 424] : List Nat).getD j 0]? = some (Cond.eq (.elem (.field (xsm 14) "java/lang/String" "value" "[B") (.int (Int32.ofNat j))) (.int ((xbyt.getD 14 []).getD j 0))) := by decide +kernel
theorem xq_c14 : ∀ j, j < 14 → (flatC xgn)[(([1242, 1300, 1356, 851, 853, 855, 857, 859, 861, 863, 865, 867, 869, 871] : List Nat).getD j 0) / 2]? = some (if ([1242, 1300, 1356, 851, 853, 855, 857, 859, 861, 863, 865, 867, 869, 871] : List Nat).getD j 0 % 2 = 0 then Cond.not (Cond.eq (xsm 14) (xsm j)) else Cond.not (Cond.eq (xsm j) (xsm 14))) := by decide +kernel
theorem xq_d14 : ∀ j, j < 14 → Cond.not (Cond.eq (xsm 14) (xsm j)) ∈ flatC xgn ∨ Cond.not (Cond.eq (xsm j) (xsm 14)) ∈ flatC xgn := by
  intro j hj
  have := List.mem_of_getElem? (xq_c14 j hj)
  split at this
  · exact Or.inl this
  · exact Or.inr this
theorem xq_a15 : (flatC xgn)[436]? = some (Cond.exactly (xsm 15) "java/lang/String") ∧ (flatC xgn)[437]? = some (Cond.eq (.field (xsm 15) "java/lang/String" "coder" "B") (.int 0)) ∧ (flatC xgn)[438]? = some (Cond.arrayOf (.field (xsm 15) "java/lang/String" "value" "[B") .byte) ∧ (flatC xgn)[439]? = some (Cond.eq (.length (.field (xsm 15) "java/lang/String" "value" "[B")) (.int (Int32.ofNat (xsln.getD 15 0)))) := by decide +kernel
theorem xq_b15 : ∀ j, j < 4 → (flatC xgn)[([440, 441, 442, 443] : List Nat).getD j 0]? = some (Cond.eq (.elem (.field (xsm 15) "java/lang/String" "value" "[B") (.int (Int32.ofNat j))) (.int ((xbyt.getD 15 []).getD j 0))) := by decide +kernel
theorem xq_c15 : ∀ j, j < 15 → (flatC xgn)[(([1244, 1302, 1358, 889, 891, 893, 895, 897, 899, 901, 903, 905, 907, 909, 911] : List Nat).getD j 0) / 2]? = some (if ([1244, 1302, 1358, 889, 891, 893, 895, 897, 899, 901, 903, 905, 907, 909, 911] : List Nat).getD j 0 % 2 = 0 then Cond.not (Cond.eq (xsm 15) (xsm j)) else Cond.not (Cond.eq (xsm j) (xsm 15))) := by decide +kernel
theorem xq_d15 : ∀ j, j < 15 → Cond.not (Cond.eq (xsm 15) (xsm j)) ∈ flatC xgn ∨ Cond.not (Cond.eq (xsm j) (xsm 15)) ∈ flatC xgn := by
  intro j hj
  have := List.mem_of_getElem? (xq_c15 j hj)
  split at this
  · exact Or.inl this
  · exact Or.inr this
theorem xq_a16 : (flatC xgn)[456]? = some (Cond.exactly (xsm 16) "java/lang/String") ∧ (flatC xgn)[457]? = some (Cond.eq (.field (xsm 16) "java/lang/String" "coder" "B") (.int 0)) ∧ (flatC xgn)[458]? = some (Cond.arrayOf (.field (xsm 16) "java/lang/String" "value" "[B") .byte) ∧ (flatC xgn)[459]? = some (Cond.eq (.length (.field (xsm 16) "java/lang/String" "value" "[B")) (.int (Int32.ofNat (xsln.getD 16 0)))) := by decide +kernel
theorem xq_b16 : ∀ j, j < 6 → (flatC xgn)[([460, 461, 462, 463, 464, 465] : List Nat).getD j 0]? = some (Cond.eq (.elem (.field (xsm 16) "java/lang/String" "value" "[B") (.int (Int32.ofNat j))) (.int ((xbyt.getD 16 []).getD j 0))) := by decide +kernel
theorem xq_c16 : ∀ j, j < 16 → (flatC xgn)[(([1246, 1304, 1360, 933, 935, 937, 939, 941, 943, 945, 947, 949, 951, 953, 955, 957] : List Nat).getD j 0) / 2]? = some (if ([1246, 1304, 1360, 933, 935, 937, 939, 941, 943, 945, 947, 949, 951, 953, 955, 957] : List Nat).getD j 0 % 2 = 0 then Cond.not (Cond.eq (xsm 16) (xsm j)) else Cond.not (Cond.eq (xsm j) (xsm 16))) := by decide +kernel
theorem xq_d16 : ∀ j, j < 16 → Cond.not (Cond.eq (xsm 16) (xsm j)) ∈ flatC xgn ∨ Cond.not (Cond.eq (xsm j) (xsm 16)) ∈ flatC xgn := by
  intro j hj
  have := List.mem_of_getElem? (xq_c16 j hj)
  split at this
  · exact Or.inl this
  · exact Or.inr this
theorem xq_a17 : (flatC xgn)[479]? = some (Cond.exactly (xsm 17) "java/lang/String") ∧ (flatC xgn)[480]? = some (Cond.eq (.field (xsm 17) "java/lang/String" "coder" "B") (.int 0)) ∧ (flatC xgn)[481]? = some (Cond.arrayOf (.field (xsm 17) "java/lang/String" "value" "[B") .byte) ∧ (flatC xgn)[482]? = some (Cond.eq (.length (.field (xsm 17) "java/lang/String" "value" "[B")) (.int (Int32.ofNat (xsln.getD 17 0)))) := by decide +kernel
theorem xq_b17 : ∀ j, j < 5 → (flatC xgn)[([483, 484, 485, 486, 487] : List Nat).getD j 0]? = some (Cond.eq (.elem (.field (xsm 17) "java/lang/String" "value" "[B") (.int (Int32.ofNat j))) (.int ((xbyt.getD 17 []).getD j 0))) := by decide +kernel
theorem xq_c17 : ∀ j, j < 17 → (flatC xgn)[(([1248, 1306, 1362, 977, 979, 981, 983, 985, 987, 989, 991, 993, 995, 997, 999, 1001, 1003] : List Nat).getD j 0) / 2]? = some (if ([1248, 1306, 1362, 977, 979, 981, 983, 985, 987, 989, 991, 993, 995, 997, 999, 1001, 1003] : List Nat).getD j 0 % 2 = 0 then Cond.not (Cond.eq (xsm 17) (xsm j)) else Cond.not (Cond.eq (xsm j) (xsm 17))) := by decide +kernel
theorem xq_d17 : ∀ j, j < 17 → Cond.not (Cond.eq (xsm 17) (xsm j)) ∈ flatC xgn ∨ Cond.not (Cond.eq (xsm j) (xsm 17)) ∈ flatC xgn := by
  intro j hj
  have := List.mem_of_getElem? (xq_c17 j hj)
  split at this
  · exact Or.inl this
  · exact Or.inr this
theorem xq_a18 : (flatC xgn)[502]? = some (Cond.exactly (xsm 18) "java/lang/String") ∧ (flatC xgn)[503]? = some (Cond.eq (.field (xsm 18) "java/lang/String" "coder" "B") (.int 0)) ∧ (flatC xgn)[504]? = some (Cond.arrayOf (.field (xsm 18) "java/lang/String" "value" "[B") .byte) ∧ (flatC xgn)[505]? = some (Cond.eq (.length (.field (xsm 18) "java/lang/String" "value" "[B")) (.int (Int32.ofNat (xsln.getD 18 0)))) := by decide +kernel
theorem xq_b18 : ∀ j, j < 5 → (flatC xgn)[([506, 507, 508, 509, 510] : List Nat).getD j 0]? = some (Cond.eq (.elem (.field (xsm 18) "java/lang/String" "value" "[B") (.int (Int32.ofNat j))) (.int ((xbyt.getD 18 []).getD j 0))) := by decide +kernel
theorem xq_c18 : ∀ j, j < 18 → (flatC xgn)[(([1250, 1308, 1364, 1023, 1025, 1027, 1029, 1031, 1033, 1035, 1037, 1039, 1041, 1043, 1045, 1047, 1049, 1051] : List Nat).getD j 0) / 2]? = some (if ([1250, 1308, 1364, 1023, 1025, 1027, 1029, 1031, 1033, 1035, 1037, 1039, 1041, 1043, 1045, 1047, 1049, 1051] : List Nat).getD j 0 % 2 = 0 then Cond.not (Cond.eq (xsm 18) (xsm j)) else Cond.not (Cond.eq (xsm j) (xsm 18))) := by decide +kernel
theorem xq_d18 : ∀ j, j < 18 → Cond.not (Cond.eq (xsm 18) (xsm j)) ∈ flatC xgn ∨ Cond.not (Cond.eq (xsm j) (xsm 18)) ∈ flatC xgn := by
  intro j hj
  have := List.mem_of_getElem? (xq_c18 j hj)
  split at this
  · exact Or.inl this
  · exact Or.inr this
theorem xq_a19 : (flatC xgn)[526]? = some (Cond.exactly (xsm 19) "java/lang/String") ∧ (flatC xgn)[527]? = some (Cond.eq (.field (xsm 19) "java/lang/String" "coder" "B") (.int 0)) ∧ (flatC xgn)[528]? = some (Cond.arrayOf (.field (xsm 19) "java/lang/String" "value" "[B") .byte) ∧ (flatC xgn)[529]? = some (Cond.eq (.length (.field (xsm 19) "java/lang/String" "value" "[B")) (.int (Int32.ofNat (xsln.getD 19 0)))) := by decide +kernel
theorem xq_b19 : ∀ j, j < 4 → (flatC xgn)[([530, 531, 532, 533] : List Nat).getD j 0]? = some (Cond.eq (.elem (.field (xsm 19) "java/lang/String" "value" "[B") (.int (Int32.ofNat j))) (.int ((xbyt.getD 19 []).getD j 0))) := by decide +kernel
theorem xq_c19 : ∀ j, j < 19 → (flatC xgn)[(([1252, 1310, 1366, 1069, 1071, 1073, 1075, 1077, 1079, 1081, 1083, 1085, 1087, 1089, 1091, 1093, 1095, 1097, 1099] : List Nat).getD j 0) / 2]? = some (if ([1252, 1310, 1366, 1069, 1071, 1073, 1075, 1077, 1079, 1081, 1083, 1085, 1087, 1089, 1091, 1093, 1095, 1097, 1099] : List Nat).getD j 0 % 2 = 0 then Cond.not (Cond.eq (xsm 19) (xsm j)) else Cond.not (Cond.eq (xsm j) (xsm 19))) := by decide +kernel
theorem xq_d19 : ∀ j, j < 19 → Cond.not (Cond.eq (xsm 19) (xsm j)) ∈ flatC xgn ∨ Cond.not (Cond.eq (xsm j) (xsm 19)) ∈ flatC xgn := by
  intro j hj
  have := List.mem_of_getElem? (xq_c19 j hj)
  split at this
  · exact Or.inl this
  · exact Or.inr this
theorem xq_a20 : (flatC xgn)[550]? = some (Cond.exactly (xsm 20) "java/lang/String") ∧ (flatC xgn)[551]? = some (Cond.eq (.field (xsm 20) "java/lang/String" "coder" "B") (.int 0)) ∧ (flatC xgn)[552]? = some (Cond.arrayOf (.field (xsm 20) "java/lang/String" "value" "[B") .byte) ∧ (flatC xgn)[553]? = some (Cond.eq (.length (.field (xsm 20) "java/lang/String" "value" "[B")) (.int (Int32.ofNat (xsln.getD 20 0)))) := by decide +kernel
theorem xq_b20 : ∀ j, j < 4 → (flatC xgn)[([554, 555, 556, 557] : List Nat).getD j 0]? = some (Cond.eq (.elem (.field (xsm 20) "java/lang/String" "value" "[B") (.int (Int32.ofNat j))) (.int ((xbyt.getD 20 []).getD j 0))) := by decide +kernel
theorem xq_c20 : ∀ j, j < 20 → (flatC xgn)[(([1254, 1312, 1368, 1117, 1119, 1121, 1123, 1125, 1127, 1129, 1131, 1133, 1135, 1137, 1139, 1141, 1143, 1145, 1147, 1149] : List Nat).getD j 0) / 2]? = some (if ([1254, 1312, 1368, 1117, 1119, 1121, 1123, 1125, 1127, 1129, 1131, 1133, 1135, 1137, 1139, 1141, 1143, 1145, 1147, 1149] : List Nat).getD j 0 % 2 = 0 then Cond.not (Cond.eq (xsm 20) (xsm j)) else Cond.not (Cond.eq (xsm j) (xsm 20))) := by decide +kernel
theorem xq_d20 : ∀ j, j < 20 → Cond.not (Cond.eq (xsm 20) (xsm j)) ∈ flatC xgn ∨ Cond.not (Cond.eq (xsm j) (xsm 20)) ∈ flatC xgn := by
  intro j hj
  have := List.mem_of_getElem? (xq_c20 j hj)
  split at this
  · exact Or.inl this
  · exact Or.inr this
theorem xq_a21 : (flatC xgn)[575]? = some (Cond.exactly (xsm 21) "java/lang/String") ∧ (flatC xgn)[576]? = some (Cond.eq (.field (xsm 21) "java/lang/String" "coder" "B") (.int 0)) ∧ (flatC xgn)[577]? = some (Cond.arrayOf (.field (xsm 21) "java/lang/String" "value" "[B") .byte) ∧ (flatC xgn)[578]? = some (Cond.eq (.length (.field (xsm 21) "java/lang/String" "value" "[B")) (.int (Int32.ofNat (xsln.getD 21 0)))) := by decide +kernel
theorem xq_b21 : ∀ j, j < 4 → (flatC xgn)[([579, 580, 581, 582] : List Nat).getD j 0]? = some (Cond.eq (.elem (.field (xsm 21) "java/lang/String" "value" "[B") (.int (Int32.ofNat j))) (.int ((xbyt.getD 21 []).getD j 0))) := by decide +kernel
theorem xq_c21 : ∀ j, j < 21 → (flatC xgn)[(([1256, 1314, 1370, 1167, 1169, 1171, 1173, 1175, 1177, 1179, 1181, 1183, 1185, 1187, 1189, 1191, 1193, 1195, 1197, 1199, 1201] : List Nat).getD j 0) / 2]? = some (if ([1256, 1314, 1370, 1167, 1169, 1171, 1173, 1175, 1177, 1179, 1181, 1183, 1185, 1187, 1189, 1191, 1193, 1195, 1197, 1199, 1201] : List Nat).getD j 0 % 2 = 0 then Cond.not (Cond.eq (xsm 21) (xsm j)) else Cond.not (Cond.eq (xsm j) (xsm 21))) := by decide +kernel
theorem xq_d21 : ∀ j, j < 21 → Cond.not (Cond.eq (xsm 21) (xsm j)) ∈ flatC xgn ∨ Cond.not (Cond.eq (xsm j) (xsm 21)) ∈ flatC xgn := by
  intro j hj
  have := List.mem_of_getElem? (xq_c21 j hj)
  split at this
  · exact Or.inl this
  · exact Or.inr this
theorem xn_s1 : ∀ i, i < 22 → Cond.exactly (xsm i) "java/lang/String" ∈ flatC xgn ∧ Cond.eq (.field (xsm i) "java/lang/String" "coder" "B") (.int 0) ∈ flatC xgn ∧ Cond.arrayOf (.field (xsm i) "java/lang/String" "value" "[B") .byte ∈ flatC xgn ∧ Cond.eq (.length (.field (xsm i) "java/lang/String" "value" "[B")) (.int (Int32.ofNat (xsln.getD i 0))) ∈ flatC xgn
  | 0, _ => ⟨List.mem_of_getElem? xq_a0.1, List.mem_of_getElem? xq_a0.2.1, List.mem_of_getElem? xq_a0.2.2.1, List.mem_of_getElem? xq_a0.2.2.2⟩
  | 1, _ => ⟨List.mem_of_getElem? xq_a1.1, List.mem_of_getElem? xq_a1.2.1, List.mem_of_getElem? xq_a1.2.2.1, List.mem_of_getElem? xq_a1.2.2.2⟩
  | 2, _ => ⟨List.mem_of_getElem? xq_a2.1, List.mem_of_getElem? xq_a2.2.1, List.mem_of_getElem? xq_a2.2.2.1, List.mem_of_getElem? xq_a2.2.2.2⟩
  | 3, _ => ⟨List.mem_of_getElem? xq_a3.1, List.mem_of_getElem? xq_a3.2.1, List.mem_of_getElem? xq_a3.2.2.1, List.mem_of_getElem? xq_a3.2.2.2⟩
  | 4, _ => ⟨List.mem_of_getElem? xq_a4.1, List.mem_of_getElem? xq_a4.2.1, List.mem_of_getElem? xq_a4.2.2.1, List.mem_of_getElem? xq_a4.2.2.2⟩
  | 5, _ => ⟨List.mem_of_getElem? xq_a5.1, List.mem_of_getElem? xq_a5.2.1, List.mem_of_getElem? xq_a5.2.2.1, List.mem_of_getElem? xq_a5.2.2.2⟩
  | 6, _ => ⟨List.mem_of_getElem? xq_a6.1, List.mem_of_getElem? xq_a6.2.1, List.mem_of_getElem? xq_a6.2.2.1, List.mem_of_getElem? xq_a6.2.2.2⟩
  | 7, _ => ⟨List.mem_of_getElem? xq_a7.1, List.mem_of_getElem? xq_a7.2.1, List.mem_of_getElem? xq_a7.2.2.1, List.mem_of_getElem? xq_a7.2.2.2⟩
  | 8, _ => ⟨List.mem_of_getElem? xq_a8.1, List.mem_of_getElem? xq_a8.2.1, List.mem_of_getElem? xq_a8.2.2.1, List.mem_of_getElem? xq_a8.2.2.2⟩
  | 9, _ => ⟨List.mem_of_getElem? xq_a9.1, List.mem_of_getElem? xq_a9.2.1, List.mem_of_getElem? xq_a9.2.2.1, List.mem_of_getElem? xq_a9.2.2.2⟩
  | 10, _ => ⟨List.mem_of_getElem? xq_a10.1, List.mem_of_getElem? xq_a10.2.1, List.mem_of_getElem? xq_a10.2.2.1, List.mem_of_getElem? xq_a10.2.2.2⟩
  | 11, _ => ⟨List.mem_of_getElem? xq_a11.1, List.mem_of_getElem? xq_a11.2.1, List.mem_of_getElem? xq_a11.2.2.1, List.mem_of_getElem? xq_a11.2.2.2⟩
  | 12, _ => ⟨List.mem_of_getElem? xq_a12.1, List.mem_of_getElem? xq_a12.2.1, List.mem_of_getElem? xq_a12.2.2.1, List.mem_of_getElem? xq_a12.2.2.2⟩
  | 13, _ => ⟨List.mem_of_getElem? xq_a13.1, List.mem_of_getElem? xq_a13.2.1, List.mem_of_getElem? xq_a13.2.2.1, List.mem_of_getElem? xq_a13.2.2.2⟩
  | 14, _ => ⟨List.mem_of_getElem? xq_a14.1, List.mem_of_getElem? xq_a14.2.1, List.mem_of_getElem? xq_a14.2.2.1, List.mem_of_getElem? xq_a14.2.2.2⟩
  | 15, _ => ⟨List.mem_of_getElem? xq_a15.1, List.mem_of_getElem? xq_a15.2.1, List.mem_of_getElem? xq_a15.2.2.1, List.mem_of_getElem? xq_a15.2.2.2⟩
  | 16, _ => ⟨List.mem_of_getElem? xq_a16.1, List.mem_of_getElem? xq_a16.2.1, List.mem_of_getElem? xq_a16.2.2.1, List.mem_of_getElem? xq_a16.2.2.2⟩
  | 17, _ => ⟨List.mem_of_getElem? xq_a17.1, List.mem_of_getElem? xq_a17.2.1, List.mem_of_getElem? xq_a17.2.2.1, List.mem_of_getElem? xq_a17.2.2.2⟩
  | 18, _ => ⟨List.mem_of_getElem? xq_a18.1, List.mem_of_getElem? xq_a18.2.1, List.mem_of_getElem? xq_a18.2.2.1, List.mem_of_getElem? xq_a18.2.2.2⟩
  | 19, _ => ⟨List.mem_of_getElem? xq_a19.1, List.mem_of_getElem? xq_a19.2.1, List.mem_of_getElem? xq_a19.2.2.1, List.mem_of_getElem? xq_a19.2.2.2⟩
  | 20, _ => ⟨List.mem_of_getElem? xq_a20.1, List.mem_of_getElem? xq_a20.2.1, List.mem_of_getElem? xq_a20.2.2.1, List.mem_of_getElem? xq_a20.2.2.2⟩
  | 21, _ => ⟨List.mem_of_getElem? xq_a21.1, List.mem_of_getElem? xq_a21.2.1, List.mem_of_getElem? xq_a21.2.2.1, List.mem_of_getElem? xq_a21.2.2.2⟩
  | _ + 22, h => absurd h (by omega)
theorem xn_s2 : ∀ i, i < 22 → ∀ j, j < xsln.getD i 0 → Cond.eq (.elem (.field (xsm i) "java/lang/String" "value" "[B") (.int (Int32.ofNat j))) (.int ((xbyt.getD i []).getD j 0)) ∈ flatC xgn
  | 0, _ => fun j hj => List.mem_of_getElem? (xq_b0 j hj)
  | 1, _ => fun j hj => List.mem_of_getElem? (xq_b1 j hj)
  | 2, _ => fun j hj => List.mem_of_getElem? (xq_b2 j hj)
  | 3, _ => fun j hj => List.mem_of_getElem? (xq_b3 j hj)
  | 4, _ => fun j hj => List.mem_of_getElem? (xq_b4 j hj)
  | 5, _ => fun j hj => List.mem_of_getElem? (xq_b5 j hj)
  | 6, _ => fun j hj => List.mem_of_getElem? (xq_b6 j hj)
  | 7, _ => fun j hj => List.mem_of_getElem? (xq_b7 j hj)
  | 8, _ => fun j hj => List.mem_of_getElem? (xq_b8 j hj)
  | 9, _ => fun j hj => List.mem_of_getElem? (xq_b9 j hj)
  | 10, _ => fun j hj => List.mem_of_getElem? (xq_b10 j hj)
  | 11, _ => fun j hj => List.mem_of_getElem? (xq_b11 j hj)
  | 12, _ => fun j hj => List.mem_of_getElem? (xq_b12 j hj)
  | 13, _ => fun j hj => List.mem_of_getElem? (xq_b13 j hj)
  | 14, _ => fun j hj => List.mem_of_getElem? (xq_b14 j hj)
  | 15, _ => fun j hj => List.mem_of_getElem? (xq_b15 j hj)
  | 16, _ => fun j hj => List.mem_of_getElem? (xq_b16 j hj)
  | 17, _ => fun j hj => List.mem_of_getElem? (xq_b17 j hj)
  | 18, _ => fun j hj => List.mem_of_getElem? (xq_b18 j hj)
  | 19, _ => fun j hj => List.mem_of_getElem? (xq_b19 j hj)
  | 20, _ => fun j hj => List.mem_of_getElem? (xq_b20 j hj)
  | 21, _ => fun j hj => List.mem_of_getElem? (xq_b21 j hj)
  | _ + 22, h => absurd h (by omega)
theorem xn_s3 : ∀ i, i < 22 → ∀ j, j < i → Cond.not (Cond.eq (xsm i) (xsm j)) ∈ flatC xgn ∨ Cond.not (Cond.eq (xsm j) (xsm i)) ∈ flatC xgn
  | 0, _ => xq_d0
  | 1, _ => xq_d1
  | 2, _ => xq_d2
  | 3, _ => xq_d3
  | 4, _ => xq_d4
  | 5, _ => xq_d5
  | 6, _ => xq_d6
  | 7, _ => xq_d7
  | 8, _ => xq_d8
  | 9, _ => xq_d9
  | 10, _ => xq_d10
  | 11, _ => xq_d11
  | 12, _ => xq_d12
  | 13, _ => xq_d13
  | 14, _ => xq_d14
  | 15, _ => xq_d15
  | 16, _ => xq_d16
  | 17, _ => xq_d17
  | 18, _ => xq_d18
  | 19, _ => xq_d19
  | 20, _ => xq_d20
  | 21, _ => xq_d21
  | _ + 22, h => absurd h (by omega)
theorem xn_str : ∀ q ∈ xstr, Cond.stringRef "SoupNine$Reader" q.1 q.2.1 ∈ lw_tbl := by decide +kernel
theorem xn_st2 : ∀ q ∈ xstr, 8 ≤ q.2.2 ∧ q.2.2 < 30 ∧ xsix.getD (q.2.2 - 8) 0 = q.1 := by decide +kernel
theorem xn_nst : ∀ q ∈ xnest, Cond.methodLinkNest q.1 q.2.1 q.2.2 "SoupNine" ∈ lw_tbl := by decide +kernel
theorem xn_ovr : ∀ C ∈ xovr, Cond.arrayOver (.object C) ∈ lw_tbl := by decide +kernel
theorem xn_len : ∀ i, i < 22 → xsln.getD i 0 < 2 ^ 31 := by decide +kernel
end
section
-- the skeleton's own text (a starting text), up to lw_At; then the start by the abstract machine
/-! THE CLAIM OUT OF ONE WALK OF THE LAW'S BODY. Your part is whole_start (and what it stands on); all else here is the same for every law, but numbers. -/
def R_law : String := "SoupNineLaw"
def lw_P (b : Addr) (xs : List Int32) (args : Array Value) (s : State) : Prop := args = #[.ref b] ∧ s.IntsAt b xs ∧ xs.length ≤ 3584 ∧ (Jvm.Cond.and given_1 narrow_1).before args s = true
def lw_Q (_ : Array Value) (s : State) (o : Outcome) (t : State) : Prop := o = .returned (some (.int 1)) ∧ Framed s o t [] 600000 7302249
def lw_Z (below : List Frame) (a : Array Value) (s : State) : State → Prop := fun t => ∃ o, t.status = .running ∧ Ended t below o ∧ lw_Q a s o t
/-- the law's own end, with 1 on the stack, nothing written that was there before, its room as the claim has it -/
theorem lw_ret {p : Program} {l : Launch} {e : Env} {s : State} {m : MethodId} {below : List Frame} {meth : Method} {c : Code} {b : Nat} (hx : p.tables.exec = Jvm.exec) (hb : c.code = code) (hr : meth.sig.returnType = ret) (hlocks : meth.locks = false) {pc : Nat} {H : Heap} {ls : Array Slot} (hdg : decode code pc = .ok (.ireturn, 1)) : W p l e room_1 s m #[Value.ref b] below meth c H [] 600000 7302249 (lw_Z below #[Value.ref b] s) (F0 m pc ls [.int 1]) := by
  intro T hT X
  obtain ⟨fs, hret, hrun, hended, hW, hframe⟩ := X.leave (v := some (.int 1)) (hlocks := hlocks) (fun h => by rw [hr] at h; cases h)
  have hmeth' : T.vm.method? m = some meth := X.method'
  refine ⟨T.setFrames fs, ?_, .returned (some (.int 1)), hrun, hended, rfl, ⟨_, rfl⟩, hW, hframe⟩
  jvm_step X.here [X.here.top, hx, hb, hdg, hmeth', hr, ret, narrow_b1]
  (try refine ⟨rfl, ?_⟩); (try refine ⟨rfl, ?_⟩)
  first | (intro acts; rw [hret _ acts rfl rfl rfl]) | rw [hret _ _ rfl rfl rfl]
  exact Steps.refl _
/-- what holds at the law's entry: the machine, the code, the tables' words (any of lw_tbl by 'hts w (by decide +kernel)'), the script of L ints xs at the cell b, what the Statement gives of the start (any of its parts by flat_of_before) -/
def lw_At (p : Program) (s : State) (m : MethodId) (meth : Method) (c : Code) (b L : Nat) (xs : Nat → Int32) : Prop :=
  p.tables.exec = Jvm.exec ∧ c.code = code ∧ meth.sig.returnType = ret ∧ c.maxLocals = 4 ∧ s.vm.findClass R_law = some m.cls ∧ (∀ w ∈ lw_tbl, w.before #[Value.ref b] s = true) ∧ va_X b L xs s s.heap ∧ b < s.heap.size ∧ meth.locks = false ∧ (Jvm.Cond.and given_1 narrow_1).before #[Value.ref b] s = true
def xf0 (b : Nat) (t : Nat → Nat) (u : Nat) (adK adV : Nat → Nat) (B k : Nat) : Nat := if k < 64 then (if k = 0 then b else if k < 5 then t (k - 1) else if k = 5 then u else if 8 ≤ k ∧ k < 30 then adK (k - 8) else if 32 ≤ k ∧ k < 54 then adV (k - 32) else 0) else B + (k - 64)
theorem xcA_of {s : State} {args : Array Value} (hts : ∀ w ∈ lw_tbl, w.before args s = true) : ∃ cA : Nat → ClassId, ∀ (k : Nat) (q : ClassId × FieldType), (xtys cA)[k]? = some q → ArrOfT s q.1 q.2 ∧ va_RA s q.1 q.2 := by
  have prim : ∀ ty : FieldType, Cond.arrayClass ty ∈ lw_tbl → (∀ C, ty ≠ .object C) → ∃ cA, ArrOfT s cA ty ∧ va_RA s cA ty := by
    intro ty hw hne
    obtain ⟨cA, k, comp, h1, h2, h3⟩ := Cond.arrayClass_spec (hts _ hw)
    refine ⟨cA, fun n z => ⟨fun k h => (by cases h), k, h2, comp, h3⟩, ?_⟩
    cases ty with
    | object C => exact absurd rfl (hne C)
    | _ => exact h1
  have obj : ∀ C : String, C ∈ xovr → ∃ cA, ArrOfT s cA (.object C) ∧ va_RA s cA (.object C) := by
    intro C hC
    obtain ⟨comp, cA, k, h1, -, h2, h3, h4⟩ := Cond.arrayOver_spec (hts _ (xn_ovr C hC))
    exact ⟨cA, fun n z => ⟨fun k h => (by cases h), k, h2, comp, h3⟩, k, comp, h2, h3, h1, h4⟩
  obtain ⟨c0, p0⟩ := prim .int xarr_in.1 (fun C h => by cases h)
  obtain ⟨c1, p1⟩ := prim .byte xarr_in.2.1 (fun C h => by cases h)
  obtain ⟨c2, p2⟩ := prim .long xarr_in.2.2.1 (fun C h => by cases h)
  obtain ⟨c3, p3⟩ := prim .boolean xarr_in.2.2.2 (fun C h => by cases h)
  obtain ⟨c4, p4⟩ := obj "SoupNine$Told" (by decide)
  obtain ⟨c5, p5⟩ := obj "SoupNine$Town" (by decide)
  obtain ⟨c6, p6⟩ := obj "SoupNine$Evening" (by decide)
  obtain ⟨c7, p7⟩ := obj "SoupNine$Book" (by decide)
  obtain ⟨c8, p8⟩ := obj "SoupNine$Sheet" (by decide)
  refine ⟨fun k => [c0, c1, c2, c3, c4, c5, c6, c7, c8].getD (k - 20) 0, fun k q hq => ?_⟩
  match k, hq with
  | 0, hq => cases hq; exact p0
  | 1, hq => cases hq; exact p1
  | 2, hq => cases hq; exact p2
  | 3, hq => cases hq; exact p3
  | 4, hq => cases hq; exact p4
  | 5, hq => cases hq; exact p5
  | 6, hq => cases hq; exact p6
  | 7, hq => cases hq; exact p7
  | 8, hq => cases hq; exact p8
  | k + 9, hq => simp [xtys] at hq
theorem xdC_of {s : State} {args : Array Value} (hts : ∀ w ∈ lw_tbl, w.before args s = true) : ∃ (dC : Nat → ClassId) (dI : Nat → Nat → Nat), ∀ (k : Nat) (q : vw_C), xcls[k]? = some q → u_Kn s q.1 q.2.1 q.2.2 (dC k) (dI k) := by
  have h : ∀ t : Nat, ∃ d : ClassId × (Nat → Nat), ∀ q : vw_C, xcls[t]? = some q → u_Kn s q.1 q.2.1 q.2.2 d.1 d.2 := by
    intro t
    cases hq : xcls[t]? with
    | none => exact ⟨(0, fun _ => 0), fun q h => by cases h⟩
    | some r =>
      have hm := List.mem_of_getElem? hq
      obtain ⟨cC, iS, hk⟩ := u_known (args := args) hts (xcls_in r hm) (hts _ (xcls_inst r hm).1)
      exact ⟨(cC, iS), fun q h => by cases h; exact hk⟩
  obtain ⟨g, hg⟩ := Classical.axiomOfChoice h
  exact ⟨fun k => (g k).1, fun k => (g k).2, fun k q hq => hg k q hq⟩
set_option maxHeartbeats 4000000 in
/-- the law from its entry, out of the abstract machine's law -/
theorem xstart (hmt : ∀ q ∈ xmt, xmo q = true) (hmd : ∀ q ∈ xmt, xmd q = true) (hlawd : xdc "SoupNineLaw" 4 false (some .boolean) code 0 cd_law = true) (hlaw : ∀ (L : Nat) (xs : Nat → Int32), L ≤ 3584 → xW (xMC 11) cd_law 600000 7302249 (fun v _ => v = some (.int 1)) 0 [some (.ref 0), none, none, none] [] (xh0 L xs) 0 0)
    {p : Program} {e : Env} {s : State} {m : MethodId} {below : List Frame} {meth : Method} {c : Code} (l : Launch) {b L : Nat} {xs : Nat → Int32} (hL : L ≤ 3584) (C0 : lw_At p s m meth c b L xs) : W p l e room_1 s m #[Value.ref b] below meth c s.heap [] 0 0 (lw_Z below #[Value.ref b] s) (entryFrame m ([Value.ref b] : List Value).toArray 4) := by
  obtain ⟨hx, hb, hr, hml, hown, hts, hX, hbl, hlocks, hgv⟩ := C0
  have hs := flat_of_before xgn hgv
  have hA : ∀ a : Nat, a < s.heap.size → ¬ xA s.heap.size a := fun a h => Nat.not_le.mpr h
  obtain ⟨cA, hcA⟩ := xcA_of hts
  obtain ⟨dC, dI, hdC⟩ := xdC_of hts
  have hT : ∀ i : Nat, ∃ t : Nat, i < 4 → (Term.static "SoupNine$Reader" (xtn.getD i "") "[I").eval #[Value.ref b] s none [] s = some (.ref t) ∧ va_T .int t (xtab.getD i []).length (fun j => .int ((xtab.getD i []).getD j 0)) (xA s.heap.size) s s.heap := by
    intro i
    by_cases hi : i < 4
    · obtain ⟨h1, h2, h3⟩ := xn_tab i hi
      have hlt : (xtab.getD i []).length < 2 ^ 31 := by
        have : ∀ i, i < 4 → (xtab.getD i []).length < 2 ^ 31 := by decide
        exact this i hi
      obtain ⟨t, e1, e2⟩ := va_Tof (f := fun j => .int ((xtab.getD i []).getD j 0)) (A := xA s.heap.size) hlt (hs _ h1) (va_eqt (hs _ h2)) (fun j hj => va_eqt (hs _ (h3 j hj))) hA
      exact ⟨t, fun _ => ⟨e1, e2⟩⟩
    · exact ⟨0, fun h => absurd h hi⟩
  obtain ⟨t, ht⟩ := Classical.axiomOfChoice hT
  obtain ⟨adK, adV, hSt, hSe⟩ := vk_Sof (N := 22) (tm := xsm) (len := xsln) (byt := xbyt) (A := xA s.heap.size) xn_len (fun i hi => hs _ (xn_s1 i hi).1) (fun i hi => hs _ (xn_s1 i hi).2.1) (fun i hi => hs _ (xn_s1 i hi).2.2.1) (fun i hi => hs _ (xn_s1 i hi).2.2.2) (fun i hi j hj => hs _ (xn_s2 i hi j hj)) (fun i j hi hj hne => by
    rcases Nat.lt_or_gt_of_ne hne with h | h
    · rcases xn_s3 j hj i h with q | q
      · exact Or.inr (hs _ q)
      · exact Or.inl (hs _ q)
    · rcases xn_s3 i hi j h with q | q
      · exact Or.inl (hs _ q)
      · exact Or.inr (hs _ q)) hA
  obtain ⟨i1, i2, i3, i4, i5⟩ := xn_ini
  have hu : ∃ u : Nat, va_Z "jdk/internal/util/Preconditions" "SIOOBE_FORMATTER" "Ljava/util/function/BiFunction;" .null (xA s.heap.size) s s.heap ∨ va_Z "jdk/internal/util/Preconditions" "SIOOBE_FORMATTER" "Ljava/util/function/BiFunction;" (.ref u) (xA s.heap.size) s s.heap := by
    rcases va_Zqof (hts _ i5) (hts _ i3) (hs _ xn_com.2) hA with h | ⟨u, h⟩
    · exact ⟨0, Or.inl h⟩
    · exact ⟨u, Or.inr h⟩
  obtain ⟨u, hu⟩ := hu
  generalize hf0 : xf0 b t u adK adV s.heap.size = f
  have hf : ∀ k, 64 ≤ k → f k = s.heap.size + (k - 64) := fun k hk => by rw [← hf0]; unfold xf0; rw [if_neg (by omega)]
  have fT : ∀ i, i < 4 → f (i + 1) = t i := fun i hi => by
    rw [← hf0]; unfold xf0
    rw [if_pos (by omega), if_neg (by omega), if_pos (by omega)]; rfl
  have f5 : f 5 = u := by rw [← hf0]; rfl
  have fb : f 0 = b := by rw [← hf0]; rfl
  have fK : ∀ k, 8 ≤ k → k < 30 → f k = adK (k - 8) := fun k h1 h2 => by
    rw [← hf0]; unfold xf0
    rw [if_pos (by omega), if_neg (by omega), if_neg (by omega), if_neg (by omega), if_pos ⟨h1, h2⟩]
  have fV : ∀ k, 32 ≤ k → k < 54 → f k = adV (k - 32) := fun k h1 h2 => by
    rw [← hf0]; unfold xf0
    rw [if_pos (by omega), if_neg (by omega), if_neg (by omega), if_neg (by omega), if_neg (by omega), if_pos ⟨h1, h2⟩]
  have hTZ : ∀ i, i < 4 → va_Z "SoupNine$Reader" (xtn.getD i "") "[I" (.ref (f (i + 1))) (xA s.heap.size) s s.heap := fun i hi => by
    rw [fT i hi]
    exact va_Zref (hts _ (xn_tab2 i hi)) (hts _ i1) (ht i hi).1 hA
  have hC : xCon f (xh0 L xs) s.heap.size s s.heap := by
    refine ⟨fun k n hk e1 => ?_, fun k n hk e1 => ?_, fun k n hk e1 => ?_, fun k hk => ?_, ⟨hTZ 0 (by omega), hTZ 1 (by omega), hTZ 2 (by omega), hTZ 3 (by omega), va_Zof (hts _ i4) (hts _ i2) (va_eqi (hs _ xn_com.1)) hA⟩, by rw [f5]; exact hu, fun q hq => ?_, fun q hq => va_Nw.of rfl (hts _ (xn_nst q hq)), fun C hC => va_AO.of (hts _ (xn_ovr C hC))⟩
    · change (if k = 0 then (20, L) else if k < 5 then (20, (xtab.getD (k - 1) []).length) else if 8 ≤ k ∧ k < 30 then (30, 0) else if 32 ≤ k ∧ k < 54 then (21, xsln.getD (k - 32) 0) else (99, 0)) = (20, n) at e1
      by_cases h0 : k = 0
      · subst h0
        rw [if_pos rfl] at e1
        obtain rfl : L = n := by injection e1
        rw [fb]
        obtain ⟨scr, x1, x2, x3, x4, x5⟩ := hX
        exact ⟨scr, x1, x2, x3, Nat.le_of_eq x4.symm, by rw [x4] <;> rfl, fun j hj => x5 j hj, hA b hbl⟩
      · rw [if_neg h0] at e1
        by_cases h5 : k < 5
        · rw [if_pos h5] at e1
          obtain rfl : (xtab.getD (k - 1) []).length = n := by injection e1
          have := (ht (k - 1) (by omega)).2
          rw [← fT (k - 1) (by omega), show k - 1 + 1 = k by omega] at this
          have e2 : (fun j => Value.int ((xtab.getD (k - 1) []).getD j 0)) = fun j => .int (xI (xh0 L xs) k j) := by
            funext j
            show _ = Value.int (if k = 0 then xs j else if k < 5 then (xtab.getD (k - 1) []).getD j 0 else _)
            rw [if_neg h0, if_pos h5]
          rw [← e2]
          exact this
        · rw [if_neg h5] at e1
          split at e1
          · cases e1
          · split at e1
            · cases e1
            · cases e1
    · change (if k = 0 then (20, L) else if k < 5 then (20, (xtab.getD (k - 1) []).length) else if 8 ≤ k ∧ k < 30 then (30, 0) else if 32 ≤ k ∧ k < 54 then (21, xsln.getD (k - 32) 0) else (99, 0)) = (21, n) at e1
      split at e1
      · cases e1
      · next h0 =>
        split at e1
        · cases e1
        · next h5 =>
          split at e1
          · cases e1
          · split at e1
            · next h32 =>
              obtain rfl : xsln.getD (k - 32) 0 = n := by injection e1
              have := (hSt.1 (k - 32) (by omega)).2.2.2
              rw [← fV k h32.1 h32.2] at this
              have e2 : (fun j => Value.int ((xbyt.getD (k - 32) []).getD j 0)) = fun j => .int (xI (xh0 L xs) k j) := by
                funext j
                show _ = Value.int (if k = 0 then xs j else if k < 5 then (xtab.getD (k - 1) []).getD j 0 else if 32 ≤ k ∧ k < 54 then (xbyt.getD (k - 32) []).getD j 0 else 0)
                rw [if_neg h0, if_neg h5, if_pos h32]
              rw [← e2]
              exact this
            · cases e1
    · change (if k = 0 then (20, L) else if k < 5 then (20, (xtab.getD (k - 1) []).length) else if 8 ≤ k ∧ k < 30 then (30, 0) else if 32 ≤ k ∧ k < 54 then (21, xsln.getD (k - 32) 0) else (99, 0)) = (30, n) at e1
      split at e1
      · cases e1
      · next h0 =>
        split at e1
        · cases e1
        · next h5 =>
          split at e1
          · next h8 =>
            obtain ⟨d1, d2, d3, -⟩ := hSt.1 (k - 8) (by omega)
            rw [← fK k h8.1 h8.2] at d1 d2 d3
            refine ⟨d1, ?_, k + 24, ?_, ?_⟩
            · have e2 : xI (xh0 L xs) k 1 = 0 := by
                show (if k = 0 then xs 1 else if k < 5 then (xtab.getD (k - 1) []).getD 1 0 else if 32 ≤ k ∧ k < 54 then (xbyt.getD (k - 32) []).getD 1 0 else 0) = 0
                rw [if_neg h0, if_neg h5, if_neg (by omega)]
              rw [e2]
              exact d2
            · show (if (8 ≤ k ∧ k < 30) ∧ 0 = 0 then some (k + 24) else none) = some (k + 24)
              rw [if_pos ⟨h8, rfl⟩]
            · rw [fV (k + 24) (by omega) (by omega), show k + 24 - 32 = k - 8 by omega]
              exact d3
          · split at e1
            · cases e1
            · cases e1
    · show (if k = 0 then (20, L) else if k < 5 then (20, (xtab.getD (k - 1) []).length) else if 8 ≤ k ∧ k < 30 then (30, 0) else if 32 ≤ k ∧ k < 54 then (21, xsln.getD (k - 32) 0) else (99, 0)).1 = 20 ∨ (if k = 0 then (20, L) else if k < 5 then (20, (xtab.getD (k - 1) []).length) else if 8 ≤ k ∧ k < 30 then (30, 0) else if 32 ≤ k ∧ k < 54 then (21, xsln.getD (k - 32) 0) else (99, 0)).1 = 21 ∨ (if k = 0 then (20, L) else if k < 5 then (20, (xtab.getD (k - 1) []).length) else if 8 ≤ k ∧ k < 30 then (30, 0) else if 32 ≤ k ∧ k < 54 then (21, xsln.getD (k - 32) 0) else (99, 0)).1 = 30 ∨ (if k = 0 then (20, L) else if k < 5 then (20, (xtab.getD (k - 1) []).length) else if 8 ≤ k ∧ k < 30 then (30, 0) else if 32 ≤ k ∧ k < 54 then (21, xsln.getD (k - 32) 0) else (99, 0)).1 = 99
      by_cases h0 : k = 0
      · simp [h0]
      · by_cases h5 : k < 5
        · simp [h0, h5]
        · by_cases h8 : 8 ≤ k ∧ k < 30
          · simp [h0, h5, h8]
          · by_cases h32 : 32 ≤ k ∧ k < 54
            · simp [h0, h5, h8, h32]
            · simp [h0, h5, h8, h32]
    · obtain ⟨g1, g2, g3⟩ := xn_st2 q hq
      have h3 := hSe (q.2.2 - 8) (by omega)
      unfold xsm at h3
      rw [g3, ← fK q.2.2 g1 g2] at h3
      exact vk_R.of (hts _ (xn_str q hq)) (by rw [← h3]; rfl)
  have E : xEnv p s m #[Value.ref b] c code 4 "SoupNineLaw" dC dI cA f s.heap.size (xh0 L xs) := ⟨hx, hb, hml, hown, fun w h1 _ => hts w h1, ⟨hdC, hcA⟩, hC, hf, Nat.le_refl _⟩
  have hret : xRet p l e room_1 s m #[Value.ref b] below meth c (lw_Z below #[Value.ref b] s) dC dI cA f s.heap.size (xh0 L xs) code (some .boolean) (fun v _ => v = some (.int 1)) := by
    intro v h' H locs lsA kc ks pc i hdg hok hq hR' hS' hc1 hc2
    subst hq
    rcases hok with ⟨rfl, -⟩ | ⟨rfl, ⟨x, h⟩, -⟩ | ⟨rfl, ⟨x, h⟩ | h, -⟩ | ⟨rfl, h, -⟩
    · refine va_forget (fun q hq => hS'.2.2 q hq) ?_
      refine W.widen (k := 600000) (n := 7302249) hc1 hc2 ?_
      exact lw_ret hx hb hr hlocks hdg
    · cases h
    · cases h
    · cases h
    · cases h
  have key := hlaw L xs hL (xKW p l e room_1 s m #[Value.ref b] below meth c (lw_Z below #[Value.ref b] s) 4 dC dI cA f s.heap.size (xh0 L xs)) (fun pc ls st h kc ks hF => xs_step (n := 11) (R := room_1) (ini := false) E (by decide) (by decide) (by decide) (fun h => by cases h) hmt (xMC_met hf hmt hmd 11) hret (xd_at hlawd pc) hF)
  have hRel : xRel dC dI cA f s.heap.size (xh0 L xs) (xh0 L xs) s.heap := by
    refine ⟨Nat.le_refl _, rfl, fun k h1 h2 => absurd h2 (by show ¬ k < 64; omega), fun k hk => ?_, fun k hk => ⟨rfl, rfl, rfl⟩, fun k h1 h2 => ?_⟩
    · have hk' : 64 ≤ k := hk
      show (if k = 0 then (20, L) else if k < 5 then (20, (xtab.getD (k - 1) []).length) else if 8 ≤ k ∧ k < 30 then (30, 0) else if 32 ≤ k ∧ k < 54 then (21, xsln.getD (k - 32) 0) else (99, 0)) = (99, 0)
      rw [if_neg (by omega), if_neg (by omega), if_neg (by omega), if_neg (by omega)]
    · exfalso
      have : (if k = 0 then (20, L) else if k < 5 then (20, (xtab.getD (k - 1) []).length) else if 8 ≤ k ∧ k < 30 then (30, 0) else if 32 ≤ k ∧ k < 54 then (21, xsln.getD (k - 32) 0) else (99, 0)).1 = 21 := h2
      rw [if_neg (by omega), if_neg (by omega), if_neg (by omega), if_neg (by omega)] at this
      cases this
  have hl := xlv_entry f (as := [.ref 0]) (nL := 4) (by decide) rfl
  rw [lg_entry_eq]
  have hl2 : xlv f ((lg_sl [Value.ref b] ++ List.replicate (4 - (lg_sl [Value.ref b]).length) Slot.unset).toArray) 4 [some (.ref 0), none, none, none] := by
    have e1 : ([Value.ref 0] : List Value).map (xtv f) = [Value.ref b] := by show [Value.ref (f 0)] = _; rw [fb]
    rw [e1] at hl
    exact hl
  exact key s.heap [] _ hRel va_S.rf hl2 (Nat.zero_le _) (Nat.zero_le _)
end
