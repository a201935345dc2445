/-! what a program checks of each instruction, and of each method -/
def xts (pc : Nat) : Int → List Int → List (Int32 × Nat) → Bool
  | _, [], [] => true
  | lo, o :: os, t :: ts => decide (t.1.toInt = lo) && (decide ((pc : Int) + o = (t.2 : Int)) && xts pc (lo + 1) os ts)
  | _, _, _ => false
/-- a call's link: by the table's place, or between nest mates -/
def xlk (own : String) (x : Nat) (y : MethodName) (ts : List (Int32 × Nat)) : Bool := match ts with
  | [(0, pl)] => decide (lw_tbl[pl]? = some (.methodLink own x y))
  | [(1, _)] => decide ((own, x, y) ∈ xnest)
  | _ => false
def xdt (own : String) (nL : Nat) (ini : Bool) (rt : Option FieldType) (pc : Nat) (o : xop) : Bool :=
  match o with
  | (i, nx, a, b, c, e, f, g, k, kl, ts) =>
  match i with
  | .iconst n => decide (nx = pc + 1) && decide (Int32.ofInt n = k)
  | .bipush n => decide (nx = pc + 2) && decide ((Int8.ofInt n).toInt32 = k)
  | .sipush n => decide (nx = pc + 3) && decide ((Int16.ofInt n).toInt32 = k)
  | .ldc_w x => decide (nx = pc + 3) && decide (lw_tbl[a]? = some (.constant own x k))
  | .ldc x => decide (nx = pc + 2) && (match e with
    | 0 => decide (lw_tbl[a]? = some (.constant own x k))
    | _ => decide (own = "SoupNine$Reader") && xstr.any (fun q => decide (q.1 = x) && decide (q.2.2 = b)))
  | .lconst n => decide (nx = pc + 1) && decide (Int64.ofNat (n : Nat) = kl)
  | .ldc2_w x => decide (nx = pc + 3) && decide (lw_tbl[a]? = some (.constantLong own x kl))
  | .aconst_null => decide (nx = pc + 1)
  | .iload n => decide (nx = pc + 2) && decide (n = a)
  | .iload_n n => decide (nx = pc + 1) && decide ((n : Nat) = a)
  | .lload n => decide (nx = pc + 2) && decide (n = a)
  | .lload_n n => decide (nx = pc + 1) && decide ((n : Nat) = a)
  | .aload n => decide (nx = pc + 2) && decide (n = a)
  | .aload_n n => decide (nx = pc + 1) && decide ((n : Nat) = a)
  | .istore n => decide (nx = pc + 2) && (decide (n = a) && decide (a < nL))
  | .istore_n n => decide (nx = pc + 1) && (decide ((n : Nat) = a) && decide (a < nL))
  | .lstore n => decide (nx = pc + 2) && (decide (n = a) && decide (a + 1 < nL))
  | .lstore_n n => decide (nx = pc + 1) && (decide ((n : Nat) = a) && decide (a + 1 < nL))
  | .astore n => decide (nx = pc + 2) && (decide (n = a) && decide (a < nL))
  | .astore_n n => decide (nx = pc + 1) && (decide ((n : Nat) = a) && decide (a < nL))
  | .iinc n d => decide (nx = pc + 3) && (decide (n = a) && (decide (Int32.ofInt d = k) && decide (a < nL)))
  | .goto off => decide ((pc : Int) + off = (a : Int)) && decide (nx = pc + 3)
  | .ifCond _ off => decide (nx = pc + 3) && decide ((pc : Int) + off = (a : Int))
  | .if_icmp _ off => decide (nx = pc + 3) && decide ((pc : Int) + off = (a : Int))
  | .if_acmp _ off => decide (nx = pc + 3) && decide ((pc : Int) + off = (a : Int))
  | .ifnonnull off => decide (nx = pc + 3) && decide ((pc : Int) + off = (a : Int))
  | .ifnull off => decide (nx = pc + 3) && decide ((pc : Int) + off = (a : Int))
  | .tableswitch d lo hi offs => xts pc lo offs.toList ts && (decide ((pc : Int) + d = (a : Int)) && decide (hi + 1 = lo + (offs.toList.length : Int)))
  | .baload => decide (nx = pc + 1) && (decide (a = 21) || decide (a = 23))
  | .bastore => decide (nx = pc + 1) && ((decide (a = 21) && decide (b = 2)) || (decide (a = 23) && decide (b = 1)))
  | .aaload => decide (nx = pc + 1) && (decide (24 ≤ a) && decide (a ≤ 28))
  | .aastore => decide (nx = pc + 1) && (decide (24 ≤ a) && (decide (a ≤ 28) && decide (b = a - 23)))
  | .newarray t => decide (nx = pc + 2) && (((decide (t = .int) && decide (a = 20)) || (decide (t = .byte) && decide (a = 21))) || ((decide (t = .long) && decide (a = 22)) || (decide (t = .boolean) && decide (a = 23))))
  | .anewarray x => decide (nx = pc + 3) && (decide (24 ≤ a) && (decide (a ≤ 28) && (match xaty a with
    | .object C => decide (C ∈ xovr) && decide (lw_tbl[b]? = some (.classLink own x C))
    | _ => false)))
  | .new x => decide (nx = pc + 3) && (decide (a < 12) && (decide (b = xnf a) && (match xcls[a]? with
    | some r => decide (lw_tbl[c]? = some (.classLink own x r.1))
    | none => false)))
  | .getfield x => decide (nx = pc + 3) && (match xcls[a]? with
    | some r => decide (a < 12) && (decide (b < xnf a) && (decide (lw_tbl[e]? = some (.fieldLink own x r.1 (r.2.1 b).2.1 (r.2.1 b).2.2.1)) && ((decide (c = 0) && (decide (xft a b = 0) || decide (xft a b = 1))) || ((decide (c = 3) && decide (xft a b = 3)) || (decide (c = 2) && decide (xft a b = 2))))))
    | none => decide (a = 30) && (((decide (b = 0) && decide (c = 2)) && decide (lw_tbl[e]? = some (.fieldLink own x "java/lang/String" "value" "[B"))) || ((decide (b = 1) && decide (c = 0)) && decide (lw_tbl[e]? = some (.fieldLink own x "java/lang/String" "coder" "B")))))
  | .putfield x => decide (nx = pc + 3) && (match xcls[a]? with
    | some r => decide (a < 12) && (decide (b < xnf a) && (decide (lw_tbl[e]? = some (.fieldLink own x r.1 (r.2.1 b).2.1 (r.2.1 b).2.2.1)) && (decide (xft a b = c) && (decide ((r.2.1 b).2.2.2 = false) || (ini && decide (r.1 = own))))))
    | none => false)
  | .getstatic x => decide (nx = pc + 3) && (match e with
    | 0 => decide (k = 1) && decide (lw_tbl[b]? = some (.fieldLink own x "java/lang/String" "COMPACT_STRINGS" "Z"))
    | 1 => ((decide (a = 1) && decide (lw_tbl[b]? = some (.fieldLink own x "SoupNine$Reader" "FIRST_CODE" "[I"))) || (decide (a = 2) && decide (lw_tbl[b]? = some (.fieldLink own x "SoupNine$Reader" "NUMBERS" "[I")))) || ((decide (a = 3) && decide (lw_tbl[b]? = some (.fieldLink own x "SoupNine$Reader" "LOWEST" "[I"))) || (decide (a = 4) && decide (lw_tbl[b]? = some (.fieldLink own x "SoupNine$Reader" "HIGHEST" "[I"))))
    | _ => decide (a = 5) && decide (lw_tbl[b]? = some (.fieldLink own x "jdk/internal/util/Preconditions" "SIOOBE_FORMATTER" "Ljava/util/function/BiFunction;")))
  | .invokestatic x => decide (nx = pc + 3) && (match c with
    | 9 => (decide (a = 20) || decide (a = 21)) && (match ts with
      | [(_, pl)] => decide (lw_tbl[pl]? = some (.methodLink own x arraycopyName))
      | _ => false)
    | _ => (match xmt[a]? with
      | some (y, _, _, _, _, kd, na, _, mkk, ms, rc, _) => decide (kd = 0) && (decide (na = b) && (decide (rc = e) && (decide (mkk = f) && (decide (ms = g) && xlk own x y ts))))
      | none => false))
  | .invokevirtual x => decide (nx = pc + 3) && (match xmt[a]? with
      | some (y, _, _, _, _, kd, na, tg, mkk, ms, rc, _) => decide (kd = 1) && (decide (na = b) && (decide (tg = c) && (decide (rc = e) && (decide (mkk = f) && (decide (ms = g) && (match ts with
        | [(0, pl)] => decide (lw_tbl[pl]? = some (.methodLink own x y))
        | _ => false))))))
      | none => false)
  | .invokespecial x => decide (nx = pc + 3) && (match e with
    | 9 => decide (b = 0) && (match ts with
      | [(_, pl)] => decide (lw_tbl[pl]? = some (.methodLink own x objectInit))
      | _ => false)
    | _ => (match xmt[a]? with
      | some (y, _, _, _, _, kd, na, tg, mkk, ms, rc, _) => decide (kd = 2) && (decide (na = b) && (decide (tg = c) && (decide (rc = e) && (decide (rc = 3) && (decide (mkk = f) && (decide (ms = g) && xlk own x y ts))))))
      | none => false))
  | .ireturn => decide (nx = pc + 1) && (match e with
    | 0 => decide (rt = some .int)
    | 1 => decide (rt = some .boolean)
    | 2 => decide (rt = some .byte)
    | _ => decide (rt = some .char))
  | .lreturn => decide (nx = pc + 1) && decide (rt = some .long)
  | .areturn => decide (nx = pc + 1) && (match rt with
    | some (.object _) => true
    | some (.array _) => true
    | _ => false)
  | .return_ => decide (nx = pc + 1) && decide (rt = none)
  | _ => decide (nx = pc + 1)
def xd1 (own : String) (nL : Nat) (ini : Bool) (rt : Option FieldType) (cc : ByteArray) (pc : Nat) (o : xop) : Bool := match o.1 with
  | .nop => true
  | i => decide (decode cc pc = .ok (i, o.2.1 - pc)) && xdt own nL ini rt pc o
def xdl (own : String) (nL : Nat) (ini : Bool) (rt : Option FieldType) (cc : ByteArray) : Nat → List xop → Bool
  | _, [] => true
  | pc, o :: r => xd1 own nL ini rt cc pc o && xdl own nL ini rt cc (pc + 1) r
def xdc (own : String) (nL : Nat) (ini : Bool) (rt : Option FieldType) (cc : ByteArray) : Nat → List (List xop) → Bool
  | _, [] => true
  | n, o :: r => xdl own nL ini rt cc (32 * n) o && xdc own nL ini rt cc (n + 1) r
theorem xdl_at {own : String} {nL : Nat} {ini : Bool} {rt : Option FieldType} {cc : ByteArray} : ∀ (r : List xop) (pc k : Nat), xdl own nL ini rt cc pc r = true → xd1 own nL ini rt cc (pc + k) (xat1 r k) = true
  | [], _, _, _ => rfl
  | o :: r, pc, 0, h => (Bool.and_eq_true _ _ ▸ h : _ ∧ _).1
  | o :: r, pc, k + 1, h => by
    have := xdl_at r (pc + 1) k (Bool.and_eq_true _ _ ▸ h : _ ∧ _).2
    rw [show pc + (k + 1) = pc + 1 + k by omega]
    exact this
theorem xdc_at {own : String} {nL : Nat} {ini : Bool} {rt : Option FieldType} {cc : ByteArray} : ∀ (cd : List (List xop)) (n a k : Nat), xdc own nL ini rt cc n cd = true → xd1 own nL ini rt cc (32 * (n + a) + k) (xat2 cd a k) = true
  | [], _, _, _, _ => rfl
  | o :: r, n, 0, k, h => xdl_at o (32 * n) k (Bool.and_eq_true _ _ ▸ h : _ ∧ _).1
  | o :: r, n, a + 1, k, h => by
    have := xdc_at r (n + 1) a k (Bool.and_eq_true _ _ ▸ h : _ ∧ _).2
    rw [show n + (a + 1) = n + 1 + a by omega]
    exact this
theorem xd_at {own : String} {nL : Nat} {ini : Bool} {rt : Option FieldType} {cc : ByteArray} {cd : List (List xop)} (h : xdc own nL ini rt cc 0 cd = true) (pc : Nat) : xd1 own nL ini rt cc pc (xat cd pc) = true := by
  have := xdc_at cd 0 (pc / 32) (pc % 32) h
  rw [Nat.zero_add, Nat.div_add_mod] at this
  exact this
/-- the words of a method, its descriptor, its kinds -/
def xmo (q : xme) : Bool := match q with
  | (y, b, ml, rt, _, kd, na, tg, mkk, ms, rc, [p0, p1, p2, p3]) =>
    decide (lw_tbl[p0]? = some (.code y b ml rt)) && (decide (lw_tbl[p1]? = some (.initialized y.cls)) && ((match kd with
      | 0 => decide (lw_tbl[p2]? = some (.static y))
      | 1 => decide (lw_tbl[p2]? = some (.instanceMethod y)) && decide (lw_tbl[p3]? = some (.selects y.cls y y))
      | _ => decide (lw_tbl[p2]? = some (.instanceMethod y)) && (decide (y.name = "<init>") && decide (rt = none))) && (decide (y.cls ≠ "java/lang/invoke/MethodHandle" ∧ y.cls ≠ "java/lang/invoke/VarHandle") && (decide ((parseMethodDescriptor y.desc).map (fun d => d.parameters.length) = some na) && (decide (ml ≤ 13) && (decide (mkk = 0 → ms = 0) && (plainFor y && ((match kd with
      | 0 => true
      | _ => (match xcls[tg]? with
        | some r => decide (r.1 = y.cls) && decide (tg < 12)
        | none => decide (tg = 30) && decide (y.cls = "java/lang/String"))) && (decide (ms ≤ 8000000) && (match rc with
      | 0 => decide (rt = some .int) || decide (rt = some .boolean) || decide (rt = some .byte) || decide (rt = some .char)
      | 1 => decide (rt = some .long)
      | 2 => (match rt with
        | some (.object _) => true
        | some (.array _) => true
        | _ => false)
      | _ => decide (rt = none)))))))))))
  | _ => false
def xmd (q : xme) : Bool := match q with
  | (y, b, ml, rt, cd, _, _, _, _, _, _, _) => xdc y.cls ml (decide (y.name = "<init>")) rt b 0 cd
