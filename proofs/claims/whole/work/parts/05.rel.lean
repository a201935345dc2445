/-! THE RELATION of the abstract heap to the machine's -/
def xtv (f : Nat → Nat) : Value → Value
  | .ref k => .ref (f k)
  | v => v
def xfv (f : Nat → Nat) (h : xh) (k t i : Nat) : Value := match xft t i with
  | 2 => va_rf ((xR h k i).map f)
  | 3 => .long (xL h k i)
  | _ => .int (xI h k i)
def xav (f : Nat → Nat) (h : xh) (k t j : Nat) : Value := match t with
  | 20 => .int (xI h k j)
  | 21 => .int (xI h k j)
  | 22 => .long (xL h k j)
  | 23 => .int (xI h k j)
  | _ => va_rf ((xR h k j).map f)
def xaty (t : Nat) : FieldType := match t with
  | 20 => .int
  | 21 => .byte
  | 22 => .long
  | 23 => .boolean
  | 24 => .object "SoupNine$Told"
  | 25 => .object "SoupNine$Town"
  | 26 => .object "SoupNine$Evening"
  | 27 => .object "SoupNine$Book"
  | _ => .object "SoupNine$Sheet"
def xtys (cA : Nat → ClassId) : List (ClassId × FieldType) := [(cA 20, .int), (cA 21, .byte), (cA 22, .long), (cA 23, .boolean), (cA 24, .object "SoupNine$Told"), (cA 25, .object "SoupNine$Town"), (cA 26, .object "SoupNine$Evening"), (cA 27, .object "SoupNine$Book"), (cA 28, .object "SoupNine$Sheet")]
theorem xtys_at {cA : Nat → ClassId} {t : Nat} (h1 : 20 ≤ t) (h2 : t ≤ 28) : (xtys cA)[t - 20]? = some (cA t, xaty t) := by
  obtain h | h | h | h | h | h | h | h | h : t = 20 ∨ t = 21 ∨ t = 22 ∨ t = 23 ∨ t = 24 ∨ t = 25 ∨ t = 26 ∨ t = 27 ∨ t = 28 := by omega
  all_goals (subst h; rfl)
def xOK (dC : Nat → ClassId) (dI : Nat → Nat → Nat) (cA : Nat → ClassId) (f : Nat → Nat) (h : xh) (H : Heap) (k : Nat) : Prop :=
  ((xS h k).1 < 12 ∧ t_OB (f k) (dC (xS h k).1) (xnf (xS h k).1) (dI (xS h k).1) H (xfv f h k (xS h k).1)) ∨ ((20 ≤ (xS h k).1 ∧ (xS h k).1 ≤ 28) ∧ H[f k]? = some (arrV (cA (xS h k).1) (xS h k).2 (xav f h k (xS h k).1)))
def xRel (dC : Nat → ClassId) (dI : Nat → Nat → Nat) (cA : Nat → ClassId) (f : Nat → Nat) (B : Nat) (h0 h : xh) (H : Heap) : Prop :=
  64 ≤ xN h ∧ H.size = B + (xN h - 64) ∧ (∀ k, 64 ≤ k → k < xN h → xOK dC dI cA f h H k) ∧ (∀ k, xN h ≤ k → xS h k = (99, 0)) ∧ (∀ k, k < 64 → xS h k = xS h0 k ∧ xI h k = xI h0 k ∧ xR h k = xR h0 k) ∧ ∀ k, 64 ≤ k → (xS h k).1 = 21 → ∀ j, (xI h k j).toInt8.toInt32 = xI h k j
def xA (B : Nat) : Nat → Prop := fun q => B ≤ q
/-- the String constants: place in the class's pool, text, cell -/
def xstr : List (Nat × String × Nat) := [(140, "socks", 8), (145, "gloves", 9), (147, "bags", 10), (212, "even", 11), (214, "crowded", 12), (216, "empty", 13), (218, "last", 14), (220, "follow", 15), (222, "home", 16), (224, "soup", 17), (225, "pace", 18), (226, "cold", 19), (227, "talk", 20), (228, "drive", 21), (230, "ladle", 22), (232, "wait", 23), (234, "return", 24), (236, "night", 25), (238, "asked", 26), (240, "shoe", 27), (242, "foot", 28), (244, "hide", 29)]
/-- links between nest mates -/
def xnest : List (String × Nat × MethodName) := [("SoupNine", 9, ⟨"SoupNine$Told", "<init>", "()V"⟩), ("SoupNine$Told", 25, ⟨"SoupNine$Town", "<init>", "()V"⟩), ("SoupNine$Told", 32, ⟨"SoupNine$Evening", "<init>", "()V"⟩), ("SoupNine$Told", 39, ⟨"SoupNine$Book", "<init>", "()V"⟩), ("SoupNine$Told", 46, ⟨"SoupNine$Sheet", "<init>", "()V"⟩), ("SoupNine$Reader", 17, ⟨"SoupNine$Town", "<init>", "()V"⟩), ("SoupNine$Reader", 24, ⟨"SoupNine$Evening", "<init>", "()V"⟩), ("SoupNine$Reader", 31, ⟨"SoupNine$Book", "<init>", "()V"⟩), ("SoupNine$Reader", 38, ⟨"SoupNine$Sheet", "<init>", "()V"⟩), ("SoupNine", 35, ⟨"SoupNine$Walk", "<init>", "()V"⟩), ("SoupNine", 42, ⟨"SoupNine$Bowls", "<init>", "()V"⟩), ("SoupNine", 49, ⟨"SoupNine$Routes", "<init>", "()V"⟩), ("SoupNine", 56, ⟨"SoupNine$Search", "<init>", "()V"⟩), ("SoupNine$Book", 31, ⟨"SoupNine", "isThing", "(I)Z"⟩)]
def xovr : List String := ["SoupNine$Told", "SoupNine$Town", "SoupNine$Evening", "SoupNine$Book", "SoupNine$Sheet"]
def xCon (f : Nat → Nat) (h0 : xh) (B : Nat) (s : State) (H : Heap) : Prop :=
  (∀ k n, k < 64 → xS h0 k = (20, n) → va_T .int (f k) n (fun j => .int (xI h0 k j)) (xA B) s H) ∧
  (∀ k n, k < 64 → xS h0 k = (21, n) → va_T .byte (f k) n (fun j => .int (xI h0 k j)) (xA B) s H) ∧
  (∀ k n, k < 64 → xS h0 k = (30, n) → va_O "java/lang/String" (f k) (xA B) s H ∧ va_OF "java/lang/String" "coder" "B" (.int (xI h0 k 1)) (f k) (xA B) s H ∧ ∃ v, xR h0 k 0 = some v ∧ va_OF "java/lang/String" "value" "[B" (.ref (f v)) (f k) (xA B) s H) ∧
  (∀ k, k < 64 → (xS h0 k).1 = 20 ∨ (xS h0 k).1 = 21 ∨ (xS h0 k).1 = 30 ∨ (xS h0 k).1 = 99) ∧
  (va_Z "SoupNine$Reader" "FIRST_CODE" "[I" (.ref (f 1)) (xA B) s H ∧ va_Z "SoupNine$Reader" "NUMBERS" "[I" (.ref (f 2)) (xA B) s H ∧ va_Z "SoupNine$Reader" "LOWEST" "[I" (.ref (f 3)) (xA B) s H ∧ va_Z "SoupNine$Reader" "HIGHEST" "[I" (.ref (f 4)) (xA B) s H ∧ va_Z "java/lang/String" "COMPACT_STRINGS" "Z" (.int 1) (xA B) s H) ∧
  (va_Z "jdk/internal/util/Preconditions" "SIOOBE_FORMATTER" "Ljava/util/function/BiFunction;" .null (xA B) s H ∨ va_Z "jdk/internal/util/Preconditions" "SIOOBE_FORMATTER" "Ljava/util/function/BiFunction;" (.ref (f 5)) (xA B) s H) ∧
  (∀ q ∈ xstr, vk_R "SoupNine$Reader" q.1 q.2.1 (f q.2.2) s) ∧ (∀ q ∈ xnest, va_Nw (.methodLinkNest q.1 q.2.1 q.2.2 "SoupNine") s) ∧ ∀ C ∈ xovr, va_AO C s
theorem xCon_move {f : Nat → Nat} {h0 : xh} {B : Nat} {s U : State} {H H1 : Heap} (hW : s.WarmedH U.vm) (hq : ∀ a : Nat, a < H.size → ¬ xA B a → H1[a]? = H[a]?) (h : xCon f h0 B s H) : xCon f h0 B U H1 := by
  obtain ⟨c1, c2, c3, c4, ⟨z1, z2, z3, z4, z5⟩, z6, c6, c7, c8⟩ := h
  have hvm := hW.alike
  refine ⟨fun k n hk e => ((c1 k n hk e).moved hvm).kept hq, fun k n hk e => ((c2 k n hk e).moved hvm).kept hq, fun k n hk e => ?_, c4, ⟨(z1.moved hvm).kept hq, (z2.moved hvm).kept hq, (z3.moved hvm).kept hq, (z4.moved hvm).kept hq, (z5.moved hvm).kept hq⟩, ?_, fun q h => (c6 q h).warm hW, fun q h => (c7 q h).warmM hW, fun C h => (c8 C h).moved hvm⟩
  · obtain ⟨d1, d2, v, d3, d4⟩ := c3 k n hk e
    exact ⟨(d1.moved hvm).kept hq, (d2.moved hvm).kept hq, v, d3, (d4.moved hvm).kept hq⟩
  · rcases z6 with z6 | z6
    · exact Or.inl ((z6.moved hvm).kept hq)
    · exact Or.inr ((z6.moved hvm).kept hq)
/-- what a method's frame knows -/
def xEnv (p : Program) (s : State) (m : MethodId) (args : Array Value) (c : Code) (cc : ByteArray) (nL : Nat) (own : String) (dC : Nat → ClassId) (dI : Nat → Nat → Nat) (cA : Nat → ClassId) (f : Nat → Nat) (B : Nat) (h0 : xh) : Prop :=
  p.tables.exec = Jvm.exec ∧ c.code = cc ∧ c.maxLocals = nL ∧ s.vm.findClass own = some m.cls ∧ (∀ w ∈ lw_tbl, goodWord w = true → w.before args s = true) ∧ va_K (dC, dI) xcls (xtys cA) s ∧ xCon f h0 B s s.heap ∧ (∀ k, 64 ≤ k → f k = B + (k - 64)) ∧ B ≤ s.heap.size
section XR
variable {p : Program} {l : Launch} {e : Env} {R : Room} {s : State} {m : MethodId} {args : Array Value} {below : List Frame} {meth : Method} {c : Code} {H : Heap} {locs : List Loc} {cells slots : Nat} {Q : State → Prop}
variable {cc : ByteArray} {nL pc : Nat} {own : String} {dC : Nat → ClassId} {dI : Nat → Nat → Nat} {cA : Nat → ClassId} {f : Nat → Nat} {B : Nat} {h0 h : xh} {ls : Array Slot} {rest : List Value}
theorem xRel_lt (hR : xRel dC dI cA f B h0 h H) {k : Nat} (hk : (xS h k).1 ≠ 99) : k < xN h := by
  by_cases hlt : k < xN h
  · exact hlt
  · exact absurd (by rw [hR.2.2.2.1 k (by omega)]) hk
/-- an array cell, old or new -/
theorem xArr (E : xEnv p s m args c cc nL own dC dI cA f B h0) (hR : xRel dC dI cA f B h0 h H) (hS : va_S (xA B) s.heap H locs) {q t n : Nat} (ht : xS h q = (t, n)) (h1 : 20 ≤ t) (h2 : t ≤ 28) :
    ∃ cell : Cell, H[f q]? = some cell ∧ s.isArrayOf cell (xaty t) ∧ cell.vm ≠ .unknown ∧ n ≤ cell.slots.size ∧ cell.slots.size.toInt32 = Int32.ofNat n ∧ ∀ j, j < n → cell.slots[j]? = some (xav f h q t j) := by
  obtain ⟨-, -, -, -, -, hK, hC, hf, hB⟩ := E
  by_cases hq : q < 64
  · obtain ⟨e1, e2, e3⟩ := hR.2.2.2.2.1 q hq
    have ht0 : xS h0 q = (t, n) := e1.symm.trans ht
    have hT : ∀ {ty : FieldType} {v : Nat → Value}, va_T ty (f q) n v (xA B) s s.heap → ∃ cell : Cell, H[f q]? = some cell ∧ s.isArrayOf cell ty ∧ cell.vm ≠ .unknown ∧ n ≤ cell.slots.size ∧ cell.slots.size.toInt32 = Int32.ofNat n ∧ ∀ j, j < n → cell.slots[j]? = some (v j) := by
      rintro ty v ⟨cl, g1, g2, g3, g4, g5, g6, g7⟩
      exact ⟨cl, by rw [hS.2.1 _ (Array.getElem?_eq_some_iff.mp g1).1 g7]; exact g1, g2, g3, g4, g5, g6⟩
    rcases hC.2.2.2.1 q hq with h | h | h | h
    · have e : t = 20 := by rw [ht0] at h; exact h
      subst e
      have := hT (hC.1 q n hq ht0)
      simpa only [xaty, xav, e2] using this
    · have e : t = 21 := by rw [ht0] at h; exact h
      subst e
      have := hT (hC.2.1 q n hq ht0)
      simpa only [xaty, xav, e2] using this
    · rw [ht0] at h; exact absurd h (by show ¬ t = 30; omega)
    · rw [ht0] at h; exact absurd h (by show ¬ t = 99; omega)
  · have hN := xRel_lt hR (k := q) (by rw [ht]; show t ≠ 99; omega)
    rcases hR.2.2.1 q (by omega) hN with ⟨g, -⟩ | ⟨-, g⟩
    · rw [ht] at g; exact absurd g (by show ¬ t < 12; omega)
    · rw [ht] at g
      exact ⟨_, g, ((hK.2 _ _ (xtys_at h1 h2)).1 n _), (fun z => by cases z), Nat.le_of_eq (arrV_size _ _ _).symm, by rw [arrV_size] <;> rfl, fun j hj => arrV_read _ _ hj⟩
theorem xin {i : Int32} {n k : Nat} (h : vp_in i n) (hk : n ≤ k) : ¬ (i < 0 ∨ k ≤ i.toNatClampNeg) := by
  rintro (q | q)
  · exact h (Or.inl q)
  · exact h (Or.inr (by omega))
theorem xin_lt {i : Int32} {n : Nat} (h : vp_in i n) : i.toNatClampNeg < n := Nat.not_le.mp fun q => h (Or.inr q)
theorem xs_alen (E : xEnv p s m args c cc nL own dC dI cA f B h0) (hR : xRel dC dI cA f B h0 h H) (hS : va_S (xA B) s.heap H locs) {q : Nat} (ht : 20 ≤ (xS h q).1 ∧ (xS h q).1 ≤ 28) (hdg : decode cc pc = .ok (.arraylength, 1))
    (kk : W p l e R s m args below meth c H locs cells slots Q (F0 m (pc + 1) ls (.int (nI (xS h q).2) :: rest))) : W p l e R s m args below meth c H locs cells slots Q (F0 m pc ls (.ref (f q) :: rest)) := by
  obtain ⟨cell, g1, g2, -, -, g5, -⟩ := xArr E hR hS (q := q) (t := (xS h q).1) (n := (xS h q).2) rfl ht.1 ht.2
  exact W.alen E.1 E.2.1 g1 g2 g5 rfl rfl hdg kk
theorem xs_iald (E : xEnv p s m args c cc nL own dC dI cA f B h0) (hR : xRel dC dI cA f B h0 h H) (hS : va_S (xA B) s.heap H locs) {q : Nat} {i : Int32} (ht : xar h q 20 i) (hdg : decode cc pc = .ok (.iaload, 1))
    (kk : W p l e R s m args below meth c H locs cells slots Q (F0 m (pc + 1) ls (.int (xI h q i.toNatClampNeg) :: rest))) : W p l e R s m args below meth c H locs cells slots Q (F0 m pc ls (.int i :: .ref (f q) :: rest)) := by
  obtain ⟨cell, g1, g2, g3, g4, -, g6⟩ := xArr E hR hS (q := q) (t := 20) (n := (xS h q).2) (by rw [← ht.1]) (by omega) (by omega)
  exact W.iald E.1 E.2.1 g1 g2 g3 (xin ht.2 g4) (g6 _ (xin_lt ht.2)) rfl rfl hdg kk
theorem xs_bald (E : xEnv p s m args c cc nL own dC dI cA f B h0) (hR : xRel dC dI cA f B h0 h H) (hS : va_S (xA B) s.heap H locs) {q : Nat} {i : Int32} (ht : xar h q 21 i) (hdg : decode cc pc = .ok (.baload, 1))
    (kk : W p l e R s m args below meth c H locs cells slots Q (F0 m (pc + 1) ls (.int (xI h q i.toNatClampNeg) :: rest))) : W p l e R s m args below meth c H locs cells slots Q (F0 m pc ls (.int i :: .ref (f q) :: rest)) := by
  obtain ⟨cell, g1, g2, g3, g4, -, g6⟩ := xArr E hR hS (q := q) (t := 21) (n := (xS h q).2) (by rw [← ht.1]) (by omega) (by omega)
  exact W.bald E.1 E.2.1 g1 g2 g3 (xin ht.2 g4) (g6 _ (xin_lt ht.2)) rfl rfl hdg kk
theorem xs_zald (E : xEnv p s m args c cc nL own dC dI cA f B h0) (hR : xRel dC dI cA f B h0 h H) (hS : va_S (xA B) s.heap H locs) {q : Nat} {i : Int32} (ht : xar h q 23 i) (hdg : decode cc pc = .ok (.baload, 1))
    (kk : W p l e R s m args below meth c H locs cells slots Q (F0 m (pc + 1) ls (.int (xI h q i.toNatClampNeg) :: rest))) : W p l e R s m args below meth c H locs cells slots Q (F0 m pc ls (.int i :: .ref (f q) :: rest)) := by
  obtain ⟨cell, g1, g2, g3, g4, -, g6⟩ := xArr E hR hS (q := q) (t := 23) (n := (xS h q).2) (by rw [← ht.1]) (by omega) (by omega)
  exact W.zald E.1 E.2.1 g1 g2 g3 (xin ht.2 g4) (g6 _ (xin_lt ht.2)) rfl rfl hdg kk
theorem xs_lald (E : xEnv p s m args c cc nL own dC dI cA f B h0) (hR : xRel dC dI cA f B h0 h H) (hS : va_S (xA B) s.heap H locs) {q : Nat} {i : Int32} (ht : xar h q 22 i) (hdg : decode cc pc = .ok (.laload, 1))
    (kk : W p l e R s m args below meth c H locs cells slots Q (F0 m (pc + 1) ls (.long (xL h q i.toNatClampNeg) :: rest))) : W p l e R s m args below meth c H locs cells slots Q (F0 m pc ls (.int i :: .ref (f q) :: rest)) := by
  obtain ⟨cell, g1, g2, g3, g4, -, g6⟩ := xArr E hR hS (q := q) (t := 22) (n := (xS h q).2) (by rw [← ht.1]) (by omega) (by omega)
  exact W.lald E.1 E.2.1 g1 g2 g3 (xin ht.2 g4) (g6 _ (xin_lt ht.2)) rfl rfl hdg kk
theorem xs_aald (E : xEnv p s m args c cc nL own dC dI cA f B h0) (hR : xRel dC dI cA f B h0 h H) (hS : va_S (xA B) s.heap H locs) {q t : Nat} {i : Int32} (ht : xar h q t i) (h1 : 24 ≤ t) (h2 : t ≤ 28) (hdg : decode cc pc = .ok (.aaload, 1))
    (kk : W p l e R s m args below meth c H locs cells slots Q (F0 m (pc + 1) ls (va_rf ((xR h q i.toNatClampNeg).map f) :: rest))) : W p l e R s m args below meth c H locs cells slots Q (F0 m pc ls (.int i :: .ref (f q) :: rest)) := by
  obtain ⟨cell, g1, g2, g3, g4, -, g6⟩ := xArr E hR hS (q := q) (t := t) (n := (xS h q).2) (by rw [← ht.1]) (by omega) (by omega)
  have g7 := g6 _ (xin_lt ht.2)
  have e1 : xav f h q t i.toNatClampNeg = va_rf ((xR h q i.toNatClampNeg).map f) := by
    obtain h | h | h | h | h : t = 24 ∨ t = 25 ∨ t = 26 ∨ t = 27 ∨ t = 28 := by omega
    all_goals (subst h; rfl)
  have e2 : (xaty t).isReference = true := by
    obtain h | h | h | h | h : t = 24 ∨ t = 25 ∨ t = 26 ∨ t = 27 ∨ t = 28 := by omega
    all_goals (subst h; rfl)
  rw [e1] at g7
  exact W.aald E.1 E.2.1 g1 g2 e2 g3 (xin ht.2 g4) g7 rfl rfl hdg kk
end XR
