/-! THE FIRST HEAP: what has been made, as a list of deeds, newest first: (0, cell, tag, length, 0) a new cell, (1, cell, place, value, 0) a reference, (3, cell, place, 0, 0) an int -1 -/
abbrev xdd : Type := Nat × Nat × Nat × Nat × Nat
def dS : List xdd → Nat → Nat × Nat → Nat × Nat
  | [], _, q => q
  | (0, n, t, z, _) :: l, c, q => if c = n then (t, z) else dS l c q
  | _ :: l, c, q => dS l c q
def dR : List xdd → Nat → Nat → Option Nat → Option Nat
  | [], _, _, q => q
  | (0, n, _, _, _) :: l, c, i, q => if c = n then none else dR l c i q
  | (1, a, j, v, _) :: l, c, i, q => if c = a ∧ i = j then some v else dR l c i q
  | _ :: l, c, i, q => dR l c i q
def dI : List xdd → Nat → Nat → Int32 → Int32
  | [], _, _, q => q
  | (0, n, _, _, _) :: l, c, i, q => if c = n then 0 else dI l c i q
  | (1, _, _, _, _) :: l, c, i, q => dI l c i q
  | (_, a, j, _, _) :: l, c, i, q => if c = a ∧ i = j then -1 else dI l c i q
def Rn (H g : xh) (l : List xdd) (m : Nat) : Prop := xN g = m ∧ (∀ c, xS g c = dS l c (xS H c)) ∧ (∀ c i, xR g c i = dR l c i (xR H c i)) ∧ ∀ c i, xI g c i = dI l c i (xI H c i)
theorem Rn.nw {H g : xh} {l : List xdd} {m : Nat} (R : Rn H g l m) (t z : Nat) : Rn H (xnw g t z) ((0, m, t, z, 0) :: l) (m + 1) := by
  obtain ⟨r1, r2, r3, r4⟩ := R
  subst r1
  refine ⟨rfl, fun c => ?_, fun c i => ?_, fun c i => ?_⟩
  · rw [xnw_S, r2]; rfl
  · rw [xnw_R]
    show _ = if c = xN g then none else dR l c i (xR H c i)
    by_cases e : c = xN g
    · rw [if_pos e, if_pos e]
    · rw [if_neg e, if_neg e]; exact r3 c i
  · rw [xnw_I]
    show _ = if c = xN g then 0 else dI l c i (xI H c i)
    by_cases e : c = xN g
    · rw [if_pos e, if_pos e]
    · rw [if_neg e, if_neg e]; exact r4 c i
theorem Rn.sR {H g : xh} {l : List xdd} {m : Nat} (R : Rn H g l m) {b w : Nat} (a i v : Nat) (eb : b = a) (ew : w = v) : Rn H (xsR g b i (some w)) ((1, a, i, v, 0) :: l) m := by
  obtain ⟨r1, r2, r3, r4⟩ := R
  subst eb
  subst ew
  refine ⟨r1, r2, fun c j => ?_, r4⟩
  rw [xR_at, r3]
  rfl
theorem Rn.sI {H g : xh} {l : List xdd} {m : Nat} (R : Rn H g l m) {b : Nat} (a i : Nat) (eb : b = a) : Rn H (xsI g b i (-1)) ((3, a, i, 0, 0) :: l) m := by
  obtain ⟨r1, r2, r3, r4⟩ := R
  subst eb
  refine ⟨r1, r2, r3, fun c j => ?_⟩
  rw [upI_c, r4]
  rfl
theorem Rn.fd {H g : xh} {l : List xdd} {m : Nat} (R : Rn H g l m) {b : Nat} (a t z i : Nat) (eb : b = a) : Rn H (nFd b g t z i) ((1, a, i, m, 0) :: (0, m, t, z, 0) :: l) (m + 1) := (R.nw t z).sR a i m eb R.1
theorem Rn.as {H g : xh} {l : List xdd} {m : Nat} (R : Rn H g l m) (m2 : Nat) (e : m = m2) : Rn H g l m2 := e ▸ R
theorem Rn.n {H g : xh} {l : List xdd} {m : Nat} (R : Rn H g l m) : xN g = m := R.1
theorem Rn.s {H g : xh} {l : List xdd} {m : Nat} (R : Rn H g l m) (c : Nat) {p : Nat × Nat} (e : dS l c (xS H c) = p) : xS g c = p := (R.2.1 c).trans e
theorem Rn.r {H g : xh} {l : List xdd} {m : Nat} (R : Rn H g l m) (c i v : Nat) (e : dR l c i (xR H c i) = some v) : xR g c i = some v := (R.2.2.1 c i).trans e
def fT (a m : Nat) (l : List xdd) : List xdd := (1, a, 13, m + 6, 0) :: (0, m + 6, 20, 9, 0) :: (1, a, 12, m + 5, 0) :: (0, m + 5, 20, 9, 0) :: (1, a, 11, m + 4, 0) :: (0, m + 4, 20, 9, 0) :: (1, a, 10, m + 3, 0) :: (0, m + 3, 20, 9, 0) :: (1, a, 9, m + 2, 0) :: (0, m + 2, 20, 9, 0) :: (1, a, 8, m + 1, 0) :: (0, m + 1, 20, 9, 0) :: (1, a, 7, m, 0) :: (0, m, 20, 9, 0) :: l
theorem Rn.town {H g : xh} {l : List xdd} {m : Nat} (R : Rn H g l m) {b : Nat} (a : Nat) (eb : b = a) : Rn H (nTown b g) (fT a m l) (m + 7) := ((((((R.fd a 20 9 7 eb).fd a 20 9 8 eb).fd a 20 9 9 eb).fd a 20 9 10 eb).fd a 20 9 11 eb).fd a 20 9 12 eb).fd a 20 9 13 eb
def fE (a m : Nat) (l : List xdd) : List xdd := (1, a, 2, m + 1, 0) :: (0, m + 1, 20, 40, 0) :: (1, a, 1, m, 0) :: (0, m, 20, 40, 0) :: l
theorem Rn.even {H g : xh} {l : List xdd} {m : Nat} (R : Rn H g l m) {b : Nat} (a : Nat) (eb : b = a) : Rn H (nEvening b g) (fE a m l) (m + 2) := (R.fd a 20 40 1 eb).fd a 20 40 2 eb
def fB (a m : Nat) (l : List xdd) : List xdd := (1, a, 3, m + 2, 0) :: (0, m + 2, 20, 30, 0) :: (1, a, 2, m + 1, 0) :: (0, m + 1, 20, 10, 0) :: (1, a, 1, m, 0) :: (0, m, 20, 10, 0) :: l
theorem Rn.book {H g : xh} {l : List xdd} {m : Nat} (R : Rn H g l m) {b : Nat} (a : Nat) (eb : b = a) : Rn H (nBook b g) (fB a m l) (m + 3) := ((R.fd a 20 10 1 eb).fd a 20 10 2 eb).fd a 20 30 3 eb
def fS (a m : Nat) (l : List xdd) : List xdd := (1, a, 8, m + 5, 0) :: (0, m + 5, 20, 8, 0) :: (1, a, 7, m + 4, 0) :: (0, m + 4, 20, 8, 0) :: (1, a, 6, m + 3, 0) :: (0, m + 3, 20, 8, 0) :: (1, a, 5, m + 2, 0) :: (0, m + 2, 20, 8, 0) :: (1, a, 4, m + 1, 0) :: (0, m + 1, 20, 8, 0) :: (1, a, 3, m, 0) :: (0, m, 20, 6, 0) :: l
theorem Rn.sheet {H g : xh} {l : List xdd} {m : Nat} (R : Rn H g l m) {b : Nat} (a : Nat) (eb : b = a) : Rn H (nSheet b g) (fS a m l) (m + 6) := (((((R.fd a 20 6 3 eb).fd a 20 8 4 eb).fd a 20 8 5 eb).fd a 20 8 6 eb).fd a 20 8 7 eb).fd a 20 8 8 eb
/-- two new objects in a new array -/
theorem Rn.pr {H g : xh} {l : List xdd} {m : Nat} (R : Rn H g l m) {nX : Nat → xh → xh} {f : Nat → Nat → List xdd → List xdd} {k : Nat} (hX : ∀ {g : xh} {l : List xdd} {m b : Nat}, Rn H g l m → ∀ a, b = a → Rn H (nX b g) (f a m l) (m + k)) {b : Nat} (ta to a i : Nat) (eb : b = a) : Rn H (nPr nX ta to b g i) ((1, a, i, m, 0) :: (1, m, 1, m + 2 + k, 0) :: f (m + 2 + k) (m + 3 + k) ((0, m + 2 + k, to, 0, 0) :: (1, m, 0, m + 1, 0) :: f (m + 1) (m + 2) ((0, m + 1, to, 0, 0) :: (0, m, ta, 2, 0) :: l))) (m + 3 + 2 * k) := by
  have RA := R.nw ta 2
  have RB := hX (RA.nw to 0) (m + 1) RA.n
  have RC := RB.sR (b := xN g) (w := xN (xnw g ta 2)) m 0 (m + 1) R.n RA.n
  have RC' := RC.as (m + 2 + k) (by omega)
  have RD := hX (RC'.nw to 0) (m + 2 + k) RC'.n
  have RD' := RD.as (m + 3 + 2 * k) (by omega)
  have RE := RD'.sR (b := xN g) (w := xN (xsR (nX (xN (xnw g ta 2)) (xnw (xnw g ta 2) to 0)) (xN g) 0 (some (xN (xnw g ta 2))))) m 1 (m + 2 + k) R.n RC'.n
  have RF := RE.sR (b := b) (w := xN g) a i m eb R.n
  have e3 : m + 2 + k + 1 = m + 3 + k := by omega
  rw [e3] at RF
  exact RF
def fTold (m : Nat) (l : List xdd) : List xdd :=
  (1, m, 8, m + 36, 0) :: (1, m + 36, 1, m + 36 + 2 + 6, 0) :: fS (m + 36 + 2 + 6) (m + 36 + 3 + 6) ((0, m + 36 + 2 + 6, 5, 0, 0) :: (1, m + 36, 0, m + 36 + 1, 0) :: fS (m + 36 + 1) (m + 36 + 2) ((0, m + 36 + 1, 5, 0, 0) :: (0, m + 36, 28, 2, 0) ::
  (1, m, 7, m + 27, 0) :: (1, m + 27, 1, m + 27 + 2 + 3, 0) :: fB (m + 27 + 2 + 3) (m + 27 + 3 + 3) ((0, m + 27 + 2 + 3, 4, 0, 0) :: (1, m + 27, 0, m + 27 + 1, 0) :: fB (m + 27 + 1) (m + 27 + 2) ((0, m + 27 + 1, 4, 0, 0) :: (0, m + 27, 27, 2, 0) ::
  (1, m, 6, m + 20, 0) :: (1, m + 20, 1, m + 20 + 2 + 2, 0) :: fE (m + 20 + 2 + 2) (m + 20 + 3 + 2) ((0, m + 20 + 2 + 2, 3, 0, 0) :: (1, m + 20, 0, m + 20 + 1, 0) :: fE (m + 20 + 1) (m + 20 + 2) ((0, m + 20 + 1, 3, 0, 0) :: (0, m + 20, 26, 2, 0) ::
  (1, m, 5, m + 3, 0) :: (1, m + 3, 1, m + 3 + 2 + 7, 0) :: fT (m + 3 + 2 + 7) (m + 3 + 3 + 7) ((0, m + 3 + 2 + 7, 2, 0, 0) :: (1, m + 3, 0, m + 3 + 1, 0) :: fT (m + 3 + 1) (m + 3 + 2) ((0, m + 3 + 1, 2, 0, 0) :: (0, m + 3, 25, 2, 0) ::
  (1, m, 4, m + 2, 0) :: (0, m + 2, 20, 4, 0) :: (3, m, 3, 0, 0) :: (1, m, 0, m + 1, 0) :: (0, m + 1, 21, 600, 0) :: (0, m, 1, 0, 0) :: l))))))))
theorem Rn.told {H g : xh} {l : List xdd} {m : Nat} (R : Rn H g l m) {b : Nat} (eb : b = m) : Rn H (nTold b (xnw g 1 0)) (fTold m l) (m + 51) := by
  have R0 := R.nw 1 0
  have R1 := ((R0.fd m 21 600 0 eb).sI m 3 eb).fd m 20 4 4 eb
  have R2 := (R1.as (m + 3) (by omega)).pr (nX := nTown) (f := fT) (k := 7) (fun R a e => R.town a e) 25 2 m 5 eb
  have R3 := (R2.as (m + 20) (by omega)).pr (nX := nEvening) (f := fE) (k := 2) (fun R a e => R.even a e) 26 3 m 6 eb
  have R4 := (R3.as (m + 27) (by omega)).pr (nX := nBook) (f := fB) (k := 3) (fun R a e => R.book a e) 27 4 m 7 eb
  have R5 := (R4.as (m + 36) (by omega)).pr (nX := nSheet) (f := fS) (k := 6) (fun R a e => R.sheet a e) 28 5 m 8 eb
  exact R5.as (m + 51) (by omega)
