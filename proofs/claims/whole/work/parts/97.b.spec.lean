/-! A TEXT as numbers: lines, faults, what is told -/
def nt (F : Nat × Nat) (f s : Nat) : Nat × Nat := if F.1 = 0 then (f, s) else F
def tb (k i : Nat) : Nat := ((xtab.getD k []).getD i 0).toNatClampNeg
theorem tb_1 : ∀ c, c < 20 → (xtab.getD 1 []).getD c 0 = nI (tb 1 c) ∧ tb 1 c ≤ 4 := by decide
theorem tb_2 : ∀ i, i < 80 → (xtab.getD 2 []).getD i 0 = nI (tb 2 i) ∧ tb 2 i ≤ 1 := by decide
theorem tb_3 : ∀ i, i < 80 → (xtab.getD 3 []).getD i 0 = nI (tb 3 i) ∧ tb 3 i ≤ 99 := by decide
abbrev canB (c i : Nat) (R : Nat → Nat) (v : Nat) : Prop := (tb 2 (c * 4 + i) ≤ v ∧ v ≤ tb 3 (c * 4 + i)) ∧ (c < 4 ∧ i = 3 → R 2 ≤ v) ∧ (c = 4 ∧ i = 1 → v ≠ R 0) ∧ (c = 15 ∧ i ≠ 0 → v ≤ R 0)
def vup (R : Nat → Nat) (i v : Nat) : Nat → Nat := fun j => if j = i then v else R j
theorem vup_s (R : Nat → Nat) (i v : Nat) : vup R i v i = v := if_pos rfl
theorem vup_o {R : Nat → Nat} {i v j : Nat} (h : j ≠ i) : vup R i v j = R j := if_neg h
/-- the numbers of a line -/
def nmR (B : Nat → Nat) (len c : Nat) : Nat → Nat → Nat → Nat × Nat → (Nat → Nat) → Bool × Nat × (Nat × Nat) × (Nat → Nat)
  | 0, _, s, F, R => (true, s, F, R)
  | k + 1, i, s, F, R => if kd B len s = 2 then nmR B len c k (i + 1) (nxt B len s) (if canB c i R (vl B len s) then F else nt F 2 s) (vup R i (vl B len s)) else (false, s, F, R)
theorem nmR_y {B : Nat → Nat} {len c k i s : Nat} {F : Nat × Nat} {R : Nat → Nat} (h : kd B len s = 2) : nmR B len c (k + 1) i s F R = nmR B len c k (i + 1) (nxt B len s) (if canB c i R (vl B len s) then F else nt F 2 s) (vup R i (vl B len s)) := by
  rw [nmR, if_pos h]
theorem nmR_n {B : Nat → Nat} {len c k i s : Nat} {F : Nat × Nat} {R : Nat → Nat} (h : kd B len s ≠ 2) : nmR B len c (k + 1) i s F R = (false, s, F, R) := by
  rw [nmR, if_neg h]
theorem nt_p {F : Nat × Nat} {f s : Nat} (hf : 0 < f) : 0 < (nt F f s).1 := by
  unfold nt
  split
  · exact hf
  · omega
/-- where no fault is noted all numbers can be -/
theorem nmR_g {B : Nat → Nat} {len c : Nat} : ∀ {k i s : Nat} {F : Nat × Nat} {R : Nat → Nat}, s ≤ len → (nmR B len c k i s F R).2.1 ≤ len ∧ s ≤ (nmR B len c k i s F R).2.1 ∧ (∀ j, j < i → (nmR B len c k i s F R).2.2.2 j = R j) ∧ ((nmR B len c k i s F R).2.2.1.1 = 0 → F.1 = 0) ∧ ((nmR B len c k i s F R).1 = true → (∀ j, i ≤ j → j < i + k → (nmR B len c k i s F R).2.2.2 j ≤ 99) ∧ ((nmR B len c k i s F R).2.2.1.1 = 0 → ∀ j, i ≤ j → j < i + k → canB c j (nmR B len c k i s F R).2.2.2 ((nmR B len c k i s F R).2.2.2 j)))
  | 0, i, s, F, R, hs => ⟨hs, Nat.le_refl _, fun j _ => rfl, fun h => h, fun _ => ⟨fun j h1 h2 => by omega, fun _ j h1 h2 => by omega⟩⟩
  | k + 1, i, s, F, R, hs => by
    by_cases h : kd B len s = 2
    · rw [nmR_y h]
      have sl := kd_lt (B := B) (len := len) (s := s) (by omega)
      have nb := nxt_b (B := B) (len := len) (s := s) hs
      obtain ⟨a1, a2, a3, a4, a5⟩ := nmR_g (B := B) (len := len) (c := c) (k := k) (i := i + 1) (s := nxt B len s) (F := if canB c i R (vl B len s) then F else nt F 2 s) (R := vup R i (vl B len s)) nb.1
      have v9 := vl_99 h
      generalize nmR B len c k (i + 1) (nxt B len s) (if canB c i R (vl B len s) then F else nt F 2 s) (vup R i (vl B len s)) = r at *
      have ei : r.2.2.2 i = vl B len s := (a3 i (by omega)).trans (vup_s _ _ _)
      have ej : ∀ j, j < i → r.2.2.2 j = R j := fun j hj => (a3 j (by omega)).trans (vup_o (by omega))
      refine ⟨a1, by omega, ej, fun z => ?_, fun z => ⟨fun j h1 h2 => ?_, fun z0 j h1 h2 => ?_⟩⟩
      · have q := a4 z
        by_cases c1 : canB c i R (vl B len s)
        · rw [if_pos c1] at q; exact q
        · rw [if_neg c1] at q
          have := nt_p (F := F) (f := 2) (s := s) (by decide)
          omega
      · by_cases e : j = i
        · subst e; omega
        · exact (a5 z).1 j (by omega) (by omega)
      · by_cases e : j = i
        · subst e
          have q := a4 z0
          by_cases c1 : canB c j R (vl B len s)
          · rw [ei]
            obtain ⟨c11, c12, c13, c14⟩ := c1
            refine ⟨c11, fun w => ?_, fun w => ?_, fun w => ?_⟩
            · rw [ej 2 (by omega)]; exact c12 w
            · rw [ej 0 (by omega)]; exact c13 w
            · rw [ej 0 (by omega)]; exact c14 w
          · rw [if_neg c1] at q
            have := nt_p (F := F) (f := 2) (s := s) (by decide)
            omega
        · exact (a5 z).2 z0 j (by omega) (by omega)
    · rw [nmR_n h]
      exact ⟨hs, Nat.le_refl _, fun j _ => rfl, fun h => h, fun z => absurd z (show ¬ false = true by decide)⟩
/-- is there no room (or no NIGHT) for a line -/
def fuB (c : Nat) (D : Nat → Int32) : Bool := if c < 4 then decide (D 6 = 9) else if c < 10 then false else if c < 15 then decide (D 0 = 40) else if c = 15 then decide (D 0 = 10) else if c = 16 then decide (D 0 = 0) else if c = 17 then decide (D 0 = 6) else if c = 18 then decide (D 1 = 8) else decide (D 2 = 8)
def fuN (c : Nat) : Nat := if c = 16 then 4 else 3
abbrev good4 (R : Nat → Nat) : Prop := R 0 ≤ 8 ∧ (R 1 ≤ 8 ∧ R 1 ≠ R 0) ∧ R 2 ≤ 9
def uw (D : Nat → Int32) (i : Nat) (v : Int32) : Nat → Int32 := fun j => if j = i then v else D j
theorem uw_s (D : Nat → Int32) (i : Nat) (v : Int32) : uw D i v i = v := if_pos rfl
theorem uw_o {D : Nat → Int32} {i : Nat} {v : Int32} {j : Nat} (h : j ≠ i) : uw D i v j = D j := if_neg h
/-- what is told by a line -/
def tl0 (c : Nat) (R : Nat → Nat) (D : Nat → Int32) : Nat → Int32 :=
  if c < 4 then (if bN D 6 < 9 then uw (uw (uw (uw (uw (uw D (7 + bN D 6) (nI c)) (16 + bN D 6) (nI (R 0))) (25 + bN D 6) (nI (R 1))) (34 + bN D 6) (nI (R 2))) (43 + bN D 6) (nI (R 3))) 6 (nI (bN D 6 + 1)) else D)
  else if c = 4 then (if good4 R then uw (uw D (52 + R 0) (nI (R 2))) (61 + R 0) (nI (R 1)) else D)
  else if c = 5 then uw (uw D 0 (nI (R 0))) 1 (nI (R 1))
  else uw D (if c = 6 then 2 else if c = 7 then 3 else if c = 8 then 4 else 5) (nI (R 0))
def tl1 (c : Nat) (R : Nat → Nat) (D : Nat → Int32) : Nat → Int32 := if bN D 0 < 40 then uw (uw (uw D (1 + 2 * bN D 0) (nI (c - 10))) (2 + 2 * bN D 0) (if c < 13 then nI (R 0) else -1)) 0 (nI (bN D 0 + 1)) else D
def tl2 (c th : Nat) (R : Nat → Nat) (D : Nat → Int32) : Nat → Int32 := if c = 15 then (if bN D 0 < 10 then uw (uw (uw D (1 + 5 * bN D 0) (nI (R 0))) (2 + 5 * bN D 0) (nI (R 1))) 0 (nI (bN D 0 + 1)) else D) else (if 0 < bN D 0 then uw D (3 + 5 * (bN D 0 - 1) + th) (nI (R 0)) else D)
def tl3 (c : Nat) (R : Nat → Nat) (D : Nat → Int32) : Nat → Int32 := if c = 17 then (if bN D 0 < 6 then uw (uw D (3 + bN D 0) (nI (R 0))) 0 (nI (bN D 0 + 1)) else D) else if c = 18 then (if bN D 1 < 8 then uw (uw (uw D (9 + bN D 1) (nI (R 0))) (17 + bN D 1) (nI (R 1))) 1 (nI (bN D 1 + 1)) else D) else (if bN D 2 < 8 then uw (uw (uw (uw D (25 + bN D 2) (nI (R 0))) (33 + bN D 2) (nI (R 1))) (41 + bN D 2) (nI (R 2))) 2 (nI (bN D 2 + 1)) else D)
def tl (c th : Nat) (R : Nat → Nat) (D : Nat → Int32) : Nat → Int32 := if c < 10 then tl0 c R D else if c < 15 then tl1 c R D else if c < 17 then tl2 c th R D else tl3 c R D
def frU (c : Nat) (R : Nat → Nat) (far : Nat) : Nat := if c = 4 then max far (max (R 0) (R 1) + 1) else far
def thg (B : Nat → Nat) (len s : Nat) : Nat := if kd B len s = 1 then fsx (fun t => decide (Wd B s (tE B len s) t)) 3 0 else 3
def lnF (B : Nat → Nat) (len c th : Nat) (D : Nat → Int32) (far : Nat) (r : Bool × Nat × (Nat × Nat) × (Nat → Nat)) : Bool × Nat × (Nat × Nat) × (Nat → Int32) × Nat := if r.1 = true ∧ kd B len r.2.1 = 3 then (true, nxt B len r.2.1, r.2.2.1, tl c th r.2.2.2 D, frU c r.2.2.2 far) else (false, r.2.1, r.2.2.1, D, far)
def lnG (B : Nat → Nat) (len c s : Nat) (F : Nat × Nat) (D : Nat → Int32) (far : Nat) : Bool × Nat × (Nat × Nat) × (Nat → Int32) × Nat := if c = 16 then (if thg B len (nxt B len s) < 3 then lnF B len c (thg B len (nxt B len s)) D far (nmR B len c (tb 1 c) 0 (nxt B len (nxt B len s)) F (fun _ => 0)) else (false, nxt B len s, F, D, far)) else lnF B len c 0 D far (nmR B len c (tb 1 c) 0 (nxt B len s) F (fun _ => 0))
/-- a line -/
def lnR (B : Nat → Nat) (len q s : Nat) (F : Nat × Nat) (D : Nat → Int32) (far : Nat) : Bool × Nat × (Nat × Nat) × (Nat → Int32) × Nat := if cdf B len q s < FC (q + 1) then lnG B len (cdf B len q s) s (if fuB (cdf B len q s) D = true then nt F (fuN (cdf B len q s)) s else F) D far else (false, s, F, D, far)
def lsR (B : Nat → Nat) (len q : Nat) : Nat → Nat → Nat × Nat → (Nat → Int32) → Nat → Bool × Nat × (Nat × Nat) × (Nat → Int32) × Nat
  | 0, s, F, D, far => (true, s, F, D, far)
  | n + 1, s, F, D, far => if kd B len s = 0 then (true, s, F, D, far) else (if (lnR B len q s F D far).1 = true then lsR B len q n (lnR B len q s F D far).2.1 (lnR B len q s F D far).2.2.1 (lnR B len q s F D far).2.2.2.1 (lnR B len q s F D far).2.2.2.2 else lnR B len q s F D far)
def bln (q : Nat) : Nat → Int32 := if q = 0 then (fun i => if 61 ≤ i ∧ i < 70 then -1 else if i = 2 ∨ i = 4 then 60 else if i = 3 then 2 else if i = 5 then 9 else 0) else fun _ => 0
/-- all lines -/
def rdR (B : Nat → Nat) (len q : Nat) : Bool × Nat × (Nat × Nat) × (Nat → Int32) × Nat := lsR B len q 601 (tS B len 0) (0, 0) (bln q) 0
def rdF (q : Nat) (r : Bool × Nat × (Nat × Nat) × (Nat → Int32) × Nat) : Nat := if r.1 = true then (if r.2.2.1.1 = 0 then (if q = 0 ∧ bN r.2.2.2.1 6 < r.2.2.2.2 then 5 else 0) else r.2.2.1.1) else 1
def rdP (len q : Nat) (r : Bool × Nat × (Nat × Nat) × (Nat → Int32) × Nat) : Int32 := if r.1 = true then (if r.2.2.1.1 = 0 then (if q = 0 ∧ bN r.2.2.2.1 6 < r.2.2.2.2 then nI len else -1) else nI r.2.2.1.2) else nI r.2.1
/-- what always holds of what is told (count), and what holds where no fault is noted -/
def cnO (q : Nat) (D : Nat → Int32) : Prop := if q = 0 then (D 6 = nI (bN D 6) ∧ bN D 6 ≤ 9) else if q = 1 then (D 0 = nI (bN D 0) ∧ bN D 0 ≤ 40) else if q = 2 then (D 0 = nI (bN D 0) ∧ bN D 0 ≤ 10) else ((D 0 = nI (bN D 0) ∧ bN D 0 ≤ 6) ∧ (D 1 = nI (bN D 1) ∧ bN D 1 ≤ 8) ∧ (D 2 = nI (bN D 2) ∧ bN D 2 ≤ 8))
def TnP (T : Nat → Int32) (far : Nat) : Prop := ∃ N : Nat → Nat, ((∀ i, i < 61 → T i = nI (N i)) ∧ (∀ s, s < 9 → T (61 + s) = nI (N (61 + s)) - 1)) ∧ (N 0 ≤ 9 ∧ N 1 ≤ 9 ∧ N 2 ≤ 99 ∧ 1 ≤ N 3 ∧ N 3 ≤ 9 ∧ N 4 ≤ 99 ∧ 1 ≤ N 5 ∧ N 5 ≤ 30 ∧ N 6 ≤ 9) ∧ (∀ s, s < N 6 → N (7 + s) ≤ 3 ∧ N (16 + s) ≤ 9 ∧ N (25 + s) ≤ 9 ∧ N (34 + s) ≤ N (43 + s) ∧ N (43 + s) ≤ 20) ∧ (∀ s, s < 9 → N (52 + s) ≤ 9 ∧ N (61 + s) ≤ far ∧ (N (61 + s) ≠ 0 → s < far)) ∧ far ≤ 9
theorem TnP.ok {T : Nat → Int32} {far : Nat} (P : TnP T far) (h : far ≤ bN T 6) : TnOK T := by
  obtain ⟨N, ⟨h1, h2⟩, h3, h4, h5, h6⟩ := P
  have e : bN T 6 = N 6 := by unfold bN; rw [h1 6 (by omega), nI_clamp (by omega)]
  refine ⟨N, h1, h2, h3, h4, fun s hs => ?_⟩
  obtain ⟨a, b, c⟩ := h5 s hs
  exact ⟨a, by omega, fun z => by have := c z; omega⟩
def pOK (q : Nat) (D : Nat → Int32) (far : Nat) : Prop := if q = 0 then TnP D far else if q = 1 then EvOK D else if q = 2 then (BkOK D ∧ ∀ i, 1 + 5 * bN D 0 ≤ i → i < 51 → D i = 0) else ShOK D
theorem bN_nI {D : Nat → Int32} {i k : Nat} (e : D i = nI k) (hk : k < 2 ^ 31) : bN D i = k := by
  unfold bN; rw [e, nI_clamp hk]
