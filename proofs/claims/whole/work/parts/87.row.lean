/-! THE WAY: the best over all sets; its row -/
def fwk (T : Nat → Int32) (V : Nat) : Nat → Nat
  | 0 => 1000000
  | k + 1 => if V.testBit k = true ∧ dn T V k < clN T + fdN T k then min (fwk T V k) (dn T V k) else fwk T V k
def fw (T : Nat → Int32) (V : Nat) : Nat := fwk T V (stp T)
theorem fwk_far (T : Nat → Int32) (V : Nat) : ∀ k, fwk T V k ≤ 1000000
  | 0 => Nat.le_refl _
  | k + 1 => by
    have := fwk_far T V k
    unfold fwk
    split <;> omega
theorem fwk_le {T : Nat → Int32} {V a : Nat} (h1 : V.testBit a = true) (h2 : dn T V a < clN T + fdN T a) : ∀ {k : Nat}, a < k → fwk T V k ≤ dn T V a
  | 0, h => absurd h (Nat.not_lt_zero _)
  | k + 1, h => by
    unfold fwk
    by_cases e : a = k
    · subst e; rw [if_pos ⟨h1, h2⟩]; omega
    · have := fwk_le h1 h2 (k := k) (by omega)
      split <;> omega
theorem fwk_at (T : Nat → Int32) (V : Nat) : ∀ k, fwk T V k = 1000000 ∨ ∃ a, a < k ∧ V.testBit a = true ∧ dn T V a < clN T + fdN T a ∧ dn T V a = fwk T V k
  | 0 => Or.inl rfl
  | k + 1 => by
    have ih := fwk_at T V k
    unfold fwk
    by_cases c : V.testBit k = true ∧ dn T V k < clN T + fdN T k
    · rw [if_pos c]
      by_cases l : dn T V k ≤ fwk T V k
      · exact Or.inr ⟨k, by omega, c.1, c.2, by omega⟩
      · rw [Nat.min_eq_left (by omega)]
        rcases ih with e | ⟨a, h1, h2⟩
        · exact Or.inl e
        · exact Or.inr ⟨a, by omega, h2⟩
    · rw [if_neg c]
      rcases ih with e | ⟨a, h1, h2⟩
      · exact Or.inl e
      · exact Or.inr ⟨a, by omega, h2⟩
def bq (T : Nat → Int32) (A : Nat) : Nat → Nat × Nat
  | 0 => (0, 0)
  | V + 1 => if sdf (V + 1) A = 0 ∧ fw T (V + 1) < 1000000 ∧ ((bq T A V).1 < pp T (V + 1) ∨ (pp T (V + 1) = (bq T A V).1 ∧ fw T (V + 1) < (bq T A V).2)) then (pp T (V + 1), fw T (V + 1)) else bq T A V
theorem bq_p {T : Nat → Int32} (ok : TnOK T) {A : Nat} : ∀ N, N < 2 ^ stp T → (((bq T A N).1 = 0 ∧ (bq T A N).2 = 0) ∨ ∃ V a, Fz T A V a ∧ pp T V = (bq T A N).1 ∧ dn T V a = (bq T A N).2) ∧ ∀ V a, V ≤ N → Fz T A V a → pp T V < (bq T A N).1 ∨ (pp T V = (bq T A N).1 ∧ (bq T A N).2 ≤ dn T V a)
  | 0, _ => by
    refine ⟨Or.inl ⟨rfl, rfl⟩, fun V a h f => ?_⟩
    exact absurd (show V = 0 by omega) (bnz f.2.2.2.1)
  | N + 1, hN => by
    obtain ⟨i1, i2⟩ := bq_p ok (A := A) N (by omega)
    have low : ∀ a, Fz T A (N + 1) a → sdf (N + 1) A = 0 ∧ fw T (N + 1) < 1000000 ∧ fw T (N + 1) ≤ dn T (N + 1) a := fun a f => by
      have b := dn_b ok f.1 (Or.inr ⟨f.2.2.1, f.2.2.2.1⟩)
      have l := fwk_le f.2.2.2.1 f.2.2.2.2 f.2.2.1
      have l' : fw T (N + 1) ≤ dn T (N + 1) a := l
      exact ⟨sdf0.mpr f.2.1, by omega, l'⟩
    by_cases c : sdf (N + 1) A = 0 ∧ fw T (N + 1) < 1000000 ∧ ((bq T A N).1 < pp T (N + 1) ∨ (pp T (N + 1) = (bq T A N).1 ∧ fw T (N + 1) < (bq T A N).2))
    · have e : bq T A (N + 1) = (pp T (N + 1), fw T (N + 1)) := if_pos c
      rw [e]
      refine ⟨Or.inr ?_, fun V a h f => ?_⟩
      · rcases fwk_at T (N + 1) (stp T) with z | ⟨a, h1, h2, h3, h4⟩
        · have : fw T (N + 1) = 1000000 := z
          omega
        · exact ⟨N + 1, a, ⟨hN, sdf0.mp c.1, h1, h2, h3⟩, rfl, h4⟩
      · show pp T V < pp T (N + 1) ∨ (pp T V = pp T (N + 1) ∧ fw T (N + 1) ≤ dn T V a)
        by_cases eV : V = N + 1
        · subst eV
          exact Or.inr ⟨rfl, (low a f).2.2⟩
        · have := i2 V a (by omega) f
          omega
    · have e : bq T A (N + 1) = bq T A N := if_neg c
      rw [e]
      refine ⟨i1, fun V a h f => ?_⟩
      by_cases eV : V = N + 1
      · subst eV
        obtain ⟨l1, l2, l3⟩ := low a f
        by_cases c1 : pp T (N + 1) < (bq T A N).1
        · exact Or.inl c1
        · right
          refine ⟨?_, ?_⟩
          · apply Classical.byContradiction
            intro z
            exact c ⟨l1, l2, Or.inl (by omega)⟩
          · apply Nat.le_of_not_lt
            intro z
            by_cases y : pp T (N + 1) = (bq T A N).1
            · exact c ⟨l1, l2, Or.inr ⟨y, by omega⟩⟩
            · exact c ⟨l1, l2, Or.inl (by omega)⟩
      · exact i2 V a (by omega) f
def bp (T : Nat → Int32) (A : Nat) : Nat := (bq T A (2 ^ stp T - 1)).1
def bm (T : Nat → Int32) (A : Nat) : Nat := (bq T A (2 ^ stp T - 1)).2
theorem best {T : Nat → Int32} (ok : TnOK T) (A : Nat) : Best T A (bp T A) (bm T A) := by
  have fp := Nat.two_pow_pos (stp T)
  obtain ⟨h1, h2⟩ := bq_p ok (A := A) (2 ^ stp T - 1) (by omega)
  exact ⟨h1, fun V a f => h2 V a (by have := f.1; omega) f⟩
theorem Best.b {T : Nat → Int32} (ok : TnOK T) {A p m : Nat} (B : Best T A p m) : p ≤ 180 ∧ m ≤ 1710 := by
  rcases B.1 with e | ⟨V, a, f, e1, e2⟩
  · omega
  · have := dn_b ok f.1 (Or.inr ⟨f.2.2.1, f.2.2.2.1⟩)
    have := pp_le ok V
    omega
def nq (T : Nat → Int32) (A p m V a s : Nat) : Bool := nx T (gd T A p m (stp T - (pcn 9 V + 1))) V a s
def wq (T : Nat → Int32) (A p m : Nat) : Nat → Nat × Nat
  | 0 => (0, 9)
  | i + 1 => ((wq T A p m i).1 ||| 2 ^ fsx (nq T A p m (wq T A p m i).1 (wq T A p m i).2) (stp T) 0, fsx (nq T A p m (wq T A p m i).1 (wq T A p m i).2) (stp T) 0)
def wk (T : Nat → Int32) (A p m i : Nat) : Nat := fsx (nq T A p m (wq T A p m i).1 (wq T A p m i).2) (stp T) 0
theorem wq_s (T : Nat → Int32) (A p m i : Nat) : wq T A p m (i + 1) = ((wq T A p m i).1 ||| 2 ^ wk T A p m i, wk T A p m i) := rfl
/-- a state on a best row -/
def Wst (T : Nat → Int32) (A p m V a : Nat) : Prop := V < 2 ^ stp T ∧ sbs V A ∧ ((V = 0 ∧ a = 9) ∨ (a < stp T ∧ V.testBit a = true ∧ gd T A p m (stp T - pcn 9 V) V a = true))
theorem Wst.gs {T : Nat → Int32} (ok : TnOK T) {A p m V a : Nat} (B : Best T A p m) (w : Wst T A p m V a) : Gs T A V a (dn T V a) := by
  obtain ⟨h1, h2, h3⟩ := w
  refine ⟨h1, h2, ?_⟩
  rcases h3 with e | ⟨e1, e2, e3⟩
  · exact Or.inl ⟨e.1, e.2, by rw [e.1, dn_0]⟩
  · exact Or.inr ⟨e1, e2, Nat.le_refl _, ((opt_B ok B _ V a h1 h2 e1 e2 rfl).mpr e3).1⟩
theorem lead_i {T : Nat → Int32} (ok : TnOK T) {A p m V a s : Nat} (B : Best T A p m) (w : Wst T A p m V a) (hs : s < stp T) : nq T A p m V a s = true ↔ V.testBit s = false ∧ A.testBit s = true ∧ dn T V a + dr T a s < clN T ∧ gp T A p m (V ||| 2 ^ s) s (dn T V a + dr T a s + fdN T s) := by
  have g := w.gs ok B
  have s9 := stp9 ok
  unfold nq
  rw [nx_i]
  constructor
  · rintro ⟨n1, n2, n3⟩
    have sA : A.testBit s = true := (gd_sub n2).1 s (or_has V s)
    have e := (dn_eq n1 hs).mpr n3
    have := (opt_B ok B _ (V ||| 2 ^ s) s (orb_lt g.1 hs) (sbs_or g.2.1 sA) hs (or_has V s) (by rw [pcn9_or n1 (by omega)])).mpr n2
    rw [e] at this
    exact ⟨n1, sA, by omega, this.2⟩
  · rintro ⟨n1, sA, n3, k, V', a', f2, f3⟩
    have g2 := g.st ok hs n1 sA n3
    have l := dn_le ok g.sa n1 hs
    have q := opt_A ok B f2 f3 g2.1 g2.2.1 hs (or_has V s) l (by omega)
    refine ⟨n1, ?_, (dn_eq n1 hs).mp q.symm⟩
    refine (opt_B ok B _ (V ||| 2 ^ s) s g2.1 g2.2.1 hs (or_has V s) (by rw [pcn9_or n1 (by omega)])).mp ⟨by omega, k, V', a', ?_, f3⟩
    rw [← q]
    exact f2
theorem wst_s {T : Nat → Int32} (ok : TnOK T) {A p m V a s : Nat} (w : Wst T A p m V a) (hs : s < stp T) (n : nq T A p m V a s = true) : Wst T A p m (V ||| 2 ^ s) s ∧ pcn 9 (V ||| 2 ^ s) = pcn 9 V + 1 ∧ dn T (V ||| 2 ^ s) s = dn T V a + dr T a s + fdN T s ∧ V.testBit s = false := by
  have s9 := stp9 ok
  unfold nq at n
  rw [nx_i] at n
  obtain ⟨n1, n2, n3⟩ := n
  have pr := pcn9_or n1 (show s < 9 by omega)
  have sA : A.testBit s = true := (gd_sub n2).1 s (or_has V s)
  refine ⟨⟨orb_lt w.1 hs, sbs_or w.2.1 sA, Or.inr ⟨hs, or_has V s, ?_⟩⟩, pr, (dn_eq n1 hs).mpr n3, n1⟩
  rw [pr]
  exact n2
theorem wst_ex {T : Nat → Int32} (ok : TnOK T) {A p m V a : Nat} (B : Best T A p m) (w : Wst T A p m V a) (hp : pp T V < p) : ∃ s, s < stp T ∧ nq T A p m V a s = true := by
  have s9 := stp9 ok
  have gpv : gp T A p m V a (dn T V a) := by
    rcases w.2.2 with e | ⟨e1, e2, e3⟩
    · rw [e.1, e.2, dn_0]
      rcases B.1 with z | ⟨V', a', f, z1, z2⟩
      · omega
      · obtain ⟨k, hk⟩ := Fz_rc ok (V' + 1) V' a' (by omega) f
        rw [z2] at hk
        exact ⟨k, V', a', hk, z1⟩
    · exact ((opt_B ok B _ V a w.1 w.2.1 e1 e2 rfl).mpr e3).2
  obtain ⟨k, V', a', h1, h2⟩ := gpv
  cases k with
  | zero =>
    rw [h1.1] at h2
    omega
  | succ k =>
    obtain ⟨s, s1, s2, s3, s4, s5⟩ := h1
    exact ⟨s, s1, (lead_i ok B w s1).mpr ⟨s2, s3, s4, k, V', a', s5, h2⟩⟩
theorem wk_p {T : Nat → Int32} (ok : TnOK T) {A p m i : Nat} (B : Best T A p m) (w : Wst T A p m (wq T A p m i).1 (wq T A p m i).2) (hp : pp T (wq T A p m i).1 < p) : wk T A p m i < stp T ∧ nq T A p m (wq T A p m i).1 (wq T A p m i).2 (wk T A p m i) = true := by
  obtain ⟨s, h1, h2⟩ := wst_ex ok B w hp
  have := fsx_sp (p := nq T A p m (wq T A p m i).1 (wq T A p m i).2) (d := stp T) (i := 0) (k := s) (by omega) (by omega) h2
  unfold wk
  exact ⟨by omega, this.2⟩
theorem wst0 (T : Nat → Int32) (A p m : Nat) : Wst T A p m 0 9 := ⟨Nat.two_pow_pos _, sbs_0 A, Or.inl ⟨rfl, rfl⟩⟩
theorem wq_p {T : Nat → Int32} (ok : TnOK T) {A p m : Nat} (B : Best T A p m) : ∀ i, (∀ j, j < i → pp T (wq T A p m j).1 < p) → Wst T A p m (wq T A p m i).1 (wq T A p m i).2 ∧ pcn 9 (wq T A p m i).1 = i
  | 0, _ => ⟨wst0 T A p m, pcn0⟩
  | i + 1, h => by
    obtain ⟨w, e⟩ := wq_p ok B i (fun j hj => h j (by omega))
    obtain ⟨k1, k2⟩ := wk_p ok B w (h i (by omega))
    obtain ⟨q1, q2, _⟩ := wst_s ok w k1 k2
    rw [wq_s]
    exact ⟨q1, by show pcn 9 ((wq T A p m i).1 ||| 2 ^ wk T A p m i) = _; omega⟩
/-- how many stops the row has -/
def wl (T : Nat → Int32) (A p m : Nat) : Nat := fsx (fun i => decide (p ≤ pp T (wq T A p m i).1)) (stp T) 0
theorem fsx_b {p : Nat → Bool} : ∀ {d i j : Nat}, i ≤ j → j < fsx p d i → p j = false
  | 0, i, j, h1, h2 => by
    have : fsx p 0 i = i := rfl
    omega
  | d + 1, i, j, h1, h2 => by
    unfold fsx at h2
    by_cases c : p i = true
    · rw [if_pos c] at h2; omega
    · rw [if_neg c] at h2
      by_cases e : i = j
      · subst e
        cases hb : p i
        · rfl
        · exact absurd hb c
      · exact fsx_b (by omega) h2
theorem wl_p {T : Nat → Int32} (ok : TnOK T) {A p m : Nat} (B : Best T A p m) : wl T A p m ≤ stp T ∧ (∀ i, i < wl T A p m → pp T (wq T A p m i).1 < p) ∧ p ≤ pp T (wq T A p m (wl T A p m)).1 := by
  have s9 := stp9 ok
  have l := (fsx_le (fun i => decide (p ≤ pp T (wq T A p m i).1)) (stp T) 0).2
  have e : wl T A p m = fsx (fun i => decide (p ≤ pp T (wq T A p m i).1)) (stp T) 0 := rfl
  have b : ∀ i, i < wl T A p m → pp T (wq T A p m i).1 < p := fun i hi => by
    have := fsx_b (p := fun i => decide (p ≤ pp T (wq T A p m i).1)) (d := stp T) (i := 0) (j := i) (by omega) (by omega)
    have := of_decide_eq_false this
    omega
  refine ⟨by omega, b, ?_⟩
  by_cases c : wl T A p m < stp T
  · have := fsx_lt (p := fun i => decide (p ≤ pp T (wq T A p m i).1)) (d := stp T) (i := 0) (by omega)
    rw [← e] at this
    exact of_decide_eq_true this
  · apply Nat.le_of_not_lt
    intro z
    obtain ⟨w, ew⟩ := wq_p ok B (wl T A p m) b
    obtain ⟨s, s1, s2⟩ := wst_ex ok B w z
    obtain ⟨q1, q2, _⟩ := wst_s ok w s1 s2
    have := pcn9_le q1.1 s9
    omega
theorem wq_w {T : Nat → Int32} (ok : TnOK T) {A p m i : Nat} (B : Best T A p m) (hi : i ≤ wl T A p m) : Wst T A p m (wq T A p m i).1 (wq T A p m i).2 ∧ pcn 9 (wq T A p m i).1 = i := wq_p ok B i (fun j hj => (wl_p ok B).2.1 j (by omega))
theorem wk_w {T : Nat → Int32} (ok : TnOK T) {A p m i : Nat} (B : Best T A p m) (hi : i < wl T A p m) : wk T A p m i < stp T ∧ nq T A p m (wq T A p m i).1 (wq T A p m i).2 (wk T A p m i) = true := wk_p ok B (wq_w ok B (by omega)).1 ((wl_p ok B).2.1 i hi)
theorem Rc_pp {T : Nat → Int32} {A : Nat} : ∀ {k B l m V a t : Nat}, Rc T A k B l m V a t → pp T B ≤ pp T V
  | 0, B, l, m, V, a, t, h => by rw [h.1]; omega
  | k + 1, B, l, m, V, a, t, h => by
    obtain ⟨s, h1, h2, h3, h4, h5⟩ := h
    have := Rc_pp h5
    rw [pp_or h2 h1] at this
    omega
/-- the last of the row is done by the fewest minutes -/
theorem wl_m {T : Nat → Int32} (ok : TnOK T) {A p m : Nat} (hA : ∀ i, A.testBit i = true → 0 < mdN T i) (B : Best T A p m) (h0 : 0 < wl T A p m) : dn T (wq T A p m (wl T A p m)).1 (wq T A p m (wl T A p m)).2 = m := by
  obtain ⟨w, e⟩ := wq_w ok B (Nat.le_refl _)
  have l := (wl_p ok B).2.2
  generalize wq T A p m (wl T A p m) = q at *
  obtain ⟨V, a⟩ := q
  rcases w.2.2 with z | ⟨e1, e2, e3⟩
  · have : pcn 9 V = 0 := by
      have z1 : V = 0 := z.1
      rw [z1]; exact pcn0
    have e' : pcn 9 V = wl T A p m := e
    omega
  · obtain ⟨_, k, V', a', h1, h2⟩ := (opt_B ok B _ V a w.1 w.2.1 e1 e2 rfl).mpr e3
    cases k with
    | zero => exact h1.2.2.symm
    | succ k =>
      obtain ⟨s, s1, s2, s3, s4, s5⟩ := h1
      have := Rc_pp s5
      rw [pp_or s2 s1] at this
      have := hA s s3
      have l' : p ≤ pp T V := l
      omega
