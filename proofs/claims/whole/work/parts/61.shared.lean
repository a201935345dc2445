/-! shared: days of a van and of a chapel -/
theorem pcn_union (V W : Nat) : ∀ k, pcn k (V ||| W) = pcn k V + pcn k (sdf W V)
  | 0 => rfl
  | k + 1 => by
    unfold pcn
    rw [pcn_union V W k, Nat.testBit_or, sdf_bit]
    cases V.testBit k <;> cases W.testBit k <;> simp <;> omega
theorem pcn_split (V W : Nat) : ∀ k, pcn k W = pcn k (sdf W V) + pcn k (V &&& W)
  | 0 => rfl
  | k + 1 => by
    unfold pcn
    rw [pcn_split V W k, Nat.testBit_and, sdf_bit]
    cases V.testBit k <;> cases W.testBit k <;> simp <;> omega
theorem pcn_sub {A B : Nat} (h : ∀ i, A.testBit i = true → B.testBit i = true) : ∀ k, pcn k A ≤ pcn k B
  | 0 => Nat.le_refl _
  | k + 1 => by
    unfold pcn
    have := pcn_sub h k
    have hk := h k
    cases ca : A.testBit k
    · simp; omega
    · rw [hk ca]; simp; omega
theorem sdf0 {A B : Nat} : sdf A B = 0 ↔ ∀ i, A.testBit i = true → B.testBit i = true := by
  constructor
  · intro h i hi
    have := sdf_bit A B i
    rw [h, Nat.zero_testBit, hi] at this
    cases hb : B.testBit i
    · rw [hb] at this; exact absurd this (by decide)
    · rfl
  · intro h
    apply Nat.eq_of_testBit_eq
    intro i
    rw [sdf_bit, Nat.zero_testBit]
    cases ha : A.testBit i
    · rfl
    · rw [h i ha]; rfl
theorem pcn_0 : ∀ Z, Z < 128 → pcn 9 Z = 0 → Z = 0 := by decide +kernel
def cov (C m d : Nat) : Nat := pcn 9 d + min m (pcn 9 (sdf C d))
def vD (V C n m : Nat) : Nat → Nat × Nat
  | 0 => (0, 0)
  | d + 1 => if sdf d V = 0 ∧ pcn 9 d ≤ n ∧ (vD V C n m d).2 < cov C m d + 1 then (d, cov C m d + 1) else vD V C n m d
theorem vD_y {V C n m d : Nat} (h : sdf d V = 0 ∧ pcn 9 d ≤ n ∧ (vD V C n m d).2 < cov C m d + 1) : vD V C n m (d + 1) = (d, cov C m d + 1) := if_pos h
theorem vD_n {V C n m d : Nat} (h : ¬ (sdf d V = 0 ∧ pcn 9 d ≤ n ∧ (vD V C n m d).2 < cov C m d + 1)) : vD V C n m (d + 1) = vD V C n m d := if_neg h
theorem vD_p (V C n m : Nat) : ∀ i, (∀ d, d < i → sdf d V = 0 → pcn 9 d ≤ n → cov C m d + 1 ≤ (vD V C n m i).2) ∧ ((vD V C n m i).2 ≠ 0 → sdf (vD V C n m i).1 V = 0 ∧ pcn 9 (vD V C n m i).1 ≤ n ∧ (vD V C n m i).1 < i ∧ cov C m (vD V C n m i).1 + 1 = (vD V C n m i).2 ∧ ∀ d, d < (vD V C n m i).1 → sdf d V = 0 → pcn 9 d ≤ n → cov C m d + 1 < (vD V C n m i).2)
  | 0 => ⟨fun d h => absurd h (Nat.not_lt_zero d), fun h => absurd rfl h⟩
  | i + 1 => by
    obtain ⟨p1, p2⟩ := vD_p V C n m i
    by_cases c : sdf i V = 0 ∧ pcn 9 i ≤ n ∧ (vD V C n m i).2 < cov C m i + 1
    · rw [vD_y c]
      refine ⟨fun d hd h1 h2 => ?_, fun _ => ⟨c.1, c.2.1, Nat.lt_succ_self i, rfl, fun d hd h1 h2 => ?_⟩⟩
      · show cov C m d + 1 ≤ cov C m i + 1
        by_cases e : d = i
        · subst e; exact Nat.le_refl _
        · have := p1 d (by omega) h1 h2
          omega
      · have := p1 d hd h1 h2
        show cov C m d + 1 < cov C m i + 1
        omega
    · rw [vD_n c]
      refine ⟨fun d hd h1 h2 => ?_, fun hne => ?_⟩
      · by_cases e : d = i
        · subst e
          by_cases l : (vD V C n m d).2 < cov C m d + 1
          · exact absurd ⟨h1, h2, l⟩ c
          · omega
        · exact p1 d (by omega) h1 h2
      · obtain ⟨q1, q2, q3, q4, q5⟩ := p2 hne
        exact ⟨q1, q2, by omega, q4, q5⟩
def lb (S m : Nat) : Nat → Nat
  | 0 => 0
  | i + 1 => if S.testBit i = true ∧ pcn 9 (lb S m i) < m then lb S m i ||| 2 ^ i else lb S m i
theorem lb_a : ∀ S, S < 128 → ∀ m, m < 8 → sdf (lb S m 7) S = 0 ∧ pcn 9 (lb S m 7) = min m (pcn 9 S) ∧ lb S m 7 = lb S (min m (pcn 9 S)) 7 ∧ lb S m 7 < 128 := by decide +kernel
theorem lb_b : ∀ S, S < 128 → ∀ o, o < 128 → sdf o S = 0 → lb S (pcn 9 o) 7 ≤ o := by decide +kernel
theorem lb_lt (S m : Nat) : ∀ i, i ≤ 7 → lb S m i < 128
  | 0, _ => (show 0 < 128 by decide)
  | i + 1, h => by
    have ih := lb_lt S m i (by omega)
    unfold lb
    split
    · exact orb_lt (k := 7) ih (by omega)
    · exact ih
/-- two sets of days against what the first can cover -/
theorem cov_le {C m d o : Nat} (h1 : sdf o C = 0) (h2 : pcn 9 o ≤ m) : pcn 9 (d ||| o) ≤ cov C m d := by
  have e1 := pcn_union d o 9
  have e2 := pcn_split d o 9
  have e3 : pcn 9 (sdf o d) ≤ pcn 9 (sdf C d) := pcn_sub (fun i hi => by
    rw [sdf_bit] at hi ⊢
    have := sdf0.mp h1 i
    cases co : o.testBit i
    · rw [co] at hi; exact absurd hi Bool.false_ne_true
    · rw [this co]; rw [co] at hi; exact hi) 9
  unfold cov
  omega
theorem cov_eq {C m d o : Nat} (hd : d < 128) (ho : o < 128) (h1 : sdf o C = 0) (h2 : pcn 9 o ≤ m) (h3 : pcn 9 (d ||| o) = cov C m d) (h4 : pcn 9 (d &&& o) = 0) : sdf o (sdf C d) = 0 ∧ pcn 9 o = min m (pcn 9 (sdf C d)) := by
  have e1 := pcn_union d o 9
  have e2 := pcn_split d o 9
  have z : d &&& o = 0 := pcn_0 _ (Nat.lt_of_le_of_lt Nat.and_le_left hd) h4
  refine ⟨sdf0.mpr (fun i hi => ?_), ?_⟩
  · rw [sdf_bit, sdf0.mp h1 i hi]
    have y := Nat.testBit_and d o i
    rw [z, Nat.zero_testBit, hi] at y
    cases cd : d.testBit i
    · rfl
    · rw [cd] at y; exact absurd y (by decide)
  · unfold cov at h3
    omega
/-- what the least pair of days is -/
theorem shr_p {V C n m : Nat} (hC : C < 128) (hm : m ≤ 7) : (vD V C n m 128).1 < 128 ∧ (vD V C n m 128).2 = cov C m (vD V C n m 128).1 + 1 ∧ sdf (vD V C n m 128).1 V = 0 ∧ pcn 9 (vD V C n m 128).1 ≤ n ∧ lb (sdf C (vD V C n m 128).1) m 7 < 128 ∧ sdf (lb (sdf C (vD V C n m 128).1) m 7) C = 0 ∧ pcn 9 (lb (sdf C (vD V C n m 128).1) m 7) ≤ m ∧ pcn 9 ((vD V C n m 128).1 ||| lb (sdf C (vD V C n m 128).1) m 7) = cov C m (vD V C n m 128).1 ∧ pcn 9 ((vD V C n m 128).1 &&& lb (sdf C (vD V C n m 128).1) m 7) = 0 ∧ ∀ d o, d < 128 → o < 128 → sdf d V = 0 → sdf o C = 0 → pcn 9 d ≤ n → pcn 9 o ≤ m → pcn 9 (d ||| o) ≤ cov C m (vD V C n m 128).1 ∧ (pcn 9 (d ||| o) = cov C m (vD V C n m 128).1 → pcn 9 (d &&& o) = 0 → 128 * (vD V C n m 128).1 + lb (sdf C (vD V C n m 128).1) m 7 ≤ 128 * d + o) := by
  obtain ⟨p1, p2⟩ := vD_p V C n m 128
  have ne : (vD V C n m 128).2 ≠ 0 := by
    have := p1 0 (by decide) (by unfold sdf; simp) (by simp [pcn])
    omega
  obtain ⟨q1, q2, q3, q4, q5⟩ := p2 ne
  generalize (vD V C n m 128).1 = D at *
  generalize (vD V C n m 128).2 = M at *
  have hS : sdf C D < 128 := sdf_lt (k := 7) hC
  obtain ⟨l1, l2, l3, l4⟩ := lb_a (sdf C D) hS m (by omega)
  generalize hL : lb (sdf C D) m 7 = L at *
  have LC : sdf L C = 0 := sdf0.mpr (fun i hi => by
    have := sdf0.mp l1 i hi
    rw [sdf_bit] at this
    cases hc : C.testBit i
    · rw [hc] at this; exact absurd this Bool.false_ne_true
    · rfl)
  have LD : D &&& L = 0 := by
    apply Nat.eq_of_testBit_eq
    intro i
    rw [Nat.testBit_and, Nat.zero_testBit]
    cases hl : L.testBit i
    · cases D.testBit i <;> rfl
    · have := sdf0.mp l1 i hl
      rw [sdf_bit] at this
      cases hd : D.testBit i
      · rfl
      · rw [hd] at this
        cases hc : C.testBit i <;> rw [hc] at this <;> exact absurd this (by decide)
  have e1 := pcn_union D L 9
  have e2 := pcn_split D L 9
  have e0 : pcn 9 (D &&& L) = 0 := by rw [LD]; decide
  refine ⟨q3, q4.symm, q1, q2, l4, LC, by omega, ?_, e0, fun d o hd ho h1 h2 h3 h4 => ?_⟩
  · unfold cov
    omega
  · have c1 := cov_le (d := d) h2 h4
    have c2 := p1 d hd h1 h3
    refine ⟨by omega, fun c3 c4 => ?_⟩
    have c5 : cov C m d = cov C m D := by omega
    by_cases dD : d < D
    · have := q5 d dD h1 h3
      omega
    · by_cases e : d = D
      · subst e
        obtain ⟨k1, k2⟩ := cov_eq hd ho h2 h4 c3 c4
        have := lb_b (sdf C d) hS o ho k1
        rw [k2, ← l3] at this
        omega
      · omega
theorem c_So_vanDays {k : Nat} (hk : 2 ≤ k) {h : xh} {V C n m : Nat} (hV : V < 128) (hC : C < 128) (hn : n ≤ 7) (hm : m ≤ 7) {Q : Int32 → xh → Prop} (hQ : Q (nI (vD V C n m 128).1) h) : xci (xMC k) 203 [.int (nI V), .int (nI C), .int (nI n), .int (nI m)] h Q := by
  obtain ⟨k, rfl⟩ := xsucc (show 1 ≤ k by omega)
  have b2 : ∀ i, (vD V C n m i).2 ≤ 17 := by
    intro i
    induction i with
    | zero => exact Nat.zero_le _
    | succ i ih =>
      by_cases c : sdf i V = 0 ∧ pcn 9 i ≤ n ∧ (vD V C n m i).2 < cov C m i + 1
      · rw [vD_y c]
        show cov C m i + 1 ≤ 17
        have := pcn_le 9 i
        unfold cov
        omega
      · rw [vD_n c]; exact ih
  have key : ∀ d i, i + d = 128 → ∀ o7 : Option Value, K_So_vanDays k Q 9 [some (.int (nI V)), some (.int (nI C)), some (.int (nI n)), some (.int (nI m)), some (.int (nI (vD V C n m i).1)), some (.int (nI (vD V C n m i).2 - 1)), some (.int (nI i)), o7] [] h := by
    intro d
    induction d with
    | zero =>
      intro i hi o7
      have : i = 128 := by omega
      subst this
      exact b_So_vanDays_9 ⟨fun _ => hQ, fun z => absurd (Int32.le_refl _) z⟩
    | succ d ih =>
      intro i hi o7
      have ih' := ih (i + 1) (by omega)
      have iV : sdf i V < 128 := sdf_lt (k := 7) (by omega)
      have iC : sdf C i < 128 := sdf_lt (k := 7) hC
      have pi := pcn_le 9 i
      have pc := pcn_le 9 (sdf C i)
      have bi := b2 i
      refine b_So_vanDays_9 ⟨fun z => absurd z (nI_ge (b := 128) (by omega) (by decide)), fun _ => ?_⟩
      rw [bt_sdf, bt_sdf, nI_1]
      refine ⟨fun z => ?_, fun z => c_Integer_bitCount (by omega) (by omega) ?_⟩
      · rw [vD_n (fun y => z (by rw [y.1]; rfl))] at ih'
        exact ih' _
      · have z0 : sdf i V = 0 := (nI_eq (b := 0) (by omega) (by decide)).mp z
        rw [nI_ltI (by omega) (by omega)]
        refine ⟨fun y => ?_, fun y => c_Integer_bitCount (by omega) (by omega) (c_Integer_bitCount (by omega) (by omega) (c_Math_min (by omega) ?_))⟩
        · rw [vD_n (fun x => by have := x.2.1; omega)] at ih'
          exact ih' _
        · have em : (if nI (pcn 9 (sdf C i)) < nI m then nI (pcn 9 (sdf C i)) else nI m) = nI (min m (pcn 9 (sdf C i))) := mn_n (by omega) (by omega)
          rw [em, nI_add, show pcn 9 i + min m (pcn 9 (sdf C i)) = cov C m i from rfl]
          have cb : cov C m i ≤ 16 := by unfold cov; omega
          have le : nI (cov C m i) ≤ nI (vD V C n m i).2 - 1 ↔ cov C m i + 1 ≤ (vD V C n m i).2 := by
            by_cases e : (vD V C n m i).2 = 0
            · rw [e]
              constructor
              · intro q
                exact absurd (Int32.le_trans (nI_pos' (by omega)) q) (by decide)
              · intro q; omega
            · rw [show nI (vD V C n m i).2 - (1 : Int32) = nI ((vD V C n m i).2 - 1) from pk_sub (b := 1) (by omega), nI_leI (by omega) (by omega)]
              omega
          rw [le]
          refine ⟨fun x => ?_, fun x => ?_⟩
          · rw [vD_n (fun w => by have := w.2.2; omega)] at ih'
            exact ih' _
          · rw [vD_y ⟨z0, by omega, by omega⟩] at ih'
            rw [show nI (cov C m i + 1) - (1 : Int32) = nI (cov C m i) from nI_pred _] at ih'
            exact ih' _
  exact w_So_vanDays (key 128 0 (by omega) none)
theorem c_So_lowestBits {k : Nat} (hk : 2 ≤ k) {h : xh} {S m : Nat} (hS : S < 128) (hm : m ≤ 7) {Q : Int32 → xh → Prop} (hQ : Q (nI (lb S m 7)) h) : xci (xMC k) 204 [.int (nI S), .int (nI m)] h Q := by
  obtain ⟨k, rfl⟩ := xsucc (show 1 ≤ k by omega)
  have key : ∀ d i, i + d = 7 → K_So_lowestBits k Q 4 [some (.int (nI S)), some (.int (nI m)), some (.int (nI (lb S m i))), some (.int (nI i))] [] h := by
    intro d
    induction d with
    | zero =>
      intro i hi
      have : i = 7 := by omega
      subst this
      exact b_So_lowestBits_4 ⟨fun _ => hQ, fun z => absurd (Int32.le_refl _) z⟩
    | succ d ih =>
      intro i hi
      have ih' := ih (i + 1) (by omega)
      have ll := lb_lt S m i (by omega)
      have pl := pcn_le 9 (lb S m i)
      unfold lb at ih'
      refine b_So_lowestBits_4 ⟨fun z => absurd z (nI_ge (b := 7) (by omega) (by decide)), fun _ => ?_⟩
      rw [bt_has S (by omega) i (by omega), nI_1]
      cases c : S.testBit i
      · rw [if_neg (fun z => by rw [c] at z; exact absurd z.1 (by decide))] at ih'
        exact ⟨fun _ => ih', fun z => absurd z (by decide)⟩
      · refine ⟨fun z => absurd rfl z, fun _ => c_Integer_bitCount (by omega) (by omega) ?_⟩
        rw [nI_leI (by omega) (by omega), bt_set _ (by omega)]
        refine ⟨fun z => ?_, fun z => ?_⟩
        · rw [if_neg (fun y => by have := y.2; omega)] at ih'
          exact ih'
        · rw [if_pos ⟨c, by omega⟩] at ih'
          exact ih'
  exact w_So_lowestBits (key 7 0 (by omega))
