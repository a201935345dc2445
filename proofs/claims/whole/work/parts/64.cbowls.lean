/-! BOWLS in the class -/
def BoQ (h : xh) (T : Nat → Int32) (q : Nat) : Prop := (∀ s, q ≤ s → s ≤ stp T → xL h 148 s = lN (wd T (stp T - s))) ∧ ∀ s so, q ≤ s → s ≤ stp T → so < 100 → xL h 147 (s * 100 + so) = lN (cn T (stp T - s) so)
theorem dif_ring {x a b y : Int64} (h : x + a = y + b) : x + (a - b) = y := by grind
theorem c_Bowls_countsAfter {n : Nat} (hn : 3 ≤ n) {h : xh} (L : Lay h) {t : Nat} {T : Nat → Int32} (H : Tn h t T) {s so dd g : Nat} (hs : s < stp T) (B : BoQ h T (s + 1)) (hso : so < 100) (hdd : dd ≤ 20) (hg : g ≤ dd) (hg2 : g ≤ so) {Q : Int64 → xh → Prop} (hQ : Q (lN (cbN T (stp T - (s + 1)) s so dd g (cn T (stp T - (s + 1))))) h) : xcj (xMC n) 76 [.ref 146, .ref t, .int (nI s), .int (nI so), .int (nI dd), .int (nI g)] h Q := by
  obtain ⟨n, rfl⟩ := xsucc (show 1 ≤ n by omega)
  have s9 := stp9 H.ok
  have w2 := wtN_le T s
  refine w_Bowls_countsAfter ⟨H.s, c_Town_weight (by omega) H hs ⟨L.s 146, 148, L.r 146 2 148, ?_⟩⟩
  have i2 : (nI s + 1) * (100 : Int32) + nI so - nI g = nI ((s + 1) * 100 + (so - g)) := by
    rw [nI_1, show nI (s + 1) * (100 : Int32) = nI ((s + 1) * 100) from pk_mul _ 100, nI_add, pk_sub (by omega)]
    congr 1
    omega
  rw [i2, nI_1, nI_clamp (by omega), nI_clamp (by omega), wgt_n, pk_sub hg, pk_mul]
  have b1 : wtN T s * (dd - g) ≤ 2 * 20 := Nat.mul_le_mul w2 (by omega)
  rw [nI_l (by omega), B.1 (s + 1) (Nat.le_refl _) (by omega)]
  refine ⟨L.x 148 (n := 10) (by omega), 147, L.r 146 1 147, L.x 147 (n := 1000) (by omega), ?_⟩
  rw [B.2 (s + 1) (so - g) (Nat.le_refl _) (by omega) (by omega), lN_mul, lN_add]
  exact hQ
theorem c_Bowls_countsOverAll {n : Nat} (hn : 3 ≤ n) {h : xh} (L : Lay h) {t : Nat} {T : Nat → Int32} (H : Tn h t T) {s so : Nat} (hs : s < stp T) (B : BoQ h T (s + 1)) (hso : so < 100) {Q : Int64 → xh → Prop} (hQ : Q (lN (cn T (stp T - s) so)) h) : xcj (xMC n) 75 [.ref 146, .ref t, .int (nI s), .int (nI so)] h Q := by
  obtain ⟨n, rfl⟩ := xsucc (show 1 ≤ n by omega)
  have s9 := stp9 H.ok
  have w2 := wtN_le T s
  obtain ⟨elo, ehi, lh, h20⟩ := H.ok.lh hs
  obtain ⟨d, ed⟩ : ∃ d, stp T = s + 1 + d := ⟨stp T - (s + 1), by omega⟩
  have B1 := B.1 (s + 1) (Nat.le_refl _) (by omega)
  have B2 := fun x hx => B.2 (s + 1) x (Nat.le_refl _) (by omega) hx
  rw [show stp T - (s + 1) = d by omega] at B1 B2
  rw [show stp T - s = d + 1 by omega] at hQ
  have hQ' : Q (lN (sumN (fun i => bmn (fun g => cbN T d (stp T - (d + 1)) so (bN T (34 + (stp T - (d + 1))) + i) g (cn T d)) (min (bN T (34 + (stp T - (d + 1))) + i) so)) (chc T (stp T - (d + 1))))) h := hQ
  rw [show stp T - (d + 1) = s by omega] at hQ'
  generalize hlo : bN T (34 + s) = lo at *
  generalize hhi : bN T (43 + s) = hi at *
  have ec : chc T s = hi - lo + 1 := by unfold chc; rw [hlo, hhi]
  rw [ec] at hQ'
  have i9 : xar h 147 22 (nI ((s + 1) * 100 + so)) := L.x 147 (n := 1000) (by omega)
  refine w_Bowls_countsOverAll ⟨H.s, c_Town_weight (by omega) H hs ⟨L.s 146, 148, L.r 146 2 148, ?_⟩⟩
  rw [nI_1, show nI (s + 1) * (100 : Int32) = nI ((s + 1) * 100) from pk_mul _ 100, nI_add, nI_clamp (by omega), nI_clamp (by omega), wgt_n, nI_l (by omega), nI_l (by omega), B1]
  refine ⟨L.x 148 (n := 10) (by omega), 147, L.r 146 1 147, i9, ?_⟩
  rw [B2 so hso, lN_mul, lN_mul, lN_add]
  have key : ∀ e dd, dd + e = hi + 1 → ∀ o12 : Option Value, K_Bowls_countsOverAll n Q 48 [some (.ref 146), some (.ref t), some (.int (nI s)), some (.int (nI so)), some (.long (lN (wtN T s * wd T d))), none, some (.int (nI ((s + 1) * 100))), some (.long (lN (bmn (fun g => wtN T s * wd T d * (so - g) + cn T d (so - g)) (min (dd - 1) so)))), none, some (.long (lN (sumN (fun i => bmn (fun g => cbN T d s so (lo + i) g (cn T d)) (min (lo + i) so)) (dd - lo)))), none, some (.int (nI dd)), o12] [] h := by
    intro e
    induction e with
    | zero =>
      intro dd hdd o12
      have : dd = hi + 1 := by omega
      subst this
      refine b_Bowls_countsOverAll_48 ⟨H.s, _, H.r 4, H.x 4 (by omega), ?_⟩
      rw [nI_clamp (by omega), H.v 4 hs, show 7 + 9 * 4 + s = 43 + s from rfl, ehi, nI_ltI (by omega) (by omega)]
      rw [show hi + 1 - lo = hi - lo + 1 by omega]
      exact ⟨fun _ => hQ', fun z => absurd (Nat.lt_succ_self _) z⟩
    | succ e ih =>
      intro dd hdd o12
      have ih' := ih (dd + 1) (by omega)
      rw [show dd + 1 - 1 = dd by omega] at ih'
      have fin : ∀ o12 : Option Value, K_Bowls_countsOverAll n Q 94 [some (.ref 146), some (.ref t), some (.int (nI s)), some (.int (nI so)), some (.long (lN (wtN T s * wd T d))), none, some (.int (nI ((s + 1) * 100))), some (.long (lN (bmn (fun g => wtN T s * wd T d * (so - g) + cn T d (so - g)) (min dd so)))), none, some (.long (lN (sumN (fun i => bmn (fun g => cbN T d s so (lo + i) g (cn T d)) (min (lo + i) so)) (dd - lo)))), none, some (.int (nI dd)), o12] [] h := by
        intro o12
        refine b_Bowls_countsOverAll_94 ⟨H.s, _, H.r 3, H.x 3 (by omega), ?_⟩
        rw [nI_clamp (by omega), H.v 3 hs, show 7 + 9 * 3 + s = 34 + s from rfl, elo, nI_ltI (by omega) (by omega), nI_1]
        refine ⟨fun z => ?_, fun z => ?_⟩
        · rw [show dd + 1 - lo = dd - lo by omega] at ih'
          exact ih' _
        · rw [show dd + 1 - lo = (dd - lo) + 1 by omega] at ih'
          have ih2 := fun o => ih' o
          unfold sumN at ih2
          rw [show lo + (dd - lo) = dd by omega, ← lN_add] at ih2
          have e1 : lN (bmn (fun g => wtN T s * wd T d * (so - g) + cn T d (so - g)) (min dd so)) + lN (wtN T s * wd T d) * (nI dd - nI so).toInt64 = lN (bmn (fun g => cbN T d s so dd g (cn T d)) (min dd so)) := by
            rw [nI_dif (by omega) (by omega), Int64.mul_sub, lN_mul, lN_mul]
            refine dif_ring ?_
            rw [lN_add, lN_add]
            congr 1
            refine bmn_sh _ (fun g hg => ?_)
            unfold cbN
            have m1 : wtN T s * (dd - g) * wd T d = wtN T s * wd T d * (dd - g) := by rw [Nat.mul_assoc, Nat.mul_comm (dd - g), ← Nat.mul_assoc]
            rw [m1]
            generalize wtN T s * wd T d = u
            have k1 : u * (so - g) + u * dd = u * (dd - g) + u * so := by
              rw [← Nat.mul_add, ← Nat.mul_add]
              congr 1
              omega
            omega
          rw [e1]
          exact ih2 _
      refine b_Bowls_countsOverAll_48 ⟨H.s, _, H.r 4, H.x 4 (by omega), ?_⟩
      rw [nI_clamp (by omega), H.v 4 hs, show 7 + 9 * 4 + s = 43 + s from rfl, ehi, nI_ltI (by omega) (by omega)]
      refine ⟨fun z => by omega, fun _ => ⟨fun z => ?_, fun z => ⟨L.s 146, 147, L.r 146 1 147, ?_⟩⟩⟩
      · have lt : so < dd := by
          by_cases c : so < dd
          · exact c
          · rw [pk_sub (show dd ≤ so by omega)] at z
            exact absurd z (nI_pos (by omega))
        rw [show min (dd - 1) so = min dd so by omega]
        exact fin _
      · have le : dd ≤ so := by
          by_cases c : dd ≤ so
          · exact c
          · exfalso
            refine z ?_
            rw [Int32.lt_iff_toInt_lt, pk_sub_toInt (by omega) (by omega)]
            have : (0 : Int32).toInt = 0 := rfl
            omega
        have bd := cn_b H.ok (d := d) (by omega) (so - dd)
        rw [pk_sub le, nI_add, nI_clamp (by omega), nI_l (by omega), B2 (so - dd) (by omega), lN_mul, lN_add]
        refine ⟨L.x 147 (n := 1000) (by omega), c_Math_minJ (by omega) ?_⟩
        have wb := wd_b H.ok (d := d) (by omega)
        have ub : wtN T s * wd T d ≤ 2 * 794280046581 := Nat.mul_le_mul w2 wb
        have F0 : ∀ g, wtN T s * wd T d * (so - g) + cn T d (so - g) < 2 ^ 63 := fun g => by
          have c1 := cn_b H.ok (d := d) (by omega) (so - g)
          have c2 : wtN T s * wd T d * (so - g) ≤ 1588560093162 * 100 := Nat.mul_le_mul ub (by omega)
          omega
        have Fb := bmn_le (fun g => wtN T s * wd T d * (so - g) + cn T d (so - g)) (min (dd - 1) so)
        have F00 := F0 0
        have em : (if lN (wtN T s * wd T d * (so - dd) + cn T d (so - dd)) < lN (bmn (fun g => wtN T s * wd T d * (so - g) + cn T d (so - g)) (min (dd - 1) so)) then lN (wtN T s * wd T d * (so - dd) + cn T d (so - dd)) else lN (bmn (fun g => wtN T s * wd T d * (so - g) + cn T d (so - g)) (min (dd - 1) so))) = lN (bmn (fun g => wtN T s * wd T d * (so - g) + cn T d (so - g)) (min dd so)) := by
          have lx : ∀ {a b : Nat}, a < 2 ^ 63 → b < 2 ^ 63 → (if lN a < lN b then lN a else lN b) = lN (min b a) := fun {a b} ha hb => by
            by_cases c : a < b
            · rw [if_pos (Int64.not_le.mp (fun z => absurd ((pk_lLE hb ha).mp z) (by omega))), Nat.min_eq_right (by omega)]
            · rw [if_neg (fun z => absurd ((pk_lLE hb ha).mpr (by omega)) (Int64.not_le.mpr z)), Nat.min_eq_left (by omega)]
          rw [lx (F0 dd) (Nat.lt_of_le_of_lt Fb F00)]
          congr 1
          by_cases d0 : dd = 0
          · subst d0
            rw [show min (0 - 1) so = 0 by omega]
            exact Nat.min_self _
          · obtain ⟨x, rfl⟩ : ∃ x, dd = x + 1 := ⟨dd - 1, by omega⟩
            rw [show min (x + 1 - 1) so = x by omega, show min (x + 1) so = x + 1 by omega]
            rfl
        rw [em]
        exact fin _
  have k0 := key (hi + 1) 0 (by omega) none
  rw [show min (0 - 1) so = 0 by omega, show 0 - lo = 0 by omega] at k0
  exact k0
