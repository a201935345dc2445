/-! ROUTES in the class: measure, findPaths -/
def P15 (c : Nat) : Prop := 150 ≤ c ∧ c ≤ 158
theorem rP {a : Nat} (h1 : 150 ≤ a := by decide) (h2 : a ≤ 158 := by decide) : P15 a := ⟨h1, h2⟩
def Ap (h : xh) (T : Nat → Int32) (q : Nat) : Prop := ∀ a s, plc T a → s < q → xI h 151 (a * 9 + s) = nI (dr T a s)
def Pp (h : xh) (T : Nat → Int32) (N : Nat) : Prop := ∀ V, V < N → xI h 154 V = nI (pp T V) ∧ xI h 155 V = nI (ff T V)
/-- the stops at which somebody comes in the middle -/
def ppl (T : Nat → Int32) : Nat → Nat
  | 0 => 0
  | k + 1 => if 0 < mdN T k then ppl T k ||| 2 ^ k else ppl T k
theorem ppl_lt (T : Nat → Int32) : ∀ k, ppl T k < 2 ^ k
  | 0 => Nat.one_pos
  | k + 1 => by
    have ih := ppl_lt T k
    have h : 2 ^ k < 2 ^ (k + 1) := Nat.pow_lt_pow_right (by decide) (Nat.lt_succ_self k)
    unfold ppl
    split
    · exact orb_lt (k := k + 1) (by omega) (Nat.lt_succ_self k)
    · omega
theorem ppl_bit (T : Nat → Int32) : ∀ n k, (ppl T n).testBit k = (decide (k < n) && decide (0 < mdN T k))
  | 0, k => by show Nat.testBit 0 k = _; rw [Nat.zero_testBit, decide_eq_false (Nat.not_lt_zero k)]; rfl
  | n + 1, k => by
    unfold ppl
    by_cases e : k = n
    · subst e
      have b : (ppl T k).testBit k = false := Nat.testBit_lt_two_pow (ppl_lt T k)
      rw [decide_eq_true (Nat.lt_succ_self k)]
      by_cases c : 0 < mdN T k
      · rw [if_pos c, or_bit, decide_eq_true c]; simp
      · rw [if_neg c, b, decide_eq_false c]; rfl
    · have d : decide (k < n + 1) = decide (k < n) := by
        by_cases c : k < n
        · rw [decide_eq_true c, decide_eq_true (by omega)]
        · rw [decide_eq_false c, decide_eq_false (by omega)]
      rw [d]
      by_cases c : 0 < mdN T n
      · rw [if_pos c, or_bit, ppl_bit T n k, show decide (n = k) = false from decide_eq_false (fun z => e z.symm), Bool.or_false]
      · rw [if_neg c, ppl_bit T n k]
def PMs (c : Nat) : Prop := c = 150 ∨ c = 151 ∨ c = 154 ∨ c = 155
theorem c_Routes_measure {n : Nat} (hn : 4 ≤ n) {h : xh} (L : Lay h) {t : Nat} {T : Nat → Int32} (H : Tn h t T) (ht : t + 7 < 150) (z4 : xI h 154 0 = 0) (z5 : xI h 155 0 = 0) {Q : xh → Prop} (hQ : ∀ h', Fr PMs h h' → (∀ i, i ≠ 13 → xI h' 150 i = xI h 150 i) → Ap h' T (stp T) → Pp h' T (2 ^ stp T) → xI h' 150 13 = nI (ppl T (stp T)) → Q h') : xcv (xMC n) 84 [.ref 150, .ref t] h Q := by
  obtain ⟨n, rfl⟩ := xsucc (show 1 ≤ n by omega)
  have ok := H.ok
  have s9 := stp9 ok
  have fT : ∀ {g}, Fr PMs h g → Tn g t T := fun F => H.fr F (fun c h1 h2 z => by unfold PMs at z; omega)
  have p512 : 2 ^ stp T ≤ 512 := Nat.le_trans (Nat.pow_le_pow_right (by decide) s9) (by decide)
  have key : ∀ d s, s + d = stp T → ∀ g, Fr PMs h g → (∀ i, i ≠ 13 → xI g 150 i = xI h 150 i) → Ap g T s → Pp g T (2 ^ s) → xI g 150 13 = nI (ppl T s) → ∀ o3 : Option Value, K_Routes_measure n Q 7 [some (.ref 150), some (.ref t), some (.int (nI s)), o3] [] g := by
    intro d
    induction d with
    | zero =>
      intro s hsd g F eF A P p13 o3
      have : s = stp T := by omega
      subst this
      have Hg := fT F
      refine b_Routes_measure_7 ⟨Hg.s, ?_⟩
      rw [Hg.i 6, ok.s6.1]
      exact ⟨fun _ => hQ g F eF A P p13, fun z => absurd (Int32.le_refl _) z⟩
    | succ d ih =>
      intro s hsd g F eF A P p13 o3
      have hs : s < stp T := by omega
      obtain ⟨em, m20⟩ := mid_n ok hs
      have ps : 2 ^ s ≤ 256 := Nat.le_trans (Nat.pow_le_pow_right (by decide) (show s ≤ 8 by omega)) (by decide)
      have ps2 : 2 ^ (s + 1) = 2 * 2 ^ s := by rw [Nat.pow_succ]; omega
      have k89 : ∀ e x, x + e = 2 ^ s → ∀ g, Fr PMs h g → (∀ i, i ≠ 13 → xI g 150 i = xI h 150 i) → Ap g T (s + 1) → Pp g T (2 ^ s + x) → xI g 150 13 = nI (ppl T (s + 1)) → K_Routes_measure n Q 89 [some (.ref 150), some (.ref t), some (.int (nI s)), some (.int (nI x))] [] g := by
        intro e
        induction e with
        | zero =>
          intro x hx g F eF A P p13
          have : x = 2 ^ s := by omega
          subst this
          refine b_Routes_measure_89 ?_
          rw [bt_shl s (by omega), nI_1]
          refine ⟨fun _ => ih (s + 1) (by omega) g F eF A ?_ p13 _, fun z => absurd (Int32.le_refl _) z⟩
          rw [ps2, show 2 * 2 ^ s = 2 ^ s + 2 ^ s by omega]
          exact P
        | succ e ie =>
          intro x hx g F eF A P p13
          have Lg := F.lay L
          have Hg := fT F
          have oa := or_add s (by omega) x (by omega)
          have bk : x.testBit s = false := Nat.testBit_lt_two_pow (by omega)
          have e1 := pp_or (T := T) bk hs
          have e2 := ff_or (T := T) bk hs
          rw [oa] at e1 e2
          have q := P x (by omega)
          refine b_Routes_measure_89 ?_
          rw [bt_shl s (by omega), nI_or, oa, nI_clamp (by omega), nI_clamp (by omega)]
          refine ⟨fun z => absurd z (nI_ge (by omega) (by omega)), fun _ => ⟨Lg.s 150, 154, Lg.r 150 5 154, Lg.x 154 (n := 512) (by omega), Hg.s, c_Town_middle (by omega) Hg hs ⟨⟨by decide, Lg.x 154 (n := 512) (by omega)⟩, ?_⟩⟩⟩
          rw [q.1, em, nI_add, ← e1]
          have F1 : Fr PMs h (xsI g 154 (2 ^ s + x) (nI (pp T (2 ^ s + x)))) := F.wI (Or.inr (Or.inr (Or.inl rfl)))
          have H1 := fT F1
          have L1 := F1.lay L
          refine b_Routes_measure_118 ⟨L1.s 150, 155, L1.r 150 6 155, L1.x 155 (n := 512) (by omega), H1.s, c_Town_middle (by omega) H1 hs ?_⟩
          rw [bt_shl s (by omega), nI_or, oa, nI_clamp (by omega), nI_clamp (by omega)]
          refine ⟨⟨by decide, L1.x 155 (n := 512) (by omega)⟩, b_Routes_measure_144 ?_⟩
          rw [xsI_ne _ _ _ (by decide), q.2, em, nI_1, nI_1, show nI (mdN T s + 1) / (2 : Int32) = nI ((mdN T s + 1) / 2) from pk_div (d := 2) (by omega) (by decide) (by decide), nI_add, show ff T x + (mdN T s + 1) / 2 = ff T (2 ^ s + x) from e2.symm]
          refine ie (x + 1) (by omega) _ (F1.wI (Or.inr (Or.inr (Or.inr rfl)))) (fun i hi => ?_) (fun a s' h1 h2 => ?_) (fun V hV => ?_) ?_
          · rw [xsI_ne _ _ _ (by decide), xsI_ne _ _ _ (by decide)]; exact eF i hi
          · rw [xsI_ne _ _ _ (by decide), xsI_ne _ _ _ (by decide)]; exact A a s' h1 h2
          · by_cases c : V = 2 ^ s + x
            · subst c
              rw [xsI_ne _ _ _ (by decide), upI_s, upI_s]
              exact ⟨rfl, rfl⟩
            · rw [xsI_ne _ _ _ (by decide), upI_o _ _ _ _ c, upI_o _ _ _ _ c, xsI_ne _ _ _ (by decide)]
              exact P V (by omega)
          · rw [xsI_ne _ _ _ (by decide), xsI_ne _ _ _ (by decide)]; exact p13
      have k63 : ∀ g, Fr PMs h g → (∀ i, i ≠ 13 → xI g 150 i = xI h 150 i) → Ap g T (s + 1) → Pp g T (2 ^ s) → xI g 150 13 = nI (ppl T s) → ∀ o3 : Option Value, K_Routes_measure n Q 63 [some (.ref 150), some (.ref t), some (.int (nI s)), o3] [] g := by
        intro g F eF A P p13 o3
        have Lg := F.lay L
        have Hg := fT F
        have fin : ∀ v : Int32, v = nI (ppl T (s + 1)) → (64 ≤ 150 ∧ xS g 150 = (9, 0)) ∧ K_Routes_measure n Q 87 [some (.ref 150), some (.ref t), some (.int (nI s)), o3] [] (xsI g 150 13 v) := by
          intro v hv
          refine ⟨⟨by decide, Lg.s 150⟩, b_Routes_measure_87 (k89 (2 ^ s) 0 (by omega) _ (F.wI (Or.inl rfl)) (fun i hi => ?_) (fun a s' h1 h2 => ?_) (fun V hV => ?_) ?_)⟩
          · rw [upI_o _ _ _ _ hi]; exact eF i hi
          · rw [xsI_ne _ _ _ (by decide)]; exact A a s' h1 h2
          · rw [xsI_ne _ _ _ (by decide), xsI_ne _ _ _ (by decide)]; exact P V hV
          · rw [upI_s]; exact hv
        refine b_Routes_measure_63 ⟨Lg.s 150, Hg.s, c_Town_middle (by omega) Hg hs ?_⟩
        rw [em, p13]
        refine ⟨fun z => fin _ ?_, fun z => fin _ ?_⟩
        · have m0 : ¬ 0 < mdN T s := fun y => nI_nle y (by omega) z
          rw [show (0 : Int32) = nI 0 from rfl, nI_or, Nat.or_zero]
          show _ = nI (if 0 < mdN T s then ppl T s ||| 2 ^ s else ppl T s)
          rw [if_neg m0]
        · have m0 : 0 < mdN T s := Nat.pos_of_ne_zero (fun y => z (by rw [y]; decide))
          rw [bt_set _ (by omega)]
          show _ = nI (if 0 < mdN T s then ppl T s ||| 2 ^ s else ppl T s)
          rw [if_pos m0]
      have k17 : ∀ e a, a + e = stp T → ∀ g, Fr PMs h g → (∀ i, i ≠ 13 → xI g 150 i = xI h 150 i) → Ap g T s → Pp g T (2 ^ s) → xI g 150 13 = nI (ppl T s) → (∀ b, b < a → xI g 151 (b * 9 + s) = nI (dr T b s)) → K_Routes_measure n Q 17 [some (.ref 150), some (.ref t), some (.int (nI s)), some (.int (nI a))] [] g := by
        intro e
        induction e with
        | zero =>
          intro a hae g F eF A P p13 c1
          have : a = stp T := by omega
          subst this
          have Lg := F.lay L
          have Hg := fT F
          refine b_Routes_measure_17 ⟨Hg.s, ?_⟩
          rw [Hg.i 6, ok.s6.1]
          refine ⟨fun _ => ⟨Lg.s 150, 151, Lg.r 150 2 151, c_Town_minutes (by omega) Hg (Or.inl rfl) (Or.inr ⟨s, hs, rfl⟩) ?_⟩, fun z => absurd (Int32.le_refl _) z⟩
          have ed : drv T (-1) (nI s) = nI (dr T 9 s) := by
            have := drv_n ok (a := 9) (b := s) (Or.inl rfl) (Or.inr hs)
            rwa [pI_9, pI_k (by omega)] at this
          rw [ed, show (81 : Int32) + nI s = nI (81 + s) from nI_add 81 s, nI_clamp (by omega)]
          refine ⟨⟨by decide, Lg.x 151 (n := 90) (by omega)⟩, k63 _ (F.wI (Or.inr (Or.inl rfl))) (fun i hi => ?_) (fun a s' h1 h2 => ?_) (fun V hV => ?_) ?_ _⟩
          · rw [xsI_ne _ _ _ (by decide)]; exact eF i hi
          · rw [upI]
            by_cases c : a * 9 + s' = 81 + s
            · have ha9 : a = 9 := by rcases h1 with q | q <;> omega
              subst ha9
              have : s' = s := by omega
              subst this
              rw [if_pos rfl]
            · rw [if_neg c]
              by_cases cs : s' = s
              · subst cs
                rcases h1 with q | q
                · subst q; omega
                · exact c1 a q
              · exact A a s' h1 (by omega)
          · rw [xsI_ne _ _ _ (by decide), xsI_ne _ _ _ (by decide)]; exact P V hV
          · rw [xsI_ne _ _ _ (by decide)]; exact p13
        | succ e ie =>
          intro a hae g F eF A P p13 c1
          have Lg := F.lay L
          have Hg := fT F
          refine b_Routes_measure_17 ⟨Hg.s, ?_⟩
          rw [Hg.i 6, ok.s6.1]
          refine ⟨fun z => absurd z (nI_ge (by omega) (by omega)), fun _ => ⟨Lg.s 150, 151, Lg.r 150 2 151, c_Town_minutes (by omega) Hg (Or.inr ⟨a, by omega, rfl⟩) (Or.inr ⟨s, hs, rfl⟩) ?_⟩⟩
          have ed : drv T (nI a) (nI s) = nI (dr T a s) := by
            have := drv_n ok (a := a) (b := s) (Or.inr (by omega)) (Or.inr hs)
            rwa [pI_k (by omega), pI_k (by omega)] at this
          rw [ed, show nI a * (9 : Int32) = nI (a * 9) from pk_mul _ 9, nI_add, nI_clamp (by omega)]
          refine ⟨⟨by decide, Lg.x 151 (n := 90) (by omega)⟩, b_Routes_measure_42 ?_⟩
          rw [nI_1]
          refine ie (a + 1) (by omega) _ (F.wI (Or.inr (Or.inl rfl))) (fun i hi => ?_) (fun a' s' h1 h2 => ?_) (fun V hV => ?_) ?_ (fun b hb => ?_)
          · rw [xsI_ne _ _ _ (by decide)]; exact eF i hi
          · rw [upI_o _ _ _ _ (by rcases h1 with q | q <;> omega)]; exact A a' s' h1 h2
          · rw [xsI_ne _ _ _ (by decide), xsI_ne _ _ _ (by decide)]; exact P V hV
          · rw [xsI_ne _ _ _ (by decide)]; exact p13
          · rw [upI]
            by_cases c : b = a
            · subst c; rw [if_pos rfl]
            · rw [if_neg (by omega)]; exact c1 b (by omega)
      have Hg := fT F
      refine b_Routes_measure_7 ⟨Hg.s, ?_⟩
      rw [Hg.i 6, ok.s6.1]
      exact ⟨fun z => absurd z (nI_ge (by omega) (by omega)), fun _ => k17 (stp T) 0 (by omega) g F eF A P p13 (fun b hb => absurd hb (Nat.not_lt_zero _))⟩
  refine w_Routes_measure ⟨⟨by decide, L.s 150⟩, b_Routes_measure_5 (key (stp T) 0 (by omega) _ (Fr.rf.wI (Or.inl rfl)) (fun i hi => upI_o _ _ _ _ hi) (fun a s h1 h2 => absurd h2 (Nat.not_lt_zero _)) (fun V hV => ?_) (upI_s _ _ _ _) _)⟩
  have : V = 0 := by have : V < 1 := hV
                     omega
  subst this
  rw [xsI_ne _ _ _ (by decide), xsI_ne _ _ _ (by decide), z4, z5]
  have e1 : pp T 0 = 0 := bsm_0 _ _
  have e2 : ff T 0 = 0 := bsm_0 _ _
  rw [e1, e2]
  exact ⟨rfl, rfl⟩
