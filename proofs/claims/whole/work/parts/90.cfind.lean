/-! THE WAY in the class: nextOf, findWay -/
theorem gd_u {T : Nat → Int32} (ok : TnOK T) {A p m V a : Nat} (hV : V < 2 ^ stp T) : gd T A p m (stp T - pcn 9 V) V a = (decide (sdf V A = 0) && (V.testBit a && (bst T p m V a || decide (fsx (nq T A p m V a) (stp T) 0 < stp T)))) := by
  have s9 := stp9 ok
  by_cases c : pcn 9 V < stp T
  · obtain ⟨d, ed⟩ : ∃ d, stp T - pcn 9 V = d + 1 := ⟨stp T - pcn 9 V - 1, by omega⟩
    rw [ed, gd_s]
    have e : nq T A p m V a = nx T (gd T A p m d) V a := by
      funext s
      unfold nq
      rw [show stp T - (pcn 9 V + 1) = d by omega]
    rw [e]
  · rw [show stp T - pcn 9 V = 0 by omega]
    have full : ∀ s, s < stp T → V.testBit s = true := fun s hs => by
      cases hb : V.testBit s
      · have l := pcn9_le (orb_lt hV hs) s9
        rw [pcn9_or hb (by omega)] at l
        omega
      · rfl
    have f : ¬ fsx (nq T A p m V a) (stp T) 0 < stp T := fun z => by
      have := fsx_lt (p := nq T A p m V a) (d := stp T) (i := 0) (by omega)
      unfold nq at this
      rw [nx_i] at this
      have e := full _ z
      unfold nq at e
      rw [this.1] at e
      exact absurd e (by decide)
    rw [decide_eq_false f, Bool.or_false]
    rfl
def Gd (h : xh) (T : Nat → Int32) (A p m N : Nat) : Prop := ∀ V, N ≤ V → V < 2 ^ stp T → ∃ G, G < 2 ^ stp T ∧ xI h 156 V = nI G ∧ ∀ a, a < stp T → G.testBit a = gd T A p m (stp T - pcn 9 V) V a
theorem c_Routes_isBest {n : Nat} (hn : 3 ≤ n) {h : xh} {t : Nat} {T : Nat → Int32} (R : Rt h t T) {p m : Nat} (hp : xI h 150 11 = nI p) (hm : xI h 150 12 = nI m) (p2 : p ≤ 180) (m2 : m ≤ 1710) {V a : Nat} (hV : V < 2 ^ stp T) (ha : a < stp T) (hb : V.testBit a = true) {Q : Int32 → xh → Prop} (hQ : Q (if bst T p m V a = true then 1 else 0) h) : xci (xMC n) 95 [.ref 150, .ref t, .int (nI V), .int (nI a)] h Q := by
  obtain ⟨n, rfl⟩ := xsucc (show 1 ≤ n by omega)
  obtain ⟨s9, p512, fp⟩ := R.b
  have ok := R.ok
  have L := R.L
  have pl := pp_le ok V
  have db := dn_b ok hV (Or.inr ⟨ha, hb⟩)
  refine w_Routes_isBest ⟨L.s 150, 154, L.r 150 5 154, L.x 154 (n := 512) (by omega), ?_⟩
  rw [nI_clamp (by omega), (R.2.2.2.2.2.1 V hV).1, hp, nI_eq (by omega) (by omega)]
  have no : ¬ (pp T V = p ∧ dn T V a = m ∧ dn T V a < clN T + fdN T a) → Q 0 h := fun z => by
    unfold bst at hQ
    rw [decide_eq_false z] at hQ
    exact hQ
  refine ⟨fun z => no (fun y => z y.1), fun z => c_Routes_doneAt (by omega) R hV ha hb ⟨L.s 150, ?_⟩⟩
  rw [hm, nI_eq (by omega) (by omega)]
  refine ⟨fun y => no (fun x => y x.2.1), fun y => c_Routes_isWarm (by omega) R hV ha hb ?_⟩
  by_cases c : dn T V a < clN T + fdN T a
  · rw [if_pos c]
    unfold bst at hQ
    rw [decide_eq_true ⟨z, y, c⟩, if_pos rfl] at hQ
    exact ⟨fun x => absurd x (by decide), fun _ => hQ⟩
  · rw [if_neg c]
    exact ⟨fun _ => no (fun x => c x.2.2), fun x => absurd rfl x⟩
theorem c_Routes_nextOf {n : Nat} (hn : 2 ≤ n) {h : xh} {t : Nat} {T : Nat → Int32} (R : Rt h t T) {A p m V a : Nat} (hV : V < 2 ^ stp T) (S : Sa T V a) (G : Gd h T A p m (V + 1)) {Q : Int32 → xh → Prop} (hQ : Q (if fsx (nq T A p m V a) (stp T) 0 < stp T then nI (fsx (nq T A p m V a) (stp T) 0) else -1) h) : xci (xMC n) 96 [.ref 150, .ref t, .int (nI V), .int (nI a)] h Q := by
  obtain ⟨n, rfl⟩ := xsucc (show 1 ≤ n by omega)
  obtain ⟨s9, p512, fp⟩ := R.b
  have ok := R.ok
  have L := R.L
  have H := R.H
  have pb := ph_b ok hV S
  have a9 := plc9 ok S.pl
  generalize hx : fsx (nq T A p m V a) (stp T) 0 = x at hQ
  have key : ∀ d s, s + d = stp T → fsx (nq T A p m V a) d s = x → ∀ o6 : Option Value, K_Routes_nextOf n Q 24 [some (.ref 150), some (.ref t), some (.int (nI V)), some (.int (nI a)), some (.int (nI (ph T V a))), some (.int (nI s)), o6] [] h := by
    intro d
    induction d with
    | zero =>
      intro s hs e o6
      have e' : s = x := e
      rw [← e', if_neg (by omega)] at hQ
      refine b_Routes_nextOf_24 ⟨H.s, ?_⟩
      rw [H.i 6, ok.s6.1]
      exact ⟨fun _ => hQ, fun z => absurd (nI_le (by omega) (by omega)) z⟩
    | succ d ih =>
      intro s hs e o6
      unfold fsx at e
      have skip : ¬ nq T A p m V a s = true → ∀ o6 : Option Value, K_Routes_nextOf n Q 24 [some (.ref 150), some (.ref t), some (.int (nI V)), some (.int (nI a)), some (.int (nI (ph T V a))), some (.int (nI s + 1)), o6] [] h := fun z o6 => by
        rw [if_neg z] at e
        rw [nI_1]
        exact ih (s + 1) (by omega) e o6
      have ol := orb_lt hV (show s < stp T by omega)
      refine b_Routes_nextOf_24 ⟨H.s, ?_⟩
      rw [H.i 6, ok.s6.1, bt_set _ (by omega), nI_eq (by omega) (by omega), or_eq]
      refine ⟨fun z => absurd z (nI_ge (by omega) (by omega)), fun _ => ⟨fun z => skip (fun y => ?_) _, fun z => ?_⟩⟩
      · unfold nq at y
        rw [nx_i] at y
        rw [z] at y
        exact absurd y.1 (by decide)
      · have z' : V.testBit s = false := by cases q : V.testBit s <;> first | rfl | exact absurd q z
        have gt := or_gt z'
        obtain ⟨g, g1, g2, g3⟩ := G (V ||| 2 ^ s) (by omega) ol
        have pr := pcn9_or z' (show s < 9 by omega)
        have gs := g3 s (by omega)
        rw [pr] at gs
        refine ⟨L.s 150, 156, L.r 150 7 156, L.x 156 (n := 512) (by omega), ?_⟩
        rw [nI_clamp (by omega), g2]
        refine c_Routes_has (by omega) (by omega) (by omega) ?_
        rw [gs]
        cases c : gd T A p m (stp T - (pcn 9 V + 1)) (V ||| 2 ^ s) s
        · refine ⟨fun _ => skip (fun y => ?_) _, fun y => absurd rfl y⟩
          unfold nq at y
          rw [nx_i] at y
          rw [c] at y
          exact absurd y.2.1 (by decide)
        · refine ⟨fun y => absurd y (by decide), fun _ => ⟨L.s 150, 151, L.r 150 2 151, ?_⟩⟩
          have pb2 := ph_b ok ol (Or.inr ⟨show s < stp T by omega, or_has V s⟩)
          have dl := dr_le ok S.pl (Or.inr (show s < stp T by omega))
          rw [show nI a * (9 : Int32) = nI (a * 9) from pk_mul _ 9, show nI (V ||| 2 ^ s) * (9 : Int32) = nI ((V ||| 2 ^ s) * 9) from pk_mul _ 9, nI_add, nI_add, nI_clamp (by omega), nI_clamp (by omega), R.2.2.2.1 a s S.pl (by omega)]
          refine ⟨L.x 151 (n := 90) (by omega), 152, L.r 150 3 152, L.x 152 (n := 4608) (by omega), ?_⟩
          rw [R.p ol (by omega) (or_has V s), nI_add, nI_eq (by omega) (by omega)]
          refine ⟨fun y => skip (fun x => ?_) _, fun y => ?_⟩
          · unfold nq at x
            rw [nx_i] at x
            exact y x.2.2
          · have q : nq T A p m V a s = true := by
              unfold nq
              rw [nx_i]
              exact ⟨z', c, y⟩
            rw [if_pos q] at e
            rw [← e, if_pos (by omega)] at hQ
            exact hQ
  refine w_Routes_nextOf ⟨fun z => ?_, fun z => ?_⟩
  · have V0 : V ≠ 0 := fun e => z (by rw [e]; rfl)
    rcases S with S | S
    · exact absurd S.1 V0
    · refine ⟨L.s 150, 152, L.r 150 3 152, ?_⟩
      rw [show nI V * (9 : Int32) = nI (V * 9) from pk_mul _ 9, nI_add, nI_clamp (by omega), R.p hV S.1 S.2]
      exact ⟨L.x 152 (n := 4608) (by omega), key (stp T) 0 (by omega) hx _⟩
  · have V0 : V = 0 := (nI_e0 (by omega)).mp z
    have e : ph T V a = 0 := by unfold ph; rw [if_pos V0]
    rw [e] at key
    exact key (stp T) 0 (by omega) hx _
theorem c_Routes_findWay {n : Nat} (hn : 4 ≤ n) {h : xh} {t : Nat} {T : Nat → Int32} (R : Rt h t T) {A p m : Nat} (eA : A = ppl T (stp T)) (B : Best T A p m) (hp : xI h 150 11 = nI p) (hm : xI h 150 12 = nI m) {Q : xh → Prop} (hQ : ∀ g, Fw h g → xI g 150 11 = nI p → xI g 150 12 = nI m → xI g 150 10 = nI (wl T A p m) → (∀ k, k < wl T A p m → xI g 158 k = nI (wk T A p m k)) → Q g) : xcv (xMC n) 94 [.ref 150, .ref t] h Q := by
  obtain ⟨n, rfl⟩ := xsucc (show 1 ≤ n by omega)
  obtain ⟨s9, p512, fp⟩ := R.b
  have ok := R.ok
  obtain ⟨p2, m2⟩ := B.b ok
  obtain ⟨wl1, wl2, wl3⟩ := wl_p ok B
  have row : ∀ d i, i + d = wl T A p m → ∀ g, Fw h g → Gd g T A p m 1 → xI g 150 11 = nI p → xI g 150 12 = nI m → xI g 150 10 = nI i → (∀ k, k < i → xI g 158 k = nI (wk T A p m k)) → ∀ o5 : Option Value, K_Routes_findWay n Q 99 [some (.ref 150), some (.ref t), some (.int (nI (wq T A p m i).1)), some (.int (nI (wq T A p m i).2)), some (.int (nI i)), o5] [] g := by
    intro d
    induction d with
    | zero =>
      intro i hi g F G e1 e2 e0 c1 o5
      have : i = wl T A p m := by omega
      subst this
      have Rg := R.fr F
      have w := (wq_w ok B (Nat.le_refl _)).1
      have pl := pp_le ok (wq T A p m (wl T A p m)).1
      have w1 := w.1
      refine b_Routes_findWay_99 ⟨Rg.H.s, fun _ => hQ g F e1 e2 e0 c1, fun _ => ⟨Rg.L.s 150, 154, Rg.L.r 150 5 154, Rg.L.x 154 (n := 512) (by omega), ?_⟩⟩
      rw [e1, nI_clamp (by omega), (Rg.2.2.2.2.2.1 _ w1).1]
      exact ⟨fun _ => hQ g F e1 e2 e0 c1, fun z => absurd (nI_le (by omega) (by omega)) z⟩
    | succ d ih =>
      intro i hi g F G e1 e2 e0 c1 o5
      have Rg := R.fr F
      have w := (wq_w ok B (i := i) (by omega)).1
      obtain ⟨k1, k2⟩ := wk_w ok B (i := i) (by omega)
      have w1 := w.1
      have lt := wl2 i (by omega)
      refine b_Routes_findWay_99 ⟨Rg.H.s, ?_⟩
      rw [Rg.H.i 6, ok.s6.1]
      refine ⟨fun z => absurd z (nI_ge (by omega) (by omega)), fun _ => ⟨Rg.L.s 150, 154, Rg.L.r 150 5 154, Rg.L.x 154 (n := 512) (by omega), ?_⟩⟩
      rw [e1, nI_clamp (by omega), (Rg.2.2.2.2.2.1 _ w1).1]
      refine ⟨fun z => absurd z (nI_ge lt (by omega)), fun _ => ?_⟩
      have ek : fsx (nq T A p m (wq T A p m i).1 (wq T A p m i).2) (stp T) 0 = wk T A p m i := rfl
      refine c_Routes_nextOf (by omega) Rg w1 (w.gs ok B).sa (A := A) (p := p) (m := m) (fun V h1 h2 => G V (by omega) h2) ?_
      rw [ek, if_pos k1]
      refine ⟨fun _ => ⟨Rg.L.s 150, 158, Rg.L.r 150 9 158, ⟨by decide, Rg.L.x 158 (n := 9) (by omega)⟩, ?_⟩, fun z => absurd (nI_pos' (by omega)) z⟩
      rw [nI_clamp (by omega)]
      have F1 : Fw h (xsI g 158 i (nI (wk T A p m i))) := F.wa (Or.inr (Or.inr rfl)) (by decide)
      refine b_Routes_findWay_145 ⟨⟨by decide, (R.fr F1).L.s 150⟩, b_Routes_findWay_153 ?_⟩
      rw [bt_set _ (by omega), nI_1]
      have ih' := ih (i + 1) (by omega) (xsI (xsI g 158 i (nI (wk T A p m i))) 150 10 (nI (i + 1))) F1.w0 (fun V h1 h2 => by
        rw [xsI_ne _ _ _ (by decide), xsI_ne _ _ _ (by decide)]; exact G V h1 h2) (by rw [upI_o _ _ _ _ (by decide), xsI_ne _ _ _ (by decide)]; exact e1) (by rw [upI_o _ _ _ _ (by decide), xsI_ne _ _ _ (by decide)]; exact e2) (upI_s _ _ _ _) (fun k hk => by
        rw [xsI_ne _ _ _ (by decide), upI]
        by_cases c : k = i
        · subst c; rw [if_pos rfl]
        · rw [if_neg c]; exact c1 k (by omega))
      rw [wq_s] at ih'
      exact ih' _
  have down : ∀ V, V < 2 ^ stp T → ∀ g, Fw h g → Gd g T A p m (V + 1) → xI g 150 11 = nI p → xI g 150 12 = nI m → ∀ o3 o4 o5 : Option Value, K_Routes_findWay n Q 5 [some (.ref 150), some (.ref t), some (.int (nI V)), o3, o4, o5] [] g := by
    intro V
    induction V with
    | zero =>
      intro hV g F G e1 e2 o3 o4 o5
      refine b_Routes_findWay_5 ⟨fun _ => ⟨⟨by decide, (R.fr F).L.s 150⟩, b_Routes_findWay_91 ?_⟩, fun z => absurd (by decide) z⟩
      exact row (wl T A p m) 0 (by omega) _ F.w0 (fun V h1 h2 => by rw [xsI_ne _ _ _ (by decide)]; exact G V h1 h2) (by rw [upI_o _ _ _ _ (by decide)]; exact e1) (by rw [upI_o _ _ _ _ (by decide)]; exact e2) (upI_s _ _ _ _) (fun k hk => absurd hk (Nat.not_lt_zero _)) _
    | succ V ih =>
      intro hV g F G e1 e2 o3 o4 o5
      have inner : ∀ d a, a + d = stp T → ∀ g, Fw h g → Gd g T A p m (V + 1 + 1) → xI g 150 11 = nI p → xI g 150 12 = nI m → ∀ X, X < 2 ^ stp T → xI g 156 (V + 1) = nI X → (∀ b, b < stp T → X.testBit b = (decide (b < a) && gd T A p m (stp T - pcn 9 (V + 1)) (V + 1) b)) → ∀ o4 o5 : Option Value, K_Routes_findWay n Q 18 [some (.ref 150), some (.ref t), some (.int (nI (V + 1))), some (.int (nI a)), o4, o5] [] g := by
        intro d
        induction d with
        | zero =>
          intro a ha g F G e1 e2 X hX eX c1 o4 o5
          have : a = stp T := by omega
          subst this
          have Rg := R.fr F
          refine b_Routes_findWay_18 ⟨Rg.H.s, ?_⟩
          rw [Rg.H.i 6, ok.s6.1, show nI (V + 1) + (-1 : Int32) = nI V from by rw [← nI_1]; grind]
          refine ⟨fun _ => ih (by omega) g F (fun W h1 h2 => ?_) e1 e2 _ _ _, fun z => absurd (Int32.le_refl _) z⟩
          by_cases c : W = V + 1
          · subst c
            refine ⟨X, hX, eX, fun b hb => ?_⟩
            rw [c1 b hb, decide_eq_true hb, Bool.true_and]
          · exact G W (by omega) h2
        | succ d id =>
          intro a ha g F G e1 e2 X hX eX c1 o4 o5
          have Rg := R.fr F
          have ha' : a < stp T := by omega
          have u := gd_u ok (A := A) (p := p) (m := m) (a := a) hV
          have skip : gd T A p m (stp T - pcn 9 (V + 1)) (V + 1) a = false → ∀ o4 o5 : Option Value, K_Routes_findWay n Q 74 [some (.ref 150), some (.ref t), some (.int (nI (V + 1))), some (.int (nI a)), o4, o5] [] g := fun z o4 o5 => by
            refine b_Routes_findWay_74 ?_
            rw [nI_1]
            refine id (a + 1) (by omega) g F G e1 e2 X hX eX (fun b hb => ?_) _ _
            rw [c1 b hb]
            by_cases q : b = a
            · subst q; rw [z, Bool.and_false, Bool.and_false]
            · by_cases q2 : b < a
              · rw [decide_eq_true q2, decide_eq_true (show b < a + 1 by omega)]
              · rw [decide_eq_false q2, decide_eq_false (show ¬ b < a + 1 by omega)]
          have take : gd T A p m (stp T - pcn 9 (V + 1)) (V + 1) a = true → ∀ o4 o5 : Option Value, K_Routes_findWay n Q 62 [some (.ref 150), some (.ref t), some (.int (nI (V + 1))), some (.int (nI a)), o4, o5] [] g := fun z o4 o5 => by
            refine b_Routes_findWay_62 ⟨Rg.L.s 150, 156, Rg.L.r 150 7 156, Rg.L.x 156 (n := 512) (by omega), ⟨by decide, Rg.L.x 156 (n := 512) (by omega)⟩, b_Routes_findWay_74 ?_⟩
            rw [nI_1, nI_clamp (by omega), eX, bt_set _ (by omega)]
            refine id (a + 1) (by omega) _ (F.wa (Or.inr (Or.inl rfl)) (by decide)) (fun W h1 h2 => ?_) ?_ ?_ (X ||| 2 ^ a) (orb_lt hX ha') (upI_s _ _ _ _) (fun b hb => ?_) _ _
            · rw [upI_o _ _ _ _ (by omega)]; exact G W h1 h2
            · rw [xsI_ne _ _ _ (by decide)]; exact e1
            · rw [xsI_ne _ _ _ (by decide)]; exact e2
            · rw [or_bit, c1 b hb]
              by_cases q : b = a
              · subst q; rw [z, decide_eq_true (Nat.lt_succ_self b), decide_eq_true (rfl : b = b)]; simp
              · rw [decide_eq_false (fun y => q y.symm : ¬ a = b), Bool.or_false]
                by_cases q2 : b < a
                · rw [decide_eq_true q2, decide_eq_true (show b < a + 1 by omega)]
                · rw [decide_eq_false q2, decide_eq_false (show ¬ b < a + 1 by omega)]
          refine b_Routes_findWay_18 ⟨Rg.H.s, ?_⟩
          rw [Rg.H.i 6, ok.s6.1]
          refine ⟨fun z => absurd z (nI_ge (by omega) (by omega)), fun _ => ⟨Rg.L.s 150, c_Routes_isPeopled (by omega) Rg hV ?_⟩⟩
          rw [← eA]
          by_cases c0 : sdf (V + 1) A = 0
          · rw [decide_eq_true c0, Bool.true_and] at u
            rw [if_pos c0]
            refine ⟨fun z => absurd z (by decide), fun _ => c_Routes_has (by omega) (by omega) (by omega) ?_⟩
            cases cb : (V + 1).testBit a
            · rw [cb, Bool.false_and] at u
              exact ⟨fun _ => skip u _ _, fun z => absurd rfl z⟩
            · rw [cb, Bool.true_and] at u
              refine ⟨fun z => absurd z (by decide), fun _ => ⟨Rg.L.s 150, c_Routes_isBest (by omega) Rg e1 e2 p2 m2 hV ha' cb ?_⟩⟩
              cases cs : bst T p m (V + 1) a
              · rw [cs, Bool.false_or] at u
                refine ⟨fun z => absurd rfl z, fun _ => ⟨Rg.L.s 150, c_Routes_nextOf (by omega) Rg hV (Or.inr ⟨ha', cb⟩) G ?_⟩⟩
                by_cases q : fsx (nq T A p m (V + 1) a) (stp T) 0 < stp T
                · rw [decide_eq_true q] at u
                  rw [if_pos q]
                  exact ⟨fun z => absurd z (nI_pos (by omega)), fun _ => take u _ _⟩
                · rw [decide_eq_false q] at u
                  rw [if_neg q]
                  exact ⟨fun _ => skip u _ _, fun z => absurd (by decide) z⟩
              · rw [cs, Bool.true_or] at u
                exact ⟨fun _ => take u _ _, fun z => absurd z (by decide)⟩
          · rw [decide_eq_false c0, Bool.false_and] at u
            rw [if_neg c0]
            exact ⟨fun _ => skip u _ _, fun z => absurd rfl z⟩
      have Rg := R.fr F
      refine b_Routes_findWay_5 ⟨fun z => absurd z (nI_nle (by omega) (by omega)), fun _ => ⟨Rg.L.s 150, 156, Rg.L.r 150 7 156, ⟨by decide, Rg.L.x 156 (n := 512) (by omega)⟩, b_Routes_findWay_16 ?_⟩⟩
      rw [nI_clamp (by omega)]
      refine inner (stp T) 0 (by omega) _ (F.wa (Or.inr (Or.inl rfl)) (by decide)) (fun W h1 h2 => ?_) ?_ ?_ 0 fp (upI_s _ _ _ _) (fun b hb => ?_) _ _
      · rw [upI_o _ _ _ _ (by omega)]; exact G W h1 h2
      · rw [xsI_ne _ _ _ (by decide)]; exact e1
      · rw [xsI_ne _ _ _ (by decide)]; exact e2
      · rw [Nat.zero_testBit]; rfl
  refine w_Routes_findWay ⟨R.L.s 150, ?_⟩
  rw [R.2.2.2.2.2.2.1]
  exact down (2 ^ stp T - 1) (by omega) h Fw.rf (fun V h1 h2 => by omega) hp hm _ _ _
