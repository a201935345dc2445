/-! BOWLS: prepare, and what is asked of it -/
def Bo (h : xh) (T : Nat → Int32) : Prop := BoQ h T 0
theorem BoQ.mo {h : xh} {T : Nat → Int32} {q r : Nat} (B : BoQ h T q) (hqr : q ≤ r) : BoQ h T r := ⟨fun s h1 h2 => B.1 s (by omega) h2, fun s so h1 h2 h3 => B.2 s so (by omega) h2 h3⟩
theorem bP {a : Nat} (h1 : 146 ≤ a := by decide) (h2 : a ≤ 149 := by decide) : PB a := ⟨h1, h2⟩
theorem c_Bowls_prepare {n : Nat} (hn : 4 ≤ n) {h : xh} (L : Lay h) {t : Nat} {T : Nat → Int32} (H : Tn h t T) (ht : t + 7 < 146) (h64 : 64 ≤ t) (hc : ∀ a, xR h 146 0 = some a → 64 ≤ a ∧ (a = t → Bo h T)) {Q : xh → Prop} (hQ : ∀ h', Fg PB h h' → Lay h' → xR h' 146 0 = some t → Bo h' T → Q h') : xcv (xMC n) 74 [.ref 146, .ref t] h Q := by
  obtain ⟨n, rfl⟩ := xsucc (show 1 ≤ n by omega)
  have s9 := stp9 H.ok
  have s6 := H.ok.s6.1
  have go : (64 ≤ 146 ∧ xS h 146 = (8, 0)) ∧ K_Bowls_prepare n Q 14 [some (.ref 146), some (.ref t), none, none] [] (xsR h 146 0 (some t)) := by
    refine ⟨⟨by decide, L.s 146⟩, ?_⟩
    have L1 : Lay (xsR h 146 0 (some t)) := L.wR 146 (some t)
    have F1 : Fg PB h (xsR h 146 0 (some t)) := Fg.rf.wR bP
    have r1 : xR (xsR h 146 0 (some t)) 146 0 = some t := by rw [xR_at, if_pos ⟨rfl, rfl⟩]
    generalize xsR h 146 0 (some t) = g1 at L1 F1 r1 ⊢
    have fT : ∀ {g}, Fg PB h g → Tn g t T := fun F => H.sm (fun c h1 h2 => F.2.2 c (fun z => by unfold PB at z; omega))
    have k97 : ∀ q, q < stp T → (∀ g, Fg PB h g → Lay g → xR g 146 0 = some t → BoQ g T q → ∀ o3 : Option Value, K_Bowls_prepare n Q 60 [some (.ref 146), some (.ref t), some (.int (nI q - 1)), o3] [] g) → ∀ d x, x + d = 100 → ∀ g, Fg PB h g → Lay g → xR g 146 0 = some t → BoQ g T (q + 1) → xL g 148 q = lN (wd T (stp T - q)) → (∀ y, y < x → xL g 147 (q * 100 + y) = lN (cn T (stp T - q) y)) → K_Bowls_prepare n Q 97 [some (.ref 146), some (.ref t), some (.int (nI q)), some (.int (nI x))] [] g := by
      intro q hq nx d
      induction d with
      | zero =>
        intro x hx g F Lg rg B w1 c1
        have : x = 100 := by omega
        subst this
        refine b_Bowls_prepare_97 ⟨fun _ => ?_, fun z => absurd (Int32.le_refl _) z⟩
        rw [show nI q + (-1 : Int32) = nI q - 1 from (Int32.sub_eq_add_neg _ _).symm]
        refine nx g F Lg rg ⟨fun s h1 h2 => ?_, fun s so h1 h2 h3 => ?_⟩ _
        · by_cases e : s = q
          · subst e; exact w1
          · exact B.1 s (by omega) h2
        · by_cases e : s = q
          · subst e; exact c1 so h3
          · exact B.2 s so (by omega) h2 h3
      | succ d ih =>
        intro x hx g F Lg rg B w1 c1
        have Hg := fT F
        refine b_Bowls_prepare_97 ⟨fun z => absurd z (nI_ge (b := 100) (by omega) (by decide)), fun _ => ⟨Lg.s 146, 147, Lg.r 146 1 147, c_Bowls_countsOverAll (by omega) Lg Hg hq B (by omega) ?_⟩⟩
        rw [show nI q * (100 : Int32) = nI (q * 100) from pk_mul _ 100, nI_add, nI_clamp (by omega)]
        refine ⟨⟨by decide, Lg.x 147 (n := 1000) (by omega)⟩, b_Bowls_prepare_121 ?_⟩
        rw [nI_1]
        refine ih (x + 1) (by omega) _ (F.wL bP) (Lg.wL _ _ _) rg ⟨fun s h1 h2 => ?_, fun s so h1 h2 h3 => ?_⟩ ?_ (fun y hy => ?_)
        · rw [xsL_ne _ _ _ (by decide)]; exact B.1 s h1 h2
        · rw [upL_o _ _ _ _ (by omega)]; exact B.2 s so h1 h2 h3
        · rw [xsL_ne _ _ _ (by decide)]; exact w1
        · rw [upL]
          by_cases e : y = x
          · subst e; rw [if_pos rfl]
          · rw [if_neg (by omega)]; exact c1 y (by omega)
    have k60 : ∀ q, q ≤ stp T → ∀ g, Fg PB h g → Lay g → xR g 146 0 = some t → BoQ g T q → ∀ o3 : Option Value, K_Bowls_prepare n Q 60 [some (.ref 146), some (.ref t), some (.int (nI q - 1)), o3] [] g := by
      intro q
      induction q with
      | zero =>
        intro hq g F Lg rg B o3
        exact b_Bowls_prepare_60 ⟨fun _ => hQ g F Lg rg B, fun z => absurd (by decide) z⟩
      | succ q ih =>
        intro hq g F Lg rg B o3
        have Hg := fT F
        obtain ⟨elo, ehi, lh, h20⟩ := H.ok.lh (s := q) (by omega)
        rw [nI_pred]
        refine b_Bowls_prepare_60 ⟨fun z => absurd z (nI_pos (by omega)), fun _ => ⟨Lg.s 146, 148, Lg.r 146 2 148, ?_⟩⟩
        rw [nI_1, nI_clamp (by omega), nI_clamp (by omega), B.1 (q + 1) (Nat.le_refl _) (by omega)]
        refine ⟨Lg.x 148 (n := 10) (by omega), Hg.s, _, Hg.r 4, Hg.x 4 (by omega), _, Hg.r 3, Hg.x 3 (by omega), ⟨by decide, Lg.x 148 (n := 10) (by omega)⟩, b_Bowls_prepare_95 ?_⟩
        rw [Hg.v 4 (by omega), Hg.v 3 (by omega), show 7 + 9 * 4 + q = 43 + q from rfl, show 7 + 9 * 3 + q = 34 + q from rfl, elo, ehi, pk_sub lh, nI_1, nI_l (by omega), lN_mul]
        obtain ⟨d, ed⟩ : ∃ d, stp T = q + 1 + d := ⟨stp T - (q + 1), by omega⟩
        have ew : wd T (stp T - (q + 1)) * (bN T (43 + q) - bN T (34 + q) + 1) = wd T (stp T - q) := by
          rw [show stp T - q = d + 1 by omega, show stp T - (q + 1) = d by omega]
          show _ = wd T d * chc T (stp T - (d + 1))
          rw [show stp T - (d + 1) = q by omega]
          rfl
        rw [ew]
        refine k97 q (by omega) (ih (by omega)) 100 0 (by omega) _ (F.wL bP) (Lg.wL _ _ _) rg ⟨fun s h1 h2 => ?_, fun s so h1 h2 h3 => ?_⟩ ?_ (fun y hy => absurd hy (Nat.not_lt_zero _))
        · rw [upL_o _ _ _ _ (by omega)]; exact B.1 s h1 h2
        · rw [xsL_ne _ _ _ (by decide)]; exact B.2 s so h1 h2 h3
        · rw [upL_s]
    have k26 : ∀ d x, x + d = 100 → ∀ g, Fg PB h g → Lay g → xR g 146 0 = some t → xL g 148 (stp T) = lN 1 → (∀ y, y < x → xL g 147 (stp T * 100 + y) = lN 0) → ∀ o3 : Option Value, K_Bowls_prepare n Q 26 [some (.ref 146), some (.ref t), some (.int (nI x)), o3] [] g := by
      intro d
      induction d with
      | zero =>
        intro x hx g F Lg rg w1 c1 o3
        have : x = 100 := by omega
        subst this
        have Hg := fT F
        refine b_Bowls_prepare_26 ⟨fun _ => ⟨Hg.s, ?_⟩, fun z => absurd (Int32.le_refl _) z⟩
        rw [Hg.i 6, s6]
        refine k60 (stp T) (Nat.le_refl _) g F Lg rg ⟨fun s h1 h2 => ?_, fun s so h1 h2 h3 => ?_⟩ _
        · have : s = stp T := by omega
          subst this
          rw [Nat.sub_self]; exact w1
        · have : s = stp T := by omega
          subst this
          rw [Nat.sub_self]; exact c1 so h3
      | succ d ih =>
        intro x hx g F Lg rg w1 c1 o3
        have Hg := fT F
        refine b_Bowls_prepare_26 ⟨fun z => absurd z (nI_ge (b := 100) (by omega) (by decide)), fun _ => ⟨Lg.s 146, 147, Lg.r 146 1 147, Hg.s, ?_⟩⟩
        rw [Hg.i 6, s6, show nI (stp T) * (100 : Int32) = nI (stp T * 100) from pk_mul _ 100, nI_add, nI_clamp (by omega)]
        refine ⟨⟨by decide, Lg.x 147 (n := 1000) (by omega)⟩, b_Bowls_prepare_47 ?_⟩
        rw [nI_1]
        refine ih (x + 1) (by omega) _ (F.wL bP) (Lg.wL _ _ _) rg ?_ (fun y hy => ?_) _
        · rw [xsL_ne _ _ _ (by decide)]; exact w1
        · rw [upL]
          by_cases e : y = x
          · subst e; rw [if_pos rfl]; rfl
          · rw [if_neg (by omega)]; exact c1 y (by omega)
    have Hg := fT F1
    refine b_Bowls_prepare_14 ⟨L1.s 146, 148, L1.r 146 2 148, Hg.s, ?_⟩
    rw [Hg.i 6, s6, nI_clamp (by omega)]
    refine ⟨⟨by decide, L1.x 148 (n := 10) (by omega)⟩, b_Bowls_prepare_24 ?_⟩
    exact k26 100 0 (by omega) _ (F1.wL bP) (L1.wL _ _ _) r1 (upL_s _ _ _ _) (fun y hy => absurd hy (Nat.not_lt_zero _)) _
  refine w_Bowls_prepare ⟨L.s 146, fun a1 ea => ⟨⟨(hc a1 ea).1, h64⟩, fun _ => go, fun e => ?_⟩, fun _ => go⟩
  subst e
  exact hQ h Fg.rf L ea ((hc a1 ea).2 rfl)
/-- bowls to give -/
def gvN (T : Nat → Int32) (s so dd : Nat) : Nat := agm (fun g => cbN T (stp T - (s + 1)) s so dd g (cn T (stp T - (s + 1)))) (min dd so)
theorem cbN_b {T : Nat → Int32} (ok : TnOK T) {d s so dd g : Nat} (hd : d ≤ stp T) (hdd : dd ≤ 20) : cbN T d s so dd g (cn T d) < 2 ^ 63 := by
  have w2 := wtN_le T s
  have wb := wd_b ok hd
  have cb := cn_b ok hd (so - g)
  have b1 : wtN T s * (dd - g) ≤ 2 * 20 := Nat.mul_le_mul w2 (by omega)
  have b2 : wtN T s * (dd - g) * wd T d ≤ 40 * 794280046581 := Nat.mul_le_mul b1 wb
  unfold cbN
  omega
theorem c_Bowls_bestGift {n : Nat} (hn : 5 ≤ n) {h : xh} (L : Lay h) {t : Nat} {T : Nat → Int32} (H : Tn h t T) (ht : t + 7 < 146) (h64 : 64 ≤ t) (hc : ∀ a, xR h 146 0 = some a → 64 ≤ a ∧ (a = t → Bo h T)) {s so dd : Nat} (hs : s < stp T) (hso : so < 100) (hdd : dd ≤ 20) {Q : Int32 → xh → Prop} (hQ : ∀ h', Fg PB h h' → Lay h' → xR h' 146 0 = some t → Bo h' T → Q (nI (gvN T s so dd)) h') : xci (xMC n) 73 [.ref 146, .ref t, .int (nI s), .int (nI so), .int (nI dd)] h Q := by
  obtain ⟨n, rfl⟩ := xsucc (show 1 ≤ n by omega)
  refine w_Bowls_bestGift ⟨L.s 146, c_Bowls_prepare (by omega) L H ht h64 hc (fun g F Lg rg B => ?_)⟩
  have hQ := hQ g F Lg rg B
  have Hg : Tn g t T := H.sm (fun c h1 h2 => F.2.2 c (fun z => by unfold PB at z; omega))
  have B' := B.mo (Nat.zero_le (s + 1))
  unfold gvN at hQ
  have key : ∀ e x, x + e = min dd so + 1 → 1 ≤ x → K_Bowls_bestGift n Q 11 [some (.ref 146), some (.ref t), some (.int (nI s)), some (.int (nI so)), some (.int (nI dd)), some (.int (nI (agm (fun g => cbN T (stp T - (s + 1)) s so dd g (cn T (stp T - (s + 1)))) (x - 1)))), some (.int (nI x))] [] g := by
    intro e
    induction e with
    | zero =>
      intro x hx h1
      have ex : x - 1 = min dd so := by omega
      rw [ex]
      refine b_Bowls_bestGift_11 ⟨fun _ => hQ, fun z => ⟨fun _ => hQ, fun y => ?_⟩⟩
      rw [nI_ltI (by omega) (by omega)] at z y
      omega
    | succ e ih =>
      intro x hx h1
      have ih' := ih (x + 1) (by omega) (by omega)
      obtain ⟨y, rfl⟩ : ∃ y, x = y + 1 := ⟨x - 1, by omega⟩
      rw [show y + 1 + 1 - 1 = y + 1 by omega] at ih'
      rw [show y + 1 - 1 = y by omega]
      have al := agm_le (fun g => cbN T (stp T - (s + 1)) s so dd g (cn T (stp T - (s + 1)))) y
      refine b_Bowls_bestGift_11 ⟨fun z => absurd z (nI_nlt (by omega) (by omega)), fun _ => ⟨fun z => absurd z (nI_nlt (by omega) (by omega)), fun _ => ⟨Lg.s 146, c_Bowls_countsAfter (by omega) Lg Hg hs B' hso hdd (by omega) (by omega) ⟨Lg.s 146, c_Bowls_countsAfter (by omega) Lg Hg hs B' hso hdd (by omega) (by omega) ?_⟩⟩⟩⟩
      have b1 := cbN_b H.ok (d := stp T - (s + 1)) (s := s) (so := so) (g := y + 1) (by omega) hdd
      have b2 := cbN_b H.ok (d := stp T - (s + 1)) (s := s) (so := so) (g := agm (fun g => cbN T (stp T - (s + 1)) s so dd g (cn T (stp T - (s + 1)))) y) (by omega) hdd
      rw [nI_1]
      refine ⟨fun z => ?_, fun z => ?_⟩
      · have nz : ¬ cbN T (stp T - (s + 1)) s so dd (y + 1) (cn T (stp T - (s + 1))) ≤ cbN T (stp T - (s + 1)) s so dd (agm (fun g => cbN T (stp T - (s + 1)) s so dd g (cn T (stp T - (s + 1)))) y) (cn T (stp T - (s + 1))) := fun w => absurd ((pk_lLE b1 b2).mpr w) (Int64.not_le.mpr z)
        unfold agm at ih'
        rw [if_neg nz] at ih'
        exact ih'
      · have nz : cbN T (stp T - (s + 1)) s so dd (y + 1) (cn T (stp T - (s + 1))) ≤ cbN T (stp T - (s + 1)) s so dd (agm (fun g => cbN T (stp T - (s + 1)) s so dd g (cn T (stp T - (s + 1)))) y) (cn T (stp T - (s + 1))) := (pk_lLE b1 b2).mp (Int64.not_lt.mp z)
        unfold agm at ih'
        rw [if_pos nz] at ih'
        exact ih'
  exact key (min dd so) 1 (by omega) (by omega)
