/-! ROUTES in the class: findPaths, findRound -/
theorem c_Routes_has {n : Nat} (hn : 1 ≤ n) {h : xh} {V a : Nat} (hV : V < 512) (ha : a < 9) {Q : Int32 → xh → Prop} (hQ : Q (if V.testBit a then 1 else 0) h) : xci (xMC n) 86 [.int (nI V), .int (nI a)] h Q := by
  obtain ⟨n, rfl⟩ := xsucc hn
  refine w_Routes_has ?_
  rw [bt_has V hV a ha]
  cases hb : V.testBit a
  · rw [hb] at hQ
    exact ⟨fun _ => hQ, fun z => absurd z (by decide)⟩
  · rw [hb] at hQ
    exact ⟨fun z => absurd rfl z, fun _ => hQ⟩
/-- a path from HOME by all of a set to its last stop is one home from there -/
def Pq (h : xh) (T : Nat → Int32) (N : Nat) : Prop := ∀ V a, V < N → a < stp T → V.testBit a = true → xI h 152 (V * 9 + a) = nI (tg T (pcn 9 V - 1) (sdf V (2 ^ a)) a)
def Tq (h : xh) (T : Nat → Int32) (N : Nat) : Prop := ∀ V, V < N → xI h 153 V = nI (tg T (pcn 9 V) V 9)
def PPa (c : Nat) : Prop := c = 152 ∨ c = 153
theorem c_Routes_shortest {n : Nat} (hn : 2 ≤ n) {h : xh} (L : Lay h) {t : Nat} {T : Nat → Int32} (H : Tn h t T) (A : Ap h T (stp T)) {V a : Nat} (hV : V < 2 ^ stp T) (P : Pq h T (V + 1)) (ha : a < stp T) {Q : Int32 → xh → Prop} (hQ : Q (nI (tg T (pcn 9 V) V a)) h) : xci (xMC n) 87 [.ref 150, .ref t, .int (nI V), .int (nI a)] h Q := by
  obtain ⟨n, rfl⟩ := xsucc (show 1 ≤ n by omega)
  have ok := H.ok
  have s9 := stp9 ok
  have p512 : 2 ^ stp T ≤ 512 := Nat.le_trans (Nat.pow_le_pow_right (by decide) s9) (by decide)
  refine w_Routes_shortest ⟨fun z => ?_, fun z => ⟨L.s 150, 151, L.r 150 2 151, ?_⟩⟩
  · have V0 : V ≠ 0 := fun e => z (by rw [e]; rfl)
    have nz : pcn 9 V ≠ 0 := fun y => V0 (pcn_z _ (by omega) y)
    obtain ⟨d, ed⟩ : ∃ d, pcn 9 V = d + 1 := ⟨pcn 9 V - 1, by omega⟩
    rw [ed] at hQ
    have key : ∀ e k, k + e = stp T → K_Routes_shortest n Q 21 [some (.ref 150), some (.ref t), some (.int (nI V)), some (.int (nI a)), some (.int (nI (tgk T (tg T d) V a k))), some (.int (nI k))] [] h := by
      intro e
      induction e with
      | zero =>
        intro k hk
        have : k = stp T := by omega
        subst this
        refine b_Routes_shortest_21 ⟨H.s, ?_⟩
        rw [H.i 6, ok.s6.1]
        exact ⟨fun _ => hQ, fun z => absurd (Int32.le_refl _) z⟩
      | succ e ih =>
        intro k hk
        have ih' := ih (k + 1) (by omega)
        unfold tgk at ih'
        refine b_Routes_shortest_21 ⟨H.s, ?_⟩
        rw [H.i 6, ok.s6.1]
        refine ⟨fun z => absurd z (nI_ge (by omega) (by omega)), fun _ => c_Routes_has (by omega) (by omega) (by omega) ?_⟩
        rw [nI_1]
        cases c : V.testBit k
        · rw [if_neg (by rw [c]; decide)] at ih'
          exact ⟨fun _ => ih', fun z => absurd rfl z⟩
        · rw [if_pos c] at ih'
          refine ⟨fun z => absurd z (by decide), fun _ => ⟨L.s 150, 152, L.r 150 3 152, ?_⟩⟩
          have pr := pcn_rm c (by omega)
          have l1 := tgk_far T (tg T d) V a k
          have l2 := tg_b ok d (sdf V (2 ^ k)) k (sdf_lt hV) (by omega) (Or.inr (by omega))
          have l3 := dr_le ok (a := a) (b := k) (Or.inr ha) (Or.inr (by omega))
          have p9 := pcn_le 9 V
          rw [show nI V * (9 : Int32) = nI (V * 9) from pk_mul _ 9, show nI k * (9 : Int32) = nI (k * 9) from pk_mul _ 9, nI_add, nI_add, nI_clamp (by omega), nI_clamp (by omega), P V k (by omega) (by omega) c, ed, show d + 1 - 1 = d by omega]
          refine ⟨L.x 152 (n := 4608) (by omega), 151, L.r 150 2 151, L.x 151 (n := 90) (by omega), ?_⟩
          rw [A k a (Or.inr (by omega)) ha, nI_add, dr_comm T k a, Nat.add_comm (tg T d (sdf V (2 ^ k)) k)]
          refine c_Math_min (by omega) ?_
          rw [show (if nI (dr T a k + tg T d (sdf V (2 ^ k)) k) < nI (tgk T (tg T d) V a k) then nI (dr T a k + tg T d (sdf V (2 ^ k)) k) else nI (tgk T (tg T d) V a k)) = nI (min (tgk T (tg T d) V a k) (dr T a k + tg T d (sdf V (2 ^ k)) k)) from mn_n (by omega) (by omega)]
          exact ih'
    exact key (stp T) 0 (by omega)
  · have V0 : V = 0 := (nI_eq (b := 0) (by omega) (by decide)).mp z
    subst V0
    rw [show (81 : Int32) + nI a = nI (81 + a) from nI_add 81 a, nI_clamp (by omega)]
    refine ⟨L.x 151 (n := 90) (by omega), ?_⟩
    have := A 9 a (Or.inl rfl) ha
    rw [show 9 * 9 + a = 81 + a by omega] at this
    rw [this, dr_comm]
    exact hQ
theorem c_Routes_findPaths {n : Nat} (hn : 3 ≤ n) {h : xh} (L : Lay h) {t : Nat} {T : Nat → Int32} (H : Tn h t T) (ht : t + 7 < 150) (A : Ap h T (stp T)) (f1 : xI h 150 1 = nI (2 ^ stp T - 1)) (z3 : xI h 153 0 = 0) {Q : xh → Prop} (hQ : ∀ h', Fr PPa h h' → Pq h' T (2 ^ stp T) → Tq h' T (2 ^ stp T) → Q h') : xcv (xMC n) 85 [.ref 150, .ref t] h Q := by
  obtain ⟨n, rfl⟩ := xsucc (show 1 ≤ n by omega)
  have ok := H.ok
  have s9 := stp9 ok
  have p512 : 2 ^ stp T ≤ 512 := Nat.le_trans (Nat.pow_le_pow_right (by decide) s9) (by decide)
  have fp := Nat.two_pow_pos (stp T)
  have fT : ∀ {g}, Fr PPa h g → Tn g t T := fun F => H.fr F (fun c h1 h2 z => by unfold PPa at z; omega)
  have fA : ∀ {g}, Fr PPa h g → Ap g T (stp T) := fun {g} F a s h1 h2 => by rw [F.i 151 (fun z => by unfold PPa at z; omega)]; exact A a s h1 h2
  have f15 : ∀ {g}, Fr PPa h g → xI g 150 1 = nI (2 ^ stp T - 1) := fun {g} F => by rw [F.i 150 (fun z => by unfold PPa at z; omega)]; exact f1
  have key : ∀ d V, V + d = 2 ^ stp T → 1 ≤ V → ∀ g, Fr PPa h g → Pq g T V → Tq g T V → ∀ o3 o4 : Option Value, K_Routes_findPaths n Q 2 [some (.ref 150), some (.ref t), some (.int (nI V)), o3, o4] [] g := by
    intro d
    induction d with
    | zero =>
      intro V hV h1 g F P Tg o3 o4
      have : V = 2 ^ stp T := by omega
      subst this
      refine b_Routes_findPaths_2 ⟨(F.lay L).s 150, ?_⟩
      rw [f15 F]
      exact ⟨fun _ => hQ g F P Tg, fun z => absurd (nI_lt (by omega) (by omega)) z⟩
    | succ d ih =>
      intro V hV h1 g F P Tg o3 o4
      have Lg := F.lay L
      have V0 : V ≠ 0 := by omega
      have nz : pcn 9 V ≠ 0 := fun y => V0 (pcn_z _ (by omega) y)
      obtain ⟨dd, ed⟩ : ∃ dd, pcn 9 V = dd + 1 := ⟨pcn 9 V - 1, by omega⟩
      refine b_Routes_findPaths_2 ⟨Lg.s 150, ?_⟩
      rw [f15 F]
      refine ⟨fun z => absurd z (nI_nlt (by omega) (by omega)), fun _ => ⟨153, Lg.r 150 4 153, ⟨by decide, Lg.x 153 (n := 512) (by omega)⟩, b_Routes_findPaths_18 ?_⟩⟩
      rw [nI_clamp (by omega)]
      have k20 : ∀ e a, a + e = stp T → ∀ g, Fr PPa h g → Pq g T V → Tq g T V → (∀ b, b < a → V.testBit b = true → xI g 152 (V * 9 + b) = nI (tg T (pcn 9 V - 1) (sdf V (2 ^ b)) b)) → xI g 153 V = nI (tgk T (tg T dd) V 9 a) → ∀ o4 : Option Value, K_Routes_findPaths n Q 20 [some (.ref 150), some (.ref t), some (.int (nI V)), some (.int (nI a)), o4] [] g := by
        intro e
        induction e with
        | zero =>
          intro a hae g F P Tg c1 c2 o4
          have : a = stp T := by omega
          subst this
          have Hg := fT F
          refine b_Routes_findPaths_20 ⟨Hg.s, ?_⟩
          rw [Hg.i 6, ok.s6.1, nI_1]
          refine ⟨fun _ => ih (V + 1) (by omega) (by omega) g F (fun V' b q1 q2 q3 => ?_) (fun V' q1 => ?_) _ _, fun z => absurd (Int32.le_refl _) z⟩
          · by_cases c : V' = V
            · subst c; exact c1 b q2 q3
            · exact P V' b (by omega) q2 q3
          · by_cases c : V' = V
            · subst c; rw [c2, ed, tg_s]
            · exact Tg V' (by omega)
        | succ e ie =>
          intro a hae g F P Tg c1 c2 o4
          have Lg := F.lay L
          have Hg := fT F
          refine b_Routes_findPaths_20 ⟨Hg.s, ?_⟩
          rw [Hg.i 6, ok.s6.1]
          refine ⟨fun z => absurd z (nI_ge (by omega) (by omega)), fun _ => c_Routes_has (by omega) (by omega) (by omega) ?_⟩
          cases c : V.testBit a
          · refine ⟨fun _ => b_Routes_findPaths_91 ?_, fun z => absurd rfl z⟩
            rw [nI_1]
            refine ie (a + 1) (by omega) g F P Tg (fun b hb q => ?_) ?_ _
            · by_cases eb : b = a
              · subst eb; rw [c] at q; exact absurd q (by decide)
              · exact c1 b (by omega) q
            · unfold tgk
              rw [if_neg (by rw [c]; decide)]
              exact c2
          · have pr := pcn_rm c (by omega)
            have sl := sdf_less c
            refine ⟨fun z => absurd z (by decide), fun _ => ⟨Lg.s 150, ?_⟩⟩
            rw [bt_clr _ (by omega)]
            refine c_Routes_shortest (by omega) Lg Hg (fA F) (by omega) (fun V' b q1 q2 q3 => P V' b (by omega) q2 q3) (by omega) ⟨Lg.s 150, 152, Lg.r 150 3 152, ?_⟩
            rw [show nI V * (9 : Int32) = nI (V * 9) from pk_mul _ 9, nI_add, nI_clamp (by omega)]
            refine ⟨⟨by decide, Lg.x 152 (n := 4608) (by omega)⟩, ?_⟩
            have F1 : Fr PPa h (xsI g 152 (V * 9 + a) (nI (tg T (pcn 9 (sdf V (2 ^ a))) (sdf V (2 ^ a)) a))) := F.wI (Or.inl rfl)
            have L1 := F1.lay L
            have e1 : xI (xsI g 152 (V * 9 + a) (nI (tg T (pcn 9 (sdf V (2 ^ a))) (sdf V (2 ^ a)) a))) 153 V = nI (tgk T (tg T dd) V 9 a) := by rw [xsI_ne _ _ _ (by decide)]; exact c2
            refine b_Routes_findPaths_64 ⟨L1.s 150, 153, L1.r 150 4 153, L1.x 153 (n := 512) (by omega), 151, L1.r 150 2 151, ?_⟩
            have a9 := fA F1 9 a (Or.inl rfl) (by omega)
            rw [show 9 * 9 + a = 81 + a by omega] at a9
            rw [show (81 : Int32) + nI a = nI (81 + a) from nI_add 81 a, nI_clamp (by omega), nI_clamp (by omega), e1, a9, nI_add, show pcn 9 (sdf V (2 ^ a)) = dd by omega]
            refine ⟨L1.x 151 (n := 90) (by omega), c_Math_min (by omega) ⟨⟨by decide, L1.x 153 (n := 512) (by omega)⟩, b_Routes_findPaths_91 ?_⟩⟩
            have l1 := tgk_far T (tg T dd) V 9 a
            have l2 := tg_b ok dd (sdf V (2 ^ a)) a (sdf_lt (by omega)) (by omega) (Or.inr (by omega))
            have l3 := dr_le ok (a := 9) (b := a) (Or.inl rfl) (Or.inr (by omega))
            have p9 := pcn_le 9 V
            rw [show (if nI (tg T dd (sdf V (2 ^ a)) a + dr T 9 a) < nI (tgk T (tg T dd) V 9 a) then nI (tg T dd (sdf V (2 ^ a)) a + dr T 9 a) else nI (tgk T (tg T dd) V 9 a)) = nI (min (tgk T (tg T dd) V 9 a) (tg T dd (sdf V (2 ^ a)) a + dr T 9 a)) from mn_n (by omega) (by omega), nI_1]
            rw [show pcn 9 (sdf V (2 ^ a)) = dd by omega] at F1
            refine ie (a + 1) (by omega) _ (F1.wI (Or.inr rfl)) (fun V' b q1 q2 q3 => ?_) (fun V' q1 => ?_) (fun b hb q => ?_) ?_ _
            · rw [xsI_ne _ _ _ (by decide), upI_o _ _ _ _ (by omega)]; exact P V' b q1 q2 q3
            · rw [upI_o _ _ _ _ (by omega), xsI_ne _ _ _ (by decide)]; exact Tg V' q1
            · rw [xsI_ne _ _ _ (by decide), upI]
              by_cases eb : b = a
              · subst eb; rw [if_pos rfl, show pcn 9 V - 1 = dd by omega]
              · rw [if_neg (by omega)]; exact c1 b (by omega) q
            · rw [upI_s, Nat.add_comm (tg T dd (sdf V (2 ^ a)) a)]
              show _ = nI (if V.testBit a = true then min (tgk T (tg T dd) V 9 a) (tmR T (tg T dd) V 9 a) else tgk T (tg T dd) V 9 a)
              rw [if_pos c]
              rfl
      refine k20 (stp T) 0 (by omega) _ (F.wI (Or.inr rfl)) (fun V' b q1 q2 q3 => ?_) (fun V' q1 => ?_) (fun b hb => absurd hb (Nat.not_lt_zero _)) (upI_s _ _ _ _) _
      · rw [xsI_ne _ _ _ (by decide)]; exact P V' b q1 q2 q3
      · rw [upI_o _ _ _ _ (by omega)]; exact Tg V' q1
  refine w_Routes_findPaths (key (2 ^ stp T - 1) 1 (by omega) (by omega) h Fr.rf (fun V b q1 q2 q3 => ?_) (fun V q1 => ?_) none none)
  · have : V = 0 := by omega
    subst this
    rw [Nat.zero_testBit] at q3
    exact absurd q3 (by decide)
  · have : V = 0 := by omega
    subst this
    rw [z3, pcn0]
    show (0 : Int32) = nI (dr T 9 9)
    rw [dr_99]; rfl
