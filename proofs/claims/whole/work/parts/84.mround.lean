/-! round, vans in the reference -/
theorem c_Mo_drivesS {n : Nat} (hn : 3 ≤ n) {h : xh} {T : Nat → Int32} (M : Mt h T) {a b : Nat} (ha : plc T a) (hb : b < stp T) {Q : Int32 → xh → Prop} (hQ : Q (nI (dr T a b)) h) : xci (xMC n) 260 [.ref 166, .int (pI a), .int (nI b)] h Q := by
  have s9 := stp9 M.ok
  rw [← pI_k (show b < 9 by omega)]
  exact c_Mo_drivesN hn M ha (Or.inr hb) hQ
theorem c_Mo_cellS {n : Nat} (hn : 1 ≤ n) {h : xh} {V a : Nat} (ha : a < 9) {Q : Int32 → xh → Prop} (hQ : Q (nI (ceI V a)) h) : xci (xMC n) 293 [.int (nI V), .int (nI a)] h Q := by
  rw [← pI_k ha]
  exact c_Mo_cell hn (by omega) hQ
def atJ (j : Nat) : Nat := if j = 0 then 9 else j - 1
theorem atJ_p {T : Nat → Int32} {j : Nat} (hj : j ≤ stp T) : plc T (atJ j) := by
  unfold atJ
  by_cases e : j = 0
  · rw [if_pos e]; exact Or.inl rfl
  · rw [if_neg e]; exact Or.inr (by omega)
theorem atJ_I {j : Nat} (hj : j ≤ 9) : pI (atJ j) = nI j - 1 := by
  unfold atJ
  by_cases e : j = 0
  · subst e; decide
  · rw [if_neg e, pI_k (by omega)]
    exact (pk_sub (b := 1) (by omega)).symm
theorem atJ_9 {j : Nat} (hj : j ≤ 9) : atJ j ≤ 9 := by
  unfold atJ
  split <;> omega
theorem atJ_s {T : Nat → Int32} (ok : TnOK T) {a : Nat} (h : plc T a) : ∃ j, j ≤ stp T ∧ a = atJ j := by
  rcases h with e | e
  · exact ⟨0, by omega, by rw [e]; rfl⟩
  · refine ⟨a + 1, by omega, ?_⟩
    unfold atJ
    rw [if_neg (by omega)]; omega
theorem c_Mo_findRounds {n : Nat} (hn : 4 ≤ n) {h : xh} {T : Nat → Int32} (M : Mt h T) {Q : xh → Prop} (hQ : ∀ h', Fr PM h h' → Mt h' T → Gq h' T (2 ^ stp T) → Q h') : xcv (xMC n) 292 [.ref 166] h Q := by
  obtain ⟨n, rfl⟩ := xsucc (show 1 ≤ n by omega)
  have ok := M.ok
  have s9 := stp9 ok
  have p512 : 2 ^ stp T ≤ 512 := Nat.le_trans (Nat.pow_le_pow_right (by decide) s9) (by decide)
  have key : ∀ d x, x + d = 2 ^ stp T → ∀ g, Fr PM h g → Mt g T → Gq g T x → ∀ o2 o3 o4 : Option Value, K_Mo_findRounds n Q 2 [some (.ref 166), some (.int (nI x)), o2, o3, o4] [] g := by
    intro d
    induction d with
    | zero =>
      intro x hx g F Mg G o2 o3 o4
      have : x = 2 ^ stp T := by omega
      subst this
      refine b_Mo_findRounds_2 ⟨Mg.L.s 166, ?_⟩
      rw [Mg.sp, bt_shl _ (by omega)]
      exact ⟨fun _ => hQ g F Mg G, fun z => absurd (Int32.le_refl _) z⟩
    | succ d ih =>
      intro x hx g F Mg G o2 o3 o4
      refine b_Mo_findRounds_2 ⟨Mg.L.s 166, ?_⟩
      rw [Mg.sp, bt_shl _ (by omega)]
      refine ⟨fun z => absurd z (nI_ge (by omega) (by omega)), fun _ => ?_⟩
      have k14 : ∀ e j, j + e = stp T + 1 → ∀ g, Fr PM h g → Mt g T → Gq g T x → (∀ i, i < j → xI g 186 (ceI x (atJ i)) = nI (tg T (pcn 9 x) x (atJ i))) → ∀ o3 o4 : Option Value, K_Mo_findRounds n Q 14 [some (.ref 166), some (.int (nI x)), some (.int (nI j - 1)), o3, o4] [] g := by
        intro e
        induction e with
        | zero =>
          intro j hje g F Mg G c1 o3 o4
          have : j = stp T + 1 := by omega
          subst this
          rw [nI_pred]
          refine b_Mo_findRounds_14 ⟨Mg.L.s 166, ?_⟩
          rw [Mg.sp, nI_1]
          refine ⟨fun _ => ih (x + 1) (by omega) g F Mg (fun V a h1 h2 => ?_) _ _ _, fun z => absurd (Int32.le_refl _) z⟩
          by_cases c : V = x
          · subst c
            obtain ⟨i, hi, ei⟩ := atJ_s ok h2
            subst ei
            exact c1 i (by omega)
          · exact G V a (by omega) h2
        | succ e ie =>
          intro j hje g F Mg G c1 o3 o4
          have Lg := Mg.L
          have hs := Lg.s 166 (p := (11, 0))
          have pj := atJ_p (T := T) (j := j) (by omega)
          have ej := atJ_I (j := j) (by omega)
          have j9 := atJ_9 (j := j) (by omega)
          rw [← ej]
          have wr : ∀ v : Int32, v = nI (tg T (pcn 9 x) x (atJ j)) → ∀ o4 : Option Value, xci (xMC n) 293 [.int (nI x), .int (pI (atJ j))] g (fun r1 h1 => ((64 ≤ 186 ∧ xar h1 186 20 r1) ∧ K_Mo_findRounds n Q 112 [some (.ref 166), some (.int (nI x)), some (.int (pI (atJ j))), some (.int v), o4] [] (xsI h1 186 r1.toNatClampNeg v))) := by
            intro v hv o4
            have cl := ceI_lt (V := x) (a := atJ j) (by omega) j9
            refine c_Mo_cell (by omega) j9 ⟨⟨by decide, Lg.x 186 (n := 5120) cl⟩, b_Mo_findRounds_112 ?_⟩
            rw [nI_clamp (by omega), ej, show nI j - (1 : Int32) + 1 = nI (j + 1) - 1 from by rw [nI_pred]; grind]
            refine ie (j + 1) (by omega) _ (F.wI mPa) (Mg.wa (by decide)) (fun V a h1 h2 => ?_) (fun i hi => ?_) _ _
            · rw [upI_o _ _ _ _ (fun z => by have := (ceI_inj (plc9 ok h2) j9 z).1; omega)]; exact G V a h1 h2
            · rw [upI]
              by_cases c : i = j
              · subst c; rw [if_pos rfl]; exact hv
              · rw [if_neg (fun z => c ?_)]
                · exact c1 i (by omega)
                · have := (ceI_inj (atJ_9 (by omega)) j9 z).2
                  unfold atJ at this
                  split at this <;> split at this <;> omega
          refine b_Mo_findRounds_14 ⟨hs, ?_⟩
          rw [Mg.sp]
          have lj : ¬ nI (stp T) ≤ pI (atJ j) := by
            rw [ej]
            by_cases e0 : j = 0
            · subst e0
              intro z
              exact absurd (Int32.le_trans (nI_pos' (by omega)) z) (by decide)
            · rw [show nI j - (1 : Int32) = nI (j - 1) from pk_sub (b := 1) (by omega)]
              exact nI_ge (by omega) (by omega)
          refine ⟨fun z => absurd z lj, fun _ => ⟨fun z => ?_, fun z => ?_⟩⟩
          · have x0 : x ≠ 0 := fun e => z (by rw [e]; rfl)
            have nz : pcn 9 x ≠ 0 := fun y => x0 (pcn_z _ (by omega) y)
            obtain ⟨dd, ed⟩ : ∃ dd, pcn 9 x = dd + 1 := ⟨pcn 9 x - 1, by omega⟩
            rw [ed] at wr
            have key1 : ∀ e k, k + e = stp T → K_Mo_findRounds n Q 42 [some (.ref 166), some (.int (nI x)), some (.int (pI (atJ j))), some (.int (nI (tgk T (tg T dd) x (atJ j) k))), some (.int (nI k))] [] g := by
              intro e
              induction e with
              | zero =>
                intro k hk
                have : k = stp T := by omega
                subst this
                refine b_Mo_findRounds_42 ⟨hs, ?_⟩
                rw [Mg.sp]
                exact ⟨fun _ => ⟨186, Lg.r 166 47 186, wr _ (by rw [tg_s]) _⟩, fun z => absurd (Int32.le_refl _) z⟩
              | succ e ik =>
                intro k hk
                have ik' := ik (k + 1) (by omega)
                unfold tgk at ik'
                refine b_Mo_findRounds_42 ⟨hs, ?_⟩
                rw [Mg.sp]
                refine ⟨fun z => absurd z (nI_ge (by omega) (by omega)), fun _ => c_Mo_has (by omega) (by omega) (by omega) ?_⟩
                rw [nI_1]
                cases c : x.testBit k
                · rw [if_neg (by rw [c]; decide)] at ik'
                  exact ⟨fun _ => ik', fun z => absurd rfl z⟩
                · rw [if_pos c] at ik'
                  refine ⟨fun z => absurd z (by decide), fun _ => ⟨hs, ?_⟩⟩
                  have pk : plc T k := Or.inr (by omega)
                  refine c_Mo_drivesS (by omega) Mg pj (by omega) ⟨hs, 186, Lg.r 166 47 186, ?_⟩
                  have sl := sdf_less c
                  have pr := pcn_rm c (by omega)
                  rw [bt_clr _ (by omega)]
                  have cl := ceI_lt (V := sdf x (2 ^ k)) (a := k) (by omega) (by omega)
                  refine c_Mo_cellS (by omega) (by omega) ⟨Lg.x 186 (n := 5120) cl, c_Mo_lesser (by omega) ?_⟩
                  have l1 := tgk_far T (tg T dd) x (atJ j) k
                  have l2 := tg_b ok dd (sdf x (2 ^ k)) k (sdf_lt (by omega)) (by omega) pk
                  have l3 := dr_le ok pj pk
                  have p9 := pcn_le 9 x
                  rw [nI_clamp (by omega), G _ k (by omega) pk, show pcn 9 (sdf x (2 ^ k)) = dd by omega, nI_add, mn_n (by omega) (by omega)]
                  exact ik'
            exact key1 (stp T) 0 (by omega)
          · have x0 : x = 0 := (nI_eq (b := 0) (by omega) (by decide)).mp z
            subst x0
            rw [pcn0] at wr
            refine c_Mo_drivesN (by omega) Mg pj (Or.inl rfl) ?_
            have key0 : ∀ e k, k + e = stp T → K_Mo_findRounds n Q 42 [some (.ref 166), some (.int (nI 0)), some (.int (pI (atJ j))), some (.int (nI (dr T (atJ j) 9))), some (.int (nI k))] [] g := by
              intro e
              induction e with
              | zero =>
                intro k hk
                have : k = stp T := by omega
                subst this
                refine b_Mo_findRounds_42 ⟨hs, ?_⟩
                rw [Mg.sp]
                exact ⟨fun _ => ⟨186, Lg.r 166 47 186, wr _ rfl _⟩, fun z => absurd (Int32.le_refl _) z⟩
              | succ e ik =>
                intro k hk
                have ik' := ik (k + 1) (by omega)
                refine b_Mo_findRounds_42 ⟨hs, ?_⟩
                rw [Mg.sp]
                refine ⟨fun z => absurd z (nI_ge (by omega) (by omega)), fun _ => c_Mo_has (by omega) (by omega) (by omega) ?_⟩
                rw [nI_1, Nat.zero_testBit]
                exact ⟨fun _ => ik', fun z => absurd rfl z⟩
            exact key0 (stp T) 0 (by omega)
      have k0 := k14 (stp T + 1) 0 (by omega) g F Mg G (fun i hi => absurd hi (Nat.not_lt_zero _)) o3 o4
      exact k0
  exact w_Mo_findRounds (key (2 ^ stp T) 0 (by omega) h Fr.rf M (fun V a h1 => absurd h1 (Nat.not_lt_zero _)) _ _ _)
def sRound (T : Nat → Int32) (k : Int32) : Int32 := if k = -1 then nI (tg T (stp T) (2 ^ stp T - 1) 9) else if ¬ k < 0 ∧ k.toNatClampNeg < stp T then nI (rk T k.toNatClampNeg) else -1
theorem sRound_n {T : Nat → Int32} {k : Nat} (hk : k < 2 ^ 31) : sRound T (nI k) = if k < stp T then nI (rk T k) else -1 := by
  unfold sRound
  rw [if_neg (nI_m1 hk), nI_clamp hk]
  by_cases c : k < stp T
  · rw [if_pos c, if_pos ⟨nI_pos hk, c⟩]
  · rw [if_neg c, if_neg (fun z => c z.2)]
theorem sRound_o {T : Nat → Int32} {k : Int32} (h1 : ¬ k = -1) (h2 : k < 0) : sRound T k = -1 := by
  unfold sRound
  rw [if_neg h1, if_neg (fun z => z.1 h2)]
theorem c_Mo_round {n : Nat} (hn : 5 ≤ n) {h : xh} (L : Lay h) {c : Nat} (W : TwM h c) {p k : Int32} {Q : Int32 → xh → Prop} (h1 : ∀ j, j < c → p = nI j → ∀ h', Fr PM h h' → Q (sRound (mT h j) k) h') (h0 : (∀ j, j < c → ¬ p = nI j) → ∀ h', Fr PM h h' → Q (-1) h') : xci (xMC n) 291 [.ref 166, .int p, .int k] h Q := by
  obtain ⟨n, rfl⟩ := xsucc (show 1 ≤ n by omega)
  have hs := L.s 166 (p := (11, 0))
  have F : Fr PM h (xsI h 166 0 0) := Fr.rf.wI mP
  obtain ⟨W', eT⟩ := W.fr F
  refine w_Mo_round ⟨⟨by decide, hs⟩, b_Mo_round_5 ⟨hs, c_Mo_hand (by omega) (F.lay L) W' (fun j hj e h' F' M => ⟨fun y => absurd y (by decide), fun _ => ⟨M.L.s 166, ?_⟩⟩) (fun z h' F' => ⟨fun _ => h0 z h' (F.tr F'), fun y => absurd rfl y⟩)⟩⟩
  rw [eT] at M
  have hQ := h1 j hj e
  generalize mT h j = T at M hQ
  have ok := M.ok
  have s9 := stp9 ok
  have p512 : 2 ^ stp T ≤ 512 := Nat.le_trans (Nat.pow_le_pow_right (by decide) s9) (by decide)
  have fp := Nat.two_pow_pos (stp T)
  rw [M.sp]
  refine c_Mo_in (by omega) (fun z => ⟨fun _ => ⟨M.L.s 166, c_Mo_findRounds (by omega) M (fun g F2 M2 G => ⟨M2.L.s 166, ?_⟩)⟩, fun y => absurd y (by decide)⟩) (fun z => ⟨fun y => absurd rfl y, fun _ => ?_⟩)
  · have hQ := hQ g ((F.tr F').tr F2)
    have Lg := M2.L
    have hsg := Lg.s 166 (p := (11, 0))
    rw [M2.sp, bt_shl _ (by omega), show nI (2 ^ stp T) - (1 : Int32) = nI (2 ^ stp T - 1) from pk_sub (b := 1) (by omega)]
    rcases (bwm (by omega)).mp z with e1 | ⟨t, ht, e1⟩
    · subst e1
      refine b_Mo_round_48 ⟨fun _ => ⟨fun y => absurd rfl y, fun _ => ⟨hsg, 186, Lg.r 166 47 186, ?_⟩⟩, fun y => absurd (by decide) y⟩
      have cl := ceI_lt (V := 2 ^ stp T - 1) (a := 9) (by omega) (by omega)
      refine c_Mo_cell (V := 2 ^ stp T - 1) (a := 9) (by omega) (by omega) ⟨Lg.x 186 (n := 5120) cl, ?_⟩
      rw [nI_clamp (by omega), G _ 9 (by omega) (Or.inl rfl), pcn_f9 _ s9]
      exact hQ
    · subst e1
      rw [sRound_n (by omega), if_pos ht] at hQ
      have key : ∀ e i, i + e = t + 1 → ∀ o1 o6 : Option Value, K_Mo_round n Q 48 [some (.ref 166), o1, some (.int (nI t)), some (.int (nI (rq T i).1)), some (.int (pI (rq T i).2)), some (.int (nI i)), o6] [] g := by
        intro e
        induction e with
        | zero =>
          intro i hi o1 o6
          have : i = t + 1 := by omega
          subst this
          refine b_Mo_round_48 ⟨fun _ => ⟨fun _ => ?_, fun y => absurd y (nI_m1 (by omega))⟩, fun y => absurd (nI_lt (by omega) (by omega)) y⟩
          obtain ⟨k1, _, _⟩ := rk_p ok ht
          rw [rq_s, show pI (sdf (rq T t).1 (2 ^ rk T t), rk T t).2 = nI (rk T t) from pI_k (by show rk T t < 9; omega)]
          exact hQ
        | succ e ih =>
          intro i hi o1 o6
          have ih' := ih (i + 1) (by omega)
          rw [rq_s] at ih'
          obtain ⟨q1, q2, q3⟩ := rq_p ok i (by omega)
          obtain ⟨k1, k2, k3⟩ := rk_p ok (i := i) (by omega)
          obtain ⟨d, hd⟩ : ∃ d, stp T = i + 1 + d := ⟨stp T - (i + 1), by omega⟩
          have ed : pcn 9 (rq T i).1 = d + 1 := by omega
          have eh : fsx (pR T d (rq T i).1 (rq T i).2) (stp T) 0 = rk T i := by unfold rk; rw [show stp T - (i + 1) = d by omega]
          have a9 := plc9 ok q3
          refine b_Mo_round_48 ⟨fun y => absurd y (nI_nlt (by omega) (by omega)), fun _ => ?_⟩
          have inner : ∀ u j, j + u = stp T → fsx (pR T d (rq T i).1 (rq T i).2) u j = rk T i → K_Mo_round n Q 57 [some (.ref 166), o1, some (.int (nI t)), some (.int (nI (rq T i).1)), some (.int (pI (rq T i).2)), some (.int (nI i)), some (.int (nI j))] [] g := by
            intro u
            induction u with
            | zero =>
              intro j hj ej
              have ej' : j = rk T i := ej
              omega
            | succ u iu =>
              intro j hj ej
              unfold fsx at ej
              have skip : ¬ pR T d (rq T i).1 (rq T i).2 j = true → K_Mo_round n Q 57 [some (.ref 166), o1, some (.int (nI t)), some (.int (nI (rq T i).1)), some (.int (pI (rq T i).2)), some (.int (nI i)), some (.int (nI (j + 1)))] [] g := fun np => by
                rw [if_neg np] at ej
                exact iu (j + 1) (by omega) ej
              have pj : plc T j := Or.inr (by omega)
              refine b_Mo_round_57 (c_Mo_has (by omega) (by omega) (by omega) ?_)
              rw [nI_1, nI_1]
              cases cb : (rq T i).1.testBit j
              · refine ⟨fun _ => skip (fun y => ?_), fun y => absurd rfl y⟩
                unfold pR at y
                rw [cb, Bool.false_and] at y
                exact absurd y (by decide)
              · refine ⟨fun y => absurd y (by decide), fun _ => ⟨hsg, ?_⟩⟩
                refine c_Mo_drivesS (by omega) M2 q3 (by omega) ⟨hsg, 186, Lg.r 166 47 186, ?_⟩
                have sl := sdf_less cb
                have pr := pcn_rm cb (by omega)
                have cl := ceI_lt (V := sdf (rq T i).1 (2 ^ j)) (a := j) (by omega) (by omega)
                have cl2 := ceI_lt (V := (rq T i).1) (a := (rq T i).2) (by omega) a9
                rw [bt_clr _ (by omega)]
                refine c_Mo_cellS (by omega) (by omega) ⟨Lg.x 186 (n := 5120) cl, hsg, 186, Lg.r 166 47 186, c_Mo_cell (by omega) a9 ⟨Lg.x 186 (n := 5120) cl2, ?_⟩⟩
                have l2 := tg_b ok d (sdf (rq T i).1 (2 ^ j)) j (sdf_lt q1) (by omega) pj
                have l3 := dr_le ok q3 pj
                have l7 := tg_b ok (d + 1) (rq T i).1 (rq T i).2 q1 (by omega) q3
                rw [nI_clamp (by omega), nI_clamp (by omega), G _ j (by omega) pj, G _ _ q1 q3, ed, show pcn 9 (sdf (rq T i).1 (2 ^ j)) = d by omega, nI_add, nI_eq (by omega) (by omega)]
                have pe : pR T d (rq T i).1 (rq T i).2 j = true ↔ dr T (rq T i).2 j + tg T d (sdf (rq T i).1 (2 ^ j)) j = tg T (d + 1) (rq T i).1 (rq T i).2 := by
                  unfold pR tmR
                  rw [cb]
                  simp
                refine ⟨fun y => ?_, fun y => skip (fun w => y (pe.mp w))⟩
                rw [if_pos (pe.mpr y)] at ej
                subst ej
                have ih2 := ih' o1 (some (.int (nI (rk T i))))
                rw [show pI (sdf (rq T i).1 (2 ^ rk T i), rk T i).2 = nI (rk T i) from pI_k (by show rk T i < 9; omega)] at ih2
                exact ih2
          exact inner (stp T) 0 (by omega) eh
      exact key (t + 1) 0 (by omega) _ _
  · have hQ := hQ h' (F.tr F')
    by_cases e1 : k = -1
    · exact absurd ((bwm (by omega)).mpr (Or.inl e1)) z
    · by_cases q : k < 0
      · rwa [sRound_o e1 q] at hQ
      · obtain ⟨i, hi, ei⟩ := nI_of q
        subst ei
        rwa [sRound_n hi, if_neg (fun w => z ((bwm (by omega)).mpr (Or.inr ⟨i, w, rfl⟩)))] at hQ
