/-! THE WAY in the reference: findWay, areWarm; way, talks, lost, chat -/
theorem Ff.r {h g : xh} (f : Ff h g) : xI g 166 43 = xI h 166 43 ∧ xI g 185 = xI h 185 := ⟨f.2 43 (by decide) (by decide), f.1.i 185 (fun z => by unfold PDo at z; omega)⟩
theorem c_Mo_findWay {n : Nat} (hn : 8 ≤ n) {h : xh} {T : Nat → Int32} (M : Mt h T) {x : Int32} {A : Nat} (hx : ∀ s, s < stp T → (A.testBit s = true ↔ ¬ nI s = x ∧ 0 < mdN T s)) (hA : ∀ i, A.testBit i = true → 0 < mdN T i) {p m : Nat} (B : Best T A p m) {Q : xh → Prop} (hQ : ∀ g, Fr PM h g → Mt g T → xI g 166 45 = nI p → xI g 166 46 = nI m → xI g 166 43 = nI (wl T A p m) → (∀ k, k < wl T A p m → xI g 185 k = nI (wk T A p m k)) → Q g) : xcv (xMC n) 283 [.ref 166, .int x] h Q := by
  obtain ⟨n, rfl⟩ := xsucc (show 1 ≤ n by omega)
  have ok := M.ok
  have s9 := stp9 ok
  have p512 : 2 ^ stp T ≤ 512 := Nat.le_trans (Nat.pow_le_pow_right (by decide) s9) (by decide)
  obtain ⟨wl1, wl2, wl3⟩ := wl_p ok B
  obtain ⟨p2, m2⟩ := B.b ok
  have M1 : Mt (xsI h 166 44 x) T := M.wf (by omega)
  have F1 : Fr PM h (xsI h 166 44 x) := Fr.rf.wI mP
  have K1 : Sk (xsI h 166 44 x) T A := fun s hs => by rw [upI_s]; exact hx s hs
  have key : ∀ d i, i + d = wl T A p m → ∀ g, Fr PM h g → Mt g T → Sk g T A → xI g 166 43 = nI i → (∀ k, k < i → xI g 185 k = nI (wk T A p m k)) → ∀ o1 o7 : Option Value, K_Mo_findWay n Q 36 [some (.ref 166), o1, some (.int (nI p)), some (.int (nI m)), some (.int (nI (wq T A p m i).1)), some (.int (pI (wq T A p m i).2)), some (.int (nI (dn T (wq T A p m i).1 (wq T A p m i).2))), o7] [] g := by
    intro d
    induction d with
    | zero =>
      intro i hi g F Mg kg e43 c1 o1 o7
      have : i = wl T A p m := by omega
      subst this
      have w := (wq_w ok B (Nat.le_refl _)).1
      have w1 := w.1
      have pl := pp_le ok (wq T A p m (wl T A p m)).1
      refine b_Mo_findWay_36 ⟨Mg.L.s 166, c_Mo_peopleOf (by omega) Mg (by omega) ?_⟩
      refine ⟨fun _ => ⟨⟨by decide, Mg.L.s 166⟩, ?_⟩, fun z => absurd (nI_le wl3 (by omega)) z⟩
      have M2 : Mt (xsI g 166 45 (nI p)) T := Mg.wf (by omega)
      refine b_Mo_findWay_126 ⟨⟨by decide, M2.L.s 166⟩, hQ _ ((F.wI mP).wI mP) (M2.wf (by omega)) ?_ ?_ ?_ (fun k hk => ?_)⟩
      · rw [upI_o _ _ _ _ (by decide), upI_s]
      · rw [upI_s]
      · rw [upI_o _ _ _ _ (by decide), upI_o _ _ _ _ (by decide)]; exact e43
      · rw [xsI_ne _ _ _ (by decide), xsI_ne _ _ _ (by decide)]; exact c1 k hk
    | succ d ih =>
      intro i hi g F Mg kg e43 c1 o1 o7
      have w := (wq_w ok B (i := i) (by omega)).1
      have w1 := w.1
      have gs := w.gs ok B
      have tb := gs.tb ok
      obtain ⟨k1, k2⟩ := wk_w ok B (i := i) (by omega)
      obtain ⟨st1, st2⟩ := wq_st ok B (i := i) (by omega)
      have lt := wl2 i (by omega)
      have pl := pp_le ok (wq T A p m i).1
      have cc := ((lead_i ok B w k1).mp k2).2.2.1
      refine b_Mo_findWay_36 ⟨Mg.L.s 166, c_Mo_peopleOf (by omega) Mg (by omega) ⟨fun z => absurd z (nI_ge lt (by omega)), fun _ => ?_⟩⟩
      have inner : ∀ e s, s + e = stp T → fsx (nq T A p m (wq T A p m i).1 (wq T A p m i).2) e s = wk T A p m i → ∀ g, Fr PM h g → Mt g T → Sk g T A → xI g 166 43 = nI i → (∀ k, k < i → xI g 185 k = nI (wk T A p m k)) → K_Mo_findWay n Q 49 [some (.ref 166), o1, some (.int (nI p)), some (.int (nI m)), some (.int (nI (wq T A p m i).1)), some (.int (pI (wq T A p m i).2)), some (.int (nI (dn T (wq T A p m i).1 (wq T A p m i).2))), some (.int (nI s))] [] g := by
        intro e
        induction e with
        | zero =>
          intro s hs ej
          have ej' : s = wk T A p m i := ej
          omega
        | succ e ie =>
          intro s hs ej g F Mg kg e43 c1
          unfold fsx at ej
          refine b_Mo_findWay_49 ⟨Mg.L.s 166, c_Mo_leads (by omega) Mg hA kg B w (by omega) (fun g' F' Mg' => ?_)⟩
          have F2 : Fr PM h g' := F.tr F'.pm
          have k2 := F'.sk kg
          have e43' : xI g' 166 43 = nI i := F'.r.1.trans e43
          have c1' : ∀ k, k < i → xI g' 185 k = nI (wk T A p m k) := fun k hk => by rw [F'.r.2]; exact c1 k hk
          by_cases q : nq T A p m (wq T A p m i).1 (wq T A p m i).2 s = true
          · rw [if_pos q] at ej ⊢
            subst ej
            refine ⟨fun _ => ⟨Mg'.L.s 166, c_Mo_doneThere (by omega) Mg' gs.sa.pl k1 (by omega) ?_⟩, fun z => absurd z (by decide)⟩
            rw [if_pos cc, e43', nI_clamp (by omega), bt_set _ (by omega), ← st1]
            refine ⟨Mg'.L.s 166, 185, Mg'.L.r 166 42 185, ⟨by decide, Mg'.L.x 185 (n := 9) (by omega)⟩, ?_⟩
            have M3 : Mt (xsI g' 185 i (nI (wk T A p m i))) T := Mg'.wa (by decide)
            have F3 : Fr PM h (xsI g' 185 i (nI (wk T A p m i))) := F2.wI mPa
            refine b_Mo_findWay_108 ⟨M3.L.s 166, ⟨by decide, M3.L.s 166⟩, ?_⟩
            rw [xsI_ne _ _ _ (by decide), e43', nI_1]
            have ih' := ih (i + 1) (by omega) (xsI (xsI g' 185 i (nI (wk T A p m i))) 166 43 (nI (i + 1))) (F3.wI mP) (M3.wf (by omega)) (fun s hs => by
              rw [upI_o _ _ _ _ (by decide), xsI_ne _ _ _ (by decide)]; exact k2 s hs) (upI_s _ _ _ _) (fun k hk => by
              rw [xsI_ne _ _ _ (by decide), upI]
              by_cases c : k = i
              · subst c; rw [if_pos rfl]
              · rw [if_neg c]; exact c1' k (by omega)) o1
            have e1 : (wq T A p m (i + 1)).1 = (wq T A p m i).1 ||| 2 ^ wk T A p m i := by rw [wq_s]
            have e2 : (wq T A p m (i + 1)).2 = wk T A p m i := by rw [wq_s]
            rw [e2, pI_k (show wk T A p m i < 9 by omega)] at ih'
            rw [e2]
            rw [e1] at ih' ⊢
            exact ih' _
          · rw [if_neg q] at ej ⊢
            refine ⟨fun z => absurd rfl z, fun _ => ?_⟩
            rw [nI_1]
            exact ie (s + 1) (by omega) ej g' F2 Mg' k2 e43' c1'
      exact inner (stp T) 0 (by omega) rfl g F Mg kg e43 c1
  refine w_Mo_findWay ⟨⟨by decide, M.L.s 166⟩, b_Mo_findWay_5 ⟨M1.L.s 166, ?_⟩⟩
  have go := c_Mo_findOn (n := n) (by omega) M1 K1 (Gs0 T A) (Q := fun h1 => (xS h1 166 = (11, 0) ∧ ((64 ≤ 166 ∧ xS h1 166 = (11, 0)) ∧ K_Mo_findWay n Q 36 [some (.ref 166), (xlc (some (.int x))), some (.int (xI h1 166 45)), some (.int (xI h1 166 46)), some (.int (0 : Int32)), some (.int (-1 : Int32)), some (.int (0 : Int32)), none] [] (xsI h1 166 43 (0 : Int32))))) (fun g P Mi F' Mg e1 e2 fo => by
    obtain ⟨u1, u2⟩ := Best.uq hA (fo.best ok) B
    subst u1; subst u2
    refine ⟨Mg.L.s 166, ⟨by decide, Mg.L.s 166⟩, ?_⟩
    rw [e1, e2]
    have k0 := key (wl T A P Mi) 0 (by omega) (xsI g 166 43 0) ((F1.tr F'.pm).wI mP) (Mg.wf (by omega)) (fun s hs => by
      rw [upI_o _ _ _ _ (by decide)]; exact F'.sk K1 s hs) (upI_s _ _ _ _) (fun k hk => absurd hk (Nat.not_lt_zero _)) (xlc (some (.int x))) none
    have ed : dn T (wq T A P Mi 0).1 (wq T A P Mi 0).2 = 0 := dn_0 T 9
    rw [ed] at k0
    exact k0)
  exact go
theorem c_Mo_areWarm {n : Nat} (hn : 5 ≤ n) {h : xh} {T : Nat → Int32} (M : Mt h T) {A p m : Nat} (hA : ∀ i, A.testBit i = true → 0 < mdN T i) (B : Best T A p m) (h0 : 0 < wl T A p m) (e43 : xI h 166 43 = nI (wl T A p m)) (er : ∀ k, k < wl T A p m → xI h 185 k = nI (wk T A p m k)) {S x : Nat} (hS : S < 512) (x9 : x ≤ 9) {Q : Int32 → xh → Prop} (hQ : Q (if coN T A p m + x * pcn 9 (S &&& ahN T A p m) * bN T 5 < clN T then 1 else 0) h) : xci (xMC n) 295 [.ref 166, .int (nI S), .int (nI x)] h Q := by
  obtain ⟨n, rfl⟩ := xsucc (show 1 ≤ n by omega)
  have ok := M.ok
  have s9 := stp9 ok
  have w9 := (wl_p ok B).1
  have h5 := ok.hm.2.2.2.2
  have l4 : clN T ≤ 99 := ok.hm.2.2.2.1.2
  have L := M.L
  have key : ∀ d k, k + d = wl T A p m → (0 < k → dn T (wq T A p m (k - 1)).1 (wq T A p m (k - 1)).2 + dr T (wq T A p m (k - 1)).2 (wk T A p m (k - 1)) + x * pcn 9 (S &&& (wq T A p m (k - 1)).1) * bN T 5 < clN T) → ∀ y, y = dn T (wq T A p m k).1 (wq T A p m k).2 + x * pcn 9 (S &&& (wq T A p m k).1) * bN T 5 → K_Mo_areWarm n Q 8 [some (.ref 166), some (.int (nI S)), some (.int (nI x)), some (.int (nI y)), some (.int (pI (wq T A p m k).2)), some (.int (nI k))] [] h := by
    intro d
    induction d with
    | zero =>
      intro k hk cond y hy
      have : k = wl T A p m := by omega
      subst this
      refine b_Mo_areWarm_8 ⟨L.s 166, ?_⟩
      rw [e43]
      refine ⟨fun _ => ?_, fun z => absurd (Int32.le_refl _) z⟩
      have := cond h0
      have co := (co_p ok hA B h0).2.2.2
      have hh : coN T A p m + x * pcn 9 (S &&& ahN T A p m) * bN T 5 < clN T := by
        unfold laN at co
        unfold ahN
        omega
      rw [if_pos hh] at hQ
      exact hQ
    | succ d ih =>
      intro k hk cond y hy
      have w := (wq_w ok B (i := k) (by omega)).1
      have gs := w.gs ok B
      have tb := gs.tb ok
      obtain ⟨k1, k2⟩ := wk_w ok B (i := k) (by omega)
      obtain ⟨st1, st2⟩ := wq_st ok B (i := k) (by omega)
      have p9 := pcn_le 9 (S &&& (wq T A p m k).1)
      have b1 : x * pcn 9 (S &&& (wq T A p m k).1) ≤ 9 * 9 := Nat.mul_le_mul x9 p9
      have b2 : x * pcn 9 (S &&& (wq T A p m k).1) * bN T 5 ≤ 9 * 9 * 30 := Nat.mul_le_mul b1 h5.2.2
      refine b_Mo_areWarm_8 ⟨L.s 166, ?_⟩
      rw [e43]
      refine ⟨fun z => absurd z (nI_ge (by omega) (by omega)), fun _ => ⟨185, L.r 166 42 185, L.x 185 (n := 9) (by omega), ?_⟩⟩
      rw [nI_clamp (by omega), er k (by omega)]
      refine c_Mo_doneThere (by omega) M gs.sa.pl k1 (by omega) ?_
      by_cases cc : y + dr T (wq T A p m k).2 (wk T A p m k) < clN T
      · rw [if_pos cc]
        have m20 := (mid_n ok k1).2
        have f10 : fdN T (wk T A p m k) ≤ 10 := by unfold fdN; omega
        refine ⟨fun _ => ⟨L.s 166, 185, L.r 166 42 185, L.x 185 (n := 9) (by omega), ?_⟩, fun z => absurd (nI_lt (b := 1000000) (by omega) (by decide)) z⟩
        rw [er k (by omega)]
        have e1 : (wq T A p m (k + 1)).1 = (wq T A p m k).1 ||| 2 ^ wk T A p m k := by rw [wq_s]
        have e2 : (wq T A p m (k + 1)).2 = wk T A p m k := by rw [wq_s]
        have nxt : ∀ v : Nat, v = (if S.testBit (wk T A p m k) = true then x * bN T 5 else 0) → ∀ o3 o4 : Option Value, K_Mo_areWarm n Q 67 [some (.ref 166), some (.int (nI S)), some (.int (nI x)), o3, o4, some (.int (nI k))] [.int (nI v), .int (nI (y + dr T (wq T A p m k).2 (wk T A p m k) + fdN T (wk T A p m k)))] h := fun v hv o3 o4 => by
          refine b_Mo_areWarm_67 ⟨L.s 166, 185, L.r 166 42 185, L.x 185 (n := 9) (by omega), ?_⟩
          rw [nI_clamp (by omega), er k (by omega), nI_1, nI_add]
          have ih' := ih (k + 1) (by omega) (fun _ => by rw [Nat.add_sub_cancel]; omega) (y + dr T (wq T A p m k).2 (wk T A p m k) + fdN T (wk T A p m k) + v) (by
            rw [st1, e1, and_or st2 (by omega), hv]
            by_cases q : S.testBit (wk T A p m k) = true
            · rw [if_pos q, if_pos q, Nat.mul_add, Nat.add_mul, Nat.mul_one]; omega
            · rw [if_neg q, if_neg q, Nat.add_zero (pcn 9 (S &&& (wq T A p m k).1))]; omega)
          rw [e2, pI_k (show wk T A p m k < 9 by omega)] at ih'
          exact ih'
        refine c_Mo_has (by omega) hS (by omega) ?_
        cases cS : S.testBit (wk T A p m k)
        · exact ⟨fun _ => nxt 0 (by rw [if_neg (by rw [cS]; decide)]) _ _, fun z => absurd rfl z⟩
        · refine ⟨fun z => absurd z (by decide), fun _ => ⟨L.s 166, c_Mo_of (i := 5) (by omega) M rfl (by omega) ?_⟩⟩
          rw [h5.1, pk_mul]
          exact nxt _ (by rw [if_pos cS]) _ _
      · rw [if_neg cc]
        refine ⟨fun z => absurd z (by decide), fun _ => ?_⟩
        have hh : ¬ coN T A p m + x * pcn 9 (S &&& ahN T A p m) * bN T 5 < clN T := fun z => by
          have := warm_k ok (S := S) (x := x) hA B h0 d k (by omega) z
          omega
        rw [if_neg hh] at hQ
        exact hQ
  refine w_Mo_areWarm (key (wl T A p m) 0 (by omega) (fun z => absurd z (by decide)) 0 ?_)
  have e1 : (wq T A p m 0).1 = 0 := rfl
  have e2 : (wq T A p m 0).2 = 9 := rfl
  rw [e1, e2, dn_0, Nat.and_zero, pcn0]; omega
theorem skA (T : Nat → Int32) : ∀ s, s < stp T → ((wA T).testBit s = true ↔ ¬ nI s = -1 ∧ 0 < mdN T s) := fun s hs => by
  unfold wA
  have l : ¬ nI s = -1 := by
    by_cases c : s < 2 ^ 31
    · exact nI_m1 c
    · exfalso
      have : stp T < 2 ^ 31 := by unfold stp; have := (T 6).toNatClampNeg_lt; omega
      omega
  rw [ppl_bit, decide_eq_true hs, Bool.true_and, decide_eq_true_eq]
  exact ⟨fun z => ⟨l, z⟩, fun z => z.2⟩
theorem c_Mo_way {n : Nat} (hn : 9 ≤ n) {h : xh} (L : Lay h) {c : Nat} (W : TwM h c) {p k : Int32} {Q : Int32 → xh → Prop} (h1 : ∀ j, j < c → p = nI j → ∀ h', Fr PM h h' → Q (sWay (mT h j) k) h') (h0 : (∀ j, j < c → ¬ p = nI j) → ∀ h', Fr PM h h' → Q (-1) h') : xci (xMC n) 282 [.ref 166, .int p, .int k] h Q := by
  obtain ⟨n, rfl⟩ := xsucc (show 1 ≤ n by omega)
  have hs := L.s 166 (p := (11, 0))
  have F : Fr PM h (xsI h 166 0 0) := Fr.rf.wI mP
  obtain ⟨W', eT⟩ := W.fr F
  refine w_Mo_way ⟨⟨by decide, hs⟩, b_Mo_way_5 ⟨hs, c_Mo_hand (by omega) (F.lay L) W' (fun j hj e h' F' M => ⟨fun _ => ⟨M.L.s 166, ?_⟩, fun y => absurd y (by decide)⟩) (fun z h' F' => ⟨fun y => absurd rfl y, fun _ => h0 z h' (F.tr F')⟩)⟩⟩
  rw [eT] at M
  have hQ := h1 j hj e
  generalize mT h j = T at M hQ
  have ok := M.ok
  have s9 := stp9 ok
  have w9 := wL9 ok
  refine c_Mo_findWay (by omega) M (skA T) pplA (wB ok) (fun g F2 M2 e45 e46 e43 er => ?_)
  have hQ := hQ g ((F.tr F').tr F2)
  have Lg := M2.L
  have e43' : xI g 166 43 = nI (wL T) := e43
  refine ⟨fun z => ⟨fun y => ⟨Lg.s 166, ?_⟩, fun y => ⟨Lg.s 166, ?_⟩⟩, fun z => ⟨Lg.s 166, ?_⟩⟩
  · rw [e43']
    refine c_Mo_in (by omega) (fun q => ⟨fun x => absurd x (by decide), fun _ => ⟨Lg.s 166, 185, Lg.r 166 42 185, ?_⟩⟩) (fun q => ⟨fun _ => ?_, fun x => absurd rfl x⟩)
    · obtain ⟨i, hi, ei⟩ := nI_of q.1
      subst ei
      have lt : i < wL T := by
        rcases (bwm (c := wL T) (k := nI i) (by omega)).mp ⟨fun z => q.1 (Int32.lt_of_lt_of_le z (by decide)), q.2⟩ with e | ⟨j', hj', e⟩
        · exact absurd e (nI_m1 hi)
        · have := (nI_eq hi (by omega)).mp e
          omega
      rw [sWay_n hi, if_pos lt] at hQ
      rw [nI_clamp hi, er i lt]
      exact ⟨Lg.x 185 (n := 9) (by omega), hQ⟩
    · by_cases x : k < 0
      · rwa [sWay_o z y x] at hQ
      · obtain ⟨i, hi, ei⟩ := nI_of x
        subst ei
        rw [sWay_n hi, if_neg (fun lt => q ⟨x, ?_⟩)] at hQ
        · exact hQ
        · exact ((bwm (c := wL T) (k := nI i) (by omega)).mpr (Or.inr ⟨i, lt, rfl⟩)).2
  · subst y
    rw [e46]
    exact hQ
  · subst z
    rw [e45]
    exact hQ
theorem c_Mo_lost {n : Nat} (hn : 9 ≤ n) {h : xh} (L : Lay h) {c : Nat} (W : TwM h c) {p q : Int32} {Q : Int32 → xh → Prop} (h1 : ∀ j s, j < c → p = nI j → s < stp (mT h j) → q = nI s → ∀ h', Fr PM h h' → Q (sLost (mT h j) s) h') (h0 : ¬ (∃ j s, j < c ∧ p = nI j ∧ s < stp (mT h j) ∧ q = nI s) → ∀ h', Fr PM h h' → Q (-1) h') : xci (xMC n) 296 [.ref 166, .int p, .int q] h Q := by
  obtain ⟨n, rfl⟩ := xsucc (show 1 ≤ n by omega)
  have hs := L.s 166 (p := (11, 0))
  have F : Fr PM h (xsI h 166 0 0) := Fr.rf.wI mP
  obtain ⟨W', eT⟩ := W.fr F
  have c2 := W.2.1
  have uq : ∀ {j j' : Nat}, j < c → j' < c → nI j = nI j' → j = j' := fun a b e => (nI_eq (by omega) (by omega)).mp e
  refine w_Mo_lost ⟨⟨by decide, hs⟩, b_Mo_lost_5 ⟨hs, c_Mo_hand (by omega) (F.lay L) W' (fun j hj e h' F' M => ⟨fun y => absurd y (by decide), fun _ => ⟨M.L.s 166, ?_⟩⟩) (fun z h' F' => ⟨fun _ => h0 (fun ⟨j, s, hj, e, _⟩ => z j hj e) h' (F.tr F'), fun y => absurd rfl y⟩)⟩⟩
  rw [eT] at M
  have hQ := fun s => h1 j s hj e
  have h0' : (∀ s, s < stp (mT h j) → ¬ q = nI s) → Q (-1) h' := fun z => h0 (fun ⟨j', s, hj', e', hs, es⟩ => by
    have := uq hj hj' (e.symm.trans e')
    subst this
    exact z s hs es) h' (F.tr F')
  generalize mT h j = T at M hQ h0'
  have ok := M.ok
  have s9 := stp9 ok
  refine c_Mo_isStop (by omega) M (fun s hs es => ⟨fun _ => ⟨M.L.s 166, c_Mo_findWay (by omega) M (skA T) pplA (wB ok) (fun g F2 M2 e45 e46 e43 er => ⟨M2.L.s 166, ?_⟩)⟩, fun y => absurd y (by decide)⟩) (fun z => ⟨fun y => absurd rfl y, fun _ => h0' z⟩)
  subst es
  refine c_Mo_findWay (A := sdf (wA T) (2 ^ s)) (by omega) M2 (fun s' hs' => ?_) (fun i hi => ?_) (best ok _) (fun g' F3 M3 q45 q46 q43 qr => ⟨M3.L.s 166, ?_⟩)
  · rw [sdf_bit, Nat.testBit_two_pow, Bool.and_eq_true, skA T s' hs', nI_eq (by omega) (by omega)]
    constructor
    · rintro ⟨x1, x2⟩
      refine ⟨fun z => ?_, x1.2⟩
      rw [z, decide_eq_true rfl] at x2
      exact absurd x2 (by decide)
    · rintro ⟨x1, x2⟩
      refine ⟨⟨nI_m1 (by omega), x2⟩, ?_⟩
      rw [decide_eq_false (fun z => x1 z.symm)]; rfl
  · rw [sdf_bit, Bool.and_eq_true] at hi
    exact pplA i hi.1
  · rw [e45, q45]
    exact hQ s hs rfl g' (((F.tr F').tr F2).tr F3)
theorem c_Mo_talks {n : Nat} (hn : 9 ≤ n) {h : xh} (L : Lay h) {c : Nat} (W : TwM h c) {p : Int32} {Q : Int32 → xh → Prop} (h1 : ∀ j, j < c → p = nI j → ∀ h', Fr PM h h' → Q (sTalks (mT h j)) h') (h0 : (∀ j, j < c → ¬ p = nI j) → ∀ h', Fr PM h h' → Q (-1) h') : xci (xMC n) 294 [.ref 166, .int p] h Q := by
  obtain ⟨n, rfl⟩ := xsucc (show 1 ≤ n by omega)
  have hs := L.s 166 (p := (11, 0))
  have F : Fr PM h (xsI h 166 0 0) := Fr.rf.wI mP
  obtain ⟨W', eT⟩ := W.fr F
  refine w_Mo_talks ⟨⟨by decide, hs⟩, b_Mo_talks_5 ⟨hs, c_Mo_hand (by omega) (F.lay L) W' (fun j hj e h' F' M => ⟨fun _ => ⟨M.L.s 166, ?_⟩, fun y => absurd y (by decide)⟩) (fun z h' F' => ⟨fun y => absurd rfl y, fun _ => h0 z h' (F.tr F')⟩)⟩⟩
  rw [eT] at M
  have hQ := h1 j hj e
  generalize mT h j = T at M hQ
  have ok := M.ok
  have s9 := stp9 ok
  have w9 := wL9 ok
  refine c_Mo_findWay (by omega) M (skA T) pplA (wB ok) (fun g F2 M2 e45 e46 e43 er => ⟨M2.L.s 166, ?_⟩)
  have hQ := hQ g ((F.tr F').tr F2)
  have Lg := M2.L
  have e43' : xI g 166 43 = nI (wL T) := e43
  unfold sTalks at hQ
  rw [e43', nI_e0 (by omega)]
  refine ⟨fun z => ?_, fun z => by rw [if_pos z] at hQ; exact hQ⟩
  rw [if_neg z] at hQ
  have w0 : 0 < wl T (wA T) (wP T) (wM T) := by show 0 < wL T; omega
  have tb := tk_b ok (A := wA T) (p := wP T) (m := wM T)
  have fp := fst_p ok (wB ok) (wl T (wA T) (wP T) (wM T) - 1) (by omega)
  have k0 := (wk_w ok (wB ok) (i := 0) w0).1
  have pw : 2 ^ wk T (wA T) (wP T) (wM T) 0 < 512 := Nat.lt_of_lt_of_le (Nat.pow_lt_pow_right (by decide) (show wk T (wA T) (wP T) (wM T) 0 < 9 by omega)) (by decide)
  have aw : ∀ {n : Nat} (hn : 5 ≤ n) (i : Nat), i ≤ 9 → ∀ {Q : Int32 → xh → Prop}, Q (if wL T = 1 ∨ i ≤ tkN T (wA T) (wP T) (wM T) then 1 else 0) g → xci (xMC n) 295 [.ref 166, .int (nI (2 ^ wk T (wA T) (wP T) (wM T) 0)), .int (nI i)] g Q := fun {n} hn i hi {Q} hq => by
    refine c_Mo_areWarm hn M2 pplA (wB ok) w0 e43 er pw hi ?_
    unfold ahN
    rw [fp]
    have eL : wL T = wl T (wA T) (wP T) (wM T) := rfl
    by_cases w1 : wl T (wA T) (wP T) (wM T) - 1 = 0
    · rw [if_pos w1, if_pos (by have := (co_p ok pplA (wB ok) w0).1; omega)]
      rw [if_pos (Or.inl (by omega))] at hq
      exact hq
    · rw [if_neg w1, Nat.mul_one]
      have ti := tk_i ok (x := i) pplA (wB ok) w0
      by_cases c : i ≤ tkN T (wA T) (wP T) (wM T)
      · rw [if_pos (ti.mpr c)]
        rw [if_pos (Or.inr c)] at hq
        exact hq
      · rw [if_neg (fun y => c (ti.mp y))]
        rw [if_neg (fun y => by rcases y with y | y <;> omega)] at hq
        exact hq
  have key : ∀ d i, min 9 (tkN T (wA T) (wP T) (wM T)) + d = i → i ≤ 9 → ¬ wL T = 1 → ∀ o1 : Option Value, K_Mo_talks n Q 32 [some (.ref 166), o1, some (.int (nI i))] [] g := by
    intro d
    induction d with
    | zero =>
      intro i hi i9 w1 o1
      refine b_Mo_talks_32 ⟨Lg.s 166, 185, Lg.r 166 42 185, Lg.x 185 (n := 9) (i := 0) (by omega), ?_⟩
      rw [show (0 : Int32).toNatClampNeg = 0 from rfl, er 0 w0, bt_shl _ (by omega)]
      refine aw (by omega) i i9 ?_
      rw [if_pos (Or.inr (by omega))]
      rw [if_neg w1] at hQ
      refine ⟨fun _ => ?_, fun y => absurd y (by decide)⟩
      rw [show i = min 9 (tkN T (wA T) (wP T) (wM T)) by omega]
      exact hQ
    | succ d ih =>
      intro i hi i9 w1 o1
      refine b_Mo_talks_32 ⟨Lg.s 166, 185, Lg.r 166 42 185, Lg.x 185 (n := 9) (i := 0) (by omega), ?_⟩
      rw [show (0 : Int32).toNatClampNeg = 0 from rfl, er 0 w0, bt_shl _ (by omega)]
      refine aw (by omega) i i9 ?_
      rw [if_neg (fun y => by rcases y with y | y <;> omega)]
      refine ⟨fun y => absurd rfl y, fun _ => ?_⟩
      rw [show nI i + (-1 : Int32) = nI (i - 1) from by rw [show i = (i - 1) + 1 by omega, Nat.add_sub_cancel, ← nI_1]; grind]
      exact ih (i - 1) (by omega) (by omega) w1 _
  by_cases w1 : wL T = 1
  · refine b_Mo_talks_32 ⟨Lg.s 166, 185, Lg.r 166 42 185, Lg.x 185 (n := 9) (i := 0) (by omega), ?_⟩
    rw [show (0 : Int32).toNatClampNeg = 0 from rfl, er 0 w0, bt_shl _ (by omega)]
    refine aw (by omega) 9 (by omega) ?_
    rw [if_pos (Or.inl w1)]
    rw [if_pos w1] at hQ
    exact ⟨fun _ => hQ, fun y => absurd y (by decide)⟩
  · exact key (9 - min 9 (tkN T (wA T) (wP T) (wM T))) 9 (by omega) (by omega) w1 _
theorem c_Mo_chat {n : Nat} (hn : 9 ≤ n) {h : xh} (L : Lay h) {c : Nat} (W : TwM h c) {p b : Int32} {Q : Int32 → xh → Prop} (h1 : ∀ j, j < c → p = nI j → ∀ h', Fr PM h h' → Q (sChat (mT h j) b) h') (h0 : (∀ j, j < c → ¬ p = nI j) → ∀ h', Fr PM h h' → Q (-1) h') : xci (xMC n) 341 [.ref 166, .int p, .int b] h Q := by
  obtain ⟨n, rfl⟩ := xsucc (show 1 ≤ n by omega)
  have hs := L.s 166 (p := (11, 0))
  have F : Fr PM h (xsI h 166 0 0) := Fr.rf.wI mP
  obtain ⟨W', eT⟩ := W.fr F
  refine w_Mo_chat ⟨⟨by decide, hs⟩, b_Mo_chat_5 ⟨hs, c_Mo_hand (by omega) (F.lay L) W' (fun j hj e h' F' M => ⟨fun _ => ⟨M.L.s 166, ?_⟩, fun y => absurd y (by decide)⟩) (fun z h' F' => ⟨fun y => absurd rfl y, fun _ => h0 z h' (F.tr F')⟩)⟩⟩
  rw [eT] at M
  have hQ := h1 j hj e
  generalize mT h j = T at M hQ
  have ok := M.ok
  have s9 := stp9 ok
  have p512 : 2 ^ stp T ≤ 512 := Nat.le_trans (Nat.pow_le_pow_right (by decide) s9) (by decide)
  have fp := Nat.two_pow_pos (stp T)
  have w9 := wL9 ok
  refine c_Mo_findWay (by omega) M (skA T) pplA (wB ok) (fun g F2 M2 e45 e46 e43 er => ?_)
  have hQ := hQ g ((F.tr F').tr F2)
  have Lg := M2.L
  have e43' : xI g 166 43 = nI (wL T) := e43
  have er' : ∀ k, k < wL T → xI g 185 k = nI (wK T k) := er
  have qw := fun i (hi : i ≤ wL T) => (wq_w ok (wB ok) hi).1.1
  have rl : roN T (wA T) (wP T) (wM T) < 2 ^ stp T := qw _ (Nat.le_refl _)
  have cbe : ctN T = cbk T (roN T (wA T) (wP T) (wM T)) (ahN T (wA T) (wP T) (wM T)) (tkN T (wA T) (wP T) (wM T)) (roN T (wA T) (wP T) (wM T)) := by
    unfold ctN
    by_cases w0 : wL T = 0
    · have w0' : wl T (wA T) (wP T) (wM T) = 0 := w0
      have e0 : roN T (wA T) (wP T) (wM T) = 0 := by
        unfold roN
        rw [w0']; rfl
      rw [if_pos w0, e0]; rfl
    · rw [if_neg w0]
      obtain ⟨d, hd⟩ : ∃ d, 2 ^ stp T - 1 = roN T (wA T) (wP T) (wM T) + d := ⟨2 ^ stp T - 1 - roN T (wA T) (wP T) (wM T), by omega⟩
      rw [hd, cbk_far]
  unfold sChat at hQ
  have cl := ctN_lt T
  have key : ∀ d V, V + d = roN T (wA T) (wP T) (wM T) → ∀ o1 o6 : Option Value, K_Mo_chat n Q 58 [some (.ref 166), o1, some (.int b), some (.int (nI (roN T (wA T) (wP T) (wM T)))), some (.int (nI (cbk T (roN T (wA T) (wP T) (wM T)) (ahN T (wA T) (wP T) (wM T)) (tkN T (wA T) (wP T) (wM T)) V))), some (.int (nI (V + 1))), o6] [] g := by
    intro d
    induction d with
    | zero =>
      intro V hV o1 o6
      have eV : V = roN T (wA T) (wP T) (wM T) := by omega
      subst eV
      rw [← cbe]
      refine b_Mo_chat_58 ⟨fun _ => ⟨fun z => ⟨Lg.s 166, c_Mo_peopleOf (by omega) M2 (by omega) ?_⟩, fun z => ?_⟩, fun z => absurd (nI_lt (by omega) (by omega)) z⟩
      · rwa [if_pos z] at hQ
      · rwa [if_neg z] at hQ
    | succ d ih =>
      intro V hV o1 o6
      have w0 : 0 < wl T (wA T) (wP T) (wM T) := by
        apply Nat.pos_of_ne_zero
        intro w0
        have e0 : roN T (wA T) (wP T) (wM T) = 0 := by
          unfold roN
          rw [w0]; rfl
        omega
      have ih' := ih (V + 1) (by omega)
      unfold cbk at ih'
      have clV := cbk_le T (roN T (wA T) (wP T) (wM T)) (ahN T (wA T) (wP T) (wM T)) (tkN T (wA T) (wP T) (wM T)) V
      generalize hro : roN T (wA T) (wP T) (wM T) = ro at *
      generalize hcb : cbk T ro (ahN T (wA T) (wP T) (wM T)) (tkN T (wA T) (wP T) (wM T)) V = cb at *
      have skip : ¬ (sdf (V + 1) ro = 0 ∧ pcn 9 ((V + 1) &&& ahN T (wA T) (wP T) (wM T)) ≤ tkN T (wA T) (wP T) (wM T) ∧ pp T cb < pp T (V + 1)) → ∀ o1 o6 : Option Value, K_Mo_chat n Q 58 [some (.ref 166), o1, some (.int b), some (.int (nI ro)), some (.int (nI cb)), some (.int (nI (V + 1) + 1)), o6] [] g := fun c o1 o6 => by
        rw [if_neg c] at ih'
        rw [nI_1]
        exact ih' o1 o6
      have hV' : V + 1 < 2 ^ stp T := by omega
      have sl : sdf (V + 1) ro < 2 ^ stp T := sdf_lt hV'
      have l1 := pp_le ok (V + 1)
      have l2 := pp_le ok cb
      refine b_Mo_chat_58 ⟨fun z => absurd z (nI_nlt (by omega) (by omega)), fun _ => ?_⟩
      rw [bt_sdf, nI_e0 (by omega)]
      refine ⟨fun z => b_Mo_chat_92 (b_Mo_chat_93 ⟨fun _ => skip (fun c => z c.1) _ _, fun y => absurd rfl y⟩), fun z => ⟨Lg.s 166, c_Mo_peopleOf (by omega) M2 (by omega) ⟨Lg.s 166, c_Mo_peopleOf (by omega) M2 (by omega) ?_⟩⟩⟩
      rw [nI_leI (by omega) (by omega)]
      refine ⟨fun y => b_Mo_chat_92 (b_Mo_chat_93 ⟨fun _ => skip (fun c => by omega) _ _, fun x => absurd rfl x⟩), fun y => b_Mo_chat_93 ⟨fun x => absurd x (by decide), fun _ => ⟨Lg.s 166, ?_⟩⟩⟩
      refine c_Mo_areWarm (x := 1) (by omega) M2 pplA (wB ok) w0 e43 er (by omega) (by omega) ?_
      rw [Nat.one_mul]
      have ti := tk_i ok (x := pcn 9 ((V + 1) &&& ahN T (wA T) (wP T) (wM T))) pplA (wB ok) w0
      by_cases c : pcn 9 ((V + 1) &&& ahN T (wA T) (wP T) (wM T)) ≤ tkN T (wA T) (wP T) (wM T)
      · rw [if_pos (ti.mpr c)]
        rw [if_pos ⟨z, c, by omega⟩] at ih'
        refine ⟨fun x => absurd x (by decide), fun _ => ?_⟩
        rw [nI_1]
        exact ih' _ _
      · rw [if_neg (fun y => c (ti.mp y))]
        exact ⟨fun _ => skip (fun x => c x.2.1) _ _, fun x => absurd rfl x⟩
  have k25 : ∀ d i, i + d = wL T → ∀ o1 o5 o6 : Option Value, K_Mo_chat n Q 25 [some (.ref 166), o1, some (.int b), some (.int (nI (wq T (wA T) (wP T) (wM T) i).1)), some (.int (nI i)), o5, o6] [] g := by
    intro d
    induction d with
    | zero =>
      intro i hi o1 o5 o6
      have : i = wL T := by omega
      subst this
      refine b_Mo_chat_25 ⟨Lg.s 166, ?_⟩
      rw [e43']
      refine ⟨fun _ => ?_, fun z => absurd (Int32.le_refl _) z⟩
      exact key (roN T (wA T) (wP T) (wM T)) 0 (by omega) _ _
    | succ d ih =>
      intro i hi o1 o5 o6
      have ih' := ih (i + 1) (by omega)
      rw [wq_s] at ih'
      have k1 : wK T i < stp T := (wk_w ok (wB ok) (i := i) (by show i < wL T; omega)).1
      refine b_Mo_chat_25 ⟨Lg.s 166, ?_⟩
      rw [e43']
      refine ⟨fun z => absurd z (nI_ge (by omega) (by omega)), fun _ => ⟨185, Lg.r 166 42 185, Lg.x 185 (n := 9) (by omega), ?_⟩⟩
      rw [nI_clamp (by omega), er' i (by omega), bt_set _ (by omega), nI_1]
      exact ih' _ _ _
  exact k25 (wL T) 0 (by omega) _ _ _
