/-! till, state, drawn in the reference: the calls -/
theorem TwM.fr {h h' : xh} {c : Nat} (W : TwM h c) (F : Fr PM h h') : TwM h' c ∧ ∀ j, mT h' j = mT h j := by
  have e1 := F.i 171 (fun z => by unfold PM at z; omega)
  have e2 := F.i 172 (fun z => by unfold PM at z; omega)
  have e3 : ∀ j, mT h' j = mT h j := fun j => by unfold mT; rw [e2]
  refine ⟨⟨by rw [e1]; exact W.1, W.2.1, fun k hk => by rw [e3]; exact W.2.2 k hk⟩, e3⟩
theorem EvM.fr {h h' : xh} {c : Nat} (W : EvM h c) (F : Fr PM h h') : EvM h' c ∧ ∀ j, mE h' j = mE h j := by
  have e1 := F.i 171 (fun z => by unfold PM at z; omega)
  have e2 := F.i 173 (fun z => by unfold PM at z; omega)
  have e3 : ∀ j, mE h' j = mE h j := fun j => by unfold mE; rw [e2]
  refine ⟨⟨by rw [e1]; exact W.1, W.2.1, fun k hk => by rw [e3]; exact W.2.2 k hk⟩, e3⟩
theorem c_Mo_till {n : Nat} (hn : 7 ≤ n) {h : xh} (L : Lay h) {c ce : Nat} (W : TwM h c) (E : EvM h ce) {p q w : Int32} {Q : Int32 → xh → Prop} (h1 : ∀ j, j < c → p = nI j → ∀ i, i < ce → q = nI i → ∀ h', Fr PM h h' → Q (nI (run (mT h j) (mE h i) (dds (mE h i)) 0 (bgW (mT h j) w)).1) h') (h0 : (∀ j, j < c → ¬ p = nI j) ∨ (∀ i, i < ce → ¬ q = nI i) → ∀ h', Fr PM h h' → Q (-1) h') : xci (xMC n) 253 [.ref 166, .int p, .int q] h Q := by
  obtain ⟨n, rfl⟩ := xsucc (show 1 ≤ n by omega)
  have hs := L.s 166 (p := (11, 0))
  have F : Fr PM h (xsI h 166 0 0) := Fr.rf.wI mP
  obtain ⟨W', eT⟩ := W.fr F
  obtain ⟨E', eE⟩ := E.fr F
  refine w_Mo_till ⟨⟨by decide, hs⟩, b_Mo_till_5 ⟨hs, c_Mo_layAll (by omega) (F.lay L) W' E' (fun j hj e i hi e2 h' F' M D => ⟨fun y => absurd y (by decide), fun _ => ⟨M.L.s 166, c_Mo_deeds (by omega) D ⟨M.L.s 166, ?_⟩⟩⟩) (fun z h' F' => ⟨fun _ => h0 z h' (F.tr F'), fun y => absurd rfl y⟩)⟩⟩
  rw [eT] at M
  rw [eE] at D ⊢
  exact c_Mo_play (by omega) M D (w := w) (Nat.le_refl _) (fun g F2 _ => h1 j hj e i hi e2 g ((F.tr F').tr F2))
theorem c_Mo_ofState {n : Nat} (hn : 3 ≤ n) {h : xh} {T W : Nat → Int32} {g : Int32} {b : Prop} (C : CM h T W g b) {w : Int32} {Q : Int32 → xh → Prop} (hQ : Q (sDet T W w) h) : xci (xMC n) 270 [.ref 166, .int w] h Q := by
  obtain ⟨n, rfl⟩ := xsucc (show 1 ≤ n by omega)
  have s9 := stp9 C.M.ok
  refine w_Mo_ofState (c_Mo_in (by omega) (fun z => ⟨fun _ => ⟨C.hs, ?_⟩, fun y => absurd y (by decide)⟩) (fun z => ⟨fun y => absurd rfl y, fun _ => ⟨C.hs, ?_⟩⟩))
  · obtain ⟨m, m1, m2, e⟩ := (nb (a := 10) (b := 39) rfl rfl (by decide) (by decide)).mp z
    subst e
    rw [show nI m - nI m / (10 : Int32) * 10 = nI (m % 10) from pk_rem (d := 10) (by omega) (by decide) (by decide), show (20 : Int32) = nI 20 from rfl, show (30 : Int32) = nI 30 from rfl, nI_leI (a := 20) (by omega) (by omega), nI_leI (a := 30) (by omega) (by omega)]
    rw [sDet_n (by omega), if_neg (by omega), if_neg (by omega)] at hQ
    by_cases c : m % 10 < stp T
    · rw [if_pos c] at hQ
      have k9 : m % 10 < 9 := by omega
      have cl : (nI (m % 10)).toNatClampNeg = m % 10 := nI_clamp (by omega)
      refine C.M.iS (by omega) c ⟨fun _ => ⟨fun y2 => ⟨fun y3 => ⟨C.hs, 181, C.L.r 166 31 181, C.L.x 181 (n := 9) k9, ?_⟩, fun y3 => ⟨C.hs, 179, C.L.r 166 29 179, C.L.x 179 (n := 9) k9, ?_⟩⟩, fun y2 => ⟨C.hs, 178, C.L.r 166 28 178, C.L.x 178 (n := 9) k9, ?_⟩⟩, fun y => absurd y (by decide)⟩
      · rw [if_neg (by omega), if_neg (by omega), if_pos (by omega)] at hQ
        rw [cl, C.a1 k9]
        exact hQ
      · rw [if_neg (by omega), if_pos (by omega)] at hQ
        rw [cl, C.a9 k9]
        exact hQ
      · rw [if_pos (by omega)] at hQ
        rw [cl, C.a8 k9]
        exact hQ
    · rw [if_neg c] at hQ
      exact c_Mo_isStop (by omega) C.M (fun k hk e => by have := (nI_eq (by omega) (by omega)).mp e; omega) (fun _ => ⟨fun y => absurd rfl y, fun _ => hQ⟩)
  · obtain ⟨n, rfl⟩ := xsucc (show 1 ≤ n by omega)
    have hs := C.hs
    have f : ∀ i : Nat, i < 7 → w = nI i → Q (xI h 166 (32 + i)) h := fun i hi e => by
      rw [sDet_s e hi] at hQ
      rw [C.i i hi]
      exact hQ
    refine w_Mo_ofEvening ⟨fun z => ⟨hs, f 0 (by decide) z⟩, fun z0 => ⟨fun z => ⟨hs, f 1 (by decide) z⟩, fun z1 => ⟨fun z => ⟨hs, f 2 (by decide) z⟩, fun z2 => ⟨fun z => ⟨hs, f 3 (by decide) z⟩, fun z3 => ⟨fun z => ⟨hs, f 4 (by decide) z⟩, fun z4 => ⟨fun z => ⟨hs, f 5 (by decide) z⟩, fun z5 => ⟨fun z => ⟨hs, f 6 (by decide) z⟩, fun z6 => ?_⟩⟩⟩⟩⟩⟩⟩
    by_cases w0 : w < 0
    · rwa [sDet_o w0] at hQ
    · obtain ⟨m, hm, e⟩ := nI_of w0
      subst e
      have b : ∀ i : Nat, m = i → nI m = nI i := fun i e => by rw [e]
      have a0 : m ≠ 0 := fun e => z0 (b 0 e)
      have a1 : m ≠ 1 := fun e => z1 (b 1 e)
      have a2 : m ≠ 2 := fun e => z2 (b 2 e)
      have a3 : m ≠ 3 := fun e => z3 (b 3 e)
      have a4 : m ≠ 4 := fun e => z4 (b 4 e)
      have a5 : m ≠ 5 := fun e => z5 (b 5 e)
      have a6 : m ≠ 6 := fun e => z6 (b 6 e)
      have k1 : ¬ (10 ≤ m ∧ m ≤ 39) := fun y => z ((nb (a := 10) (b := 39) rfl rfl (by decide) (by decide)).mpr ⟨m, y.1, y.2, rfl⟩)
      rw [sDet_n hm, if_neg (by omega)] at hQ
      by_cases m10 : m < 10
      · rwa [if_pos m10] at hQ
      · rw [if_neg m10] at hQ
        by_cases c : m % 10 < stp T
        · rwa [if_pos c, if_neg (by omega), if_neg (by omega), if_neg (by omega)] at hQ
        · rwa [if_neg c] at hQ
theorem c_Mo_state {n : Nat} (hn : 7 ≤ n) {h : xh} (L : Lay h) {c ce : Nat} (W : TwM h c) (E : EvM h ce) {p q m w x : Int32} {Q : Int32 → xh → Prop} (h1 : ∀ j, j < c → p = nI j → ∀ i, i < ce → q = nI i → ∀ N, N ≤ dds (mE h i) → m = nI N → ∀ h', Fr PM h h' → Q (if (run (mT h j) (mE h i) N 0 (bgW (mT h j) x)).1 = N then sDet (mT h j) (run (mT h j) (mE h i) N 0 (bgW (mT h j) x)).2 w else -2) h') (h0 : (∀ j, j < c → ¬ p = nI j) ∨ (∀ i, i < ce → ¬ q = nI i) ∨ (∃ i, i < ce ∧ q = nI i ∧ ∀ N, N ≤ dds (mE h i) → ¬ m = nI N) → ∀ h', Fr PM h h' → Q (-2) h') : xci (xMC n) 269 [.ref 166, .int p, .int q, .int m, .int w] h Q := by
  obtain ⟨n, rfl⟩ := xsucc (show 1 ≤ n by omega)
  have hs := L.s 166 (p := (11, 0))
  have F : Fr PM h (xsI h 166 0 0) := Fr.rf.wI mP
  obtain ⟨W', eT⟩ := W.fr F
  obtain ⟨E', eE⟩ := E.fr F
  refine w_Mo_state ⟨⟨by decide, hs⟩, b_Mo_state_5 ⟨hs, c_Mo_layAll (by omega) (F.lay L) W' E' (fun j hj e i hi e2 h' F' M D => ⟨fun y => absurd y (by decide), fun _ => ⟨M.L.s 166, c_Mo_deeds (by omega) D ?_⟩⟩) (fun z h' F' => ⟨fun _ => h0 (z.elim Or.inl (fun y => Or.inr (Or.inl y))) h' (F.tr F'), fun y => absurd rfl y⟩)⟩⟩
  rw [eT] at M
  rw [eE] at D ⊢
  have d40 : dds (mE h i) ≤ 40 := D.2.2.2
  refine c_Mo_in (by omega) (fun z => ⟨fun y => absurd y (by decide), fun _ => ⟨M.L.s 166, ?_⟩⟩) (fun z => ⟨fun _ => h0 (Or.inr (Or.inr ⟨i, hi, e2, fun N hN eN => z ((nb (a := 0) (b := dds (mE h i)) rfl rfl (by omega) (by omega)).mpr ⟨N, by omega, hN, eN⟩)⟩)) h' (F.tr F'), fun y => absurd rfl y⟩)
  obtain ⟨N, _, hN, eN⟩ := (nb (a := 0) (b := dds (mE h i)) rfl rfl (by omega) (by omega)).mp z
  subst eN
  refine c_Mo_play (by omega) M D (w := x) hN (fun g F2 C => ?_)
  have hQ := h1 j hj e i hi e2 N hN rfl g ((F.tr F').tr F2)
  have le := run_le (T := mT h j) (E := mE h i) N 0 (bgW (mT h j) x)
  rw [nI_eq (by omega) (by omega)]
  refine ⟨fun y => ?_, fun y => ⟨C.hs, c_Mo_ofState (by omega) C ?_⟩⟩
  · rwa [if_neg y] at hQ
  · rwa [if_pos y] at hQ
theorem c_Mo_draw {n : Nat} (hn : 1 ≤ n) {h : xh} {T W : Nat → Int32} {g : Int32} (C : CM h T W g True) {k : Int32} (hk : ¬ k = 0) {Q : Int32 → xh → Prop} (hQ : ∀ h', Fr PM h h' → CM h' T (rnd W) g True → Q (blw (rnd W 7) k) h') : xci (xMC n) 335 [.ref 166, .int k] h Q := by
  obtain ⟨n, rfl⟩ := xsucc hn
  refine w_Mo_draw ⟨C.hs, ⟨by decide, C.hs⟩, ?_⟩
  rw [C.2.1.2 trivial]
  have X := C.w7 (v := W 7 * 1103515245 + 12345)
  have F : Fr PM h _ := Fr.rf.wI (a := 166) (i := 52) (v := W 7 * 1103515245 + 12345) mP
  generalize xsI h 166 52 (W 7 * 1103515245 + 12345) = g1 at X F ⊢
  refine b_Mo_draw_16 ⟨X.hs, hk, ?_⟩
  rw [X.2.1.2 trivial]
  exact hQ g1 F X
theorem c_Mo_do {n : Nat} (hn : 5 ≤ n) {h : xh} {T W : Nat → Int32} {g : Int32} {b : Prop} (C : CM h T W g b) {k m : Int32} {Q : Int32 → xh → Prop} (hQ : ∀ r h', Fr PM h h' → CM h' T (ddO T W k m) g b → Q r h') : xci (xMC n) 258 [.ref 166, .int k, .int m] h Q :=
  c_Mo_does hn C (fun W' e h' F C' => hQ 1 h' F (by rw [ddO_s e]; exact C')) (fun e h' F C' => hQ 0 h' F (by rw [ddO_n e]; exact C'))
theorem c_Mo_drawDeed {n : Nat} (hn : 6 ≤ n) {h : xh} {T W : Nat → Int32} {g : Int32} (C : CM h T W g True) {Q : xh → Prop} (hQ : ∀ h', Fr PM h h' → CM h' T (drD T W) g True → Q h') : xcv (xMC n) 334 [.ref 166] h Q := by
  obtain ⟨n, rfl⟩ := xsucc (show 1 ≤ n by omega)
  refine w_Mo_drawDeed ⟨C.hs, c_Mo_draw (by omega) C (by decide) (fun g1 F1 C1 => ⟨fun z3 => ⟨fun z6 => ⟨fun z => ⟨C1.hs, ?_⟩, fun z => ⟨C1.hs, ?_⟩⟩, fun z6 => ⟨C1.hs, ?_⟩⟩, fun z3 => ⟨C1.hs, ?_⟩⟩)⟩
  · rw [drD_4 z3 z6 z] at hQ
    exact c_Mo_do (by omega) C1 (fun r g2 F2 C2 => hQ g2 (F1.tr F2) C2)
  · rw [drD_3 z3 z6 z] at hQ
    exact c_Mo_do (by omega) C1 (fun r g2 F2 C2 => hQ g2 (F1.tr F2) C2)
  · rw [drD_1 z3 z6] at hQ
    exact c_Mo_draw (by omega) C1 (by decide) (fun g2 F2 C2 => ⟨C2.hs, c_Mo_do (by omega) C2 (fun r g3 F3 C3 => hQ g3 ((F1.tr F2).tr F3) C3)⟩)
  · rw [C1.M.2.2.1.1]
    refine ⟨fun z => ?_, fun z => ?_⟩
    · rw [drD_n z3 z] at hQ
      exact hQ g1 F1 C1
    · rw [drD_0 z3 z] at hQ
      exact c_Mo_draw (by omega) C1 (fun e => z (by rw [e]; decide)) (fun g2 F2 C2 => ⟨C2.hs, c_Mo_do (by omega) C2 (fun r g3 F3 C3 => hQ g3 ((F1.tr F2).tr F3) C3)⟩)
theorem c_Mo_drawn {n : Nat} (hn : 7 ≤ n) {h : xh} (L : Lay h) {c : Nat} (W : TwM h c) {p s m w : Int32} {Q : Int32 → xh → Prop} (h1 : ∀ j, j < c → p = nI j → ∀ N, N ≤ 60 → m = nI N → ∀ h', Fr PM h h' → Q (sDet (mT h j) (drN (mT h j) (bgW (mT h j) s) N) w) h') (h0 : (∀ j, j < c → ¬ p = nI j) ∨ (∀ N, N ≤ 60 → ¬ m = nI N) → ∀ h', Fr PM h h' → Q (-2) h') : xci (xMC n) 333 [.ref 166, .int p, .int s, .int m, .int w] h Q := by
  obtain ⟨n, rfl⟩ := xsucc (show 1 ≤ n by omega)
  have hs := L.s 166 (p := (11, 0))
  have F : Fr PM h (xsI h 166 0 0) := Fr.rf.wI mP
  obtain ⟨W', eT⟩ := W.fr F
  refine w_Mo_drawn ⟨⟨by decide, hs⟩, b_Mo_drawn_5 (c_Mo_in (by omega) (fun z => ⟨fun y => absurd y (by decide), fun _ => ⟨hs, ?_⟩⟩) (fun z => ⟨fun _ => h0 (Or.inr (fun N hN eN => z ((nb (a := 0) (b := 60) rfl rfl (by omega) (by omega)).mpr ⟨N, by omega, hN, eN⟩))) _ F, fun y => absurd rfl y⟩))⟩
  obtain ⟨N, _, hN, eN⟩ := (nb (a := 0) (b := 60) rfl rfl (by omega) (by omega)).mp z
  subst eN
  refine c_Mo_hand (by omega) (F.lay L) W' (fun j hj e h' F' M => ⟨fun _ => ⟨⟨by decide, M.L.s 166⟩, ?_⟩, fun y => absurd y (by decide)⟩) (fun z h' F' => ⟨fun y => absurd rfl y, fun _ => h0 (Or.inl z) h' (F.tr F')⟩)
  rw [eT] at M
  have M2 : Mt (xsI h' 166 52 s) (mT h j) := M.wf (by omega)
  have e2 : xI (xsI h' 166 52 s) 166 52 = s := upI_s _ _ _ _
  have F2 : Fr PM h (xsI h' 166 52 s) := (F.tr F').wI mP
  have hQ := h1 j hj e N hN rfl
  generalize xsI h' 166 52 s = g at M2 e2 F2 ⊢
  generalize mT h j = T at M2 hQ
  refine b_Mo_drawn_31 ⟨M2.L.s 166, c_Mo_begin (by omega) M2 (b := True) (w := s) (fun _ => e2) (fun g1 F3 C => ?_)⟩
  generalize xI g 166 27 = gg at C
  have key : ∀ d k, k + d = N → ∀ (g : xh), Fr PM h g → CM g T (drN T (bgW T s) k) gg True → ∀ o1 o2 : Option Value, K_Mo_drawn n Q 38 [some (.ref 166), o1, o2, some (.int (nI N)), some (.int w), some (.int (nI k))] [] g := by
    intro d
    induction d with
    | zero =>
      intro k hk g F C' o2 o5
      have : k = N := by omega
      subst this
      exact b_Mo_drawn_38 ⟨fun _ => ⟨C'.hs, c_Mo_ofState (by omega) C' (hQ g F)⟩, fun z => absurd (Int32.le_refl _) z⟩
    | succ d ih =>
      intro k hk g F C' o2 o5
      have ih' := ih (k + 1) (by omega)
      rw [drN] at ih'
      refine b_Mo_drawn_38 ⟨fun z => absurd z (nI_ge (by omega) (by omega)), fun _ => ⟨C'.hs, c_Mo_drawDeed (by omega) C' (fun g2 F2 C2 => ?_)⟩⟩
      rw [nI_1]
      exact ih' g2 (F.tr F2) C2 _ _
  exact key N 0 (by omega) g1 (F2.tr F3) C _ _
