/-! till, state, drawn in the reference -/
theorem c_Mo_begin {n : Nat} (hn : 3 ≤ n) {h : xh} {T : Nat → Int32} (M : Mt h T) {w : Int32} {b : Prop} (hb : b → xI h 166 52 = w) {Q : xh → Prop} (hQ : ∀ h', Fr PM h h' → CM h' T (bgW T w) (xI h 166 27) b → Q h') : xcv (xMC n) 256 [.ref 166] h Q := by
  obtain ⟨n, rfl⟩ := xsucc (show 1 ≤ n by omega)
  have s9 := stp9 M.ok
  have key : ∀ d s, s + d = 9 → ∀ g, Fr PM h g → Mt g T → xI g 166 = xI h 166 → (∀ s', s' < s → xI g 178 s' = bgW T w (10 + s') ∧ xI g 179 s' = bgW T w (20 + s') ∧ xI g 180 s' = bgW T w (40 + s') ∧ xI g 181 s' = bgW T w (30 + s')) → K_Mo_begin n Q 2 [some (.ref 166), some (.int (nI s))] [] g := by
    intro d
    induction d with
    | zero =>
      intro s hsd g F Mg e1 e2
      have : s = 9 := by omega
      subst this
      have hs := Mg.L.s 166 (p := (11, 0))
      have ge : 64 ≤ 166 := by decide
      refine b_Mo_begin_2 ⟨fun _ => ⟨⟨ge, hs⟩, b_Mo_begin_63 ⟨⟨ge, hs⟩, b_Mo_begin_68 ⟨hs, ?_⟩⟩⟩, fun z => absurd (Int32.le_refl _) z⟩
      have M2 : Mt (xsI (xsI g 166 32 0) 166 33 (-1)) T := (Mg.wf (by omega)).wf (by omega)
      refine c_Mo_of (by omega) M2 (i := 2) rfl (by decide) ⟨⟨ge, hs⟩, b_Mo_begin_77 ⟨⟨ge, hs⟩, b_Mo_begin_82 ⟨⟨ge, hs⟩, b_Mo_begin_87 ⟨⟨ge, hs⟩, b_Mo_begin_92 ⟨⟨ge, hs⟩, ?_⟩⟩⟩⟩⟩
      refine hQ _ (((((((F.wI mP).wI mP).wI mP).wI mP).wI mP).wI mP).wI mP) ⟨((((M2.wf (by omega)).wf (by omega)).wf (by omega)).wf (by omega)).wf (by omega), ⟨fun i hi => ?_, fun q => ?_⟩, fun s hs => ?_, Or.inl rfl, ?_⟩
      · rw [xsI_at, xsI_at, xsI_at, xsI_at, xsI_at, xsI_at, xsI_at]
        have : i = 0 ∨ i = 1 ∨ i = 2 ∨ i = 3 ∨ i = 4 ∨ i = 5 ∨ i = 6 := by omega
        rcases this with e | e | e | e | e | e | e
        · subst e; rfl
        · subst e; rfl
        · subst e; rfl
        · subst e; rfl
        · subst e; rfl
        · subst e; rfl
        · subst e; rfl
      · rw [upI_o _ _ _ _ (by decide), upI_o _ _ _ _ (by decide), upI_o _ _ _ _ (by decide), upI_o _ _ _ _ (by decide), upI_o _ _ _ _ (by decide), upI_o _ _ _ _ (by decide), upI_o _ _ _ _ (by decide), e1, hb q]
        rfl
      · have a8 : ∀ (c : Nat), c ≠ 166 → xI (xsI (xsI (xsI (xsI (xsI (xsI (xsI g 166 32 0) 166 33 (-1)) 166 34 (T 2)) 166 35 0) 166 36 0) 166 37 0) 166 38 0) c = xI g c := fun c hc => by
          rw [xsI_ne _ _ _ hc, xsI_ne _ _ _ hc, xsI_ne _ _ _ hc, xsI_ne _ _ _ hc, xsI_ne _ _ _ hc, xsI_ne _ _ _ hc, xsI_ne _ _ _ hc]
        rw [a8 178 (by decide), a8 179 (by decide), a8 180 (by decide), a8 181 (by decide)]
        exact e2 s hs
      · rw [upI_o _ _ _ _ (by decide), upI_o _ _ _ _ (by decide), upI_o _ _ _ _ (by decide), upI_o _ _ _ _ (by decide), upI_o _ _ _ _ (by decide), upI_o _ _ _ _ (by decide), upI_o _ _ _ _ (by decide), e1]
    | succ d ih =>
      intro s hsd g F Mg e1 e2
      have Lg := Mg.L
      have hs := Lg.s 166 (p := (11, 0))
      have cl : (nI s).toNatClampNeg = s := nI_clamp (by omega)
      have fin : ∀ v : Int32, v = bgW T w (10 + s) → K_Mo_begin n Q 30 [some (.ref 166), some (.int (nI s))] [.int v, .int (nI s), .ref 178] g := by
        intro v hv
        refine b_Mo_begin_30 ⟨⟨by decide, Lg.x 178 (n := 9) (by omega)⟩, b_Mo_begin_31 ⟨hs, 179, Lg.r 166 29 179, ⟨by decide, Lg.x 179 (n := 9) (by omega)⟩, b_Mo_begin_38 ⟨hs, 180, Lg.r 166 30 180, ⟨by decide, Lg.x 180 (n := 9) (by omega)⟩, b_Mo_begin_45 ⟨hs, 181, Lg.r 166 31 181, ⟨by decide, Lg.x 181 (n := 9) (by omega)⟩, b_Mo_begin_52 ?_⟩⟩⟩⟩
        rw [cl, nI_1]
        refine ih (s + 1) (by omega) _ ((((F.wI mPa).wI mPa).wI mPa).wI mPa) ((((Mg.wa (by decide)).wa (by decide)).wa (by decide)).wa (by decide)) ?_ (fun s' hs' => ?_)
        · rw [xsI_ne _ _ _ (by decide), xsI_ne _ _ _ (by decide), xsI_ne _ _ _ (by decide), xsI_ne _ _ _ (by decide)]
          exact e1
        · by_cases es : s' = s
          · subst es
            refine ⟨?_, ?_, ?_, ?_⟩
            · rw [xsI_ne _ _ _ (by decide), xsI_ne _ _ _ (by decide), xsI_ne _ _ _ (by decide), upI_s]; exact hv
            · rw [xsI_ne _ _ _ (by decide), xsI_ne _ _ _ (by decide), upI_s, bgW_z (by omega)]
            · rw [xsI_ne _ _ _ (by decide), upI_s, bgW_z (by omega)]
            · rw [upI_s, bgW_z (by omega)]
          · have e := e2 s' (by omega)
            have u : ∀ c, xI (xsI (xsI (xsI (xsI g 178 s v) 179 s 0) 180 s 0) 181 s 0) c s' = xI g c s' := fun c => by
              rw [upI_c, upI_c, upI_c, upI_c, if_neg (fun z => es z.2), if_neg (fun z => es z.2), if_neg (fun z => es z.2), if_neg (fun z => es z.2)]
            rw [u, u, u, u]
            exact e
      refine b_Mo_begin_2 ⟨fun z => absurd z (nI_ge (a := s) (b := 9) (by omega) (by decide)), fun _ => ⟨hs, 178, Lg.r 166 28 178, ?_⟩⟩
      rw [Mg.sp, nI_leI (by omega) (by omega)]
      exact ⟨fun c => fin _ (bgW_z (by omega)).symm, fun c => c_Mo_middle (by omega) Mg (by omega) (fin _ (bgW_m (by omega)).symm)⟩
  exact w_Mo_begin (key 9 0 (by omega) h Fr.rf M rfl (fun s' hs' => absurd hs' (Nat.not_lt_zero _)))
/-- an evening stays in hand -/
theorem Me.cm {h h' : xh} {E T W : Nat → Int32} {b : Prop} (M : Me h E) (F : Fr PM h h') (C : CM h' T W (xI h 166 27) b) : Me h' E := by
  obtain ⟨L, ⟨k, hk, e, d⟩, ok⟩ := M
  refine ⟨C.L, ⟨k, hk, C.2.2.2.2.trans e, fun i => ?_⟩, ok⟩
  rw [F.i 173 (fun z => by unfold PM at z; omega)]
  exact d i
theorem c_Mo_play {n : Nat} (hn : 6 ≤ n) {h : xh} {T E : Nat → Int32} (M : Mt h T) (D : Me h E) {w : Int32} {N : Nat} (hN : N ≤ dds E) {Q : Int32 → xh → Prop} (hQ : ∀ h', Fr PM h h' → CM h' T (run T E N 0 (bgW T w)).2 (xI h 166 27) False → Q (nI (run T E N 0 (bgW T w)).1) h') : xci (xMC n) 255 [.ref 166, .int (nI N)] h Q := by
  obtain ⟨n, rfl⟩ := xsucc (show 1 ≤ n by omega)
  have d40 : dds E ≤ 40 := D.2.2.2
  have key : ∀ d k, k + d = N → ∀ (g : xh) (V : Nat → Int32), Fr PM h g → CM g T V (xI h 166 27) False → (∀ h', Fr PM h h' → CM h' T (run T E d k V).2 (xI h 166 27) False → Q (nI (run T E d k V).1) h') → K_Mo_play n Q 6 [some (.ref 166), some (.int (nI N)), some (.int (nI k))] [] g := by
    intro d
    induction d with
    | zero =>
      intro k hk g V F C q
      have : k = N := by omega
      subst this
      exact b_Mo_play_6 ⟨fun _ => q g F C, fun z => absurd (Int32.le_refl _) z⟩
    | succ d ih =>
      intro k hk g V F C q
      have Dg := D.cm F C
      refine b_Mo_play_6 ⟨fun z => absurd z (nI_ge (by omega) (by omega)), fun _ => ⟨C.hs, c_Mo_deedOf (by omega) Dg (k := k) (w := 0) (by omega) (by omega) rfl ⟨C.hs, c_Mo_deedOf (by omega) Dg (k := k) (w := 1) (by omega) (by omega) rfl ⟨C.hs, ?_⟩⟩⟩⟩
      rw [show 1 + 2 * k + 1 = 2 + 2 * k by omega, nI_1]
      refine c_Mo_does (by omega) C (fun W' e' h' F' C' => ⟨fun y => absurd y (by decide), fun _ => ?_⟩) (fun e' h' F' C' => ⟨fun _ => ?_, fun y => absurd rfl y⟩)
      · rw [run_s e'] at q
        exact ih (k + 1) (by omega) h' W' (F.tr F') C' q
      · rw [run_n e'] at q
        exact q h' (F.tr F') C'
  exact w_Mo_play ⟨M.L.s 166, c_Mo_begin (by omega) M (b := False) (fun z => z.elim) (fun g F C => key N 0 (by omega) g _ F C hQ)⟩
theorem c_Mo_hand27 {n : Nat} (hn : 3 ≤ n) {h : xh} (L : Lay h) {c : Nat} (W : TwM h c) {p : Int32} {Q : Int32 → xh → Prop} (h1 : ∀ k, k < c → p = nI k → ∀ h', Fr PM h h' → Mt h' (mT h k) → (∀ i, 26 < i → xI h' 166 i = xI h 166 i) → Q 1 h') (h0 : (∀ k, k < c → ¬ p = nI k) → ∀ h', Fr PM h h' → Q 0 h') : xci (xMC n) 246 [.ref 166, .int p] h Q := by
  obtain ⟨n, rfl⟩ := xsucc (show 1 ≤ n by omega)
  have hs := L.s 166 (p := (11, 0))
  have c2 := W.2.1
  have P0 : PM 166 := Or.inl rfl
  refine w_Mo_hand ⟨⟨by decide, hs⟩, b_Mo_hand_5 ⟨hs, c_Mo_is (n := n) (j := 0) (c := c) (by omega) (h := xsI h 166 23 p) L (by omega) (by omega) ?_ (fun k hk e => ⟨fun _ => ⟨hs, ?_⟩, fun z => absurd z (by decide)⟩) (fun z => ⟨fun y => absurd rfl y, fun _ => h0 z _ (Fr.rf.wI P0)⟩)⟩⟩
  · rw [xsI_ne _ _ _ (by decide)]; exact W.1
  · subst e
    have ofx : ∀ (h' : xh), Lay h' → xI h' 172 = xI h 172 → xI h' 166 23 = nI k → ∀ (x : Int32) (i : Nat), x = nI i → i < 70 → ∀ (R : Int32 → xh → Prop), R (mT h k i) h' → xci (xMC n) 247 [.ref 166, .int x] h' R := by
      intro h' L' e1 e2 x i hx hi R hR
      obtain ⟨n, rfl⟩ := xsucc (show 1 ≤ n by omega)
      subst hx
      have e3 : (70 : Int32) * nI k + nI i = nI (70 * k + i) := by
        have := pk_mul 70 k
        rw [show (70 : Int32) * nI k = nI (70 * k) from this, nI_add]
      refine w_Mo_of ⟨L'.s 166, 172, L'.r 166 6 172, ?_⟩
      rw [e2, e3]
      refine ⟨L'.x 172 (n := 560) (by omega), ?_⟩
      rw [nI_clamp (by omega), e1]
      exact hR
    refine ofx _ (by exact L) (by rw [xsI_ne _ _ _ (by decide)]) (upI_s _ _ _ _) _ 6 rfl (by omega) _ ⟨⟨by decide, hs⟩, b_Mo_hand_26 ⟨hs, ?_⟩⟩
    refine ofx _ (by exact L) (by rw [xsI_ne _ _ _ (by decide), xsI_ne _ _ _ (by decide)]) (by rw [upI_o _ _ _ _ (by decide), upI_s]) _ 3 rfl (by omega) _ ⟨⟨by decide, hs⟩, b_Mo_hand_35 ⟨hs, ?_⟩⟩
    refine ofx _ (by exact L) (by rw [xsI_ne _ _ _ (by decide), xsI_ne _ _ _ (by decide), xsI_ne _ _ _ (by decide)]) (by rw [upI_o _ _ _ _ (by decide), upI_o _ _ _ _ (by decide), upI_s]) _ 4 rfl (by omega) _ ⟨⟨by decide, hs⟩, b_Mo_hand_44 ?_⟩
    refine h1 k hk rfl _ ((((Fr.rf.wI P0).wI P0).wI P0).wI P0) ⟨L, ⟨k, by omega, ?_, ?_⟩, ⟨?_, ?_, ?_⟩, W.2.2 k hk⟩ (fun i hi => ?_)
    · rw [upI_o _ _ _ _ (by decide), upI_o _ _ _ _ (by decide), upI_o _ _ _ _ (by decide), upI_s]
    · intro i
      rw [xsI_ne _ _ _ (by decide), xsI_ne _ _ _ (by decide), xsI_ne _ _ _ (by decide), xsI_ne _ _ _ (by decide)]; rfl
    · rw [upI_o _ _ _ _ (by decide), upI_o _ _ _ _ (by decide), upI_s]
    · rw [upI_o _ _ _ _ (by decide), upI_s]
    · rw [upI_s]
    · rw [upI_o _ _ _ _ (by omega), upI_o _ _ _ _ (by omega), upI_o _ _ _ _ (by omega), upI_o _ _ _ _ (by omega)]
theorem c_Mo_layAll {n : Nat} (hn : 4 ≤ n) {h : xh} (L : Lay h) {c ce : Nat} (W : TwM h c) (E : EvM h ce) {p q : Int32} {Q : Int32 → xh → Prop} (h1 : ∀ j, j < c → p = nI j → ∀ i, i < ce → q = nI i → ∀ h', Fr PM h h' → Mt h' (mT h j) → Me h' (mE h i) → Q 1 h') (h0 : (∀ j, j < c → ¬ p = nI j) ∨ (∀ i, i < ce → ¬ q = nI i) → ∀ h', Fr PM h h' → Q 0 h') : xci (xMC n) 254 [.ref 166, .int p, .int q] h Q := by
  obtain ⟨n, rfl⟩ := xsucc (show 1 ≤ n by omega)
  have hs := L.s 166 (p := (11, 0))
  refine w_Mo_layAll ⟨hs, c_Mo_hasEvening (by omega) L E (fun i hi e M => ⟨fun y => absurd y (by decide), fun _ => ⟨hs, ?_⟩⟩) (fun z => ⟨fun _ => h0 (Or.inr z) _ (Fr.rf.wI mP), fun y => absurd rfl y⟩)⟩
  have F : Fr PM h _ := Fr.rf.wI (a := 166) (i := 27) (v := q) mP
  have W' : TwM (xsI h 166 27 q) c := W
  have eM : ∀ j, mT (xsI h 166 27 q) j = mT h j := fun j => rfl
  have e27 : xI (xsI h 166 27 q) 166 27 = q := upI_s _ _ _ _
  generalize xsI h 166 27 q = g at M F W' eM e27 ⊢
  refine c_Mo_hand27 (by omega) M.1 W' (fun k hk e0 h' F' M' e' => ⟨fun y => absurd y (by decide), fun _ => h1 k hk e0 i hi e h' (F.tr F') (by rw [← eM]; exact M') ?_⟩) (fun z h' F' => ⟨fun _ => h0 (Or.inl z) h' (F.tr F'), fun y => absurd rfl y⟩)
  obtain ⟨L', ⟨k', hk', e2, d⟩, ok⟩ := M
  refine ⟨M'.L, ⟨k', hk', (e' 27 (by decide)).trans e2, fun i => ?_⟩, ok⟩
  rw [F'.i 173 (fun z => by unfold PM at z; omega)]
  exact d i
