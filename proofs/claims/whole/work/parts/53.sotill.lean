/-! till, state, drawn of the class -/
def rnd (W : Nat → Int32) : Nat → Int32 := va_up W 7 (W 7 * 1103515245 + 12345)
def blw (x n : Int32) : Int32 := (x.toUInt32 >>> ((16 : Int32).toUInt32 &&& Int32.toUInt32 31)).toInt32 - (x.toUInt32 >>> ((16 : Int32).toUInt32 &&& Int32.toUInt32 31)).toInt32 / n * n
def ddO (T W : Nat → Int32) (k m : Int32) : Nat → Int32 := (ddW T W k m).getD W
/-- a drawn deed -/
def drD (T W : Nat → Int32) : Nat → Int32 := if 3 ≤ blw (rnd W 7) 8 then (if 6 ≤ blw (rnd W 7) 8 then (if blw (rnd W 7) 8 = 6 then ddO T (rnd W) 3 (-1) else ddO T (rnd W) 4 (-1)) else ddO T (rnd (rnd W)) 1 (1 + blw (rnd (rnd W) 7) 8)) else if T 6 ≤ 0 then rnd W else ddO T (rnd (rnd W)) 0 (blw (rnd (rnd W) 7) (T 6))
def drN (T W : Nat → Int32) : Nat → Nat → Int32
  | 0 => W
  | d + 1 => drD T (drN T W d)
theorem drD_4 {T W : Nat → Int32} (z3 : 3 ≤ blw (rnd W 7) 8) (z6 : 6 ≤ blw (rnd W 7) 8) (z : ¬ blw (rnd W 7) 8 = 6) : drD T W = ddO T (rnd W) 4 (-1) := by
  unfold drD
  rw [if_pos z3, if_pos z6, if_neg z]
theorem drD_3 {T W : Nat → Int32} (z3 : 3 ≤ blw (rnd W 7) 8) (z6 : 6 ≤ blw (rnd W 7) 8) (z : blw (rnd W 7) 8 = 6) : drD T W = ddO T (rnd W) 3 (-1) := by
  unfold drD
  rw [if_pos z3, if_pos z6, if_pos z]
theorem drD_1 {T W : Nat → Int32} (z3 : 3 ≤ blw (rnd W 7) 8) (z6 : ¬ 6 ≤ blw (rnd W 7) 8) : drD T W = ddO T (rnd (rnd W)) 1 (1 + blw (rnd (rnd W) 7) 8) := by
  unfold drD
  rw [if_pos z3, if_neg z6]
theorem drD_n {T W : Nat → Int32} (z3 : ¬ 3 ≤ blw (rnd W 7) 8) (z6 : T 6 ≤ 0) : drD T W = rnd W := by
  unfold drD
  rw [if_neg z3, if_pos z6]
theorem drD_0 {T W : Nat → Int32} (z3 : ¬ 3 ≤ blw (rnd W 7) 8) (z6 : ¬ T 6 ≤ 0) : drD T W = ddO T (rnd (rnd W)) 0 (blw (rnd (rnd W) 7) (T 6)) := by
  unfold drD
  rw [if_neg z3, if_neg z6]
theorem ddO_s {T W W' : Nat → Int32} {k m : Int32} (h : ddW T W k m = some W') : ddO T W k m = W' := by unfold ddO; rw [h]; rfl
theorem ddO_n {T W : Nat → Int32} {k m : Int32} (h : ddW T W k m = none) : ddO T W k m = W := by unfold ddO; rw [h]; rfl
theorem c_Walk_below {n : Nat} (hn : 1 ≤ n) {h : xh} {t : Nat} {T W : Nat → Int32} (C : CW h t T W) {k : Int32} (hk : 0 < k) {Q : Int32 → xh → Prop} (hQ : ∀ h', Fr PW h h' → CW h' t T (rnd W) → Q (blw (rnd W 7) k) h') : xci (xMC n) 125 [.ref 141, .int k] h Q := by
  obtain ⟨n, rfl⟩ := xsucc hn
  refine w_Walk_below ⟨C.L.s 141, ⟨by decide, C.L.s 141⟩, ?_⟩
  rw [C.i 7]
  have X := C.w (i := 7) (v := W 7 * 1103515245 + 12345) (by decide) (fun e => nomatch e)
  have F : Fr PW h _ := Fr.rf.wI (a := 141) (i := 7) (v := W 7 * 1103515245 + 12345) wP1
  generalize xsI h 141 7 (W 7 * 1103515245 + 12345) = g at X F ⊢
  refine b_Walk_below_15 ⟨fun _ => ⟨X.L.s 141, fun z => ?_, ?_⟩, fun z => absurd hk z⟩
  · subst z; exact absurd hk (by decide)
  · rw [X.i 7]
    exact hQ g F X
theorem c_Walk_pf {n : Nat} (hn : 5 ≤ n) {h : xh} {t : Nat} {T W : Nat → Int32} (C : CW h t T W) {k m : Int32} {Q : Int32 → xh → Prop} (hQ : ∀ r h', Fr PW h h' → CW h' t T (ddO T W k m) → Q r h') : xci (xMC n) 116 [.ref 141, .ref t, .int k, .int m] h Q :=
  c_Walk_perform hn C (fun W' e h' F C' => hQ 1 h' F (by rw [ddO_s e]; exact C')) (fun e => hQ 0 h Fr.rf (by rw [ddO_n e]; exact C))
theorem c_Walk_draw {n : Nat} (hn : 6 ≤ n) {h : xh} {t : Nat} {T W : Nat → Int32} (C : CW h t T W) {s : Int32} {N : Nat} (hN : N ≤ 60) {Q : xh → Prop} (hQ : ∀ h', Fr PW h h' → CW h' t T (drN T (va_up W 7 s) N) → Q h') : xcv (xMC n) 124 [.ref 141, .ref t, .int s, .int (nI N)] h Q := by
  obtain ⟨n, rfl⟩ := xsucc (show 1 ≤ n by omega)
  refine w_Walk_draw ⟨⟨by decide, C.L.s 141⟩, b_Walk_draw_5 ?_⟩
  have X := C.w (i := 7) (v := s) (by decide) (fun e => nomatch e)
  have F : Fr PW h _ := Fr.rf.wI (a := 141) (i := 7) (v := s) wP1
  generalize xsI h 141 7 s = g at X F ⊢
  generalize va_up W 7 s = V at X hQ
  have key : ∀ d k, k + d = N → ∀ (g : xh), Fr PW h g → CW g t T (drN T V k) → ∀ o2 o5 : Option Value, K_Walk_draw n Q 8 [some (.ref 141), some (.ref t), o2, some (.int (nI N)), some (.int (nI k)), o5] [] g := by
    intro d
    induction d with
    | zero =>
      intro k hk g F C' o2 o5
      have : k = N := by omega
      subst this
      exact b_Walk_draw_8 ⟨fun _ => hQ g F C', fun z => absurd (Int32.le_refl _) z⟩
    | succ d ih =>
      intro k hk g F C' o2 o5
      have ih' := ih (k + 1) (by omega)
      rw [drN] at ih'
      clear ih
      generalize drN T V k = V at C' ih'
      refine b_Walk_draw_8 ⟨fun z => absurd z (nI_ge (by omega) (by omega)), fun _ => ⟨C'.L.s 141, c_Walk_below (by omega) C' (by decide) (fun g1 F1 C1 => ?_)⟩⟩
      rw [nI_1]
      have nx : ∀ (g2 : xh), Fr PW h g2 → CW g2 t T (drD T V) → ∀ o5 : Option Value, K_Walk_draw n Q 8 [some (.ref 141), some (.ref t), o2, some (.int (nI N)), some (.int (nI (k + 1))), o5] [] g2 := fun g2 F2 C2 o5 => ih' g2 F2 C2 _ _
      clear ih'
      refine ⟨fun z3 => ⟨fun z6 => ⟨fun z => ⟨C1.L.s 141, ?_⟩, fun z => ⟨C1.L.s 141, ?_⟩⟩, fun z6 => ⟨C1.L.s 141, ?_⟩⟩, fun z3 => ⟨C1.H.s, ?_⟩⟩
      · rw [drD_4 z3 z6 z] at nx
        exact c_Walk_pf (by omega) C1 (fun r g2 F2 C2 => nx g2 ((F.tr F1).tr F2) C2 _)
      · rw [drD_3 z3 z6 z] at nx
        exact c_Walk_pf (by omega) C1 (fun r g2 F2 C2 => nx g2 ((F.tr F1).tr F2) C2 _)
      · rw [drD_1 z3 z6] at nx
        exact c_Walk_below (by omega) C1 (by decide) (fun g2 F2 C2 => ⟨C2.L.s 141, c_Walk_pf (by omega) C2 (fun r g3 F3 C3 => nx g3 (((F.tr F1).tr F2).tr F3) C3 _)⟩)
      · rw [C1.H.i 6]
        refine ⟨fun z => ?_, fun z => ⟨C1.L.s 141, ?_⟩⟩
        · rw [drD_n z3 z] at nx
          exact nx g1 (F.tr F1) C1 _
        · rw [drD_0 z3 z] at nx
          exact c_Walk_below (by omega) C1 (Int32.not_le.mp z) (fun g2 F2 C2 => ⟨C2.L.s 141, c_Walk_pf (by omega) C2 (fun r g3 F3 C3 => nx g3 (((F.tr F1).tr F2).tr F3) C3 _)⟩)
  exact key N 0 (by omega) g F X _ _
theorem bgW_7 (T : Nat → Int32) (w s : Int32) : va_up (bgW T w) 7 s = bgW T s := by
  funext i
  by_cases e : i = 7
  · subst e; rw [va_up_at]; rfl
  · rw [va_upn _ _ _ e]
    unfold bgW
    rw [if_neg e, if_neg e]
theorem c_So_till {n : Nat} (hn : 7 ≤ n) {h : xh} (L : Lay h) {c ce : Nat} (W : TwC h c) (E : EvC h ce) {p q : Int32} {Q : Int32 → xh → Prop} (h1 : ∀ j, j < c → p = nI j → ∀ i, i < ce → q = nI i → ∀ h', Fr PW h h' → Q (nI (run (mT h j) (mE h i) (dds (mE h i)) 0 (bgW (mT h j) (xI h 141 7))).1) h') (h0 : (∀ j, j < c → ¬ p = nI j) ∨ (∀ i, i < ce → ¬ q = nI i) → Q (-1) h) : xci (xMC n) 165 [.ref 64, .int p, .int q] h Q := by
  obtain ⟨n, rfl⟩ := xsucc (show 1 ≤ n by omega)
  have c2 := W.2.1
  have ce2 := E.2.1
  refine w_So_till ⟨L.s 64, 65, L.r 64 0 65, L.s 65, c_Told_townAt (by omega) L W.1 W.2.1 (fun j hj e => ⟨fun a2 ea => ?_, fun z => nomatch z⟩) (fun z => ⟨fun a2 ea => (nomatch ea), fun _ => ⟨L.s 64, 65, L.r 64 0 65, L.s 65, c_Told_eveningAt (by omega) L E.1 E.2.1 (fun i hi e2 => ⟨fun _ _ => h0 (Or.inl z), fun y => nomatch y⟩) (fun _ => ⟨fun _ _ => h0 (Or.inl z), fun _ => h0 (Or.inl z)⟩)⟩⟩)⟩
  cases ea
  refine ⟨L.s 64, 65, L.r 64 0 65, L.s 65, c_Told_eveningAt (by omega) L E.1 E.2.1 (fun i hi e2 => ⟨fun a4 ea4 => ?_, fun y => nomatch y⟩) (fun z => ⟨fun _ ea => (nomatch ea), fun _ => h0 (Or.inr z)⟩)⟩
  cases ea4
  refine ⟨L.s 64, 141, L.r 64 3 141, L.s 141, c_Walk_begin (by omega) L (W.2.2 j hj) (by omega) (fun g F C => ?_)⟩
  have G : Ev g (86 + 3 * i) (mE h i) := (E.2.2 i hi).fr F (fun c h1 h2 z => by have := z.1; omega)
  refine ⟨C.L.s 64, 141, C.L.r 64 3 141, G.1, C.L.s 141, c_Walk_follow (by omega) C G (by omega) (Nat.le_refl _) ?_ (fun h' F' _ => h1 j hj e i hi e2 h' (F.tr F'))⟩
  rw [G.2.2.1]
  exact G.2.2.2.2.1
theorem c_So_state {n : Nat} (hn : 7 ≤ n) {h : xh} (L : Lay h) {c ce : Nat} (W : TwC h c) (E : EvC h ce) {p q m w : Int32} {Q : Int32 → xh → Prop} (h1 : ∀ j, j < c → p = nI j → ∀ i, i < ce → q = nI i → ∀ N, N ≤ dds (mE h i) → m = nI N → ∀ h', Fr PW h h' → Q (if (run (mT h j) (mE h i) N 0 (bgW (mT h j) (xI h 141 7))).1 = N then sDet (mT h j) (run (mT h j) (mE h i) N 0 (bgW (mT h j) (xI h 141 7))).2 w else -2) h') (h0 : (∀ j, j < c → ¬ p = nI j) ∨ (∀ i, i < ce → ¬ q = nI i) ∨ (∃ i, i < ce ∧ q = nI i ∧ ∀ N, N ≤ dds (mE h i) → ¬ m = nI N) → Q (-2) h) : xci (xMC n) 166 [.ref 64, .int p, .int q, .int m, .int w] h Q := by
  obtain ⟨n, rfl⟩ := xsucc (show 1 ≤ n by omega)
  have c2 := W.2.1
  have ce2 := E.2.1
  refine w_So_state ⟨L.s 64, 65, L.r 64 0 65, L.s 65, c_Told_townAt (by omega) L W.1 W.2.1 (fun j hj e => ⟨fun a2 ea => ?_, fun z => nomatch z⟩) (fun z => ⟨fun a2 ea => (nomatch ea), fun _ => ⟨L.s 64, 65, L.r 64 0 65, L.s 65, c_Told_eveningAt (by omega) L E.1 E.2.1 (fun i hi e2 => ⟨fun _ _ => h0 (Or.inl z), fun y => nomatch y⟩) (fun _ => ⟨fun _ _ => h0 (Or.inl z), fun _ => h0 (Or.inl z)⟩)⟩⟩)⟩
  cases ea
  refine ⟨L.s 64, 65, L.r 64 0 65, L.s 65, c_Told_eveningAt (by omega) L E.1 E.2.1 (fun i hi e2 => ⟨fun a4 ea4 => ?_, fun y => nomatch y⟩) (fun z => ⟨fun _ ea => (nomatch ea), fun _ => h0 (Or.inr (Or.inl z))⟩)⟩
  cases ea4
  have G0 := E.2.2 i hi
  have d40 : dds (mE h i) ≤ 40 := G0.2.2.2.2.2
  refine ⟨fun z => h0 (Or.inr (Or.inr ⟨i, hi, e2, fun N hN eN => ?_⟩)), fun z => ⟨G0.1, ?_⟩⟩
  · subst eN; exact nI_pos (by omega) z
  · obtain ⟨N, hN, eN⟩ := nI_of z
    subst eN
    rw [G0.2.2.1, G0.2.2.2.2.1, nI_leI hN (by omega)]
    refine ⟨fun y => ⟨L.s 64, 141, L.r 64 3 141, L.s 141, c_Walk_begin (by omega) L (W.2.2 j hj) (by omega) (fun g F C => ?_)⟩, fun y => h0 (Or.inr (Or.inr ⟨i, hi, e2, fun N' hN' eN => ?_⟩))⟩
    · have G : Ev g (86 + 3 * i) (mE h i) := G0.fr F (fun c h1 h2 z => by have := z.1; omega)
      refine ⟨C.L.s 64, 141, C.L.r 64 3 141, C.L.s 141, c_Walk_follow (by omega) C G (by omega) y rfl (fun h' F' C' => ?_)⟩
      have hQ := h1 j hj e i hi e2 N y rfl h' (F.tr F')
      have le := run_le (T := mT h j) (E := mE h i) N 0 (bgW (mT h j) (xI h 141 7))
      rw [nI_leI hN (by omega)]
      refine ⟨fun x => ⟨C'.L.s 64, 141, C'.L.r 64 3 141, C'.L.s 141, c_Walk_detail (by omega) C' ?_⟩, fun x => ?_⟩
      · rwa [if_pos (by omega)] at hQ
      · rwa [if_neg (by omega)] at hQ
    · have := (nI_eq hN (by omega)).mp eN
      omega
theorem c_So_drawn {n : Nat} (hn : 7 ≤ n) {h : xh} (L : Lay h) {c : Nat} (W : TwC h c) {p s m w : Int32} {Q : Int32 → xh → Prop} (h1 : ∀ j, j < c → p = nI j → ∀ N, N ≤ 60 → m = nI N → ∀ h', Fr PW h h' → Q (sDet (mT h j) (drN (mT h j) (bgW (mT h j) s) N) w) h') (h0 : (∀ j, j < c → ¬ p = nI j) ∨ (∀ N, N ≤ 60 → ¬ m = nI N) → Q (-2) h) : xci (xMC n) 167 [.ref 64, .int p, .int s, .int m, .int w] h Q := by
  obtain ⟨n, rfl⟩ := xsucc (show 1 ≤ n by omega)
  have c2 := W.2.1
  refine w_So_drawn ⟨L.s 64, 65, L.r 64 0 65, L.s 65, c_Told_townAt (by omega) L W.1 W.2.1 (fun j hj e => ⟨fun a2 ea => ?_, fun z => nomatch z⟩) (fun z => ⟨fun a2 ea => (nomatch ea), fun _ => h0 (Or.inl z)⟩)⟩
  cases ea
  refine ⟨fun z => h0 (Or.inr (fun N hN eN => ?_)), fun z => ?_⟩
  · subst eN; exact nI_pos (by omega) z
  · obtain ⟨N, hN, eN⟩ := nI_of z
    subst eN
    rw [show (60 : Int32) = nI 60 from rfl, nI_leI hN (by omega)]
    refine ⟨fun y => ⟨L.s 64, 141, L.r 64 3 141, L.s 141, c_Walk_begin (by omega) L (W.2.2 j hj) (by omega) (fun g F C => ⟨C.L.s 64, 141, C.L.r 64 3 141, C.L.s 141, c_Walk_draw (by omega) C y (fun g2 F2 C2 => ⟨C2.L.s 64, 141, C2.L.r 64 3 141, C2.L.s 141, c_Walk_detail (by omega) C2 ?_⟩)⟩)⟩, fun y => h0 (Or.inr (fun N' hN' eN => ?_))⟩
    · rw [bgW_7]
      exact h1 j hj e N y rfl g2 (F.tr F2)
    · have := (nI_eq hN (by omega)).mp eN
      omega
