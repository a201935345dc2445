/-! LINES in the reference: stops, deeds, nights, things, lists -/
theorem m_stop {n : Nat} (hn : 5 ≤ n) {h g : xh} {B : Nat → Nat} {len s : Nat} {F : Nat × Nat} {D : Nat → Int32} {far c s1 : Nat} {F1 : Nat × Nat} (P : Pre h g B len 0 s F D far c 0 s1 F1) (c4 : c < 4) {Q : Int32 → xh → Prop} (lq : LQ B len 0 s F D far h Q) : xci (xMC n) 225 [.ref 166, .int (nI c)] g Q := by
  obtain ⟨n, rfl⟩ := xsucc (show 1 ≤ n by omega)
  obtain ⟨⟨L, T, l6⟩, ⟨C, o, hs1, ss⟩, ⟨td, e21, f100, cn⟩, el, G, hq, _⟩ := P
  obtain ⟨t1, u0, u1, u2, u3⟩ := rt_t.1 c c4
  have lo : ∀ i, i < 4 → tb 2 (c * 4 + i) = 0 := fun i hi => by rw [lo_t c hq.b i hi, if_neg (by omega)]
  rw [t1] at el
  refine w_Mo_stopLine ⟨L.s 166, c_Mo_take (x := 0) (a := 0) (b := 9) (by omega) L T l6 hs1 C o rfl (by decide) (by decide) (by decide) (fun v _ => cb_p (lo 0 (by decide)) u0 (by omega) (by omega) (by omega)) (fun g2 F2 v0 G2 v09 er C2 o2 s12 s2l r2 _ => ⟨fun z => absurd z (by decide), fun _ => ⟨(G2.1.lay L).s 166, ?_⟩⟩) (fun g2 F2 R2 G2 er e16 => ⟨fun _ => lq.fail el er (G.tr G2.n) e16 hs1, fun z => absurd rfl z⟩)⟩
  have L2 := G2.1.lay L
  refine c_Mo_take (x := 1) (a := 0) (b := 9) (by omega) L2 (G2.tp T) l6 s2l C2 o2 er (by decide) (by decide) (by decide) (fun v _ => cb_p (lo 1 (by decide)) u1 (by omega) (by omega) (by omega)) (fun g3 F3 v1 G3 v19 er3 C3 o3 s23 s3l r3 _ => ⟨fun z => absurd z (by decide), fun _ => ⟨(G3.1.lay L2).s 166, ?_⟩⟩) (fun g3 F3 R3 G3 er3 e16 => ⟨fun _ => lq.fail el er3 ((G.tr G2.n).tr G3.n) e16 s2l, fun z => absurd rfl z⟩)
  have L3 := G3.1.lay L2
  refine c_Mo_take (x := 2) (a := 0) (b := 20) (by omega) L3 (G3.tp (G2.tp T)) l6 s3l C3 o3 er3 (by decide) (by decide) (by decide) (fun v _ => cb_p (lo 2 (by decide)) u2 (by omega) (by omega) (by omega)) (fun g4 F4 v2 G4 v29 er4 C4 o4 s34 s4l r4 _ => ⟨fun z => absurd z (by decide), fun _ => ⟨(G4.1.lay L3).s 166, 177, (G4.1.lay L3).r 166 20 177, (G4.1.lay L3).x 177 (i := 2) (n := 4) (by omega), ?_⟩⟩) (fun g4 F4 R4 G4 er4 e16 => ⟨fun _ => lq.fail el er4 (((G.tr G2.n).tr G3.n).tr G4.n) e16 s3l, fun z => absurd rfl z⟩)
  have L4 := G4.1.lay L3
  rw [show (2 : Int32).toNatClampNeg = 2 from rfl, r4 2, if_pos rfl]
  have h3 : ∀ v, v ≤ 99 → ((v2 ≤ v ∧ v ≤ 20) ↔ canB c 3 (vup (vup (vup (fun _ => 0) 0 v0) 1 v1) 2 v2) v) := fun v v9 => by
    have l3 := lo 3 (by decide)
    have ev : vup (vup (vup (fun _ => 0) 0 v0) 1 v1) 2 v2 2 = v2 := vup_s _ _ _
    constructor
    · rintro ⟨w1, w2⟩
      exact ⟨⟨by omega, by omega⟩, fun _ => by rw [ev]; exact w1, fun y => by omega, fun y => by omega⟩
    · rintro ⟨⟨w1, w2⟩, w3, _⟩
      have := w3 ⟨c4, rfl⟩
      rw [ev] at this
      exact ⟨this, by omega⟩
  refine c_Mo_take (x := 3) (a := v2) (b := 20) (by omega) L4 (G4.tp (G3.tp (G2.tp T))) l6 s4l C4 o4 er4 (by decide) v29 (by decide) h3 (fun g5 F5 v3 G5 v39 er5 C5 o5 s45 s5l r5 _ => ⟨fun _ => ⟨(G5.1.lay L4).s 166, 176, (G5.1.lay L4).r 166 19 176, (G5.1.lay L4).x 176 (i := 6) (n := 81) (by omega), ?_⟩, fun z => absurd z (by decide)⟩) (fun g5 F5 R5 G5 er5 e16 => ⟨fun z => absurd rfl z, fun _ => lq.fail el er5 ((((G.tr G2.n).tr G3.n).tr G4.n).tr G5.n) e16 s4l⟩)
  have L5 := G5.1.lay L4
  have GG := (((G.tr G2.n).tr G3.n).tr G4.n).tr G5.n
  have tdd := (((td.fm G2).fm G3).fm G4).fm G5
  have e21' : xI g5 166 21 = nI far - 1 := by rw [G5.2, G4.2, G3.2, G2.2]; exact e21
  obtain ⟨cn1, cn2⟩ : D 6 = nI (bN D 6) ∧ bN D 6 ≤ 9 := cn
  have q0 : xI g5 177 0 = nI v0 := by rw [r5 0, if_neg (by decide), r4 0, if_neg (by decide), r3 0, if_neg (by decide), r2 0, if_pos rfl]
  have q1 : xI g5 177 1 = nI v1 := by rw [r5 1, if_neg (by decide), r4 1, if_neg (by decide), r3 1, if_pos rfl]
  have q2 : xI g5 177 2 = nI v2 := by rw [r5 2, if_neg (by decide), r4 2, if_pos rfl]
  have q3 : xI g5 177 3 = nI v3 := by rw [r5 3, if_pos rfl]
  have fin : ∀ g6, Fr Pn h g6 → MR g6 B len (nxt B len (nxt B len (nxt B len (nxt B len s1)))) F5 → Td g6 (tl c 0 (vup (vup (vup (vup (fun _ => 0) 0 v0) 1 v1) 2 v2) 3 v3) D) → xI g6 166 21 = nI far - 1 → Q 1 g6 := fun g6 G6 C6 T6 e6 => by
    have ef : frU c (vup (vup (vup (vup (fun _ => 0) 0 v0) 1 v1) 2 v2) 3 v3) far = far := by unfold frU; rw [if_neg (by omega)]
    exact lq.1 g6 c 0 _ F5 _ (by rw [el, er5]; rfl) G6 C6 o5 s5l (by omega) T6 (by rw [ef]; exact e6) hq (by rw [ef]; exact f100)
  have et : tl c 0 (vup (vup (vup (vup (fun _ => 0) 0 v0) 1 v1) 2 v2) 3 v3) D = (if bN D 6 < 9 then uw (uw (uw (uw (uw (uw D (7 + bN D 6) (nI c)) (16 + bN D 6) (nI v0)) (25 + bN D 6) (nI v1)) (34 + bN D 6) (nI v2)) (43 + bN D 6) (nI v3)) 6 (nI (bN D 6 + 1)) else D) := by
    unfold tl tl0
    rw [if_pos (by omega), if_pos c4]
    rfl
  rw [et] at fin
  generalize hk : bN D 6 = k at cn1 cn2 fin
  rw [show (6 : Int32).toNatClampNeg = 6 from rfl, tdd 6 (by decide), cn1, show ((9 : Int32) ≤ nI k) = (9 ≤ k) from propext (nI_leI (a := 9) (by decide) (by omega)), show (7 : Int32) + nI k = nI (7 + k) from nI_add 7 k, nI_clamp (by omega)]
  refine ⟨fun z => b_Mo_stopLine_146 (fin g5 GG C5 (by rw [if_neg (by omega)]; exact tdd) e21'), fun z => ⟨⟨by decide, L5.x 176 (n := 81) (by omega)⟩, ?_⟩⟩
  rw [if_pos (by omega)] at fin
  have st : ∀ g, Lay g → xI g 177 = xI g5 177 → Lay (xsI g 176 0 0) ∧ True := fun g Lg _ => ⟨Lg, trivial⟩
  have L6 : Lay (xsI g5 176 (7 + k) (nI c)) := L5
  refine b_Mo_stopLine_75 ⟨L6.s 166, 176, L6.r 166 19 176, 177, L6.r 166 20 177, L6.x 177 (i := 0) (n := 4) (by omega), ?_⟩
  rw [show (0 : Int32).toNatClampNeg = 0 from rfl, xsI_ne g5 (7 + k) (nI c) (show 177 ≠ 176 by decide), q0, show (16 : Int32) + nI k = nI (16 + k) from nI_add 16 k, nI_clamp (by omega)]
  have L7 : Lay (xsI (xsI g5 176 (7 + k) (nI c)) 176 (16 + k) (nI v0)) := L5
  refine ⟨⟨by decide, L6.x 176 (n := 81) (by omega)⟩, b_Mo_stopLine_90 ⟨L7.s 166, 176, L7.r 166 19 176, 177, L7.r 166 20 177, L7.x 177 (i := 1) (n := 4) (by omega), ?_⟩⟩
  rw [show (1 : Int32).toNatClampNeg = 1 from rfl, xsI_ne _ _ _ (show 177 ≠ 176 by decide), xsI_ne g5 (7 + k) (nI c) (show 177 ≠ 176 by decide), q1, show (25 : Int32) + nI k = nI (25 + k) from nI_add 25 k, nI_clamp (by omega)]
  have L8 : Lay (xsI (xsI (xsI g5 176 (7 + k) (nI c)) 176 (16 + k) (nI v0)) 176 (25 + k) (nI v1)) := L5
  refine ⟨⟨by decide, L7.x 176 (n := 81) (by omega)⟩, b_Mo_stopLine_105 ⟨L8.s 166, 176, L8.r 166 19 176, 177, L8.r 166 20 177, L8.x 177 (i := 2) (n := 4) (by omega), ?_⟩⟩
  rw [show (2 : Int32).toNatClampNeg = 2 from rfl, xsI_ne _ _ _ (show 177 ≠ 176 by decide), xsI_ne _ _ _ (show 177 ≠ 176 by decide), xsI_ne g5 (7 + k) (nI c) (show 177 ≠ 176 by decide), q2, show (34 : Int32) + nI k = nI (34 + k) from nI_add 34 k, nI_clamp (by omega)]
  have L9 : Lay (xsI (xsI (xsI (xsI g5 176 (7 + k) (nI c)) 176 (16 + k) (nI v0)) 176 (25 + k) (nI v1)) 176 (34 + k) (nI v2)) := L5
  refine ⟨⟨by decide, L8.x 176 (n := 81) (by omega)⟩, b_Mo_stopLine_120 ⟨L9.s 166, 176, L9.r 166 19 176, 177, L9.r 166 20 177, L9.x 177 (i := 3) (n := 4) (by omega), ?_⟩⟩
  rw [show (3 : Int32).toNatClampNeg = 3 from rfl, xsI_ne _ _ _ (show 177 ≠ 176 by decide), xsI_ne _ _ _ (show 177 ≠ 176 by decide), xsI_ne _ _ _ (show 177 ≠ 176 by decide), xsI_ne g5 (7 + k) (nI c) (show 177 ≠ 176 by decide), q3, show (43 : Int32) + nI k = nI (43 + k) from nI_add 43 k, nI_clamp (by omega)]
  have L10 : Lay (xsI (xsI (xsI (xsI (xsI g5 176 (7 + k) (nI c)) 176 (16 + k) (nI v0)) 176 (25 + k) (nI v1)) 176 (34 + k) (nI v2)) 176 (43 + k) (nI v3)) := L5
  have T10 : Td (xsI (xsI (xsI (xsI (xsI g5 176 (7 + k) (nI c)) 176 (16 + k) (nI v0)) 176 (25 + k) (nI v1)) 176 (34 + k) (nI v2)) 176 (43 + k) (nI v3)) _ := ((((tdd.w).w).w).w).w
  refine ⟨⟨by decide, L9.x 176 (n := 81) (by omega)⟩, b_Mo_stopLine_135 ⟨L10.s 166, 176, L10.r 166 19 176, L10.x 176 (i := 6) (n := 81) (by omega), ⟨by decide, L10.x 176 (i := 6) (n := 81) (by omega)⟩, b_Mo_stopLine_146 ?_⟩⟩
  rw [show (6 : Int32).toNatClampNeg = 6 from rfl, T10 6 (by decide), uw_o (by omega), uw_o (by omega), uw_o (by omega), uw_o (by omega), uw_o (by omega), cn1, nI_1]
  refine fin _ ((((((GG.wI (Or.inr (Or.inl rfl))).wI (Or.inr (Or.inl rfl))).wI (Or.inr (Or.inl rfl))).wI (Or.inr (Or.inl rfl))).wI (Or.inr (Or.inl rfl))).wI (Or.inr (Or.inl rfl))) ((((((C5.wa (by decide)).wa (by decide)).wa (by decide)).wa (by decide)).wa (by decide)).wa (by decide)) T10.w ?_
  rw [xsI_ne _ _ _ (by decide), xsI_ne _ _ _ (by decide), xsI_ne _ _ _ (by decide), xsI_ne _ _ _ (by decide), xsI_ne _ _ _ (by decide), xsI_ne _ _ _ (by decide)]; exact e21'
theorem c_Mo_keep {n : Nat} (hn : 1 ≤ n) {g : xh} (L : Lay g) {D : Nat → Int32} (td : Td g D) (cn : D 0 = nI (bN D 0) ∧ bN D 0 ≤ 40) {a b : Int32} (q0 : xI g 177 0 = a) (q1 : xI g 177 1 = b) {Q : xh → Prop} (h1 : bN D 0 < 40 → Q (xsI (xsI (xsI g 176 (1 + 2 * bN D 0) a) 176 (2 + 2 * bN D 0) b) 176 0 (nI (bN D 0 + 1)))) (h0 : ¬ bN D 0 < 40 → Q g) : xcv (xMC n) 234 [.ref 166, .int 2, .int 40] g Q := by
  obtain ⟨n, rfl⟩ := xsucc hn
  obtain ⟨cn1, cn2⟩ := cn
  generalize bN D 0 = k at cn1 cn2 h1 h0
  refine w_Mo_keep ⟨L.s 166, 176, L.r 166 19 176, L.x 176 (i := 0) (n := 81) (by omega), ?_⟩
  rw [show (0 : Int32).toNatClampNeg = 0 from rfl, td 0 (by decide), cn1, show (nI k = (40 : Int32)) = (k = 40) from propext (nI_eq (b := 40) (by omega) (by decide))]
  refine ⟨fun z => ?_, fun z => h0 (by omega)⟩
  have lt : k < 40 := by omega
  have e2 : (1 : Int32) + (2 : Int32) * nI k = nI (1 + 2 * k) := by rw [show (2 : Int32) * nI k = nI (2 * k) from pk_mul 2 _]; exact nI_add 1 _
  refine b_Mo_keep_16 ⟨fun y => absurd y (by decide), fun _ => ⟨L.s 166, 176, L.r 166 19 176, 177, L.r 166 20 177, L.x 177 (i := 0) (n := 4) (by omega), ?_⟩⟩
  rw [e2, show nI (1 + 2 * k) + (0 : Int32) = nI (1 + 2 * k) from nI_z _, nI_clamp (by omega), show (0 : Int32).toNatClampNeg = 0 from rfl, q0]
  have L1 : Lay (xsI g 176 (1 + 2 * k) a) := L
  refine ⟨⟨by decide, L.x 176 (n := 81) (by omega)⟩, b_Mo_keep_42 (b_Mo_keep_16 ⟨fun y => absurd y (by decide), fun _ => ⟨L1.s 166, 176, L1.r 166 19 176, 177, L1.r 166 20 177, L1.x 177 (i := 1) (n := 4) (by omega), ?_⟩⟩)⟩
  rw [e2, show nI (1 + 2 * k) + ((0 : Int32) + 1) = nI (2 + 2 * k) from by rw [show (0 : Int32) + 1 = 1 from rfl, nI_1]; congr 1; omega, nI_clamp (by omega), show ((0 : Int32) + 1).toNatClampNeg = 1 from rfl, xsI_ne g (1 + 2 * k) a (show 177 ≠ 176 by decide), q1]
  have L2 : Lay (xsI (xsI g 176 (1 + 2 * k) a) 176 (2 + 2 * k) b) := L
  refine ⟨⟨by decide, L1.x 176 (n := 81) (by omega)⟩, b_Mo_keep_42 (b_Mo_keep_16 ⟨fun _ => ⟨L2.s 166, 176, L2.r 166 19 176, L2.x 176 (i := 0) (n := 81) (by omega), ⟨by decide, L2.x 176 (i := 0) (n := 81) (by omega)⟩, ?_⟩, fun y => absurd (by decide) y⟩)⟩
  rw [show (0 : Int32).toNatClampNeg = 0 from rfl, upI_o _ _ _ _ (by omega), upI_o _ _ _ _ (by omega), td 0 (by decide), cn1, nI_1]
  exact h1 lt
theorem m_deed {n : Nat} (hn : 5 ≤ n) {h g : xh} {B : Nat → Nat} {len s : Nat} {F : Nat × Nat} {D : Nat → Int32} {far c s1 : Nat} {F1 : Nat × Nat} (P : Pre h g B len 1 s F D far c 0 s1 F1) {Q : Int32 → xh → Prop} (lq : LQ B len 1 s F D far h Q) (e1 : xI g 177 1 = -1) (o1 o2 o3 : Option Value) : K_Mo_dayLine n Q 36 [some (.ref 166), o1, o2, o3, some (.int (nI (c - 10)))] [] g := by
  obtain ⟨⟨L, T, l6⟩, ⟨C, o, hs1, ss⟩, ⟨td, e21, f100, cn⟩, el, G, hq, _⟩ := P
  have hc : 10 ≤ c ∧ c < 15 := by unfold cq at hq; omega
  have tbs : tb 1 10 = 1 ∧ tb 1 11 = 1 ∧ tb 1 12 = 1 ∧ tb 1 13 = 0 ∧ tb 1 14 = 0 := by decide
  have fin : ∀ g2 s2 F2 R, nmR B len c (tb 1 c) 0 s1 F1 (fun _ => 0) = (true, s2, F2, R) → Fm g g2 → MR g2 B len s2 F2 → ord F2 s2 → s2 ≤ len → s < s2 → xI g2 177 1 = (if c < 13 then nI (R 0) else -1) → K_Mo_dayLine n Q 85 [some (.ref 166), o1, o2, o3, some (.int (nI (c - 10)))] [] g2 := fun g2 s2 F2 R er G2 C2 oo s2l ss2 q1 => by
    have L2 := G2.1.lay L
    have td2 := td.fm G2
    have L3 : Lay (xsI g2 177 0 (nI (c - 10))) := L2
    have td3 : Td (xsI g2 177 0 (nI (c - 10))) D := fun i hi => by rw [xsI_ne _ _ _ (by decide)]; exact td2 i hi
    refine b_Mo_dayLine_85 ⟨L2.s 166, 177, L2.r 166 20 177, ⟨by decide, L2.x 177 (i := 0) (n := 4) (by omega)⟩, b_Mo_dayLine_93 ⟨L3.s 166, ?_⟩⟩
    have ef : frU c R far = far := by unfold frU; rw [if_neg (by omega)]
    have cn' : D 0 = nI (bN D 0) ∧ bN D 0 ≤ 40 := cn
    have G3 : Fr Pn h (xsI g2 177 0 (nI (c - 10))) := (G.tr G2.n).wI (Or.inr (Or.inr rfl))
    have C3 : MR (xsI g2 177 0 (nI (c - 10))) B len s2 F2 := C2.wa (by decide)
    have e21' : xI (xsI g2 177 0 (nI (c - 10))) 166 21 = nI far - 1 := by rw [xsI_ne _ _ _ (by decide), G2.2]; exact e21
    have et : tl c 0 R D = tl1 c R D := by
      unfold tl
      rw [if_neg (by omega), if_pos (by omega)]
    have go : ∀ g4, Fr Pn h g4 → MR g4 B len s2 F2 → Td g4 (tl1 c R D) → xI g4 166 21 = nI far - 1 → Q 1 g4 := fun g4 G4 C4 T4 e4 => lq.1 g4 c 0 s2 F2 R (by rw [el, er]) G4 C4 oo s2l ss2 (by rw [et]; exact T4) (by rw [ef]; exact e4) hq (by rw [ef]; exact f100)
    refine c_Mo_keep (by omega) L3 td3 cn' (a := nI (c - 10)) (b := if c < 13 then nI (R 0) else -1) (upI_s _ _ _ _) (by rw [upI_o _ _ _ _ (by decide)]; exact q1) (fun lt => go _ (((G3.wI (Or.inr (Or.inl rfl))).wI (Or.inr (Or.inl rfl))).wI (Or.inr (Or.inl rfl))) (((C3.wa (by decide)).wa (by decide)).wa (by decide)) ?_ ?_) (fun lt => go _ G3 C3 ?_ e21')
    · unfold tl1
      rw [if_pos lt]
      exact ((td3.w).w).w
    · rw [xsI_ne _ _ _ (by decide), xsI_ne _ _ _ (by decide), xsI_ne _ _ _ (by decide)]; exact e21'
    · unfold tl1
      rw [if_neg lt]
      exact td3
  refine b_Mo_dayLine_36 ⟨fun z => ?_, fun z => ?_⟩
  · have z' : 3 ≤ c - 10 := (nI_leI (a := 3) (by decide) (by omega)).mp z
    have t0 : tb 1 c = 0 := by
      have : c = 13 ∨ c = 14 := by omega
      rcases this with e | e <;> rw [e]
      · exact tbs.2.2.2.1
      · exact tbs.2.2.2.2
    refine fin g s1 F1 (fun _ => 0) (by rw [t0]; rfl) Fm.rf C o hs1 ss ?_
    rw [if_neg (by omega)]; exact e1
  · have z' : c - 10 < 3 := Nat.lt_of_not_le (fun y => z ((nI_leI (a := 3) (by decide) (by omega)).mpr y))
    have t1 : tb 1 c = 0 + 1 := by
      have : c = 10 ∨ c = 11 ∨ c = 12 := by omega
      rcases this with e | e | e <;> rw [e]
      · exact tbs.1
      · exact tbs.2.1
      · exact tbs.2.2.1
    have tk : ∀ a b, tb 2 (c * 4 + 0) = a → tb 3 (c * 4 + 0) = b → a ≤ 99 → b ≤ 99 → K_Mo_dayLine n Q 77 [some (.ref 166), o1, o2, o3, some (.int (nI (c - 10)))] [.int (nI b), .int (nI a), .int 1, .ref 166] g := fun a b ea eb a9 b9 => by
      rw [t1] at el fin
      refine b_Mo_dayLine_77 ⟨L.s 166, c_Mo_take (x := 1) (by omega) L T l6 hs1 C o rfl (by decide) a9 b9 (fun v _ => cb_p ea eb (by omega) (by omega) (by omega)) (fun g2 F2 v G2 v9 er C2 oo s12 s2l r2 _ => ⟨fun _ => fin g2 _ F2 _ er G2 C2 oo s2l (by omega) ?_, fun y => absurd y (by decide)⟩) (fun g2 F2 R2 G2 er e16 => ⟨fun y => absurd rfl y, fun _ => lq.fail el er (G.tr G2.n) e16 hs1⟩)⟩
      rw [r2 1, if_pos rfl, if_pos (by omega), vup_s]
    rw [nI_e0 (by omega)]
    have : c = 10 ∨ c = 11 ∨ c = 12 := by omega
    rcases this with e | e | e <;> subst e
    · exact ⟨fun y => absurd rfl y, fun _ => b_Mo_dayLine_54 ⟨fun y => absurd rfl y, fun _ => tk 0 8 rfl rfl (by decide) (by decide)⟩⟩
    · exact ⟨fun _ => b_Mo_dayLine_54 ⟨fun _ => ⟨fun y => absurd rfl y, fun _ => tk 1 40 rfl rfl (by decide) (by decide)⟩, fun y => absurd y (by decide)⟩, fun y => absurd y (by decide)⟩
    · exact ⟨fun _ => b_Mo_dayLine_54 ⟨fun _ => ⟨fun _ => tk 1 60 rfl rfl (by decide) (by decide), fun y => absurd y (by decide)⟩, fun y => absurd y (by decide)⟩, fun y => absurd y (by decide)⟩
