/-! LINES in the reference: nights, things, lists -/
theorem m_night {n : Nat} (hn : 5 ≤ n) {h g : xh} {B : Nat → Nat} {len s : Nat} {F : Nat × Nat} {D : Nat → Int32} {far s1 : Nat} {F1 : Nat × Nat} (P : Pre h g B len 2 s F D far 15 0 s1 F1) {Q : Int32 → xh → Prop} (lq : LQ B len 2 s F D far h Q) {w : Int64} {v3 : Int32} : xci (xMC n) 226 [.ref 166, .int (0 : Int32), .int (0 : Int32), .int (99 : Int32)] g (fun r1 h2 => ((r1 = 0 → (Q (0 : Int32) h2)) ∧ (¬ r1 = 0 → (xS h2 166 = (11, 0) ∧ (∃ a1, xR h2 166 20 = some a1 ∧ (xar h2 a1 20 (0 : Int32) ∧ (xci (xMC n) 226 [.ref 166, .int (1 : Int32), .int (0 : Int32), .int (xI h2 a1 (0 : Int32).toNatClampNeg)] h2 (fun r2 h3 => ((¬ r2 = 0 → (xS h3 166 = (11, 0) ∧ (∃ a2, xR h3 166 19 = some a2 ∧ (xar h3 a2 20 (0 : Int32) ∧ (((10 : Int32) ≤ (xI h3 a2 (0 : Int32).toNatClampNeg) → K_Mo_bookLine n Q 142 [some (.ref 166), some (.long w), none, some (.int v3), some (.int (xI h3 a2 (0 : Int32).toNatClampNeg))] [] h3) ∧ (¬ (10 : Int32) ≤ (xI h3 a2 (0 : Int32).toNatClampNeg) → (∃ a3, xR h3 166 20 = some a3 ∧ (xar h3 a3 20 (0 : Int32) ∧ ((64 ≤ a2 ∧ xar h3 a2 20 ((1 : Int32) + ((5 : Int32) * (xI h3 a2 (0 : Int32).toNatClampNeg)))) ∧ K_Mo_bookLine n Q 115 [some (.ref 166), some (.long w), none, some (.int v3), some (.int (xI h3 a2 (0 : Int32).toNatClampNeg))] [] (xsI h3 a2 ((1 : Int32) + ((5 : Int32) * (xI h3 a2 (0 : Int32).toNatClampNeg))).toNatClampNeg (xI h3 a3 (0 : Int32).toNatClampNeg))))))))))) ∧ (r2 = 0 → (Q (0 : Int32) h3))))))))))) := by
  obtain ⟨⟨L, T, l6⟩, ⟨C, o, hs1, ss⟩, ⟨td, e21, f100, cn⟩, el, G, hq, _⟩ := P
  have el : lnR B len 2 s F D far = lnF B len 15 0 D far (nmR B len 15 (1 + 1) 0 s1 F1 (fun _ => 0)) := el
  refine c_Mo_take (x := 0) (a := 0) (b := 99) (by omega) L T l6 hs1 C o rfl (by decide) (by decide) (by decide) (fun v _ => cb_p rfl rfl (by omega) (by omega) (by omega)) (fun g2 F2 v G2 v9 er C2 o2 s12 s2l r2 _ => ⟨fun z => absurd z (by decide), fun _ => ⟨(G2.1.lay L).s 166, 177, (G2.1.lay L).r 166 20 177, (G2.1.lay L).x 177 (i := 0) (n := 4) (by omega), ?_⟩⟩) (fun g2 F2 R2 G2 er e16 => ⟨fun _ => lq.fail el er (G.tr G2.n) e16 hs1, fun z => absurd rfl z⟩)
  have L2 := G2.1.lay L
  rw [show (0 : Int32).toNatClampNeg = 0 from rfl, r2 0, if_pos rfl]
  have h1 : ∀ x, x ≤ 99 → ((0 ≤ x ∧ x ≤ v) ↔ canB 15 1 (vup (fun _ => 0) 0 v) x) := fun x x9 => by
    have e2 : tb 2 (15 * 4 + 1) = 0 := rfl
    have e3 : tb 3 (15 * 4 + 1) = 99 := rfl
    have ev : vup (fun _ => 0) 0 v 0 = v := vup_s _ _ _
    constructor
    · rintro ⟨w1, w2⟩
      exact ⟨⟨by omega, by omega⟩, fun y => by omega, fun y => by omega, fun _ => by rw [ev]; exact w2⟩
    · rintro ⟨⟨w1, w2⟩, _, _, w3⟩
      have := w3 ⟨rfl, by decide⟩
      rw [ev] at this
      exact ⟨by omega, this⟩
  refine c_Mo_take (x := 1) (a := 0) (b := v) (by omega) L2 (G2.tp T) l6 s2l C2 o2 er (by decide) (by decide) v9 h1 (fun g3 F3 w' G3 w9 er3 C3 o3 s23 s3l r3 _ => ⟨fun _ => ⟨(G3.1.lay L2).s 166, 176, (G3.1.lay L2).r 166 19 176, (G3.1.lay L2).x 176 (i := 0) (n := 81) (by omega), ?_⟩, fun z => absurd z (by decide)⟩) (fun g3 F3 R3 G3 er3 e16 => ⟨fun z => absurd rfl z, fun _ => lq.fail el er3 ((G.tr G2.n).tr G3.n) e16 s2l⟩)
  have L3 := G3.1.lay L2
  have tdd := (td.fm G2).fm G3
  have GG := (G.tr G2.n).tr G3.n
  have q0 : xI g3 177 0 = nI v := by rw [r3 0, if_neg (by decide), r2 0, if_pos rfl]
  have q1 : xI g3 177 1 = nI w' := by rw [r3 1, if_pos rfl]
  have e21' : xI g3 166 21 = nI far - 1 := by rw [G3.2, G2.2]; exact e21
  obtain ⟨cn1, cn2⟩ : D 0 = nI (bN D 0) ∧ bN D 0 ≤ 10 := cn
  have et : tl 15 0 (vup (vup (fun _ => 0) 0 v) 1 w') D = (if bN D 0 < 10 then uw (uw (uw D (1 + 5 * bN D 0) (nI v)) (2 + 5 * bN D 0) (nI w')) 0 (nI (bN D 0 + 1)) else D) := rfl
  have fin : ∀ g4, Fr Pn h g4 → MR g4 B len (nxt B len (nxt B len s1)) F3 → Td g4 (if bN D 0 < 10 then uw (uw (uw D (1 + 5 * bN D 0) (nI v)) (2 + 5 * bN D 0) (nI w')) 0 (nI (bN D 0 + 1)) else D) → xI g4 166 21 = nI far - 1 → Q 1 g4 := fun g4 G4 C4 T4 e4 => lq.1 g4 15 0 _ F3 _ (by rw [el, er3]; rfl) G4 C4 o3 s3l (by omega) (by rw [et]; exact T4) e4 hq f100
  generalize bN D 0 = k at cn1 cn2 fin
  rw [tdd 0 (by decide), cn1, show ((10 : Int32) ≤ nI k) = (10 ≤ k) from propext (nI_leI (a := 10) (by decide) (by omega)), show (5 : Int32) * nI k = nI (5 * k) from pk_mul 5 _, show (1 : Int32) + nI (5 * k) = nI (1 + 5 * k) from nI_add 1 _, nI_clamp (by omega)]
  refine ⟨fun z => b_Mo_bookLine_142 (fin g3 GG C3 (by rw [if_neg (by omega)]; exact tdd) e21'), fun z => ⟨177, L3.r 166 20 177, L3.x 177 (i := 0) (n := 4) (by omega), ⟨by decide, L3.x 176 (n := 81) (by omega)⟩, ?_⟩⟩
  rw [if_pos (by omega)] at fin
  rw [q0]
  have L4 : Lay (xsI g3 176 (1 + 5 * k) (nI v)) := L3
  refine b_Mo_bookLine_115 ⟨L4.s 166, 176, L4.r 166 19 176, 177, L4.r 166 20 177, L4.x 177 (i := 1) (n := 4) (by omega), ?_⟩
  rw [show (1 : Int32).toNatClampNeg = 1 from rfl, xsI_ne g3 _ _ (show 177 ≠ 176 by decide), q1, show (5 : Int32) * nI k = nI (5 * k) from pk_mul 5 _, show (2 : Int32) + nI (5 * k) = nI (2 + 5 * k) from nI_add 2 _, nI_clamp (by omega)]
  have L5 : Lay (xsI (xsI g3 176 (1 + 5 * k) (nI v)) 176 (2 + 5 * k) (nI w')) := L3
  have T5 := (tdd.w (j := 1 + 5 * k) (v := nI v)).w (j := 2 + 5 * k) (v := nI w')
  refine ⟨⟨by decide, L4.x 176 (n := 81) (by omega)⟩, b_Mo_bookLine_132 ⟨L5.s 166, 176, L5.r 166 19 176, L5.x 176 (i := 0) (n := 81) (by omega), ⟨by decide, L5.x 176 (i := 0) (n := 81) (by omega)⟩, b_Mo_bookLine_142 ?_⟩⟩
  rw [show (0 : Int32).toNatClampNeg = 0 from rfl, T5 0 (by decide), uw_o (by omega), uw_o (by omega), cn1, nI_1]
  refine fin _ (((GG.wI (Or.inr (Or.inl rfl))).wI (Or.inr (Or.inl rfl))).wI (Or.inr (Or.inl rfl))) (((C3.wa (by decide)).wa (by decide)).wa (by decide)) T5.w ?_
  rw [xsI_ne _ _ _ (by decide), xsI_ne _ _ _ (by decide), xsI_ne _ _ _ (by decide)]; exact e21'
theorem m_shoe {n : Nat} (hn : 5 ≤ n) {h g : xh} {B : Nat → Nat} {len s : Nat} {F : Nat × Nat} {D : Nat → Int32} {far s1 : Nat} {F1 : Nat × Nat} (P : Pre h g B len 3 s F D far 17 0 s1 F1) {Q : Int32 → xh → Prop} (lq : LQ B len 3 s F D far h Q) : xci (xMC n) 239 [.ref 166] g Q := by
  obtain ⟨n, rfl⟩ := xsucc (show 1 ≤ n by omega)
  obtain ⟨⟨L, T, l6⟩, ⟨C, o, hs1, ss⟩, ⟨td, e21, f100, cn⟩, el, G, hq, _⟩ := P
  have el : lnR B len 3 s F D far = lnF B len 17 0 D far (nmR B len 17 (0 + 1) 0 s1 F1 (fun _ => 0)) := el
  refine w_Mo_shoeLine ⟨L.s 166, c_Mo_take (x := 0) (a := 1) (b := 20) (by omega) L T l6 hs1 C o rfl (by decide) (by decide) (by decide) (fun v _ => cb_p rfl rfl (by omega) (by omega) (by omega)) (fun g2 F2 v G2 v9 er C2 o2 s12 s2l r2 _ => ⟨fun _ => ⟨(G2.1.lay L).s 166, 176, (G2.1.lay L).r 166 19 176, (G2.1.lay L).x 176 (i := 0) (n := 81) (by omega), ?_⟩, fun z => absurd z (by decide)⟩) (fun g2 F2 R2 G2 er e16 => ⟨fun z => absurd rfl z, fun _ => lq.fail el er (G.tr G2.n) e16 hs1⟩)⟩
  have L2 := G2.1.lay L
  have tdd := td.fm G2
  have GG := G.tr G2.n
  have e21' : xI g2 166 21 = nI far - 1 := by rw [G2.2]; exact e21
  obtain ⟨cn1, cn2⟩ : D 0 = nI (bN D 0) ∧ bN D 0 ≤ 6 := cn.1
  have et : tl 17 0 (vup (fun _ => 0) 0 v) D = (if bN D 0 < 6 then uw (uw D (3 + bN D 0) (nI v)) 0 (nI (bN D 0 + 1)) else D) := by
    unfold tl tl3
    rw [if_neg (by decide), if_neg (by decide), if_neg (by decide), if_pos rfl]; rfl
  have fin : ∀ g4, Fr Pn h g4 → MR g4 B len (nxt B len s1) F2 → Td g4 (if bN D 0 < 6 then uw (uw D (3 + bN D 0) (nI v)) 0 (nI (bN D 0 + 1)) else D) → xI g4 166 21 = nI far - 1 → Q 1 g4 := fun g4 G4 C4 T4 e4 => lq.1 g4 17 0 _ F2 _ (by rw [el, er]; rfl) G4 C4 o2 s2l (by omega) (by rw [et]; exact T4) e4 hq f100
  generalize bN D 0 = k at cn1 cn2 fin
  rw [show (0 : Int32).toNatClampNeg = 0 from rfl, tdd 0 (by decide), cn1, show ((6 : Int32) ≤ nI k) = (6 ≤ k) from propext (nI_leI (a := 6) (by decide) (by omega)), show (3 : Int32) + nI k = nI (3 + k) from nI_add 3 _, nI_clamp (by omega)]
  refine ⟨fun z => b_Mo_shoeLine_53 (fin g2 GG C2 (by rw [if_neg (by omega)]; exact tdd) e21'), fun z => ⟨177, L2.r 166 20 177, L2.x 177 (i := 0) (n := 4) (by omega), ⟨by decide, L2.x 176 (n := 81) (by omega)⟩, ?_⟩⟩
  rw [if_pos (by omega)] at fin
  rw [r2 0, if_pos rfl]
  have L4 : Lay (xsI g2 176 (3 + k) (nI v)) := L2
  have T4 := tdd.w (j := 3 + k) (v := nI v)
  refine b_Mo_shoeLine_43 ⟨L4.s 166, 176, L4.r 166 19 176, L4.x 176 (i := 0) (n := 81) (by omega), ⟨by decide, L4.x 176 (i := 0) (n := 81) (by omega)⟩, b_Mo_shoeLine_53 ?_⟩
  rw [show (0 : Int32).toNatClampNeg = 0 from rfl, T4 0 (by decide), uw_o (by omega), cn1, nI_1]
  refine fin _ ((GG.wI (Or.inr (Or.inl rfl))).wI (Or.inr (Or.inl rfl))) ((C2.wa (by decide)).wa (by decide)) T4.w ?_
  rw [xsI_ne _ _ _ (by decide), xsI_ne _ _ _ (by decide)]; exact e21'
theorem m_foot {n : Nat} (hn : 5 ≤ n) {h g : xh} {B : Nat → Nat} {len s : Nat} {F : Nat × Nat} {D : Nat → Int32} {far s1 : Nat} {F1 : Nat × Nat} (P : Pre h g B len 3 s F D far 18 0 s1 F1) {Q : Int32 → xh → Prop} (lq : LQ B len 3 s F D far h Q) : xci (xMC n) 240 [.ref 166] g Q := by
  obtain ⟨n, rfl⟩ := xsucc (show 1 ≤ n by omega)
  obtain ⟨⟨L, T, l6⟩, ⟨C, o, hs1, ss⟩, ⟨td, e21, f100, cn⟩, el, G, hq, _⟩ := P
  have el : lnR B len 3 s F D far = lnF B len 18 0 D far (nmR B len 18 (1 + 1) 0 s1 F1 (fun _ => 0)) := el
  refine w_Mo_footLine ⟨L.s 166, c_Mo_take (x := 0) (a := 1) (b := 20) (by omega) L T l6 hs1 C o rfl (by decide) (by decide) (by decide) (fun v _ => cb_p rfl rfl (by omega) (by omega) (by omega)) (fun g2 F2 v G2 v9 er C2 o2 s12 s2l r2 _ => ⟨fun z => absurd z (by decide), fun _ => ⟨(G2.1.lay L).s 166, ?_⟩⟩) (fun g2 F2 R2 G2 er e16 => ⟨fun _ => lq.fail el er (G.tr G2.n) e16 hs1, fun z => absurd rfl z⟩)⟩
  have L2 := G2.1.lay L
  refine c_Mo_take (x := 1) (a := 0) (b := 9) (by omega) L2 (G2.tp T) l6 s2l C2 o2 er (by decide) (by decide) (by decide) (fun v _ => cb_p rfl rfl (by omega) (by omega) (by omega)) (fun g3 F3 w G3 w9 er3 C3 o3 s23 s3l r3 _ => ⟨fun _ => ⟨(G3.1.lay L2).s 166, 176, (G3.1.lay L2).r 166 19 176, (G3.1.lay L2).x 176 (i := 1) (n := 81) (by omega), ?_⟩, fun z => absurd z (by decide)⟩) (fun g3 F3 R3 G3 er3 e16 => ⟨fun z => absurd rfl z, fun _ => lq.fail el er3 ((G.tr G2.n).tr G3.n) e16 s2l⟩)
  have L3 := G3.1.lay L2
  have tdd := (td.fm G2).fm G3
  have GG := (G.tr G2.n).tr G3.n
  have q0 : xI g3 177 0 = nI v := by rw [r3 0, if_neg (by decide), r2 0, if_pos rfl]
  have q1 : xI g3 177 1 = nI w := by rw [r3 1, if_pos rfl]
  have e21' : xI g3 166 21 = nI far - 1 := by rw [G3.2, G2.2]; exact e21
  obtain ⟨cn1, cn2⟩ : D 1 = nI (bN D 1) ∧ bN D 1 ≤ 8 := cn.2.1
  have et : tl 18 0 (vup (vup (fun _ => 0) 0 v) 1 w) D = (if bN D 1 < 8 then uw (uw (uw D (9 + bN D 1) (nI v)) (17 + bN D 1) (nI w)) 1 (nI (bN D 1 + 1)) else D) := by
    unfold tl tl3
    rw [if_neg (by decide), if_neg (by decide), if_neg (by decide), if_neg (by decide), if_pos rfl]; rfl
  have fin : ∀ g4, Fr Pn h g4 → MR g4 B len (nxt B len (nxt B len s1)) F3 → Td g4 (if bN D 1 < 8 then uw (uw (uw D (9 + bN D 1) (nI v)) (17 + bN D 1) (nI w)) 1 (nI (bN D 1 + 1)) else D) → xI g4 166 21 = nI far - 1 → Q 1 g4 := fun g4 G4 C4 T4 e4 => lq.1 g4 18 0 _ F3 _ (by rw [el, er3]; rfl) G4 C4 o3 s3l (by omega) (by rw [et]; exact T4) e4 hq f100
  generalize bN D 1 = k at cn1 cn2 fin
  rw [show (0 : Int32).toNatClampNeg = 0 from rfl, show (1 : Int32).toNatClampNeg = 1 from rfl, tdd 1 (by decide), cn1, show ((8 : Int32) ≤ nI k) = (8 ≤ k) from propext (nI_leI (a := 8) (by decide) (by omega)), show (9 : Int32) + nI k = nI (9 + k) from nI_add 9 _, nI_clamp (by omega)]
  refine ⟨fun z => b_Mo_footLine_85 (fin g3 GG C3 (by rw [if_neg (by omega)]; exact tdd) e21'), fun z => ⟨177, L3.r 166 20 177, L3.x 177 (i := 0) (n := 4) (by omega), ⟨by decide, L3.x 176 (n := 81) (by omega)⟩, ?_⟩⟩
  rw [if_pos (by omega)] at fin
  rw [q0]
  have L4 : Lay (xsI g3 176 (9 + k) (nI v)) := L3
  have T4 := tdd.w (j := 9 + k) (v := nI v)
  refine b_Mo_footLine_55 ⟨L4.s 166, 176, L4.r 166 19 176, L4.x 176 (i := 1) (n := 81) (by omega), 177, L4.r 166 20 177, L4.x 177 (i := 1) (n := 4) (by omega), ?_⟩
  rw [show (1 : Int32).toNatClampNeg = 1 from rfl, T4 1 (by decide), uw_o (by omega), cn1, xsI_ne g3 _ _ (show 177 ≠ 176 by decide), q1, show (17 : Int32) + nI k = nI (17 + k) from nI_add 17 _, nI_clamp (by omega)]
  have L5 : Lay (xsI (xsI g3 176 (9 + k) (nI v)) 176 (17 + k) (nI w)) := L3
  have T5 := T4.w (j := 17 + k) (v := nI w)
  refine ⟨⟨by decide, L4.x 176 (n := 81) (by omega)⟩, b_Mo_footLine_75 ⟨L5.s 166, 176, L5.r 166 19 176, L5.x 176 (i := 1) (n := 81) (by omega), ⟨by decide, L5.x 176 (i := 1) (n := 81) (by omega)⟩, b_Mo_footLine_85 ?_⟩⟩
  rw [show (1 : Int32).toNatClampNeg = 1 from rfl, T5 1 (by decide), uw_o (by omega), uw_o (by omega), cn1, nI_1]
  refine fin _ (((GG.wI (Or.inr (Or.inl rfl))).wI (Or.inr (Or.inl rfl))).wI (Or.inr (Or.inl rfl))) (((C3.wa (by decide)).wa (by decide)).wa (by decide)) T5.w ?_
  rw [xsI_ne _ _ _ (by decide), xsI_ne _ _ _ (by decide), xsI_ne _ _ _ (by decide)]; exact e21'
theorem m_hide {n : Nat} (hn : 5 ≤ n) {h g : xh} {B : Nat → Nat} {len s : Nat} {F : Nat × Nat} {D : Nat → Int32} {far s1 : Nat} {F1 : Nat × Nat} (P : Pre h g B len 3 s F D far 19 0 s1 F1) {Q : Int32 → xh → Prop} (lq : LQ B len 3 s F D far h Q) : xci (xMC n) 241 [.ref 166] g Q := by
  obtain ⟨n, rfl⟩ := xsucc (show 1 ≤ n by omega)
  obtain ⟨⟨L, T, l6⟩, ⟨C, o, hs1, ss⟩, ⟨td, e21, f100, cn⟩, el, G, hq, _⟩ := P
  have el : lnR B len 3 s F D far = lnF B len 19 0 D far (nmR B len 19 (2 + 1) 0 s1 F1 (fun _ => 0)) := el
  refine w_Mo_hideLine ⟨L.s 166, c_Mo_take (x := 0) (a := 0) (b := 9) (by omega) L T l6 hs1 C o rfl (by decide) (by decide) (by decide) (fun v _ => cb_p rfl rfl (by omega) (by omega) (by omega)) (fun g2 F2 v G2 v9 er C2 o2 s12 s2l r2 _ => ⟨fun z => absurd z (by decide), fun _ => ⟨(G2.1.lay L).s 166, ?_⟩⟩) (fun g2 F2 R2 G2 er e16 => ⟨fun _ => lq.fail el er (G.tr G2.n) e16 hs1, fun z => absurd rfl z⟩)⟩
  have L2 := G2.1.lay L
  refine c_Mo_take (x := 1) (a := 0) (b := 9) (by omega) L2 (G2.tp T) l6 s2l C2 o2 er (by decide) (by decide) (by decide) (fun v _ => cb_p rfl rfl (by omega) (by omega) (by omega)) (fun g3 F3 w G3 w9 er3 C3 o3 s23 s3l r3 _ => ⟨fun z => absurd z (by decide), fun _ => ⟨(G3.1.lay L2).s 166, ?_⟩⟩) (fun g3 F3 R3 G3 er3 e16 => ⟨fun _ => lq.fail el er3 ((G.tr G2.n).tr G3.n) e16 s2l, fun z => absurd rfl z⟩)
  have L3 := G3.1.lay L2
  refine c_Mo_take (x := 2) (a := 0) (b := 20) (by omega) L3 (G3.tp (G2.tp T)) l6 s3l C3 o3 er3 (by decide) (by decide) (by decide) (fun v _ => cb_p rfl rfl (by omega) (by omega) (by omega)) (fun g4 F4 u G4 u9 er4 C4 o4 s34 s4l r4 _ => ⟨fun _ => ⟨(G4.1.lay L3).s 166, 176, (G4.1.lay L3).r 166 19 176, (G4.1.lay L3).x 176 (i := 2) (n := 81) (by omega), ?_⟩, fun z => absurd z (by decide)⟩) (fun g4 F4 R4 G4 er4 e16 => ⟨fun z => absurd rfl z, fun _ => lq.fail el er4 (((G.tr G2.n).tr G3.n).tr G4.n) e16 s3l⟩)
  have L4 := G4.1.lay L3
  have tdd := ((td.fm G2).fm G3).fm G4
  have GG := ((G.tr G2.n).tr G3.n).tr G4.n
  have q0 : xI g4 177 0 = nI v := by rw [r4 0, if_neg (by decide), r3 0, if_neg (by decide), r2 0, if_pos rfl]
  have q1 : xI g4 177 1 = nI w := by rw [r4 1, if_neg (by decide), r3 1, if_pos rfl]
  have q2 : xI g4 177 2 = nI u := by rw [r4 2, if_pos rfl]
  have e21' : xI g4 166 21 = nI far - 1 := by rw [G4.2, G3.2, G2.2]; exact e21
  obtain ⟨cn1, cn2⟩ : D 2 = nI (bN D 2) ∧ bN D 2 ≤ 8 := cn.2.2
  have et : tl 19 0 (vup (vup (vup (fun _ => 0) 0 v) 1 w) 2 u) D = (if bN D 2 < 8 then uw (uw (uw (uw D (25 + bN D 2) (nI v)) (33 + bN D 2) (nI w)) (41 + bN D 2) (nI u)) 2 (nI (bN D 2 + 1)) else D) := by
    unfold tl tl3
    rw [if_neg (by decide), if_neg (by decide), if_neg (by decide), if_neg (by decide), if_neg (by decide)]; rfl
  have fin : ∀ g5, Fr Pn h g5 → MR g5 B len (nxt B len (nxt B len (nxt B len s1))) F4 → Td g5 (if bN D 2 < 8 then uw (uw (uw (uw D (25 + bN D 2) (nI v)) (33 + bN D 2) (nI w)) (41 + bN D 2) (nI u)) 2 (nI (bN D 2 + 1)) else D) → xI g5 166 21 = nI far - 1 → Q 1 g5 := fun g5 G5 C5 T5 e5 => lq.1 g5 19 0 _ F4 _ (by rw [el, er4]; rfl) G5 C5 o4 s4l (by omega) (by rw [et]; exact T5) e5 hq f100
  generalize bN D 2 = k at cn1 cn2 fin
  rw [show (0 : Int32).toNatClampNeg = 0 from rfl, show (2 : Int32).toNatClampNeg = 2 from rfl, tdd 2 (by decide), cn1, show ((8 : Int32) ≤ nI k) = (8 ≤ k) from propext (nI_leI (a := 8) (by decide) (by omega)), show (25 : Int32) + nI k = nI (25 + k) from nI_add 25 _, nI_clamp (by omega)]
  refine ⟨fun z => b_Mo_hideLine_116 (fin g4 GG C4 (by rw [if_neg (by omega)]; exact tdd) e21'), fun z => ⟨177, L4.r 166 20 177, L4.x 177 (i := 0) (n := 4) (by omega), ⟨by decide, L4.x 176 (n := 81) (by omega)⟩, ?_⟩⟩
  rw [if_pos (by omega)] at fin
  rw [q0]
  have L5 : Lay (xsI g4 176 (25 + k) (nI v)) := L4
  have T5 := tdd.w (j := 25 + k) (v := nI v)
  refine b_Mo_hideLine_66 ⟨L5.s 166, 176, L5.r 166 19 176, L5.x 176 (i := 2) (n := 81) (by omega), 177, L5.r 166 20 177, L5.x 177 (i := 1) (n := 4) (by omega), ?_⟩
  rw [show (2 : Int32).toNatClampNeg = 2 from rfl, show (1 : Int32).toNatClampNeg = 1 from rfl, T5 2 (by decide), uw_o (by omega), cn1, xsI_ne g4 _ _ (show 177 ≠ 176 by decide), q1, show (33 : Int32) + nI k = nI (33 + k) from nI_add 33 _, nI_clamp (by omega)]
  have L6 : Lay (xsI (xsI g4 176 (25 + k) (nI v)) 176 (33 + k) (nI w)) := L4
  have T6 := T5.w (j := 33 + k) (v := nI w)
  refine ⟨⟨by decide, L5.x 176 (n := 81) (by omega)⟩, b_Mo_hideLine_86 ⟨L6.s 166, 176, L6.r 166 19 176, L6.x 176 (i := 2) (n := 81) (by omega), 177, L6.r 166 20 177, L6.x 177 (i := 2) (n := 4) (by omega), ?_⟩⟩
  rw [show (2 : Int32).toNatClampNeg = 2 from rfl, T6 2 (by decide), uw_o (by omega), uw_o (by omega), cn1, xsI_ne _ _ _ (show 177 ≠ 176 by decide), xsI_ne g4 _ _ (show 177 ≠ 176 by decide), q2, show (41 : Int32) + nI k = nI (41 + k) from nI_add 41 _, nI_clamp (by omega)]
  have L7 : Lay (xsI (xsI (xsI g4 176 (25 + k) (nI v)) 176 (33 + k) (nI w)) 176 (41 + k) (nI u)) := L4
  have T7 := T6.w (j := 41 + k) (v := nI u)
  refine ⟨⟨by decide, L6.x 176 (n := 81) (by omega)⟩, b_Mo_hideLine_106 ⟨L7.s 166, 176, L7.r 166 19 176, L7.x 176 (i := 2) (n := 81) (by omega), ⟨by decide, L7.x 176 (i := 2) (n := 81) (by omega)⟩, b_Mo_hideLine_116 ?_⟩⟩
  rw [show (2 : Int32).toNatClampNeg = 2 from rfl, T7 2 (by decide), uw_o (by omega), uw_o (by omega), uw_o (by omega), cn1, nI_1]
  refine fin _ ((((GG.wI (Or.inr (Or.inl rfl))).wI (Or.inr (Or.inl rfl))).wI (Or.inr (Or.inl rfl))).wI (Or.inr (Or.inl rfl))) ((((C4.wa (by decide)).wa (by decide)).wa (by decide)).wa (by decide)) T7.w ?_
  rw [xsI_ne _ _ _ (by decide), xsI_ne _ _ _ (by decide), xsI_ne _ _ _ (by decide), xsI_ne _ _ _ (by decide)]; exact e21'
theorem m_asked {n : Nat} (hn : 5 ≤ n) {h g : xh} {B : Nat → Nat} {len s : Nat} {F : Nat × Nat} {D : Nat → Int32} {far th s1 : Nat} {F1 : Nat × Nat} (P : Pre h g B len 2 s F D far 16 th s1 F1) {Q : Int32 → xh → Prop} (lq : LQ B len 2 s F D far h Q) {o1 : Option Value} : xci (xMC n) 226 [.ref 166, .int (0 : Int32), .int (0 : Int32), .int (99 : Int32)] g (fun r1 h2 => ((¬ r1 = 0 → (xS h2 166 = (11, 0) ∧ (∃ a1, xR h2 166 19 = some a1 ∧ (xar h2 a1 20 (0 : Int32) ∧ (((xI h2 a1 (0 : Int32).toNatClampNeg) ≤ 0 → K_Mo_askedLine n Q 98 [some (.ref 166), (xlc o1), some (.int (nI th))] [] h2) ∧ (¬ (xI h2 a1 (0 : Int32).toNatClampNeg) ≤ 0 → (∃ a2, xR h2 166 20 = some a2 ∧ (xar h2 a2 20 (0 : Int32) ∧ ((64 ≤ a1 ∧ xar h2 a1 20 ((((1 : Int32) + ((5 : Int32) * ((xI h2 a1 (0 : Int32).toNatClampNeg) - (1 : Int32)))) + (2 : Int32)) + nI th)) ∧ K_Mo_askedLine n Q 98 [some (.ref 166), (xlc o1), some (.int (nI th))] [] (xsI h2 a1 ((((1 : Int32) + ((5 : Int32) * ((xI h2 a1 (0 : Int32).toNatClampNeg) - (1 : Int32)))) + (2 : Int32)) + nI th).toNatClampNeg (xI h2 a2 (0 : Int32).toNatClampNeg))))))))))) ∧ (r1 = 0 → (Q (0 : Int32) h2)))) := by
  obtain ⟨⟨L, T, l6⟩, ⟨C, o, hs1, ss⟩, ⟨td, e21, f100, cn⟩, el, G, hq, th3⟩ := P
  have el : lnR B len 2 s F D far = lnF B len 16 th D far (nmR B len 16 (0 + 1) 0 s1 F1 (fun _ => 0)) := el
  refine c_Mo_take (x := 0) (a := 0) (b := 99) (by omega) L T l6 hs1 C o rfl (by decide) (by decide) (by decide) (fun v _ => cb_p rfl rfl (by omega) (by omega) (by omega)) (fun g2 F2 v G2 v9 er C2 o2 s12 s2l r2 _ => ⟨fun _ => ⟨(G2.1.lay L).s 166, 176, (G2.1.lay L).r 166 19 176, (G2.1.lay L).x 176 (i := 0) (n := 81) (by omega), ?_⟩, fun z => absurd z (by decide)⟩) (fun g2 F2 R2 G2 er e16 => ⟨fun z => absurd rfl z, fun _ => lq.fail el er (G.tr G2.n) e16 hs1⟩)
  have L2 := G2.1.lay L
  have tdd := td.fm G2
  have GG := G.tr G2.n
  have e21' : xI g2 166 21 = nI far - 1 := by rw [G2.2]; exact e21
  obtain ⟨cn1, cn2⟩ : D 0 = nI (bN D 0) ∧ bN D 0 ≤ 10 := cn
  have et : tl 16 th (vup (fun _ => 0) 0 v) D = (if 0 < bN D 0 then uw D (3 + 5 * (bN D 0 - 1) + th) (nI v) else D) := by
    unfold tl tl2
    rw [if_neg (by decide), if_neg (by decide), if_pos (by decide), if_neg (by decide)]; rfl
  have fin : ∀ g4, Fr Pn h g4 → MR g4 B len (nxt B len s1) F2 → Td g4 (if 0 < bN D 0 then uw D (3 + 5 * (bN D 0 - 1) + th) (nI v) else D) → xI g4 166 21 = nI far - 1 → Q 1 g4 := fun g4 G4 C4 T4 e4 => lq.1 g4 16 th _ F2 _ (by rw [el, er]; rfl) G4 C4 o2 s2l (by omega) (by rw [et]; exact T4) e4 hq f100
  generalize bN D 0 = k at cn1 cn2 fin
  rw [show (0 : Int32).toNatClampNeg = 0 from rfl, tdd 0 (by decide), cn1]
  refine ⟨fun z => b_Mo_askedLine_98 (fin g2 GG C2 ?_ e21'), fun z => ?_⟩
  · rw [if_neg (fun y => nI_nle y (by omega) z)]; exact tdd
  · have k0 : 0 < k := Nat.pos_of_ne_zero (fun y => z (by rw [y]; decide))
    rw [if_pos k0] at fin
    rw [show nI k - (1 : Int32) = nI (k - 1) from pk_sub (b := 1) (by omega), show (5 : Int32) * nI (k - 1) = nI (5 * (k - 1)) from pk_mul 5 _, show (1 : Int32) + nI (5 * (k - 1)) = nI (1 + 5 * (k - 1)) from nI_add 1 _, show nI (1 + 5 * (k - 1)) + (2 : Int32) = nI (1 + 5 * (k - 1) + 2) from nI_add _ 2, nI_add, show 1 + 5 * (k - 1) + 2 + th = 3 + 5 * (k - 1) + th by omega, nI_clamp (by omega)]
    refine ⟨177, L2.r 166 20 177, L2.x 177 (i := 0) (n := 4) (by omega), ⟨by decide, L2.x 176 (n := 81) (by omega)⟩, b_Mo_askedLine_98 ?_⟩
    rw [r2 0, if_pos rfl]
    refine fin _ (GG.wI (Or.inr (Or.inl rfl))) (C2.wa (by decide)) tdd.w ?_
    rw [xsI_ne _ _ _ (by decide)]; exact e21'
