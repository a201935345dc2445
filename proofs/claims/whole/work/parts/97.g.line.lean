/-! LINES in the class -/
def TO (h : xh) (far : Nat) : Prop := ∃ Z, Z < 512 ∧ xI h 117 8 = nI Z ∧ (∀ k, Z.testBit k = true → k < far) ∧ (far ≠ 0 → Z.testBit (far - 1) = true)
theorem TO.up {h : xh} {far a b : Nat} (t : TO h far) (ha : a ≤ 8) (hb : b ≤ 8) {g : xh} (e : xI g 117 8 = xI h 117 8 ||| (nI (2 ^ a) ||| nI (2 ^ b))) : TO g (max far (max a b + 1)) := by
  obtain ⟨Z, h1, h2, h3, h4⟩ := t
  refine ⟨Z ||| (2 ^ a ||| 2 ^ b), ?_, ?_, fun k hk => ?_, fun z => ?_⟩
  · exact or_lt (k := 9) h1 (or_lt (k := 9) (Nat.pow_lt_pow_right (by decide) (by omega)) (Nat.pow_lt_pow_right (by decide) (by omega)))
  · rw [e, h2, nI_or, nI_or]
  · rw [Nat.testBit_or, Nat.testBit_or, Nat.testBit_two_pow, Nat.testBit_two_pow, Bool.or_eq_true, Bool.or_eq_true, decide_eq_true_eq, decide_eq_true_eq] at hk
    rcases hk with w | w | w
    · have := h3 k w; omega
    · omega
    · omega
  · rw [Nat.testBit_or, Nat.testBit_or, Nat.testBit_two_pow, Nat.testBit_two_pow, Bool.or_eq_true, Bool.or_eq_true, decide_eq_true_eq, decide_eq_true_eq]
    by_cases c : far ≤ max a b + 1
    · rw [show max far (max a b + 1) - 1 = max a b by omega]
      right
      omega
    · left
      rw [show max far (max a b + 1) = far by omega]
      exact h4 (by omega)
theorem c_Reader_tellOfTown {n : Nat} (hn : 2 ≤ n) {h : xh} (L : Lay h) (Z : Sf h) {c : Nat} (h4 : 4 ≤ c) (h10 : c < 10) {R : Nat → Nat} (hR : ∀ i, i < tb 1 c → xI h 118 i = nI (R i)) {f0 : Prop} {D : Nat → Int32} {far : Nat} (d : f0 → DR 0 h D ∧ (c = 4 → good4 R ∧ TO h far)) {Q : xh → Prop} (hQ : ∀ g, Fq h g → Sf g → (∀ x, 126 < x → xI g x = xI h x) → (f0 → DR 0 g (tl0 c R D) ∧ (c = 4 → TO g (frU 4 R far))) → (c ≠ 4 → xI g 117 8 = xI h 117 8) → Q g) : xcv (xMC n) 143 [.ref 117, .int (nI c)] h Q := by
  obtain ⟨n, rfl⟩ := xsucc (show 1 ≤ n by omega)
  have ce : ∀ k : Nat, k < 20 → (nI c = nI k) = (c = k) := fun k hk => propext (nI_eq (by omega) (by omega))
  have sf : ∀ g, (∀ i, i ≠ 0 → i ≠ 1 → i ≠ 2 → i ≠ 3 → i ≠ 4 → i ≠ 5 → xI g 119 i = xI h 119 i) → (∀ x, 126 < x → xI g x = xI h x) → Sf g := fun g g1 g2 => by
    unfold Sf
    rw [g1 6 (by decide) (by decide) (by decide) (by decide) (by decide) (by decide), g2 127 (by decide), g2 130 (by decide), g2 134 (by decide)]
    exact Z
  have one : ∀ j, (c = 6 ∧ j = 2) ∨ (c = 7 ∧ j = 3) ∨ (c = 8 ∧ j = 4) ∨ (c = 9 ∧ j = 5) → Q (xsI h 119 j (nI (R 0))) := fun j hj => by
    have et : tl0 c R D = uw D j (nI (R 0)) := by
      unfold tl0
      rw [if_neg (by omega), if_neg (by omega), if_neg (by omega)]
      rcases hj with ⟨e1, e2⟩ | ⟨e1, e2⟩ | ⟨e1, e2⟩ | ⟨e1, e2⟩ <;> subst e1 <;> subst e2 <;> rfl
    refine hQ _ Fq.rf.w (sf _ (fun i a0 a1 a2 a3 a4 a5 => by rw [upI_o _ _ _ _ (by omega)]) (fun x hx => by rw [xsI_ne _ _ _ (by omega)])) (fun x hx => by rw [xsI_ne _ _ _ (by omega)]) (fun f => ⟨?_, fun z => by omega⟩) (fun _ => by rw [xsI_ne _ _ _ (by decide)])
    rw [et]
    obtain ⟨d1, d2⟩ := (d f).1
    have b6 : bN (uw D j (nI (R 0))) 6 = bN D 6 := by unfold bN; rw [uw_o (by omega)]
    refine ⟨fun i hi => ?_, fun a s ha hs hb => ?_⟩
    · rw [upI]
      unfold uw
      by_cases e : i = j
      · rw [if_pos e, if_pos e]
      · rw [if_neg e, if_neg e]; exact d1 i hi
    · rw [b6] at hb
      rw [xsI_ne _ _ _ (by omega), uw_o (by omega)]
      exact d2 a s ha hs hb
  have h118 : 0 < tb 1 c := by
    have := (by decide : ∀ c, c < 10 → 0 < tb 1 c) c h10
    exact this
  refine w_Reader_tellOfTown ?_
  rw [show (nI c = (4 : Int32)) = (c = 4) from ce 4 (by decide), show (nI c = (5 : Int32)) = (c = 5) from ce 5 (by decide), show (nI c = (6 : Int32)) = (c = 6) from ce 6 (by decide), show (nI c = (7 : Int32)) = (c = 7) from ce 7 (by decide), show (nI c = (8 : Int32)) = (c = 8) from ce 8 (by decide), show (0 : Int32).toNatClampNeg = 0 from rfl, show (1 : Int32).toNatClampNeg = 1 from rfl]
  refine ⟨fun c4 => ⟨L.s 117, 118, L.r 117 6 118, L.x 118 (i := 0) (n := 4) (by omega), L.x 118 (i := 1) (n := 4) (by omega), ⟨by decide, L.s 117⟩, ?_⟩, fun c4 => ⟨fun c5 => ⟨L.s 117, 119, L.r 117 11 119, 118, L.r 117 6 118, L.x 118 (i := 0) (n := 4) (by omega), ⟨by decide, L.s 119⟩, ?_⟩, fun c5 => ⟨fun c6 => ⟨L.s 117, 119, L.r 117 11 119, 118, L.r 117 6 118, L.x 118 (i := 0) (n := 4) (by omega), ⟨by decide, L.s 119⟩, ?_⟩, fun c6 => ⟨fun c7 => ⟨L.s 117, 119, L.r 117 11 119, 118, L.r 117 6 118, L.x 118 (i := 0) (n := 4) (by omega), ⟨by decide, L.s 119⟩, ?_⟩, fun c7 => ⟨fun c8 => ⟨L.s 117, 119, L.r 117 11 119, 118, L.r 117 6 118, L.x 118 (i := 0) (n := 4) (by omega), ⟨by decide, L.s 119⟩, ?_⟩, fun c8 => ⟨L.s 117, 119, L.r 117 11 119, 118, L.r 117 6 118, L.x 118 (i := 0) (n := 4) (by omega), ⟨by decide, L.s 119⟩, ?_⟩⟩⟩⟩⟩⟩
  · subst c4
    have t4 : tb 1 4 = 3 := rfl
    rw [hR 0 (by omega), hR 1 (by omega)]
    generalize hw : xI h 117 8 ||| (((1 : Int32) <<< (nI (R 0) &&& 31)) ||| ((1 : Int32) <<< (nI (R 1) &&& 31))) = w
    have F1 : Fq h (xsI h 117 8 w) := Fq.rf.w8
    have L1 : Lay (xsI h 117 8 w) := L
    have e118 : xI (xsI h 117 8 w) 118 = xI h 118 := by rw [xsI_ne _ _ _ (by decide)]
    refine b_Reader_tellOfTown_62 ⟨L1.s 117, 119, L1.r 117 11 119, 118, L1.r 117 6 118, L1.x 118 (i := 0) (n := 4) (by omega), L1.x 118 (i := 1) (n := 4) (by omega), L1.x 118 (i := 2) (n := 4) (by omega), L1.s 119, ?_⟩
    rw [show (0 : Int32).toNatClampNeg = 0 from rfl, show (1 : Int32).toNatClampNeg = 1 from rfl, show (2 : Int32).toNatClampNeg = 2 from rfl, e118, hR 0 (by omega), hR 1 (by omega), hR 2 (by omega)]
    refine c_Town_setFollow (by omega) L1 (fun k hk ek => ?_) (fun nk => ?_)
    · refine hQ _ F1.w.w (sf _ (fun i _ _ _ _ _ _ => by rw [xsI_ne _ _ _ (by decide), xsI_ne _ _ _ (by decide), xsI_ne _ _ _ (by decide)]) (fun x hx => by rw [xsI_ne _ _ _ (by omega), xsI_ne _ _ _ (by omega), xsI_ne _ _ _ (by omega)])) (fun x hx => by rw [xsI_ne _ _ _ (by omega), xsI_ne _ _ _ (by omega), xsI_ne _ _ _ (by omega)]) (fun f => ?_) (fun z => absurd rfl z)
      obtain ⟨⟨d1, d2⟩, dt⟩ := d f
      obtain ⟨g, to⟩ := dt rfl
      have g' := g
      obtain ⟨g0, ⟨g1, _⟩, g2⟩ := g'
      have ek' : R 0 = k := (nI_eq (by omega) (by omega)).mp ek
      subst ek'
      have et : tl0 4 R D = uw (uw D (52 + R 0) (nI (R 2))) (61 + R 0) (nI (R 1)) := by
        unfold tl0
        rw [if_neg (by decide), if_pos rfl, if_pos g]
      rw [et]
      have b6 : bN (uw (uw D (52 + R 0) (nI (R 2))) (61 + R 0) (nI (R 1))) 6 = bN D 6 := by unfold bN; rw [uw_o (by omega), uw_o (by omega)]
      refine ⟨⟨fun i hi => ?_, fun a s ha hs hb => ?_⟩, fun _ => ?_⟩
      · rw [xsI_ne _ _ _ (by decide), xsI_ne _ _ _ (by decide), xsI_ne _ _ _ (by decide), uw_o (by omega), uw_o (by omega)]; exact d1 i hi
      · rw [b6] at hb
        by_cases a5 : a = 5
        · subst a5
          show xI (xsI (xsI (xsI h 117 8 w) 126 (R 0) (nI (R 1))) 125 (R 0) (nI (R 2))) 125 s = _
          rw [upI, xsI_ne _ _ _ (show 125 ≠ 126 by decide), xsI_ne _ _ _ (show 125 ≠ 117 by decide), uw_o (by omega)]
          by_cases es : s = R 0
          · rw [if_pos es, es]; exact (uw_s _ _ _).symm
          · rw [if_neg es, uw_o (by omega)]; exact d2 5 s ha hs hb
        · by_cases a6 : a = 6
          · subst a6
            show xI (xsI (xsI (xsI h 117 8 w) 126 (R 0) (nI (R 1))) 125 (R 0) (nI (R 2))) 126 s = _
            rw [xsI_ne _ _ _ (show 126 ≠ 125 by decide), upI, xsI_ne _ _ _ (show 126 ≠ 117 by decide)]
            by_cases es : s = R 0
            · rw [if_pos es, es]; exact (uw_s _ _ _).symm
            · rw [if_neg es, uw_o (by omega), uw_o (by omega)]; exact d2 6 s ha hs hb
          · rw [xsI_ne _ _ _ (by omega), xsI_ne _ _ _ (by omega), xsI_ne _ _ _ (by omega), uw_o (by omega), uw_o (by omega)]
            exact d2 a s ha hs hb
      · refine to.up (a := R 0) (b := R 1) g0 g1 ?_
        rw [xsI_ne _ _ _ (by decide), xsI_ne _ _ _ (by decide), upI_s, ← hw, bt_shl _ (by omega), bt_shl _ (by omega)]
    · refine hQ _ F1 (sf _ (fun i _ _ _ _ _ _ => by rw [xsI_ne _ _ _ (by decide)]) (fun x hx => by rw [xsI_ne _ _ _ (by omega)])) (fun x hx => by rw [xsI_ne _ _ _ (by omega)]) (fun f => ?_) (fun z => absurd rfl z)
      obtain ⟨_, dt⟩ := d f
      obtain ⟨g, to⟩ := dt rfl
      exact absurd rfl (nk (R 0) (by have := g.1; omega))
  · subst c5
    have t5 : tb 1 5 = 2 := rfl
    rw [hR 0 (by omega)]
    have L1 : Lay (xsI h 119 0 (nI (R 0))) := L
    refine b_Reader_tellOfTown_103 ⟨L1.s 117, 119, L1.r 117 11 119, 118, L1.r 117 6 118, L1.x 118 (i := 1) (n := 4) (by omega), ⟨by decide, L1.s 119⟩, ?_⟩
    rw [show (1 : Int32).toNatClampNeg = 1 from rfl, xsI_ne h 0 (nI (R 0)) (show 118 ≠ 119 by decide), hR 1 (by omega)]
    refine hQ _ Fq.rf.w.w (sf _ (fun i a0 a1 a2 a3 a4 a5 => by rw [upI_o _ _ _ _ a1, upI_o _ _ _ _ a0]) (fun x hx => by rw [xsI_ne _ _ _ (by omega), xsI_ne _ _ _ (by omega)])) (fun x hx => by rw [xsI_ne _ _ _ (by omega), xsI_ne _ _ _ (by omega)]) (fun f => ⟨?_, fun z => by omega⟩) (fun _ => by rw [xsI_ne _ _ _ (by decide), xsI_ne _ _ _ (by decide)])
    obtain ⟨d1, d2⟩ := (d f).1
    have et : tl0 5 R D = uw (uw D 0 (nI (R 0))) 1 (nI (R 1)) := rfl
    rw [et]
    have b6 : bN (uw (uw D 0 (nI (R 0))) 1 (nI (R 1))) 6 = bN D 6 := by unfold bN; rw [uw_o (by omega), uw_o (by omega)]
    refine ⟨fun i hi => ?_, fun a s ha hs hb => ?_⟩
    · rw [upI, upI]
      unfold uw
      by_cases e : i = 1
      · rw [if_pos e, if_pos e]
      · rw [if_neg e, if_neg e]
        by_cases e0 : i = 0
        · rw [if_pos e0, if_pos e0]
        · rw [if_neg e0, if_neg e0]; exact d1 i hi
    · rw [b6] at hb
      rw [xsI_ne _ _ _ (by omega), xsI_ne _ _ _ (by omega), uw_o (by omega), uw_o (by omega)]
      exact d2 a s ha hs hb
  · rw [hR 0 h118]; exact one 2 (by omega)
  · rw [hR 0 h118]; exact one 3 (by omega)
  · rw [hR 0 h118]; exact one 4 (by omega)
  · rw [hR 0 h118]; exact one 5 (by omega)
theorem tell_19 {n : Nat} (hn : 2 ≤ n) {h : xh} (L : Lay h) (Z : Sf h) {q c : Nat} (hc : cq q c) {R : Nat → Nat} (hR : ∀ i, i < tb 1 c → xI h 118 i = nI (R i)) (hR0 : tb 1 c = 0 → xI h 118 0 = -1) {th : Nat} (ht : c = 16 → xI h 117 7 = nI th ∧ th < 3) {f0 : Prop} {D : Nat → Int32} {far : Nat} (d : f0 → DR q h D ∧ pOK q D far ∧ (c = 4 → good4 R ∧ TO h far) ∧ fuB c D = false) {Q : xh → Prop} (hQ : ∀ g, Fq h g → Sf g → (f0 → DR q g (tl c th R D) ∧ (c = 4 → TO g (frU 4 R far))) → (c ≠ 4 → xI g 117 8 = xI h 117 8) → (q ≠ 0 → xI g 119 = xI h 119) → Q g) (c19 : c = 19) : xcv (xMC n) 32 [.ref 134, .int (xI h 118 0), .int (xI h 118 1), .int (xI h 118 2)] h Q := by
  have c20 := hc.b
  have q4 : q < 4 := by unfold cq at hc; omega
  have tbs : (∀ c, c < 4 → tb 1 c = 4) ∧ (tb 1 10 = 1 ∧ tb 1 11 = 1 ∧ tb 1 12 = 1 ∧ tb 1 13 = 0 ∧ tb 1 14 = 0) := by decide
  obtain ⟨⟨z0, y0, e0⟩, ⟨z1, y1, e1⟩, ⟨z2, y2, e2⟩, ⟨z3, y3, e3⟩, ⟨z4, y4, e4⟩, ⟨z5, y5, e5⟩⟩ := Z
  subst c19
  have q3 : q = 3 := by unfold cq at hc; omega
  subst q3
  have t19 : tb 1 19 = 3 := rfl
  rw [hR 0 (by omega), hR 1 (by omega), hR 2 (by omega)]
  refine c_Sheet_addHide (by omega) L y5 e5 (fun lt => hQ _ Fq.rf.w.w.w.w ?_ (fun f => ⟨?_, fun z => by omega⟩) (fun _ => by rw [xsI_ne _ _ _ (by decide), xsI_ne _ _ _ (by decide), xsI_ne _ _ _ (by decide), xsI_ne _ _ _ (by decide)]) (fun _ => by rw [xsI_ne _ _ _ (by decide), xsI_ne _ _ _ (by decide), xsI_ne _ _ _ (by decide), xsI_ne _ _ _ (by decide)])) (fun eq => hQ h Fq.rf ⟨⟨z0, y0, e0⟩, ⟨z1, y1, e1⟩, ⟨z2, y2, e2⟩, ⟨z3, y3, e3⟩, ⟨z4, y4, e4⟩, ⟨z5, y5, e5⟩⟩ (fun f => ?_) (fun _ => rfl) (fun _ => rfl))
  · refine ⟨⟨z0, y0, ?_⟩, ⟨z1, y1, ?_⟩, ⟨z2, y2, ?_⟩, ⟨z3, y3, ?_⟩, ⟨z4, y4, ?_⟩, ⟨z5 + 1, by omega, upI_s _ _ _ _⟩⟩ <;> first | (rw [upI_o _ _ _ _ (by decide), xsI_ne _ _ _ (by decide), xsI_ne _ _ _ (by decide), xsI_ne _ _ _ (by decide)]; assumption) | (rw [xsI_ne _ _ _ (by decide), xsI_ne _ _ _ (by decide), xsI_ne _ _ _ (by decide), xsI_ne _ _ _ (by decide)]; assumption)
  · obtain ⟨⟨d1, d2, d3, d4⟩, po, _, _⟩ := d f
    have cn := po.c q4
    have eb : bN D 2 = z5 := by
      have := d1 2 (by omega)
      exact bN_nI (this.symm.trans e5) (by omega)
    have et : tl 19 th R D = uw (uw (uw (uw D (25 + z5) (nI (R 0))) (33 + z5) (nI (R 1))) (41 + z5) (nI (R 2))) 2 (nI (z5 + 1)) := by
      unfold tl tl3
      rw [if_neg (by decide), if_neg (by decide), if_neg (by decide), if_neg (by decide), if_neg (by decide), eb, if_pos lt]
    rw [et]
    have b0 : bN (uw (uw (uw (uw D (25 + z5) (nI (R 0))) (33 + z5) (nI (R 1))) (41 + z5) (nI (R 2))) 2 (nI (z5 + 1))) 0 = bN D 0 := by unfold bN; rw [uw_o (by omega), uw_o (by omega), uw_o (by omega), uw_o (by omega)]
    have b1 : bN (uw (uw (uw (uw D (25 + z5) (nI (R 0))) (33 + z5) (nI (R 1))) (41 + z5) (nI (R 2))) 2 (nI (z5 + 1))) 1 = bN D 1 := by unfold bN; rw [uw_o (by omega), uw_o (by omega), uw_o (by omega), uw_o (by omega)]
    have b2 : bN (uw (uw (uw (uw D (25 + z5) (nI (R 0))) (33 + z5) (nI (R 1))) (41 + z5) (nI (R 2))) 2 (nI (z5 + 1))) 2 = z5 + 1 := bN_nI (uw_s _ _ _) (by omega)
    have cb := cn.2.2.2
    have ca := cn.2.1.2
    have c0' := cn.1.2
    refine ⟨fun i hi => ?_, fun k hk => ?_, fun k hk => ?_, fun k hk => ?_⟩
    · by_cases e : i = 2
      · subst e; rw [upI_s, uw_s]
      · rw [upI_o _ _ _ _ e, xsI_ne _ _ _ (by decide), xsI_ne _ _ _ (by decide), xsI_ne _ _ _ (by decide), uw_o e, uw_o (by omega), uw_o (by omega), uw_o (by omega)]; exact d1 i hi
    · rw [b0] at hk
      rw [xsI_ne _ _ _ (by decide), xsI_ne _ _ _ (by decide), xsI_ne _ _ _ (by decide), xsI_ne _ _ _ (by decide), uw_o (by omega), uw_o (by omega), uw_o (by omega), uw_o (by omega)]; exact d2 k hk
    · rw [b1] at hk
      rw [xsI_ne _ _ _ (by decide), xsI_ne _ _ _ (by decide), xsI_ne _ _ _ (by decide), xsI_ne _ _ _ (by decide), xsI_ne _ _ _ (by decide), xsI_ne _ _ _ (by decide), xsI_ne _ _ _ (by decide), xsI_ne _ _ _ (by decide), uw_o (by omega), uw_o (by omega), uw_o (by omega), uw_o (by omega), uw_o (by omega), uw_o (by omega), uw_o (by omega), uw_o (by omega)]; exact d3 k hk
    · rw [b2] at hk
      rw [xsI_ne _ _ _ (show 138 ≠ 134 by decide), xsI_ne _ _ _ (show 138 ≠ 140 by decide), xsI_ne _ _ _ (show 138 ≠ 139 by decide), xsI_ne _ _ _ (show 139 ≠ 134 by decide), xsI_ne _ _ _ (show 139 ≠ 140 by decide), xsI_ne _ _ _ (show 140 ≠ 134 by decide), upI, upI, upI, xsI_ne _ _ _ (show 139 ≠ 138 by decide), xsI_ne _ _ _ (show 140 ≠ 139 by decide), xsI_ne _ _ _ (show 140 ≠ 138 by decide)]
      by_cases e : k = z5
      · rw [if_pos e, if_pos e, if_pos e, e, uw_o (by omega), uw_o (by omega), uw_o (by omega), uw_s, uw_o (by omega), uw_o (by omega), uw_s, uw_o (by omega), uw_s]
        exact ⟨rfl, rfl, rfl⟩
      · rw [if_neg e, if_neg e, if_neg e, uw_o (by omega), uw_o (by omega), uw_o (by omega), uw_o (by omega), uw_o (by omega), uw_o (by omega), uw_o (by omega), uw_o (by omega), uw_o (by omega), uw_o (by omega), uw_o (by omega), uw_o (by omega)]
        exact d4 k (by omega)
  · obtain ⟨dd, _, _, fb⟩ := d f
    have : D 2 = 8 := by rw [← dd.c3.2.2, e5, eq]; rfl
    have ed : fuB 19 D = decide (D 2 = 8) := rfl
    rw [ed, this] at fb
    exact absurd fb (by decide)
theorem tell_18 {n : Nat} (hn : 2 ≤ n) {h : xh} (L : Lay h) (Z : Sf h) {q c : Nat} (hc : cq q c) {R : Nat → Nat} (hR : ∀ i, i < tb 1 c → xI h 118 i = nI (R i)) (hR0 : tb 1 c = 0 → xI h 118 0 = -1) {th : Nat} (ht : c = 16 → xI h 117 7 = nI th ∧ th < 3) {f0 : Prop} {D : Nat → Int32} {far : Nat} (d : f0 → DR q h D ∧ pOK q D far ∧ (c = 4 → good4 R ∧ TO h far) ∧ fuB c D = false) {Q : xh → Prop} (hQ : ∀ g, Fq h g → Sf g → (f0 → DR q g (tl c th R D) ∧ (c = 4 → TO g (frU 4 R far))) → (c ≠ 4 → xI g 117 8 = xI h 117 8) → (q ≠ 0 → xI g 119 = xI h 119) → Q g) (n18 : c = 18) : xcv (xMC n) 31 [.ref 134, .int (xI h 118 0), .int (xI h 118 1)] h Q := by
  have c20 := hc.b
  have q4 : q < 4 := by unfold cq at hc; omega
  have tbs : (∀ c, c < 4 → tb 1 c = 4) ∧ (tb 1 10 = 1 ∧ tb 1 11 = 1 ∧ tb 1 12 = 1 ∧ tb 1 13 = 0 ∧ tb 1 14 = 0) := by decide
  obtain ⟨⟨z0, y0, e0⟩, ⟨z1, y1, e1⟩, ⟨z2, y2, e2⟩, ⟨z3, y3, e3⟩, ⟨z4, y4, e4⟩, ⟨z5, y5, e5⟩⟩ := Z
  subst n18
  have q3 : q = 3 := by unfold cq at hc; omega
  subst q3
  have t18 : tb 1 18 = 2 := rfl
  rw [hR 0 (by omega), hR 1 (by omega)]
  refine c_Sheet_addFoot (by omega) L y4 e4 (fun lt => hQ _ Fq.rf.w.w.w ?_ (fun f => ⟨?_, fun z => by omega⟩) (fun _ => by rw [xsI_ne _ _ _ (by decide), xsI_ne _ _ _ (by decide), xsI_ne _ _ _ (by decide)]) (fun _ => by rw [xsI_ne _ _ _ (by decide), xsI_ne _ _ _ (by decide), xsI_ne _ _ _ (by decide)])) (fun eq => hQ h Fq.rf ⟨⟨z0, y0, e0⟩, ⟨z1, y1, e1⟩, ⟨z2, y2, e2⟩, ⟨z3, y3, e3⟩, ⟨z4, y4, e4⟩, ⟨z5, y5, e5⟩⟩ (fun f => ?_) (fun _ => rfl) (fun _ => rfl))
  · refine ⟨⟨z0, y0, ?_⟩, ⟨z1, y1, ?_⟩, ⟨z2, y2, ?_⟩, ⟨z3, y3, ?_⟩, ⟨z4 + 1, by omega, upI_s _ _ _ _⟩, ⟨z5, y5, ?_⟩⟩ <;> first | (rw [upI_o _ _ _ _ (by decide), xsI_ne _ _ _ (by decide), xsI_ne _ _ _ (by decide)]; assumption) | (rw [xsI_ne _ _ _ (by decide), xsI_ne _ _ _ (by decide), xsI_ne _ _ _ (by decide)]; assumption)
  · obtain ⟨⟨d1, d2, d3, d4⟩, po, _, _⟩ := d f
    have cn := po.c q4
    have eb : bN D 1 = z4 := by
      have := d1 1 (by omega)
      exact bN_nI (this.symm.trans e4) (by omega)
    have et : tl 18 th R D = uw (uw (uw D (9 + z4) (nI (R 0))) (17 + z4) (nI (R 1))) 1 (nI (z4 + 1)) := by
      unfold tl tl3
      rw [if_neg (by decide), if_neg (by decide), if_neg (by decide), if_neg (by decide), if_pos rfl, eb, if_pos lt]
    rw [et]
    have b0 : bN (uw (uw (uw D (9 + z4) (nI (R 0))) (17 + z4) (nI (R 1))) 1 (nI (z4 + 1))) 0 = bN D 0 := by unfold bN; rw [uw_o (by omega), uw_o (by omega), uw_o (by omega)]
    have b2 : bN (uw (uw (uw D (9 + z4) (nI (R 0))) (17 + z4) (nI (R 1))) 1 (nI (z4 + 1))) 2 = bN D 2 := by unfold bN; rw [uw_o (by omega), uw_o (by omega), uw_o (by omega)]
    have b1 : bN (uw (uw (uw D (9 + z4) (nI (R 0))) (17 + z4) (nI (R 1))) 1 (nI (z4 + 1))) 1 = z4 + 1 := bN_nI (uw_s _ _ _) (by omega)
    have cb := cn.2.2.2
    have ca := cn.2.1.2
    have c0' := cn.1.2
    refine ⟨fun i hi => ?_, fun k hk => ?_, fun k hk => ?_, fun k hk => ?_⟩
    · by_cases e : i = 1
      · subst e; rw [upI_s, uw_s]
      · rw [upI_o _ _ _ _ e, xsI_ne _ _ _ (by decide), xsI_ne _ _ _ (by decide), uw_o e, uw_o (by omega), uw_o (by omega)]; exact d1 i hi
    · rw [b0] at hk
      rw [xsI_ne _ _ _ (by decide), xsI_ne _ _ _ (by decide), xsI_ne _ _ _ (by decide), uw_o (by omega), uw_o (by omega), uw_o (by omega)]; exact d2 k hk
    · rw [b1] at hk
      rw [xsI_ne _ _ _ (show 136 ≠ 134 by decide), xsI_ne _ _ _ (show 136 ≠ 137 by decide), xsI_ne _ _ _ (show 137 ≠ 134 by decide), upI, upI, xsI_ne _ _ _ (show 137 ≠ 136 by decide)]
      by_cases e : k = z4
      · rw [if_pos e, if_pos e, e, uw_o (by omega), uw_o (by omega), uw_s, uw_o (by omega), uw_s]
        exact ⟨rfl, rfl⟩
      · rw [if_neg e, if_neg e, uw_o (by omega), uw_o (by omega), uw_o (by omega), uw_o (by omega), uw_o (by omega), uw_o (by omega)]
        exact d3 k (by omega)
    · rw [b2] at hk
      rw [xsI_ne _ _ _ (show 138 ≠ 134 by decide), xsI_ne _ _ _ (show 138 ≠ 137 by decide), xsI_ne _ _ _ (show 138 ≠ 136 by decide), xsI_ne _ _ _ (show 139 ≠ 134 by decide), xsI_ne _ _ _ (show 139 ≠ 137 by decide), xsI_ne _ _ _ (show 139 ≠ 136 by decide), xsI_ne _ _ _ (show 140 ≠ 134 by decide), xsI_ne _ _ _ (show 140 ≠ 137 by decide), xsI_ne _ _ _ (show 140 ≠ 136 by decide), uw_o (by omega), uw_o (by omega), uw_o (by omega), uw_o (by omega), uw_o (by omega), uw_o (by omega), uw_o (by omega), uw_o (by omega), uw_o (by omega)]; exact d4 k hk
  · obtain ⟨dd, _, _, fb⟩ := d f
    have : D 1 = 8 := by rw [← dd.c3.2.1, e4, eq]; rfl
    have ed : fuB 18 D = decide (D 1 = 8) := rfl
    rw [ed, this] at fb
    exact absurd fb (by decide)
theorem tell_17 {n : Nat} (hn : 2 ≤ n) {h : xh} (L : Lay h) (Z : Sf h) {q c : Nat} (hc : cq q c) {R : Nat → Nat} (hR : ∀ i, i < tb 1 c → xI h 118 i = nI (R i)) (hR0 : tb 1 c = 0 → xI h 118 0 = -1) {th : Nat} (ht : c = 16 → xI h 117 7 = nI th ∧ th < 3) {f0 : Prop} {D : Nat → Int32} {far : Nat} (d : f0 → DR q h D ∧ pOK q D far ∧ (c = 4 → good4 R ∧ TO h far) ∧ fuB c D = false) {Q : xh → Prop} (hQ : ∀ g, Fq h g → Sf g → (f0 → DR q g (tl c th R D) ∧ (c = 4 → TO g (frU 4 R far))) → (c ≠ 4 → xI g 117 8 = xI h 117 8) → (q ≠ 0 → xI g 119 = xI h 119) → Q g) (n17 : c = 17) : xcv (xMC n) 30 [.ref 134, .int (xI h 118 0)] h Q := by
  have c20 := hc.b
  have q4 : q < 4 := by unfold cq at hc; omega
  have tbs : (∀ c, c < 4 → tb 1 c = 4) ∧ (tb 1 10 = 1 ∧ tb 1 11 = 1 ∧ tb 1 12 = 1 ∧ tb 1 13 = 0 ∧ tb 1 14 = 0) := by decide
  obtain ⟨⟨z0, y0, e0⟩, ⟨z1, y1, e1⟩, ⟨z2, y2, e2⟩, ⟨z3, y3, e3⟩, ⟨z4, y4, e4⟩, ⟨z5, y5, e5⟩⟩ := Z
  subst n17
  have q3 : q = 3 := by unfold cq at hc; omega
  subst q3
  have t17 : tb 1 17 = 1 := rfl
  rw [hR 0 (by omega)]
  refine c_Sheet_addShoe (by omega) L y3 e3 (fun lt => hQ _ Fq.rf.w.w ?_ (fun f => ⟨?_, fun z => by omega⟩) (fun _ => by rw [xsI_ne _ _ _ (by decide), xsI_ne _ _ _ (by decide)]) (fun _ => by rw [xsI_ne _ _ _ (by decide), xsI_ne _ _ _ (by decide)])) (fun eq => hQ h Fq.rf ⟨⟨z0, y0, e0⟩, ⟨z1, y1, e1⟩, ⟨z2, y2, e2⟩, ⟨z3, y3, e3⟩, ⟨z4, y4, e4⟩, ⟨z5, y5, e5⟩⟩ (fun f => ?_) (fun _ => rfl) (fun _ => rfl))
  · refine ⟨⟨z0, y0, ?_⟩, ⟨z1, y1, ?_⟩, ⟨z2, y2, ?_⟩, ⟨z3 + 1, by omega, upI_s _ _ _ _⟩, ⟨z4, y4, ?_⟩, ⟨z5, y5, ?_⟩⟩ <;> first | (rw [upI_o _ _ _ _ (by decide), xsI_ne _ _ _ (by decide)]; assumption) | (rw [xsI_ne _ _ _ (by decide), xsI_ne _ _ _ (by decide)]; assumption)
  · obtain ⟨⟨d1, d2, d3, d4⟩, po, _, _⟩ := d f
    have cn := po.c q4
    have eb : bN D 0 = z3 := by
      have := d1 0 (by omega)
      exact bN_nI (this.symm.trans e3) (by omega)
    have et : tl 17 th R D = uw (uw D (3 + z3) (nI (R 0))) 0 (nI (z3 + 1)) := by
      unfold tl tl3
      rw [if_neg (by decide), if_neg (by decide), if_neg (by decide), if_pos rfl, eb, if_pos lt]
    rw [et]
    have b1 : bN (uw (uw D (3 + z3) (nI (R 0))) 0 (nI (z3 + 1))) 1 = bN D 1 := by unfold bN; rw [uw_o (by omega), uw_o (by omega)]
    have b2 : bN (uw (uw D (3 + z3) (nI (R 0))) 0 (nI (z3 + 1))) 2 = bN D 2 := by unfold bN; rw [uw_o (by omega), uw_o (by omega)]
    have b0 : bN (uw (uw D (3 + z3) (nI (R 0))) 0 (nI (z3 + 1))) 0 = z3 + 1 := bN_nI (uw_s _ _ _) (by omega)
    have cb := cn.2.2.2
    have ca := cn.2.1.2
    refine ⟨fun i hi => ?_, fun k hk => ?_, fun k hk => ?_, fun k hk => ?_⟩
    · by_cases e : i = 0
      · subst e; rw [upI_s, uw_s]
      · rw [upI_o _ _ _ _ e, xsI_ne _ _ _ (by decide), uw_o e, uw_o (by omega)]; exact d1 i hi
    · rw [b0] at hk
      rw [xsI_ne _ _ _ (show 135 ≠ 134 by decide), upI]
      by_cases e : k = z3
      · rw [if_pos e, e, uw_o (by omega), uw_s]
      · rw [if_neg e, uw_o (by omega), uw_o (by omega)]; exact d2 k (by omega)
    · rw [b1] at hk
      rw [xsI_ne _ _ _ (show 136 ≠ 134 by decide), xsI_ne _ _ _ (show 136 ≠ 135 by decide), xsI_ne _ _ _ (show 137 ≠ 134 by decide), xsI_ne _ _ _ (show 137 ≠ 135 by decide), uw_o (by omega), uw_o (by omega), uw_o (by omega), uw_o (by omega)]; exact d3 k hk
    · rw [b2] at hk
      rw [xsI_ne _ _ _ (show 138 ≠ 134 by decide), xsI_ne _ _ _ (show 138 ≠ 135 by decide), xsI_ne _ _ _ (show 139 ≠ 134 by decide), xsI_ne _ _ _ (show 139 ≠ 135 by decide), xsI_ne _ _ _ (show 140 ≠ 134 by decide), xsI_ne _ _ _ (show 140 ≠ 135 by decide), uw_o (by omega), uw_o (by omega), uw_o (by omega), uw_o (by omega), uw_o (by omega), uw_o (by omega)]; exact d4 k hk
  · obtain ⟨dd, _, _, fb⟩ := d f
    have : D 0 = 6 := by rw [← dd.c3.1, e3, eq]; rfl
    have ed : fuB 17 D = decide (D 0 = 6) := rfl
    rw [ed, this] at fb
    exact absurd fb (by decide)
theorem tell_16 {n : Nat} (hn : 2 ≤ n) {h : xh} (L : Lay h) (Z : Sf h) {q c : Nat} (hc : cq q c) {R : Nat → Nat} (hR : ∀ i, i < tb 1 c → xI h 118 i = nI (R i)) (hR0 : tb 1 c = 0 → xI h 118 0 = -1) {th : Nat} (ht : c = 16 → xI h 117 7 = nI th ∧ th < 3) {f0 : Prop} {D : Nat → Int32} {far : Nat} (d : f0 → DR q h D ∧ pOK q D far ∧ (c = 4 → good4 R ∧ TO h far) ∧ fuB c D = false) {Q : xh → Prop} (hQ : ∀ g, Fq h g → Sf g → (f0 → DR q g (tl c th R D) ∧ (c = 4 → TO g (frU 4 R far))) → (c ≠ 4 → xI g 117 8 = xI h 117 8) → (q ≠ 0 → xI g 119 = xI h 119) → Q g) (n16 : c = 16) : xcv (xMC n) 58 [.ref 130, .int (xI h 117 7), .int (xI h 118 0)] h Q := by
  have c20 := hc.b
  have q4 : q < 4 := by unfold cq at hc; omega
  have tbs : (∀ c, c < 4 → tb 1 c = 4) ∧ (tb 1 10 = 1 ∧ tb 1 11 = 1 ∧ tb 1 12 = 1 ∧ tb 1 13 = 0 ∧ tb 1 14 = 0) := by decide
  obtain ⟨⟨z0, y0, e0⟩, ⟨z1, y1, e1⟩, ⟨z2, y2, e2⟩, ⟨z3, y3, e3⟩, ⟨z4, y4, e4⟩, ⟨z5, y5, e5⟩⟩ := Z
  subst n16
  have q2 : q = 2 := by unfold cq at hc; omega
  subst q2
  have t16 : tb 1 16 = 1 := rfl
  obtain ⟨eth, th3⟩ := ht rfl
  rw [hR 0 (by omega), eth]
  refine c_Book_setAsked (by omega) L y2 e2 th3 (fun lt => hQ _ Fq.rf.w ?_ (fun f => ⟨?_, fun z => by omega⟩) (fun _ => by rw [xsI_ne _ _ _ (by decide)]) (fun _ => by rw [xsI_ne _ _ _ (by decide)])) (fun eq => hQ h Fq.rf ⟨⟨z0, y0, e0⟩, ⟨z1, y1, e1⟩, ⟨z2, y2, e2⟩, ⟨z3, y3, e3⟩, ⟨z4, y4, e4⟩, ⟨z5, y5, e5⟩⟩ (fun f => ?_) (fun _ => rfl) (fun _ => rfl))
  · refine ⟨⟨z0, y0, ?_⟩, ⟨z1, y1, ?_⟩, ⟨z2, y2, ?_⟩, ⟨z3, y3, ?_⟩, ⟨z4, y4, ?_⟩, ⟨z5, y5, ?_⟩⟩ <;> rw [xsI_ne _ _ _ (by decide)] <;> assumption
  · obtain ⟨⟨d1, d2⟩, po, _, _⟩ := d f
    have eb : bN D 0 = z2 := bN_nI (d1.symm.trans e2) (by omega)
    show DR 2 _ (tl2 16 th R D)
    have et : tl2 16 th R D = uw D (3 + 5 * (z2 - 1) + th) (nI (R 0)) := by
      unfold tl2
      rw [if_neg (by decide), eb, if_pos lt]
    rw [et]
    have b0 : bN (uw D (3 + 5 * (z2 - 1) + th) (nI (R 0))) 0 = z2 := by
      rw [← eb]; unfold bN; rw [uw_o (by omega)]
    refine ⟨?_, fun k hk => ?_⟩
    · rw [xsI_ne _ _ _ (by decide), uw_o (by omega)]; exact d1
    · rw [b0] at hk
      obtain ⟨a1, a2, a3⟩ := d2 k (by omega)
      rw [xsI_ne _ _ _ (show 131 ≠ 133 by decide), xsI_ne _ _ _ (show 132 ≠ 133 by decide), uw_o (by omega), uw_o (by omega)]
      refine ⟨a1, a2, fun t ht => ?_⟩
      rw [upI]
      by_cases e : k * 3 + t = (z2 - 1) * 3 + th
      · rw [if_pos e, show 3 + 5 * k + t = 3 + 5 * (z2 - 1) + th by omega, uw_s]
      · rw [if_neg e, uw_o (by omega)]; exact a3 t ht
  · obtain ⟨dd, _, _, fb⟩ := d f
    have : D 0 = 0 := by rw [← dd.c2, e2, eq]; rfl
    have ed : fuB 16 D = decide (D 0 = 0) := rfl
    rw [ed, this] at fb
    exact absurd fb (by decide)
theorem tell_15 {n : Nat} (hn : 2 ≤ n) {h : xh} (L : Lay h) (Z : Sf h) {q c : Nat} (hc : cq q c) {R : Nat → Nat} (hR : ∀ i, i < tb 1 c → xI h 118 i = nI (R i)) (hR0 : tb 1 c = 0 → xI h 118 0 = -1) {th : Nat} (ht : c = 16 → xI h 117 7 = nI th ∧ th < 3) {f0 : Prop} {D : Nat → Int32} {far : Nat} (d : f0 → DR q h D ∧ pOK q D far ∧ (c = 4 → good4 R ∧ TO h far) ∧ fuB c D = false) {Q : xh → Prop} (hQ : ∀ g, Fq h g → Sf g → (f0 → DR q g (tl c th R D) ∧ (c = 4 → TO g (frU 4 R far))) → (c ≠ 4 → xI g 117 8 = xI h 117 8) → (q ≠ 0 → xI g 119 = xI h 119) → Q g) (n15 : c = 15) : xcv (xMC n) 57 [.ref 130, .int (xI h 118 0), .int (xI h 118 1)] h Q := by
  have c20 := hc.b
  have q4 : q < 4 := by unfold cq at hc; omega
  have tbs : (∀ c, c < 4 → tb 1 c = 4) ∧ (tb 1 10 = 1 ∧ tb 1 11 = 1 ∧ tb 1 12 = 1 ∧ tb 1 13 = 0 ∧ tb 1 14 = 0) := by decide
  obtain ⟨⟨z0, y0, e0⟩, ⟨z1, y1, e1⟩, ⟨z2, y2, e2⟩, ⟨z3, y3, e3⟩, ⟨z4, y4, e4⟩, ⟨z5, y5, e5⟩⟩ := Z
  subst n15
  have q2 : q = 2 := by unfold cq at hc; omega
  subst q2
  have t15 : tb 1 15 = 2 := rfl
  rw [hR 0 (by omega), hR 1 (by omega)]
  refine c_Book_addNight (by omega) L y2 e2 (fun lt => hQ _ Fq.rf.w.w.w.w.w.w ?_ (fun f => ⟨?_, fun z => by omega⟩) (fun _ => by rw [xsI_ne _ _ _ (by decide), xsI_ne _ _ _ (by decide), xsI_ne _ _ _ (by decide), xsI_ne _ _ _ (by decide), xsI_ne _ _ _ (by decide), xsI_ne _ _ _ (by decide)]) (fun _ => by rw [xsI_ne _ _ _ (by decide), xsI_ne _ _ _ (by decide), xsI_ne _ _ _ (by decide), xsI_ne _ _ _ (by decide), xsI_ne _ _ _ (by decide), xsI_ne _ _ _ (by decide)])) (fun eq => hQ h Fq.rf ⟨⟨z0, y0, e0⟩, ⟨z1, y1, e1⟩, ⟨z2, y2, e2⟩, ⟨z3, y3, e3⟩, ⟨z4, y4, e4⟩, ⟨z5, y5, e5⟩⟩ (fun f => ?_) (fun _ => rfl) (fun _ => rfl))
  · refine ⟨⟨z0, y0, ?_⟩, ⟨z1, y1, ?_⟩, ⟨z2 + 1, by omega, upI_s _ _ _ _⟩, ⟨z3, y3, ?_⟩, ⟨z4, y4, ?_⟩, ⟨z5, y5, ?_⟩⟩ <;> rw [xsI_ne _ _ _ (by decide), xsI_ne _ _ _ (by decide), xsI_ne _ _ _ (by decide), xsI_ne _ _ _ (by decide), xsI_ne _ _ _ (by decide), xsI_ne _ _ _ (by decide)] <;> assumption
  · obtain ⟨⟨d1, d2⟩, po, _, _⟩ := d f
    have eb : bN D 0 = z2 := bN_nI (d1.symm.trans e2) (by omega)
    show DR 2 _ (tl2 15 th R D)
    have et : tl2 15 th R D = uw (uw (uw D (1 + 5 * z2) (nI (R 0))) (2 + 5 * z2) (nI (R 1))) 0 (nI (z2 + 1)) := by
      unfold tl2
      rw [if_pos rfl, eb, if_pos lt]
    rw [et]
    have b0 : bN (uw (uw (uw D (1 + 5 * z2) (nI (R 0))) (2 + 5 * z2) (nI (R 1))) 0 (nI (z2 + 1))) 0 = z2 + 1 := bN_nI (uw_s _ _ _) (by omega)
    refine ⟨?_, fun k hk => ?_⟩
    · rw [upI_s, uw_s]
    · rw [b0] at hk
      rw [xsI_ne _ _ _ (show 131 ≠ 130 by decide), xsI_ne _ _ _ (show 131 ≠ 133 by decide), xsI_ne _ _ _ (show 131 ≠ 133 by decide), xsI_ne _ _ _ (show 131 ≠ 133 by decide), xsI_ne _ _ _ (show 131 ≠ 132 by decide), upI, xsI_ne _ _ _ (show 132 ≠ 130 by decide), xsI_ne _ _ _ (show 132 ≠ 133 by decide), xsI_ne _ _ _ (show 132 ≠ 133 by decide), xsI_ne _ _ _ (show 132 ≠ 133 by decide), upI, xsI_ne _ _ _ (show 132 ≠ 131 by decide)]
      by_cases e : k = z2
      · rw [if_pos e, if_pos e, e, uw_o (by omega), uw_o (by omega), uw_s, uw_o (by omega), uw_s]
        refine ⟨rfl, rfl, fun t ht => ?_⟩
        have z := po.2 (3 + 5 * z2 + t) (by omega) (by omega)
        rw [uw_o (by omega), uw_o (by omega), uw_o (by omega), z, xsI_ne _ _ _ (show 133 ≠ 130 by decide), upI, upI, upI]
        by_cases t2 : z2 * 3 + t = z2 * 3 + 2
        · rw [if_pos t2]
        · rw [if_neg t2]
          by_cases t1 : z2 * 3 + t = z2 * 3 + 1
          · rw [if_pos t1]
          · rw [if_neg t1, if_pos (by omega)]
      · obtain ⟨a1, a2, a3⟩ := d2 k (by omega)
        rw [if_neg e, if_neg e, uw_o (by omega), uw_o (by omega), uw_o (by omega), uw_o (by omega), uw_o (by omega), uw_o (by omega)]
        refine ⟨a1, a2, fun t ht => ?_⟩
        rw [uw_o (by omega), uw_o (by omega), uw_o (by omega), xsI_ne _ _ _ (show 133 ≠ 130 by decide), upI_o _ _ _ _ (by omega), upI_o _ _ _ _ (by omega), upI_o _ _ _ _ (by omega), xsI_ne _ _ _ (show 133 ≠ 132 by decide), xsI_ne _ _ _ (show 133 ≠ 131 by decide)]
        exact a3 t ht
  · obtain ⟨dd, _, _, fb⟩ := d f
    have : D 0 = 10 := by rw [← dd.c2, e2, eq]; rfl
    have ed : fuB 15 D = decide (D 0 = 10) := rfl
    rw [ed, this] at fb
    exact absurd fb (by decide)
theorem tell_deed {n : Nat} (hn : 2 ≤ n) {h : xh} (L : Lay h) (Z : Sf h) {q c : Nat} (hc : cq q c) {R : Nat → Nat} (hR : ∀ i, i < tb 1 c → xI h 118 i = nI (R i)) (hR0 : tb 1 c = 0 → xI h 118 0 = -1) {th : Nat} (ht : c = 16 → xI h 117 7 = nI th ∧ th < 3) {f0 : Prop} {D : Nat → Int32} {far : Nat} (d : f0 → DR q h D ∧ pOK q D far ∧ (c = 4 → good4 R ∧ TO h far) ∧ fuB c D = false) {Q : xh → Prop} (hQ : ∀ g, Fq h g → Sf g → (f0 → DR q g (tl c th R D) ∧ (c = 4 → TO g (frU 4 R far))) → (c ≠ 4 → xI g 117 8 = xI h 117 8) → (q ≠ 0 → xI g 119 = xI h 119) → Q g) (c10 : 10 ≤ c) (c15 : c < 15) : xcv (xMC n) 25 [.ref 127, .int (nI c - (10 : Int32)), .int (xI h 118 0)] h Q := by
  have c20 := hc.b
  have q4 : q < 4 := by unfold cq at hc; omega
  have tbs : (∀ c, c < 4 → tb 1 c = 4) ∧ (tb 1 10 = 1 ∧ tb 1 11 = 1 ∧ tb 1 12 = 1 ∧ tb 1 13 = 0 ∧ tb 1 14 = 0) := by decide
  obtain ⟨⟨z0, y0, e0⟩, ⟨z1, y1, e1⟩, ⟨z2, y2, e2⟩, ⟨z3, y3, e3⟩, ⟨z4, y4, e4⟩, ⟨z5, y5, e5⟩⟩ := Z
  have q1 : q = 1 := by unfold cq at hc; omega
  subst q1
  have e118 : xI h 118 0 = if c < 13 then nI (R 0) else -1 := by
    have : c = 10 ∨ c = 11 ∨ c = 12 ∨ c = 13 ∨ c = 14 := by omega
    obtain ⟨_, t10, t11, t12, t13, t14⟩ := tbs
    rcases this with e | e | e | e | e <;> subst e
    · exact hR 0 (by omega)
    · exact hR 0 (by omega)
    · exact hR 0 (by omega)
    · exact hR0 t13
    · exact hR0 t14
  rw [e118, show nI c - (10 : Int32) = nI (c - 10) from pk_sub (b := 10) (by omega)]
  refine c_Evening_addDeed (by omega) L y1 e1 (fun lt => hQ _ Fq.rf.w.w.w ?_ (fun f => ⟨?_, fun z => by omega⟩) (fun _ => by rw [xsI_ne _ _ _ (by decide), xsI_ne _ _ _ (by decide), xsI_ne _ _ _ (by decide)]) (fun _ => by rw [xsI_ne _ _ _ (by decide), xsI_ne _ _ _ (by decide), xsI_ne _ _ _ (by decide)])) (fun eq => hQ h Fq.rf ⟨⟨z0, y0, e0⟩, ⟨z1, y1, e1⟩, ⟨z2, y2, e2⟩, ⟨z3, y3, e3⟩, ⟨z4, y4, e4⟩, ⟨z5, y5, e5⟩⟩ (fun f => ?_) (fun _ => rfl) (fun _ => rfl))
  · refine ⟨⟨z0, y0, ?_⟩, ⟨z1 + 1, by omega, upI_s _ _ _ _⟩, ⟨z2, y2, ?_⟩, ⟨z3, y3, ?_⟩, ⟨z4, y4, ?_⟩, ⟨z5, y5, ?_⟩⟩ <;> rw [xsI_ne _ _ _ (by decide), xsI_ne _ _ _ (by decide), xsI_ne _ _ _ (by decide)] <;> assumption
  · obtain ⟨⟨d1, d2⟩, po, _, _⟩ := d f
    have eb : bN D 0 = z1 := bN_nI (d1.symm.trans e1) (by omega)
    have et : tl c th R D = uw (uw (uw D (1 + 2 * z1) (nI (c - 10))) (2 + 2 * z1) (if c < 13 then nI (R 0) else -1)) 0 (nI (z1 + 1)) := by
      unfold tl tl1
      rw [if_neg (by omega), if_pos (by omega), eb, if_pos lt]
    rw [et]
    have b0 : bN (uw (uw (uw D (1 + 2 * z1) (nI (c - 10))) (2 + 2 * z1) (if c < 13 then nI (R 0) else -1)) 0 (nI (z1 + 1))) 0 = z1 + 1 := bN_nI (uw_s _ _ _) (by omega)
    refine ⟨?_, fun k hk => ?_⟩
    · rw [upI_s, uw_s]
    · rw [b0] at hk
      rw [xsI_ne _ _ _ (show 128 ≠ 127 by decide), xsI_ne _ _ _ (show 128 ≠ 129 by decide), xsI_ne _ _ _ (show 129 ≠ 127 by decide), upI, upI, xsI_ne _ _ _ (show 129 ≠ 128 by decide)]
      by_cases e : k = z1
      · rw [if_pos e, if_pos e, e, uw_o (by omega), uw_o (by omega), uw_s, uw_o (by omega), uw_s]
        exact ⟨rfl, rfl⟩
      · rw [if_neg e, if_neg e, uw_o (by omega), uw_o (by omega), uw_o (by omega), uw_o (by omega), uw_o (by omega), uw_o (by omega)]
        exact d2 k (by omega)
  · obtain ⟨dd, _, _, fb⟩ := d f
    have : D 0 = 40 := by rw [← dd.c1, e1, eq]; rfl
    have ed : fuB c D = decide (D 0 = 40) := by
      unfold fuB
      rw [if_neg (by omega), if_neg (by omega), if_pos (by omega)]
    rw [ed, this] at fb
    exact absurd fb (by decide)
theorem tell_stop {n : Nat} (hn : 2 ≤ n) {h : xh} (L : Lay h) (Z : Sf h) {q c : Nat} (hc : cq q c) {R : Nat → Nat} (hR : ∀ i, i < tb 1 c → xI h 118 i = nI (R i)) (hR0 : tb 1 c = 0 → xI h 118 0 = -1) {th : Nat} (ht : c = 16 → xI h 117 7 = nI th ∧ th < 3) {f0 : Prop} {D : Nat → Int32} {far : Nat} (d : f0 → DR q h D ∧ pOK q D far ∧ (c = 4 → good4 R ∧ TO h far) ∧ fuB c D = false) {Q : xh → Prop} (hQ : ∀ g, Fq h g → Sf g → (f0 → DR q g (tl c th R D) ∧ (c = 4 → TO g (frU 4 R far))) → (c ≠ 4 → xI g 117 8 = xI h 117 8) → (q ≠ 0 → xI g 119 = xI h 119) → Q g) (c4 : c < 4) : xcv (xMC n) 40 [.ref 119, .int (nI c), .ref 118] h Q := by
  have c20 := hc.b
  have q4 : q < 4 := by unfold cq at hc; omega
  have tbs : (∀ c, c < 4 → tb 1 c = 4) ∧ (tb 1 10 = 1 ∧ tb 1 11 = 1 ∧ tb 1 12 = 1 ∧ tb 1 13 = 0 ∧ tb 1 14 = 0) := by decide
  obtain ⟨⟨z0, y0, e0⟩, ⟨z1, y1, e1⟩, ⟨z2, y2, e2⟩, ⟨z3, y3, e3⟩, ⟨z4, y4, e4⟩, ⟨z5, y5, e5⟩⟩ := Z
  have q0 : q = 0 := by unfold cq at hc; omega
  subst q0
  have t4 := tbs.1 c (by omega)
  refine c_Town_addStop (by omega) L y0 e0 (fun lt g G g117 g119 g120 g12 gx => hQ g G ?_ (fun f => ⟨?_, fun z => by omega⟩) (fun _ => by rw [g117]) (fun z => absurd rfl z)) (fun eq => hQ h Fq.rf ⟨⟨z0, y0, e0⟩, ⟨z1, y1, e1⟩, ⟨z2, y2, e2⟩, ⟨z3, y3, e3⟩, ⟨z4, y4, e4⟩, ⟨z5, y5, e5⟩⟩ (fun f => ?_) (fun _ => rfl) (fun z => absurd rfl z))
  · refine ⟨⟨z0 + 1, by omega, by rw [g119, if_pos rfl]⟩, ⟨z1, y1, ?_⟩, ⟨z2, y2, ?_⟩, ⟨z3, y3, ?_⟩, ⟨z4, y4, ?_⟩, ⟨z5, y5, ?_⟩⟩ <;> rw [gx _ (by decide)] <;> assumption
  · obtain ⟨⟨d1, d2⟩, po, _, _⟩ := d f
    have eb : bN D 6 = z0 := bN_nI ((d1 6 (by omega)).symm.trans e0) (by omega)
    have et : tl c th R D = uw (uw (uw (uw (uw (uw D (7 + z0) (nI c)) (16 + z0) (nI (R 0))) (25 + z0) (nI (R 1))) (34 + z0) (nI (R 2))) (43 + z0) (nI (R 3))) 6 (nI (z0 + 1)) := by
      unfold tl tl0
      rw [if_pos (by omega), if_pos (by omega), eb, if_pos lt]
    rw [et]
    have b6 : bN (uw (uw (uw (uw (uw (uw D (7 + z0) (nI c)) (16 + z0) (nI (R 0))) (25 + z0) (nI (R 1))) (34 + z0) (nI (R 2))) (43 + z0) (nI (R 3))) 6 (nI (z0 + 1))) 6 = z0 + 1 := bN_nI (uw_s _ _ _) (by omega)
    refine ⟨fun i hi => ?_, fun a s ha hs hb => ?_⟩
    · rw [g119]
      by_cases e : i = 6
      · rw [if_pos e, e, uw_s]
      · rw [if_neg e, uw_o e, uw_o (by omega), uw_o (by omega), uw_o (by omega), uw_o (by omega), uw_o (by omega)]; exact d1 i hi
    · rw [b6] at hb
      have ol : (s ≠ z0 ∨ 5 ≤ a) → uw (uw (uw (uw (uw (uw D (7 + z0) (nI c)) (16 + z0) (nI (R 0))) (25 + z0) (nI (R 1))) (34 + z0) (nI (R 2))) (43 + z0) (nI (R 3))) 6 (nI (z0 + 1)) (7 + 9 * a + s) = D (7 + 9 * a + s) := fun z => by
        rw [uw_o (by omega), uw_o (by omega), uw_o (by omega), uw_o (by omega), uw_o (by omega), uw_o (by omega)]
      have : a = 0 ∨ a = 1 ∨ a = 2 ∨ a = 3 ∨ a = 4 ∨ a = 5 ∨ a = 6 := by omega
      by_cases e : s = z0 ∧ a < 5
      · obtain ⟨e, e5⟩ := e
        subst e
        have hj : ∀ j, j < 4 → xI g (121 + j) s = nI (R j) := fun j hj => by rw [g12 j hj, if_pos rfl, hR j (by omega)]
        rcases this with e | e | e | e | e | e | e <;> subst e
        · rw [uw_o (by omega), uw_o (by omega), uw_o (by omega), uw_o (by omega), uw_o (by omega)]
          show xI g 120 s = uw D (7 + s) (nI c) (7 + 9 * 0 + s)
          rw [g120, if_pos rfl, show 7 + 9 * 0 + s = 7 + s by omega, uw_s]
        · rw [uw_o (by omega), uw_o (by omega), uw_o (by omega), uw_o (by omega), show 7 + 9 * 1 + s = 16 + s by omega, uw_s]
          exact hj 0 (by omega)
        · rw [uw_o (by omega), uw_o (by omega), uw_o (by omega), show 7 + 9 * 2 + s = 25 + s by omega, uw_s]
          exact hj 1 (by omega)
        · rw [uw_o (by omega), uw_o (by omega), show 7 + 9 * 3 + s = 34 + s by omega, uw_s]
          exact hj 2 (by omega)
        · rw [uw_o (by omega), show 7 + 9 * 4 + s = 43 + s by omega, uw_s]
          exact hj 3 (by omega)
        · omega
        · omega
      · rw [ol (by omega)]
        have hb' : s < bN D 6 ∨ 5 ≤ a := by omega
        rw [← d2 a s ha hs hb']
        rcases this with e | e | e | e | e | e | e <;> subst e
        · show xI g 120 s = xI h 120 s
          rw [g120, if_neg (by omega)]
        · rw [show 120 + 1 = 121 + 0 from rfl, g12 0 (by omega), if_neg (by omega)]
        · rw [show 120 + 2 = 121 + 1 from rfl, g12 1 (by omega), if_neg (by omega)]
        · rw [show 120 + 3 = 121 + 2 from rfl, g12 2 (by omega), if_neg (by omega)]
        · rw [show 120 + 4 = 121 + 3 from rfl, g12 3 (by omega), if_neg (by omega)]
        · rw [gx _ (by decide)]
        · rw [gx _ (by decide)]
  · obtain ⟨dd, _, _, fb⟩ := d f
    have : D 6 = 9 := by rw [← dd.c0, e0, eq]; rfl
    have ed : fuB c D = decide (D 6 = 9) := by
      unfold fuB
      rw [if_pos (by omega)]
    rw [ed, this] at fb
    exact absurd fb (by decide)
theorem c_Reader_tellLine {n : Nat} (hn : 3 ≤ n) {h : xh} (L : Lay h) (Z : Sf h) {q c : Nat} (hc : cq q c) {R : Nat → Nat} (hR : ∀ i, i < tb 1 c → xI h 118 i = nI (R i)) (hR0 : tb 1 c = 0 → xI h 118 0 = -1) {th : Nat} (ht : c = 16 → xI h 117 7 = nI th ∧ th < 3) {f0 : Prop} {D : Nat → Int32} {far : Nat} (d : f0 → DR q h D ∧ pOK q D far ∧ (c = 4 → good4 R ∧ TO h far) ∧ fuB c D = false) {Q : xh → Prop} (hQ : ∀ g, Fq h g → Sf g → (f0 → DR q g (tl c th R D) ∧ (c = 4 → TO g (frU 4 R far))) → (c ≠ 4 → xI g 117 8 = xI h 117 8) → (q ≠ 0 → xI g 119 = xI h 119) → Q g) : xcv (xMC n) 142 [.ref 117, .int (nI c)] h Q := by
  obtain ⟨n, rfl⟩ := xsucc (show 1 ≤ n by omega)
  have c20 := hc.b
  have ce : ∀ k : Nat, k < 20 → (nI c = nI k) = (c = k) := fun k hk => propext (nI_eq (by omega) (by omega))
  have cle : ∀ k : Nat, k < 20 → (nI k ≤ nI c) = (k ≤ c) := fun k hk => propext (nI_leI (by omega) (by omega))
  have tbs : (∀ c, c < 4 → tb 1 c = 4) ∧ (tb 1 10 = 1 ∧ tb 1 11 = 1 ∧ tb 1 12 = 1 ∧ tb 1 13 = 0 ∧ tb 1 14 = 0) := by decide
  refine w_Reader_tellLine ?_
  rw [show ((4 : Int32) ≤ nI c) = (4 ≤ c) from cle 4 (by decide), show ((10 : Int32) ≤ nI c) = (10 ≤ c) from cle 10 (by decide), show ((15 : Int32) ≤ nI c) = (15 ≤ c) from cle 15 (by decide), show (nI c = (15 : Int32)) = (c = 15) from ce 15 (by decide), show (nI c = (16 : Int32)) = (c = 16) from ce 16 (by decide), show (nI c = (17 : Int32)) = (c = 17) from ce 17 (by decide), show (nI c = (18 : Int32)) = (c = 18) from ce 18 (by decide), show (0 : Int32).toNatClampNeg = 0 from rfl, show (1 : Int32).toNatClampNeg = 1 from rfl, show (2 : Int32).toNatClampNeg = 2 from rfl]
  refine ⟨fun c4 => ⟨fun c10 => ⟨fun c15 => ⟨fun n15 => ⟨fun n16 => ⟨fun n17 => ⟨fun n18 => ?_, fun n18 => ?_⟩, fun n17 => ?_⟩, fun n16 => ?_⟩, fun n15 => ?_⟩, fun c15 => ?_⟩, fun c10 => ?_⟩, fun c4 => ?_⟩
  · exact ⟨L.s 117, 134, L.r 117 14 134, 118, L.r 117 6 118, L.x 118 (i := 0) (n := 4) (by omega), L.x 118 (i := 1) (n := 4) (by omega), L.x 118 (i := 2) (n := 4) (by omega), L.s 134, tell_19 (by omega) L Z hc hR hR0 ht d hQ (by omega)⟩
  · exact ⟨L.s 117, 134, L.r 117 14 134, 118, L.r 117 6 118, L.x 118 (i := 0) (n := 4) (by omega), L.x 118 (i := 1) (n := 4) (by omega), L.s 134, tell_18 (by omega) L Z hc hR hR0 ht d hQ n18⟩
  · exact ⟨L.s 117, 134, L.r 117 14 134, 118, L.r 117 6 118, L.x 118 (i := 0) (n := 4) (by omega), L.s 134, tell_17 (by omega) L Z hc hR hR0 ht d hQ n17⟩
  · exact ⟨L.s 117, 130, L.r 117 13 130, 118, L.r 117 6 118, L.x 118 (i := 0) (n := 4) (by omega), L.s 130, tell_16 (by omega) L Z hc hR hR0 ht d hQ n16⟩
  · exact ⟨L.s 117, 130, L.r 117 13 130, 118, L.r 117 6 118, L.x 118 (i := 0) (n := 4) (by omega), L.x 118 (i := 1) (n := 4) (by omega), L.s 130, tell_15 (by omega) L Z hc hR hR0 ht d hQ n15⟩
  · exact ⟨L.s 117, 127, L.r 117 12 127, 118, L.r 117 6 118, L.x 118 (i := 0) (n := 4) (by omega), L.s 127, tell_deed (by omega) L Z hc hR hR0 ht d hQ (by omega) (by omega)⟩
  · have q0 : q = 0 := by unfold cq at hc; omega
    subst q0
    have et : tl c th R D = tl0 c R D := by unfold tl; rw [if_pos (by omega)]
    rw [et] at hQ
    exact ⟨L.s 117, c_Reader_tellOfTown (by omega) L Z c4 (by omega) hR (fun f => ⟨(d f).1, (d f).2.2.1⟩) (fun g G Sg _ dg g8 => hQ g G Sg dg g8 (fun z => absurd rfl z))⟩
  · exact ⟨L.s 117, 119, L.r 117 11 119, 118, L.r 117 6 118, L.s 119, tell_stop (by omega) L Z hc hR hR0 ht d hQ (by omega)⟩
