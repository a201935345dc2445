/-! WHAT IS TOLD by a line, in the class -/
def PD (c : Nat) : Prop := c = 117 ∨ (119 ≤ c ∧ c ≤ 140)
def Fq (h g : xh) : Prop := Fr PD h g ∧ ∀ i, i ≠ 8 → xI g 117 i = xI h 117 i
theorem Fq.rf {h : xh} : Fq h h := ⟨Fr.rf, fun _ _ => rfl⟩
theorem Fq.w {h g : xh} (f : Fq h g) {c i : Nat} {v : Int32} (h1 : 119 ≤ c := by decide) (h2 : c ≤ 140 := by decide) : Fq h (xsI g c i v) := ⟨f.1.wI (Or.inr ⟨h1, h2⟩), fun j hj => by rw [xsI_ne _ _ _ (by omega)]; exact f.2 j hj⟩
theorem Fq.w8 {h g : xh} (f : Fq h g) {v : Int32} : Fq h (xsI g 117 8 v) := ⟨f.1.wI (Or.inl rfl), fun j hj => by rw [upI_o _ _ _ _ hj]; exact f.2 j hj⟩
theorem c_Town_addStop {n : Nat} (hn : 1 ≤ n) {h : xh} (L : Lay h) {k : Nat} (k9 : k ≤ 9) (ek : xI h 119 6 = nI k) {c : Int32} {Q : xh → Prop} (h1 : k < 9 → ∀ g, Fq h g → xI g 117 = xI h 117 → (∀ i, xI g 119 i = if i = 6 then nI (k + 1) else xI h 119 i) → (∀ i, xI g 120 i = if i = k then c else xI h 120 i) → (∀ j, j < 4 → ∀ i, xI g (121 + j) i = if i = k then xI h 118 j else xI h (121 + j) i) → (∀ c, 124 < c → xI g c = xI h c) → Q g) (h0 : k = 9 → Q h) : xcv (xMC n) 40 [.ref 119, .int c, .ref 118] h Q := by
  obtain ⟨n, rfl⟩ := xsucc hn
  refine w_Town_addStop ⟨L.s 119, ?_⟩
  rw [ek, nI_clamp (by omega), L.s 118 (p := (20, 4))]
  refine ⟨fun z => h0 (by have := (nI_leI (a := 9) (by decide) (by omega)).mp z; omega), fun z => ⟨⟨show 20 ≤ 20 by decide, show 20 ≤ 28 by decide⟩, fun _ => ⟨120, L.r 119 7 120, ?_⟩, fun y => absurd (show (4 : Int32) ≤ nI 4 by decide) y⟩⟩
  have lt : k < 9 := Nat.lt_of_not_le (fun y => z ((nI_leI (a := 9) (by decide) (by omega)).mpr y))
  refine ⟨⟨by decide, L.x 120 (n := 9) lt⟩, ?_⟩
  have L1 : Lay (xsI h 120 k c) := L
  have e1 : ∀ i, xI (xsI h 120 k c) 119 i = xI h 119 i := fun i => by rw [xsI_ne _ _ _ (by decide)]
  refine b_Town_addStop_26 ⟨L1.s 119, 121, L1.r 119 8 121, L1.x 118 (i := 0) (n := 4) (by omega), ?_⟩
  rw [e1 6, ek, nI_clamp (by omega), show (0 : Int32).toNatClampNeg = 0 from rfl, show xI (xsI h 120 k c) 118 0 = xI h 118 0 by rw [xsI_ne _ _ _ (by decide)]]
  refine ⟨⟨by decide, L1.x 121 (n := 9) lt⟩, ?_⟩
  have L2 : Lay (xsI (xsI h 120 k c) 121 k (xI h 118 0)) := L
  refine b_Town_addStop_38 ⟨L2.s 119, 122, L2.r 119 9 122, L2.x 118 (i := 1) (n := 4) (by omega), ?_⟩
  rw [show xI (xsI (xsI h 120 k c) 121 k (xI h 118 0)) 119 6 = nI k by rw [xsI_ne _ _ _ (by decide), e1, ek], nI_clamp (by omega), show (1 : Int32).toNatClampNeg = 1 from rfl, show xI (xsI (xsI h 120 k c) 121 k (xI h 118 0)) 118 1 = xI h 118 1 by rw [xsI_ne _ _ _ (by decide), xsI_ne _ _ _ (by decide)]]
  refine ⟨⟨by decide, L2.x 122 (n := 9) lt⟩, ?_⟩
  have L3 : Lay (xsI (xsI (xsI h 120 k c) 121 k (xI h 118 0)) 122 k (xI h 118 1)) := L
  refine b_Town_addStop_50 ⟨L3.s 119, 123, L3.r 119 10 123, L3.x 118 (i := 2) (n := 4) (by omega), ?_⟩
  rw [show xI (xsI (xsI (xsI h 120 k c) 121 k (xI h 118 0)) 122 k (xI h 118 1)) 119 6 = nI k by rw [xsI_ne _ _ _ (by decide), xsI_ne _ _ _ (by decide), e1, ek], nI_clamp (by omega), show (2 : Int32).toNatClampNeg = 2 from rfl, show xI (xsI (xsI (xsI h 120 k c) 121 k (xI h 118 0)) 122 k (xI h 118 1)) 118 2 = xI h 118 2 by rw [xsI_ne _ _ _ (by decide), xsI_ne _ _ _ (by decide), xsI_ne _ _ _ (by decide)]]
  refine ⟨⟨by decide, L3.x 123 (n := 9) lt⟩, ?_⟩
  have L4 : Lay (xsI (xsI (xsI (xsI h 120 k c) 121 k (xI h 118 0)) 122 k (xI h 118 1)) 123 k (xI h 118 2)) := L
  refine b_Town_addStop_62 ⟨L4.s 119, 124, L4.r 119 11 124, L4.x 118 (i := 3) (n := 4) (by omega), ?_⟩
  rw [show xI (xsI (xsI (xsI (xsI h 120 k c) 121 k (xI h 118 0)) 122 k (xI h 118 1)) 123 k (xI h 118 2)) 119 6 = nI k by rw [xsI_ne _ _ _ (by decide), xsI_ne _ _ _ (by decide), xsI_ne _ _ _ (by decide), e1, ek], nI_clamp (by omega), show (3 : Int32).toNatClampNeg = 3 from rfl, show xI (xsI (xsI (xsI (xsI h 120 k c) 121 k (xI h 118 0)) 122 k (xI h 118 1)) 123 k (xI h 118 2)) 118 3 = xI h 118 3 by rw [xsI_ne _ _ _ (by decide), xsI_ne _ _ _ (by decide), xsI_ne _ _ _ (by decide), xsI_ne _ _ _ (by decide)]]
  refine ⟨⟨by decide, L4.x 124 (n := 9) lt⟩, ?_⟩
  have L5 : Lay (xsI (xsI (xsI (xsI (xsI h 120 k c) 121 k (xI h 118 0)) 122 k (xI h 118 1)) 123 k (xI h 118 2)) 124 k (xI h 118 3)) := L
  refine b_Town_addStop_74 ⟨L5.s 119, ⟨by decide, L5.s 119⟩, ?_⟩
  rw [show xI (xsI (xsI (xsI (xsI (xsI h 120 k c) 121 k (xI h 118 0)) 122 k (xI h 118 1)) 123 k (xI h 118 2)) 124 k (xI h 118 3)) 119 6 = nI k by rw [xsI_ne _ _ _ (by decide), xsI_ne _ _ _ (by decide), xsI_ne _ _ _ (by decide), xsI_ne _ _ _ (by decide), e1, ek], nI_1]
  refine h1 lt _ (((((Fq.rf.w).w).w).w).w.w) ?_ (fun i => ?_) (fun i => ?_) (fun j hj i => ?_) (fun c hc => ?_)
  · rw [xsI_ne _ _ _ (by decide), xsI_ne _ _ _ (by decide), xsI_ne _ _ _ (by decide), xsI_ne _ _ _ (by decide), xsI_ne _ _ _ (by decide), xsI_ne _ _ _ (by decide)]
  · rw [upI, xsI_ne _ _ _ (by decide), xsI_ne _ _ _ (by decide), xsI_ne _ _ _ (by decide), xsI_ne _ _ _ (by decide), e1]
  · rw [xsI_ne _ _ _ (by decide), xsI_ne _ _ _ (by decide), xsI_ne _ _ _ (by decide), xsI_ne _ _ _ (by decide), xsI_ne _ _ _ (by decide), upI]
  · have : j = 0 ∨ j = 1 ∨ j = 2 ∨ j = 3 := by omega
    rcases this with e | e | e | e <;> subst e
    · rw [xsI_ne _ _ _ (by decide), xsI_ne _ _ _ (by decide), xsI_ne _ _ _ (by decide), xsI_ne _ _ _ (by decide), upI, xsI_ne _ _ _ (by decide)]
    · rw [xsI_ne _ _ _ (by decide), xsI_ne _ _ _ (by decide), xsI_ne _ _ _ (by decide), upI, xsI_ne _ _ _ (by decide), xsI_ne _ _ _ (by decide)]
    · rw [xsI_ne _ _ _ (by decide), xsI_ne _ _ _ (by decide), upI, xsI_ne _ _ _ (by decide), xsI_ne _ _ _ (by decide), xsI_ne _ _ _ (by decide)]
    · rw [xsI_ne _ _ _ (by decide), upI, xsI_ne _ _ _ (by decide), xsI_ne _ _ _ (by decide), xsI_ne _ _ _ (by decide), xsI_ne _ _ _ (by decide)]
  · rw [xsI_ne _ _ _ (by omega), xsI_ne _ _ _ (by omega), xsI_ne _ _ _ (by omega), xsI_ne _ _ _ (by omega), xsI_ne _ _ _ (by omega), xsI_ne _ _ _ (by omega)]
theorem c_Town_setFollow {n : Nat} (hn : 1 ≤ n) {h : xh} (L : Lay h) {a b m : Int32} {Q : xh → Prop} (h1 : ∀ k, k < 9 → a = nI k → Q (xsI (xsI h 126 k b) 125 k m)) (h0 : (∀ k, k < 9 → ¬ a = nI k) → Q h) : xcv (xMC n) 41 [.ref 119, .int a, .int b, .int m] h Q := by
  obtain ⟨n, rfl⟩ := xsucc hn
  refine w_Town_setFollow ⟨fun z => h0 (fun k hk e => ?_), fun z => ⟨fun y => h0 (fun k hk e => ?_), fun y => ⟨L.s 119, 126, L.r 119 13 126, ?_⟩⟩⟩
  · subst e; exact nI_pos (by omega) z
  · subst e; exact nI_ge (b := 9) hk (by decide) y
  · obtain ⟨k, hk, e⟩ := nI_of z
    subst e
    have k9 : k < 9 := Nat.lt_of_not_le (fun q => y (nI_le (a := 9) q hk))
    have L1 : Lay (xsI h 126 k b) := L
    rw [nI_clamp hk]
    refine ⟨⟨by decide, L.x 126 (n := 9) k9⟩, b_Town_setFollow_17 ⟨L1.s 119, 125, L1.r 119 12 125, ⟨by decide, L1.x 125 (n := 9) k9⟩, ?_⟩⟩
    rw [nI_clamp hk]
    exact h1 k k9 rfl
theorem c_Evening_addDeed {n : Nat} (hn : 1 ≤ n) {h : xh} (L : Lay h) {k : Nat} (k4 : k ≤ 40) (ek : xI h 127 0 = nI k) {a b : Int32} {Q : xh → Prop} (h1 : k < 40 → Q (xsI (xsI (xsI h 128 k a) 129 k b) 127 0 (nI (k + 1)))) (h0 : k = 40 → Q h) : xcv (xMC n) 25 [.ref 127, .int a, .int b] h Q := by
  obtain ⟨n, rfl⟩ := xsucc hn
  refine w_Evening_addDeed ⟨L.s 127, ?_⟩
  rw [ek, nI_clamp (by omega), show (nI k < (40 : Int32)) = (k < 40) from propext (nI_ltI (b := 40) (by omega) (by decide))]
  refine ⟨fun z => ⟨128, L.r 127 1 128, ⟨by decide, L.x 128 (n := 40) z⟩, ?_⟩, fun z => h0 (by omega)⟩
  have L1 : Lay (xsI h 128 k a) := L
  refine b_Evening_addDeed_20 ⟨L1.s 127, 129, L1.r 127 2 129, ?_⟩
  rw [xsI_ne h k a (show 127 ≠ 128 by decide), ek, nI_clamp (by omega)]
  have L2 : Lay (xsI (xsI h 128 k a) 129 k b) := L
  refine ⟨⟨by decide, L1.x 129 (n := 40) z⟩, b_Evening_addDeed_30 ⟨L2.s 127, ⟨by decide, L2.s 127⟩, ?_⟩⟩
  rw [xsI_ne _ _ _ (show 127 ≠ 129 by decide), xsI_ne h k a (show 127 ≠ 128 by decide), ek, nI_1]
  exact h1 z
theorem c_Book_addNight {n : Nat} (hn : 1 ≤ n) {h : xh} (L : Lay h) {k : Nat} (k4 : k ≤ 10) (ek : xI h 130 0 = nI k) {a b : Int32} {Q : xh → Prop} (h1 : k < 10 → Q (xsI (xsI (xsI (xsI (xsI (xsI h 131 k a) 132 k b) 133 (k * 3 + 0) 0) 133 (k * 3 + 1) 0) 133 (k * 3 + 2) 0) 130 0 (nI (k + 1)))) (h0 : k = 10 → Q h) : xcv (xMC n) 57 [.ref 130, .int a, .int b] h Q := by
  obtain ⟨n, rfl⟩ := xsucc hn
  refine w_Book_addNight ⟨L.s 130, ?_⟩
  rw [ek, nI_clamp (by omega), show (nI k < (10 : Int32)) = (k < 10) from propext (nI_ltI (b := 10) (by omega) (by decide))]
  refine ⟨fun z => ⟨131, L.r 130 1 131, ⟨by decide, L.x 131 (n := 10) z⟩, ?_⟩, fun z => h0 (by omega)⟩
  have L1 : Lay (xsI h 131 k a) := L
  refine b_Book_addNight_20 ⟨L1.s 130, 132, L1.r 130 2 132, ?_⟩
  rw [xsI_ne h k a (show 130 ≠ 131 by decide), ek, nI_clamp (by omega)]
  refine ⟨⟨by decide, L1.x 132 (n := 10) z⟩, b_Book_addNight_30 ?_⟩
  have e2 : xI (xsI (xsI h 131 k a) 132 k b) 130 0 = nI k := by rw [xsI_ne _ _ _ (by decide), xsI_ne _ _ _ (by decide)]; exact ek
  have L2 : Lay (xsI (xsI h 131 k a) 132 k b) := L
  have st : ∀ g, Lay g → xI g 130 0 = nI k → ∀ t, t < 3 → ∀ o1 o2 : Option Value, K_Book_addNight n Q 32 [some (.ref 130), o1, (xlc o2), some (.int (nI (t + 1)))] [] (xsI g 133 (k * 3 + t) 0) → K_Book_addNight n Q 32 [some (.ref 130), o1, o2, some (.int (nI t))] [] g := fun g Lg e t ht o1 o2 H => by
    refine b_Book_addNight_32 ⟨fun y => absurd y (nI_ge (b := 3) (by omega) (by decide)), fun _ => ⟨Lg.s 130, 133, Lg.r 130 3 133, ?_⟩⟩
    rw [e, show nI k * (3 : Int32) = nI (k * 3) from pk_mul _ 3, nI_add, nI_clamp (by omega)]
    refine ⟨⟨by decide, Lg.x 133 (n := 30) (by omega)⟩, b_Book_addNight_51 ?_⟩
    rw [nI_1]
    exact H
  refine st _ L2 e2 0 (by decide) _ _ ?_
  have e3 : xI (xsI (xsI (xsI h 131 k a) 132 k b) 133 (k * 3 + 0) 0) 130 0 = nI k := by rw [xsI_ne _ _ _ (by decide)]; exact e2
  have L3 : Lay (xsI (xsI (xsI h 131 k a) 132 k b) 133 (k * 3 + 0) 0) := L
  refine st _ L3 e3 1 (by decide) _ _ ?_
  have e4 : xI (xsI (xsI (xsI (xsI h 131 k a) 132 k b) 133 (k * 3 + 0) 0) 133 (k * 3 + 1) 0) 130 0 = nI k := by rw [xsI_ne _ _ _ (by decide)]; exact e3
  have L4 : Lay (xsI (xsI (xsI (xsI h 131 k a) 132 k b) 133 (k * 3 + 0) 0) 133 (k * 3 + 1) 0) := L
  refine st _ L4 e4 2 (by decide) _ _ ?_
  have e5 : xI (xsI (xsI (xsI (xsI (xsI h 131 k a) 132 k b) 133 (k * 3 + 0) 0) 133 (k * 3 + 1) 0) 133 (k * 3 + 2) 0) 130 0 = nI k := by rw [xsI_ne _ _ _ (by decide)]; exact e4
  have L5 : Lay (xsI (xsI (xsI (xsI (xsI h 131 k a) 132 k b) 133 (k * 3 + 0) 0) 133 (k * 3 + 1) 0) 133 (k * 3 + 2) 0) := L
  refine b_Book_addNight_32 ⟨fun _ => ⟨L5.s 130, ⟨by decide, L5.s 130⟩, ?_⟩, fun y => absurd (by decide) y⟩
  rw [e5, nI_1]
  exact h1 z
theorem c_Book_setAsked {n : Nat} (hn : 2 ≤ n) {h : xh} (L : Lay h) {k : Nat} (k4 : k ≤ 10) (ek : xI h 130 0 = nI k) {t : Nat} (ht : t < 3) {b : Int32} {Q : xh → Prop} (h1 : 0 < k → Q (xsI h 133 ((k - 1) * 3 + t) b)) (h0 : k = 0 → Q h) : xcv (xMC n) 58 [.ref 130, .int (nI t), .int b] h Q := by
  obtain ⟨n, rfl⟩ := xsucc (show 1 ≤ n by omega)
  obtain ⟨n, rfl⟩ := xsucc (show 1 ≤ n by omega)
  refine w_Book_setAsked ⟨L.s 130, ?_⟩
  rw [ek]
  refine ⟨fun z => h0 ?_, fun z => ?_⟩
  · apply Classical.byContradiction
    intro y
    exact nI_nle (by omega) (by omega) z
  · have k0 : 0 < k := Nat.pos_of_ne_zero (fun y => z (by rw [y]; decide))
    refine c_So_isThing (by omega) (fun t' ht' e => ⟨fun x => absurd x (by decide), fun _ => ⟨L.s 130, 133, L.r 130 3 133, ?_⟩⟩) (fun y => absurd rfl (y t ht))
    rw [ek, show nI k - (1 : Int32) = nI (k - 1) from pk_sub (b := 1) (by omega), show nI (k - 1) * (3 : Int32) = nI ((k - 1) * 3) from pk_mul _ 3, nI_add, nI_clamp (by omega)]
    exact ⟨⟨by decide, L.x 133 (n := 30) (by omega)⟩, h1 k0⟩
theorem c_Sheet_addShoe {n : Nat} (hn : 1 ≤ n) {h : xh} (L : Lay h) {k : Nat} (k4 : k ≤ 6) (ek : xI h 134 0 = nI k) {a : Int32} {Q : xh → Prop} (h1 : k < 6 → Q (xsI (xsI h 135 k a) 134 0 (nI (k + 1)))) (h0 : k = 6 → Q h) : xcv (xMC n) 30 [.ref 134, .int a] h Q := by
  obtain ⟨n, rfl⟩ := xsucc hn
  refine w_Sheet_addShoe ⟨L.s 134, ?_⟩
  rw [ek, nI_clamp (by omega), show ((6 : Int32) ≤ nI k) = (6 ≤ k) from propext (nI_leI (a := 6) (by decide) (by omega))]
  refine ⟨fun z => h0 (by omega), fun z => ⟨135, L.r 134 3 135, ⟨by decide, L.x 135 (n := 6) (by omega)⟩, ?_⟩⟩
  have L1 : Lay (xsI h 135 k a) := L
  refine b_Sheet_addShoe_19 ⟨L1.s 134, ⟨by decide, L1.s 134⟩, ?_⟩
  rw [xsI_ne h k a (show 134 ≠ 135 by decide), ek, nI_1]
  exact h1 (by omega)
theorem c_Sheet_addFoot {n : Nat} (hn : 1 ≤ n) {h : xh} (L : Lay h) {k : Nat} (k4 : k ≤ 8) (ek : xI h 134 1 = nI k) {a b : Int32} {Q : xh → Prop} (h1 : k < 8 → Q (xsI (xsI (xsI h 136 k a) 137 k b) 134 1 (nI (k + 1)))) (h0 : k = 8 → Q h) : xcv (xMC n) 31 [.ref 134, .int a, .int b] h Q := by
  obtain ⟨n, rfl⟩ := xsucc hn
  refine w_Sheet_addFoot ⟨L.s 134, ?_⟩
  rw [ek, nI_clamp (by omega), show ((8 : Int32) ≤ nI k) = (8 ≤ k) from propext (nI_leI (a := 8) (by decide) (by omega))]
  refine ⟨fun z => h0 (by omega), fun z => ⟨136, L.r 134 4 136, ⟨by decide, L.x 136 (n := 8) (by omega)⟩, ?_⟩⟩
  have L1 : Lay (xsI h 136 k a) := L
  refine b_Sheet_addFoot_19 ⟨L1.s 134, 137, L1.r 134 5 137, ?_⟩
  rw [xsI_ne h k a (show 134 ≠ 136 by decide), ek, nI_clamp (by omega)]
  have L2 : Lay (xsI (xsI h 136 k a) 137 k b) := L
  refine ⟨⟨by decide, L1.x 137 (n := 8) (by omega)⟩, b_Sheet_addFoot_29 ⟨L2.s 134, ⟨by decide, L2.s 134⟩, ?_⟩⟩
  rw [xsI_ne _ _ _ (show 134 ≠ 137 by decide), xsI_ne h k a (show 134 ≠ 136 by decide), ek, nI_1]
  exact h1 (by omega)
theorem c_Sheet_addHide {n : Nat} (hn : 1 ≤ n) {h : xh} (L : Lay h) {k : Nat} (k4 : k ≤ 8) (ek : xI h 134 2 = nI k) {a b c : Int32} {Q : xh → Prop} (h1 : k < 8 → Q (xsI (xsI (xsI (xsI h 138 k a) 139 k b) 140 k c) 134 2 (nI (k + 1)))) (h0 : k = 8 → Q h) : xcv (xMC n) 32 [.ref 134, .int a, .int b, .int c] h Q := by
  obtain ⟨n, rfl⟩ := xsucc hn
  refine w_Sheet_addHide ⟨L.s 134, ?_⟩
  rw [ek, nI_clamp (by omega), show ((8 : Int32) ≤ nI k) = (8 ≤ k) from propext (nI_leI (a := 8) (by decide) (by omega))]
  refine ⟨fun z => h0 (by omega), fun z => ⟨138, L.r 134 6 138, ⟨by decide, L.x 138 (n := 8) (by omega)⟩, ?_⟩⟩
  have L1 : Lay (xsI h 138 k a) := L
  refine b_Sheet_addHide_19 ⟨L1.s 134, 139, L1.r 134 7 139, ?_⟩
  rw [xsI_ne h k a (show 134 ≠ 138 by decide), ek, nI_clamp (by omega)]
  have L2 : Lay (xsI (xsI h 138 k a) 139 k b) := L
  refine ⟨⟨by decide, L1.x 139 (n := 8) (by omega)⟩, b_Sheet_addHide_29 ⟨L2.s 134, 140, L2.r 134 8 140, ?_⟩⟩
  rw [xsI_ne _ _ _ (show 134 ≠ 139 by decide), xsI_ne h k a (show 134 ≠ 138 by decide), ek, nI_clamp (by omega)]
  have L3 : Lay (xsI (xsI (xsI h 138 k a) 139 k b) 140 k c) := L
  refine ⟨⟨by decide, L2.x 140 (n := 8) (by omega)⟩, b_Sheet_addHide_39 ⟨L3.s 134, ⟨by decide, L3.s 134⟩, ?_⟩⟩
  rw [xsI_ne _ _ _ (show 134 ≠ 140 by decide), xsI_ne _ _ _ (show 134 ≠ 139 by decide), xsI_ne h k a (show 134 ≠ 138 by decide), ek, nI_1]
  exact h1 (by omega)
