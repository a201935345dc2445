/-! CONSTRUCTORS: what they make (the chains of array fields are written by wip/tools/m35.py) -/
def xGr (h h' : xh) : Prop := xN h ≤ xN h' ∧ ∀ k, k < xN h → xS h' k = xS h k
theorem xGr.rf {h : xh} : xGr h h := ⟨Nat.le_refl _, fun _ _ => rfl⟩
theorem xGr.tr {a b c : xh} (h1 : xGr a b) (h2 : xGr b c) : xGr a c := ⟨Nat.le_trans h1.1 h2.1, fun k hk => (h2.2 k (Nat.lt_of_lt_of_le hk h1.1)).trans (h1.2 k hk)⟩
theorem xGr_nw (h : xh) (t n : Nat) : xGr h (xnw h t n) := ⟨Nat.le_succ _, fun k hk => by rw [xnw_S, if_neg (by omega)]⟩
theorem xGr_R (h : xh) (a i : Nat) (v : Option Nat) : xGr h (xsR h a i v) := ⟨Nat.le_refl _, fun _ _ => rfl⟩
theorem xGr_I (h : xh) (a i : Nat) (v : Int32) : xGr h (xsI h a i v) := ⟨Nat.le_refl _, fun _ _ => rfl⟩
theorem xnw_at (h : xh) (t n : Nat) : xS (xnw h t n) (xN h) = (t, n) := by rw [xnw_S, if_pos rfl]
/-- a field gets a new array -/
def nFd (a : Nat) (h : xh) (t z i : Nat) : xh := xsR (xnw h t z) a i (some (xN h))
theorem xGr_Fd (a : Nat) (h : xh) (t z i : Nat) : xGr h (nFd a h t z i) := (xGr_nw h t z).tr (xGr_R _ _ _ _)
theorem xokF {a tg : Nat} {h : xh} (t z i : Nat) (h2 : a < xN h) (h3 : xS h a = (tg, 0)) : a < xN (nFd a h t z i) ∧ xS (nFd a h t z i) a = (tg, 0) ∧ xS (xnw h t z) a = (tg, 0) :=
  ⟨Nat.lt_of_lt_of_le h2 (xGr_Fd a h t z i).1, ((xGr_Fd a h t z i).2 a h2).trans h3, ((xGr_nw h t z).2 a h2).trans h3⟩
def nEvening (a : Nat) (h : xh) : xh := (nFd a (nFd a h 20 40 1) 20 40 2)
theorem xGr_Evening (a : Nat) (h : xh) : xGr h (nEvening a h) := ((xGr.rf).tr (xGr_Fd a h 20 40 1)).tr (xGr_Fd a (nFd a h 20 40 1) 20 40 2)
theorem c_Evening_init {n : Nat} (hn : 1 ≤ n) {h : xh} {a : Nat} {Q : xh → Prop} (h1 : 64 ≤ a) (h2 : a < xN h) (h3 : xS h a = (3, 0)) (hQ : Q (nEvening a h)) : xcv (xMC n) 24 [.ref a] h Q := by
  obtain ⟨n, rfl⟩ := xsucc hn
  have g0 := xokF 20 40 1 h2 h3
  have g1 := xokF 20 40 2 g0.1 g0.2.1
  exact w_Evening_init ⟨⟨h1, g0.2.2⟩, (b_Evening_init_12 ⟨⟨h1, g1.2.2⟩, hQ⟩)⟩
def nSheet (a : Nat) (h : xh) : xh := (nFd a (nFd a (nFd a (nFd a (nFd a (nFd a h 20 6 3) 20 8 4) 20 8 5) 20 8 6) 20 8 7) 20 8 8)
theorem xGr_Sheet (a : Nat) (h : xh) : xGr h (nSheet a h) := ((((((xGr.rf).tr (xGr_Fd a h 20 6 3)).tr (xGr_Fd a (nFd a h 20 6 3) 20 8 4)).tr (xGr_Fd a (nFd a (nFd a h 20 6 3) 20 8 4) 20 8 5)).tr (xGr_Fd a (nFd a (nFd a (nFd a h 20 6 3) 20 8 4) 20 8 5) 20 8 6)).tr (xGr_Fd a (nFd a (nFd a (nFd a (nFd a h 20 6 3) 20 8 4) 20 8 5) 20 8 6) 20 8 7)).tr (xGr_Fd a (nFd a (nFd a (nFd a (nFd a (nFd a h 20 6 3) 20 8 4) 20 8 5) 20 8 6) 20 8 7) 20 8 8)
theorem c_Sheet_init {n : Nat} (hn : 1 ≤ n) {h : xh} {a : Nat} {Q : xh → Prop} (h1 : 64 ≤ a) (h2 : a < xN h) (h3 : xS h a = (5, 0)) (hQ : Q (nSheet a h)) : xcv (xMC n) 28 [.ref a] h Q := by
  obtain ⟨n, rfl⟩ := xsucc hn
  have g0 := xokF 20 6 3 h2 h3
  have g1 := xokF 20 8 4 g0.1 g0.2.1
  have g2 := xokF 20 8 5 g1.1 g1.2.1
  have g3 := xokF 20 8 6 g2.1 g2.2.1
  have g4 := xokF 20 8 7 g3.1 g3.2.1
  have g5 := xokF 20 8 8 g4.1 g4.2.1
  exact w_Sheet_init ⟨⟨h1, g0.2.2⟩, (b_Sheet_init_12 ⟨⟨h1, g1.2.2⟩, (b_Sheet_init_20 ⟨⟨h1, g2.2.2⟩, (b_Sheet_init_28 ⟨⟨h1, g3.2.2⟩, (b_Sheet_init_36 ⟨⟨h1, g4.2.2⟩, (b_Sheet_init_44 ⟨⟨h1, g5.2.2⟩, hQ⟩)⟩)⟩)⟩)⟩)⟩
def nTown (a : Nat) (h : xh) : xh := (nFd a (nFd a (nFd a (nFd a (nFd a (nFd a (nFd a h 20 9 7) 20 9 8) 20 9 9) 20 9 10) 20 9 11) 20 9 12) 20 9 13)
theorem xGr_Town (a : Nat) (h : xh) : xGr h (nTown a h) := (((((((xGr.rf).tr (xGr_Fd a h 20 9 7)).tr (xGr_Fd a (nFd a h 20 9 7) 20 9 8)).tr (xGr_Fd a (nFd a (nFd a h 20 9 7) 20 9 8) 20 9 9)).tr (xGr_Fd a (nFd a (nFd a (nFd a h 20 9 7) 20 9 8) 20 9 9) 20 9 10)).tr (xGr_Fd a (nFd a (nFd a (nFd a (nFd a h 20 9 7) 20 9 8) 20 9 9) 20 9 10) 20 9 11)).tr (xGr_Fd a (nFd a (nFd a (nFd a (nFd a (nFd a h 20 9 7) 20 9 8) 20 9 9) 20 9 10) 20 9 11) 20 9 12)).tr (xGr_Fd a (nFd a (nFd a (nFd a (nFd a (nFd a (nFd a h 20 9 7) 20 9 8) 20 9 9) 20 9 10) 20 9 11) 20 9 12) 20 9 13)
theorem c_Town_init {n : Nat} (hn : 1 ≤ n) {h : xh} {a : Nat} {Q : xh → Prop} (h1 : 64 ≤ a) (h2 : a < xN h) (h3 : xS h a = (2, 0)) (hQ : Q (nTown a h)) : xcv (xMC n) 38 [.ref a] h Q := by
  obtain ⟨n, rfl⟩ := xsucc hn
  have g0 := xokF 20 9 7 h2 h3
  have g1 := xokF 20 9 8 g0.1 g0.2.1
  have g2 := xokF 20 9 9 g1.1 g1.2.1
  have g3 := xokF 20 9 10 g2.1 g2.2.1
  have g4 := xokF 20 9 11 g3.1 g3.2.1
  have g5 := xokF 20 9 12 g4.1 g4.2.1
  have g6 := xokF 20 9 13 g5.1 g5.2.1
  exact w_Town_init ⟨⟨h1, g0.2.2⟩, (b_Town_init_12 ⟨⟨h1, g1.2.2⟩, (b_Town_init_20 ⟨⟨h1, g2.2.2⟩, (b_Town_init_28 ⟨⟨h1, g3.2.2⟩, (b_Town_init_36 ⟨⟨h1, g4.2.2⟩, (b_Town_init_44 ⟨⟨h1, g5.2.2⟩, (b_Town_init_52 ⟨⟨h1, g6.2.2⟩, hQ⟩)⟩)⟩)⟩)⟩)⟩)⟩
def nBook (a : Nat) (h : xh) : xh := (nFd a (nFd a (nFd a h 20 10 1) 20 10 2) 20 30 3)
theorem xGr_Book (a : Nat) (h : xh) : xGr h (nBook a h) := (((xGr.rf).tr (xGr_Fd a h 20 10 1)).tr (xGr_Fd a (nFd a h 20 10 1) 20 10 2)).tr (xGr_Fd a (nFd a (nFd a h 20 10 1) 20 10 2) 20 30 3)
theorem c_Book_init {n : Nat} (hn : 1 ≤ n) {h : xh} {a : Nat} {Q : xh → Prop} (h1 : 64 ≤ a) (h2 : a < xN h) (h3 : xS h a = (4, 0)) (hQ : Q (nBook a h)) : xcv (xMC n) 55 [.ref a] h Q := by
  obtain ⟨n, rfl⟩ := xsucc hn
  have g0 := xokF 20 10 1 h2 h3
  have g1 := xokF 20 10 2 g0.1 g0.2.1
  have g2 := xokF 20 30 3 g1.1 g1.2.1
  exact w_Book_init ⟨⟨h1, g0.2.2⟩, (b_Book_init_12 ⟨⟨h1, g1.2.2⟩, (b_Book_init_20 ⟨⟨h1, g2.2.2⟩, hQ⟩)⟩)⟩
def nBowls (a : Nat) (h : xh) : xh := (nFd a (nFd a (nFd a h 22 1000 1) 22 10 2) 22 181 3)
theorem xGr_Bowls (a : Nat) (h : xh) : xGr h (nBowls a h) := (((xGr.rf).tr (xGr_Fd a h 22 1000 1)).tr (xGr_Fd a (nFd a h 22 1000 1) 22 10 2)).tr (xGr_Fd a (nFd a (nFd a h 22 1000 1) 22 10 2) 22 181 3)
theorem c_Bowls_init {n : Nat} (hn : 1 ≤ n) {h : xh} {a : Nat} {Q : xh → Prop} (h1 : 64 ≤ a) (h2 : a < xN h) (h3 : xS h a = (8, 0)) (hQ : Q (nBowls a h)) : xcv (xMC n) 71 [.ref a] h Q := by
  obtain ⟨n, rfl⟩ := xsucc hn
  have g0 := xokF 22 1000 1 h2 h3
  have g1 := xokF 22 10 2 g0.1 g0.2.1
  have g2 := xokF 22 181 3 g1.1 g1.2.1
  exact w_Bowls_init ⟨⟨h1, g0.2.2⟩, (b_Bowls_init_13 ⟨⟨h1, g1.2.2⟩, (b_Bowls_init_21 ⟨⟨h1, g2.2.2⟩, hQ⟩)⟩)⟩
def nRoutes (a : Nat) (h : xh) : xh := (nFd a (nFd a (nFd a (nFd a (nFd a (nFd a (nFd a (nFd a h 20 90 2) 20 4608 3) 20 512 4) 20 512 5) 20 512 6) 20 512 7) 20 9 8) 20 9 9)
theorem xGr_Routes (a : Nat) (h : xh) : xGr h (nRoutes a h) := ((((((((xGr.rf).tr (xGr_Fd a h 20 90 2)).tr (xGr_Fd a (nFd a h 20 90 2) 20 4608 3)).tr (xGr_Fd a (nFd a (nFd a h 20 90 2) 20 4608 3) 20 512 4)).tr (xGr_Fd a (nFd a (nFd a (nFd a h 20 90 2) 20 4608 3) 20 512 4) 20 512 5)).tr (xGr_Fd a (nFd a (nFd a (nFd a (nFd a h 20 90 2) 20 4608 3) 20 512 4) 20 512 5) 20 512 6)).tr (xGr_Fd a (nFd a (nFd a (nFd a (nFd a (nFd a h 20 90 2) 20 4608 3) 20 512 4) 20 512 5) 20 512 6) 20 512 7)).tr (xGr_Fd a (nFd a (nFd a (nFd a (nFd a (nFd a (nFd a h 20 90 2) 20 4608 3) 20 512 4) 20 512 5) 20 512 6) 20 512 7) 20 9 8)).tr (xGr_Fd a (nFd a (nFd a (nFd a (nFd a (nFd a (nFd a (nFd a h 20 90 2) 20 4608 3) 20 512 4) 20 512 5) 20 512 6) 20 512 7) 20 9 8) 20 9 9)
theorem c_Routes_init {n : Nat} (hn : 1 ≤ n) {h : xh} {a : Nat} {Q : xh → Prop} (h1 : 64 ≤ a) (h2 : a < xN h) (h3 : xS h a = (9, 0)) (hQ : Q (nRoutes a h)) : xcv (xMC n) 81 [.ref a] h Q := by
  obtain ⟨n, rfl⟩ := xsucc hn
  have g0 := xokF 20 90 2 h2 h3
  have g1 := xokF 20 4608 3 g0.1 g0.2.1
  have g2 := xokF 20 512 4 g1.1 g1.2.1
  have g3 := xokF 20 512 5 g2.1 g2.2.1
  have g4 := xokF 20 512 6 g3.1 g3.2.1
  have g5 := xokF 20 512 7 g4.1 g4.2.1
  have g6 := xokF 20 9 8 g5.1 g5.2.1
  have g7 := xokF 20 9 9 g6.1 g6.2.1
  exact w_Routes_init ⟨⟨h1, g0.2.2⟩, (b_Routes_init_12 ⟨⟨h1, g1.2.2⟩, (b_Routes_init_21 ⟨⟨h1, g2.2.2⟩, (b_Routes_init_30 ⟨⟨h1, g3.2.2⟩, (b_Routes_init_39 ⟨⟨h1, g4.2.2⟩, (b_Routes_init_48 ⟨⟨h1, g5.2.2⟩, (b_Routes_init_57 ⟨⟨h1, g6.2.2⟩, (b_Routes_init_65 ⟨⟨h1, g7.2.2⟩, hQ⟩)⟩)⟩)⟩)⟩)⟩)⟩)⟩
def nSearch (a : Nat) (h : xh) : xh := (nFd a (nFd a (nFd a (nFd a (nFd a h 20 576 1) 20 8 2) 20 2048 3) 20 256 4) 20 8 5)
theorem xGr_Search (a : Nat) (h : xh) : xGr h (nSearch a h) := (((((xGr.rf).tr (xGr_Fd a h 20 576 1)).tr (xGr_Fd a (nFd a h 20 576 1) 20 8 2)).tr (xGr_Fd a (nFd a (nFd a h 20 576 1) 20 8 2) 20 2048 3)).tr (xGr_Fd a (nFd a (nFd a (nFd a h 20 576 1) 20 8 2) 20 2048 3) 20 256 4)).tr (xGr_Fd a (nFd a (nFd a (nFd a (nFd a h 20 576 1) 20 8 2) 20 2048 3) 20 256 4) 20 8 5)
theorem c_Search_init {n : Nat} (hn : 1 ≤ n) {h : xh} {a : Nat} {Q : xh → Prop} (h1 : 64 ≤ a) (h2 : a < xN h) (h3 : xS h a = (10, 0)) (hQ : Q (nSearch a h)) : xcv (xMC n) 103 [.ref a] h Q := by
  obtain ⟨n, rfl⟩ := xsucc hn
  have g0 := xokF 20 576 1 h2 h3
  have g1 := xokF 20 8 2 g0.1 g0.2.1
  have g2 := xokF 20 2048 3 g1.1 g1.2.1
  have g3 := xokF 20 256 4 g2.1 g2.2.1
  have g4 := xokF 20 8 5 g3.1 g3.2.1
  exact w_Search_init ⟨⟨h1, g0.2.2⟩, (b_Search_init_13 ⟨⟨h1, g1.2.2⟩, (b_Search_init_21 ⟨⟨h1, g2.2.2⟩, (b_Search_init_30 ⟨⟨h1, g3.2.2⟩, (b_Search_init_39 ⟨⟨h1, g4.2.2⟩, hQ⟩)⟩)⟩)⟩)⟩
def nWalk (a : Nat) (h : xh) : xh := (nFd a (nFd a (nFd a (nFd a h 20 9 8) 20 9 9) 20 9 10) 20 9 11)
theorem xGr_Walk (a : Nat) (h : xh) : xGr h (nWalk a h) := ((((xGr.rf).tr (xGr_Fd a h 20 9 8)).tr (xGr_Fd a (nFd a h 20 9 8) 20 9 9)).tr (xGr_Fd a (nFd a (nFd a h 20 9 8) 20 9 9) 20 9 10)).tr (xGr_Fd a (nFd a (nFd a (nFd a h 20 9 8) 20 9 9) 20 9 10) 20 9 11)
theorem c_Walk_init {n : Nat} (hn : 1 ≤ n) {h : xh} {a : Nat} {Q : xh → Prop} (h1 : 64 ≤ a) (h2 : a < xN h) (h3 : xS h a = (7, 0)) (hQ : Q (nWalk a h)) : xcv (xMC n) 113 [.ref a] h Q := by
  obtain ⟨n, rfl⟩ := xsucc hn
  have g0 := xokF 20 9 8 h2 h3
  have g1 := xokF 20 9 9 g0.1 g0.2.1
  have g2 := xokF 20 9 10 g1.1 g1.2.1
  have g3 := xokF 20 9 11 g2.1 g2.2.1
  exact w_Walk_init ⟨⟨h1, g0.2.2⟩, (b_Walk_init_12 ⟨⟨h1, g1.2.2⟩, (b_Walk_init_20 ⟨⟨h1, g2.2.2⟩, (b_Walk_init_28 ⟨⟨h1, g3.2.2⟩, hQ⟩)⟩)⟩)⟩
/-- two new objects in a new array, the array into a field -/
def nPr (nX : Nat → xh → xh) (ta to a : Nat) (h : xh) (i : Nat) : xh :=
  xsR (xsR (nX (xN (xsR (nX (xN (xnw h ta 2)) (xnw (xnw h ta 2) to 0)) (xN h) 0 (some (xN (xnw h ta 2))))) (xnw (xsR (nX (xN (xnw h ta 2)) (xnw (xnw h ta 2) to 0)) (xN h) 0 (some (xN (xnw h ta 2)))) to 0)) (xN h) 1 (some (xN (xsR (nX (xN (xnw h ta 2)) (xnw (xnw h ta 2) to 0)) (xN h) 0 (some (xN (xnw h ta 2))))))) a i (some (xN h))
theorem xGr_Pr {nX : Nat → xh → xh} (hX : ∀ a h, xGr h (nX a h)) (ta to a : Nat) (h : xh) (i : Nat) : xGr h (nPr nX ta to a h i) := by
  unfold nPr
  exact (((((((xGr_nw h ta 2).tr (xGr_nw _ to 0)).tr (hX _ _)).tr (xGr_R _ _ _ _)).tr (xGr_nw _ to 0)).tr (hX _ _)).tr (xGr_R _ _ _ _)).tr (xGr_R _ _ _ _)
theorem xvp (z : Nat) (hz : z < 2) {i : Int32} (hi : i = nI z) : vp_in i 2 := by rw [hi]; exact vp_in_nI hz (by decide)
/-- what the steps of such a pair ask -/
theorem xPr_ok {nX : Nat → xh → xh} (hX : ∀ a h, xGr h (nX a h)) {ta to a tg : Nat} {h : xh} (h64 : 64 ≤ a) (h2 : a < xN h) (h3 : xS h a = (tg, 0)) :
    let hA := xnw h ta 2
    let hB := nX (xN hA) (xnw hA to 0)
    let hC := xsR hB (xN h) 0 (some (xN hA))
    let hD := nX (xN hC) (xnw hC to 0)
    let hE := xsR hD (xN h) 1 (some (xN hC))
    (64 ≤ xN hA ∧ xN hA < xN (xnw hA to 0) ∧ xS (xnw hA to 0) (xN hA) = (to, 0)) ∧ (64 ≤ xN h ∧ xar hB (xN h) ta 0 ∧ 64 ≤ xN hA ∧ xS hB (xN hA) = (to, 0)) ∧ (64 ≤ xN hC ∧ xN hC < xN (xnw hC to 0) ∧ xS (xnw hC to 0) (xN hC) = (to, 0)) ∧ (64 ≤ xN h ∧ xar hD (xN h) ta 1 ∧ 64 ≤ xN hC ∧ xS hD (xN hC) = (to, 0)) ∧ (64 ≤ a ∧ xS hE a = (tg, 0)) := by
  intro hA hB hC hD hE
  have gA : xGr h hA := xGr_nw h ta 2
  have gB0 : xGr hA (xnw hA to 0) := xGr_nw hA to 0
  have gB : xGr (xnw hA to 0) hB := hX _ _
  have gC : xGr hB hC := xGr_R _ _ _ _
  have gD0 : xGr hC (xnw hC to 0) := xGr_nw hC to 0
  have gD : xGr (xnw hC to 0) hD := hX _ _
  have gE : xGr hD hE := xGr_R _ _ _ _
  have nA : xN hA = xN h + 1 := rfl
  have nB0 : xN (xnw hA to 0) = xN hA + 1 := rfl
  have nD0 : xN (xnw hC to 0) = xN hC + 1 := rfl
  have lB := gB.1
  have lC := gC.1
  have lD := gD.1
  have sA : xS hA (xN h) = (ta, 2) := xnw_at h ta 2
  have sB : xS hB (xN h) = (ta, 2) := ((gB0.tr gB).2 _ (by omega)).trans sA
  have sD : xS hD (xN h) = (ta, 2) := ((gC.tr (gD0.tr gD)).2 _ (by omega)).trans sB
  refine ⟨⟨by omega, by omega, xnw_at hA to 0⟩, ⟨by omega, ⟨by rw [sB], by rw [sB]; exact xvp 0 (by omega) rfl⟩, by omega, (gB.2 _ (by omega)).trans (xnw_at hA to 0)⟩, ⟨by omega, by omega, xnw_at hC to 0⟩, ⟨by omega, ⟨by rw [sD], by rw [sD]; exact xvp 1 (by omega) rfl⟩, by omega, (gD.2 _ (by omega)).trans (xnw_at hC to 0)⟩, h64, ?_⟩
  exact (((((gA.tr gB0).tr gB).tr gC).tr (gD0.tr gD)).tr gE |>.2 a h2).trans h3
def nTold (a : Nat) (h : xh) : xh := nPr nSheet 28 5 a (nPr nBook 27 4 a (nPr nEvening 26 3 a (nPr nTown 25 2 a (nFd a (xsI (nFd a h 21 600 0) a 3 (-1)) 20 4 4) 5) 6) 7) 8
theorem xGr_Told (a : Nat) (h : xh) : xGr h (nTold a h) := by
  unfold nTold
  exact (((((((xGr_Fd a h 21 600 0).tr (xGr_I _ _ _ _)).tr (xGr_Fd _ _ _ _ _)).tr (xGr_Pr xGr_Town _ _ _ _ _)).tr (xGr_Pr xGr_Evening _ _ _ _ _)).tr (xGr_Pr xGr_Book _ _ _ _ _)).tr (xGr_Pr xGr_Sheet _ _ _ _ _))
theorem c_Told_init {n : Nat} (hn : 2 ≤ n) {h : xh} {a : Nat} {Q : xh → Prop} (h1 : 64 ≤ a) (h2 : a < xN h) (h3 : xS h a = (1, 0)) (hQ : Q (nTold a h)) : xcv (xMC n) 144 [.ref a] h Q := by
  obtain ⟨n, rfl⟩ := xsucc (show 1 ≤ n by omega)
  have g0 := xokF 21 600 0 h2 h3
  have k1 : a < xN (xsI (nFd a h 21 600 0) a 3 (-1)) := g0.1
  have k2 : xS (xsI (nFd a h 21 600 0) a 3 (-1)) a = (1, 0) := g0.2.1
  have g1 := xokF 20 4 4 k1 k2
  refine w_Told_init ⟨⟨h1, g0.2.2⟩, b_Told_init_13 ⟨⟨h1, g0.2.1⟩, b_Told_init_18 ⟨⟨h1, g1.2.2⟩, ?_⟩⟩⟩
  unfold nTold at hQ
  change K_Told_init n Q 25 [some (.ref a)] [] (nFd a (xsI (nFd a h 21 600 0) a 3 (-1)) 20 4 4) 2 604
  have e1 := g1.1
  have e2 := g1.2.1
  generalize nFd a (xsI (nFd a h 21 600 0) a 3 (-1)) 20 4 4 = H at hQ e1 e2 ⊢
  have q1 := xPr_ok (ta := 25) (to := 2) xGr_Town h1 e1 e2
  refine b_Told_init_25 ⟨q1.1.2.2, c_Town_init (by omega) q1.1.1 q1.1.2.1 q1.1.2.2 ⟨q1.2.1, ?_⟩⟩
  refine b_Told_init_40 ⟨q1.2.2.1.2.2, c_Town_init (by omega) q1.2.2.1.1 q1.2.2.1.2.1 q1.2.2.1.2.2 ⟨q1.2.2.2.1, ?_⟩⟩
  refine b_Told_init_50 ⟨q1.2.2.2.2, ?_⟩
  change K_Told_init n Q 53 [some (.ref a)] [] (nPr nTown 25 2 a H 5) 19 760
  have f1 : a < xN (nPr nTown 25 2 a H 5) := Nat.lt_of_lt_of_le e1 (xGr_Pr xGr_Town _ _ _ _ _).1
  have f2 : xS (nPr nTown 25 2 a H 5) a = (1, 0) := ((xGr_Pr xGr_Town _ _ _ _ _).2 a e1).trans e2
  generalize nPr nTown 25 2 a H 5 = H at hQ f1 f2 ⊢
  have q2 := xPr_ok (ta := 26) (to := 3) xGr_Evening h1 f1 f2
  refine b_Told_init_53 ⟨q2.1.2.2, c_Evening_init (by omega) q2.1.1 q2.1.2.1 q2.1.2.2 ⟨q2.2.1, ?_⟩⟩
  refine b_Told_init_68 ⟨q2.2.2.1.2.2, c_Evening_init (by omega) q2.2.2.1.1 q2.2.2.1.2.1 q2.2.2.1.2.2 ⟨q2.2.2.2.1, ?_⟩⟩
  refine b_Told_init_78 ⟨q2.2.2.2.2, ?_⟩
  change K_Told_init n Q 81 [some (.ref a)] [] (nPr nEvening 26 3 a H 6) 26 928
  have i1 : a < xN (nPr nEvening 26 3 a H 6) := Nat.lt_of_lt_of_le f1 (xGr_Pr xGr_Evening _ _ _ _ _).1
  have i2 : xS (nPr nEvening 26 3 a H 6) a = (1, 0) := ((xGr_Pr xGr_Evening _ _ _ _ _).2 a f1).trans f2
  generalize nPr nEvening 26 3 a H 6 = H at hQ i1 i2 ⊢
  have q3 := xPr_ok (ta := 27) (to := 4) xGr_Book h1 i1 i2
  refine b_Told_init_81 ⟨q3.1.2.2, c_Book_init (by omega) q3.1.1 q3.1.2.1 q3.1.2.2 ⟨q3.2.1, ?_⟩⟩
  refine b_Told_init_96 ⟨q3.2.2.1.2.2, c_Book_init (by omega) q3.2.2.1.1 q3.2.2.1.2.1 q3.2.2.1.2.2 ⟨q3.2.2.2.1, ?_⟩⟩
  refine b_Told_init_106 ⟨q3.2.2.2.2, ?_⟩
  change K_Told_init n Q 109 [some (.ref a)] [] (nPr nBook 27 4 a H 7) 35 1038
  have j1 : a < xN (nPr nBook 27 4 a H 7) := Nat.lt_of_lt_of_le i1 (xGr_Pr xGr_Book _ _ _ _ _).1
  have j2 : xS (nPr nBook 27 4 a H 7) a = (1, 0) := ((xGr_Pr xGr_Book _ _ _ _ _).2 a i1).trans i2
  generalize nPr nBook 27 4 a H 7 = H at hQ j1 j2 ⊢
  have q4 := xPr_ok (ta := 28) (to := 5) xGr_Sheet h1 j1 j2
  refine b_Told_init_109 ⟨q4.1.2.2, c_Sheet_init (by omega) q4.1.1 q4.1.2.1 q4.1.2.2 ⟨q4.2.1, ?_⟩⟩
  refine b_Told_init_124 ⟨q4.2.2.1.2.2, c_Sheet_init (by omega) q4.2.2.1.1 q4.2.2.1.2.1 q4.2.2.1.2.2 ⟨q4.2.2.2.1, ?_⟩⟩
  exact b_Told_init_134 ⟨q4.2.2.2.2, hQ⟩
