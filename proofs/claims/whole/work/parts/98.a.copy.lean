/-! COPIES of towns, evenings, books, lists -/
theorem cp_i (h : xh) (s d n c i : Nat) (hi : i < n) : xI (xcp h s 0 d 0 n) c i = if c = d then xI h s i else xI h c i := by
  by_cases e : c = d
  · subst e
    rw [if_pos rfl, xcp_at, sb_cpy0 hi]
  · rw [if_neg e, xcp_ne h _ _ _ _ e]
def TnS (h : xh) (t : Nat) : Prop := xS h t = (2, 0) ∧ ∀ j, j < 7 → xR h t (7 + j) = some (t + 1 + j) ∧ xS h (t + 1 + j) = (20, 9)
def Bl (b n c : Nat) : Prop := b ≤ c ∧ c ≤ b + n
theorem Fr.cp {P : Nat → Prop} {h g : xh} (F : Fr P h g) {s d n : Nat} (hd : P d) : Fr P h (xcp g s 0 d 0 n) := F.tr ⟨rfl, rfl, rfl, fun c hc => ⟨xcp_ne g _ _ _ _ (fun z => hc (z ▸ hd)), rfl⟩⟩
theorem c_Town_copyFrom {n : Nat} (hn : 1 ≤ n) {h : xh} {a p : Nat} (Sa : TnS h a) (Sp : TnS h p) (ha : 64 ≤ a) (hp : 64 ≤ p) (dj : a + 7 < p ∨ p + 7 < a) {Q : xh → Prop} (hQ : ∀ g, Fr (Bl a 7) h g → (∀ i, i < 7 → xI g a i = xI h p i) → (∀ j i, j < 7 → i < 9 → xI g (a + 1 + j) i = xI h (p + 1 + j) i) → Q g) : xcv (xMC n) 42 [.ref a, .ref p] h Q := by
  obtain ⟨n, rfl⟩ := xsucc hn
  have st : ∀ {g}, Fr (Bl a 7) h g → xS g a = (2, 0) ∧ xS g p = (2, 0) := fun F => by rw [F.1]; exact ⟨Sa.1, Sp.1⟩
  have pin : ∀ {g}, Fr (Bl a 7) h g → ∀ c i, p ≤ c → c ≤ p + 7 → xI g c i = xI h c i := fun F c i h1 h2 => by rw [F.i c (fun z => by unfold Bl at z; omega)]
  have ba : Bl a 7 a := ⟨Nat.le_refl _, by omega⟩
  have bj : ∀ j, j < 7 → Bl a 7 (a + 1 + j) := fun j hj => ⟨by omega, by omega⟩
  have arr : ∀ {g}, Fr (Bl a 7) h g → ∀ j, j < 7 → (∃ a1, xR g p (7 + j) = some a1 ∧ (xS g a = (2, 0) ∧ ∃ a2, xR g a (7 + j) = some a2 ∧ a1 = p + 1 + j ∧ a2 = a + 1 + j ∧ (((64 ≤ a2 ∧ 64 ≤ a1) ∧ ((xS g a1).1 = 20 ∧ (xS g a2).1 = 20) ∧ (¬ (9 : Int32) < 0 ∧ ¬ (0 : Int32) < 0 ∧ ¬ (0 : Int32) < 0) ∧ (0 : Int32).toNatClampNeg + (9 : Int32).toNatClampNeg ≤ (xS g a1).2 ∧ (0 : Int32).toNatClampNeg + (9 : Int32).toNatClampNeg ≤ (xS g a2).2)))) := fun {g} F j hj => by
    refine ⟨p + 1 + j, by rw [F.2.2.1]; exact (Sp.2 j hj).1, (st F).1, a + 1 + j, by rw [F.2.2.1]; exact (Sa.2 j hj).1, rfl, rfl, ⟨by omega, by omega⟩, ?_, by decide, ?_⟩
    · rw [F.1, (Sp.2 j hj).2, (Sa.2 j hj).2]; exact ⟨rfl, rfl⟩
    · rw [F.1, (Sp.2 j hj).2, (Sa.2 j hj).2]; exact ⟨by decide, by decide⟩
  -- the seven numbers
  have f0 : ∀ {g}, Fr (Bl a 7) h g → ∀ i v, Fr (Bl a 7) h (xsI g a i v) := fun F i v => F.wI ba
  refine w_Town_copyFrom ⟨Sp.1, ⟨ha, Sa.1⟩, ?_⟩
  have F1 := f0 (Fr.rf (P := Bl a 7) (h := h)) 0 (xI h p 0)
  refine b_Town_copyFrom_8 ⟨(st F1).2, ⟨ha, (st F1).1⟩, ?_⟩
  rw [pin F1 p 1 (by omega) (by omega)]
  have F2 := f0 F1 1 (xI h p 1)
  refine b_Town_copyFrom_16 ⟨(st F2).2, ⟨ha, (st F2).1⟩, ?_⟩
  rw [pin F2 p 2 (by omega) (by omega)]
  have F3 := f0 F2 2 (xI h p 2)
  refine b_Town_copyFrom_24 ⟨(st F3).2, ⟨ha, (st F3).1⟩, ?_⟩
  rw [pin F3 p 3 (by omega) (by omega)]
  have F4 := f0 F3 3 (xI h p 3)
  refine b_Town_copyFrom_32 ⟨(st F4).2, ⟨ha, (st F4).1⟩, ?_⟩
  rw [pin F4 p 4 (by omega) (by omega)]
  have F5 := f0 F4 4 (xI h p 4)
  refine b_Town_copyFrom_40 ⟨(st F5).2, ⟨ha, (st F5).1⟩, ?_⟩
  rw [pin F5 p 5 (by omega) (by omega)]
  have F6 := f0 F5 5 (xI h p 5)
  refine b_Town_copyFrom_48 ⟨(st F6).2, ⟨ha, (st F6).1⟩, ?_⟩
  rw [pin F6 p 6 (by omega) (by omega)]
  have F7 := f0 F6 6 (xI h p 6)
  have e7 : ∀ i, i < 7 → xI (xsI (xsI (xsI (xsI (xsI (xsI (xsI h a 0 (xI h p 0)) a 1 (xI h p 1)) a 2 (xI h p 2)) a 3 (xI h p 3)) a 4 (xI h p 4)) a 5 (xI h p 5)) a 6 (xI h p 6)) a i = xI h p i := fun i hi => by
    rw [upI, upI, upI, upI, upI, upI, upI]
    have : i = 0 ∨ i = 1 ∨ i = 2 ∨ i = 3 ∨ i = 4 ∨ i = 5 ∨ i = 6 := by omega
    rcases this with e | e | e | e | e | e | e <;> subst e <;> rfl
  generalize xsI (xsI (xsI (xsI (xsI (xsI (xsI h a 0 (xI h p 0)) a 1 (xI h p 1)) a 2 (xI h p 2)) a 3 (xI h p 3)) a 4 (xI h p 4)) a 5 (xI h p 5)) a 6 (xI h p 6) = g7 at F7 e7 ⊢
  -- the arrays
  have cpS : ∀ {g}, Fr (Bl a 7) h g → ∀ j, j < 7 → (∀ i, i < 7 → xI g a i = xI h p i) → (∀ k i, k < j → i < 9 → xI g (a + 1 + k) i = xI h (p + 1 + k) i) → Fr (Bl a 7) h (xcp g (p + 1 + j) 0 (a + 1 + j) 0 9) ∧ (∀ i, i < 7 → xI (xcp g (p + 1 + j) 0 (a + 1 + j) 0 9) a i = xI h p i) ∧ (∀ k i, k < j + 1 → i < 9 → xI (xcp g (p + 1 + j) 0 (a + 1 + j) 0 9) (a + 1 + k) i = xI h (p + 1 + k) i) := fun {g} F j hj q1 q2 => by
    refine ⟨F.cp (bj j hj), fun i hi => ?_, fun k i hk hi => ?_⟩
    · rw [cp_i _ _ _ _ _ _ (by omega), if_neg (by omega)]; exact q1 i hi
    · rw [cp_i _ _ _ _ _ _ hi]
      by_cases e : a + 1 + k = a + 1 + j
      · rw [if_pos e, show k = j by omega]; exact pin F _ _ (by omega) (by omega)
      · rw [if_neg e]; exact q2 k i (by omega) hi
  obtain ⟨a1, r1, s1, a2, r2, e1, e2, ok⟩ := arr F7 0 (by decide)
  subst e1; subst e2
  obtain ⟨G0, n0, m0⟩ := cpS F7 0 (by decide) e7 (fun k i hk => absurd hk (Nat.not_lt_zero _))
  refine b_Town_copyFrom_56 ⟨(st F7).2, _, r1, s1, _, r2, ok, ?_⟩
  obtain ⟨a1, r1, s1, a2, r2, e1, e2, ok⟩ := arr G0 1 (by decide)
  subst e1; subst e2
  obtain ⟨G1, n1, m1⟩ := cpS G0 1 (by decide) n0 m0
  refine b_Town_copyFrom_71 ⟨(st G0).2, _, r1, s1, _, r2, ok, ?_⟩
  obtain ⟨a1, r1, s1, a2, r2, e1, e2, ok⟩ := arr G1 2 (by decide)
  subst e1; subst e2
  obtain ⟨G2, n2, m2⟩ := cpS G1 2 (by decide) n1 m1
  refine b_Town_copyFrom_86 ⟨(st G1).2, _, r1, s1, _, r2, ok, ?_⟩
  obtain ⟨a1, r1, s1, a2, r2, e1, e2, ok⟩ := arr G2 3 (by decide)
  subst e1; subst e2
  obtain ⟨G3, n3, m3⟩ := cpS G2 3 (by decide) n2 m2
  refine b_Town_copyFrom_101 ⟨(st G2).2, _, r1, s1, _, r2, ok, ?_⟩
  obtain ⟨a1, r1, s1, a2, r2, e1, e2, ok⟩ := arr G3 4 (by decide)
  subst e1; subst e2
  obtain ⟨G4, n4, m4⟩ := cpS G3 4 (by decide) n3 m3
  refine b_Town_copyFrom_116 ⟨(st G3).2, _, r1, s1, _, r2, ok, ?_⟩
  obtain ⟨a1, r1, s1, a2, r2, e1, e2, ok⟩ := arr G4 5 (by decide)
  subst e1; subst e2
  obtain ⟨G5, n5, m5⟩ := cpS G4 5 (by decide) n4 m4
  refine b_Town_copyFrom_131 ⟨(st G4).2, _, r1, s1, _, r2, ok, ?_⟩
  obtain ⟨a1, r1, s1, a2, r2, e1, e2, ok⟩ := arr G5 6 (by decide)
  subst e1; subst e2
  obtain ⟨G6, n6, m6⟩ := cpS G5 6 (by decide) n5 m5
  exact b_Town_copyFrom_146 ⟨(st G5).2, _, r1, s1, _, r2, ok, hQ _ G6 n6 (fun j i hj hi => m6 j i (by omega) hi)⟩
def EvS (h : xh) (t : Nat) : Prop := xS h t = (3, 0) ∧ ∀ j, j < 2 → xR h t (1 + j) = some (t + 1 + j) ∧ xS h (t + 1 + j) = (20, ([40, 40] : List Nat).getD j 0)
theorem c_Evening_copyFrom {n : Nat} (hn : 1 ≤ n) {h : xh} {a p : Nat} (Sa : EvS h a) (Sp : EvS h p) (ha : 64 ≤ a) (hp : 64 ≤ p) (dj : a + 2 < p ∨ p + 2 < a) {Q : xh → Prop} (hQ : ∀ g, Fr (Bl a 2) h g → (∀ i, i < 1 → xI g a i = xI h p i) → (∀ j i, j < 2 → i < ([40, 40] : List Nat).getD j 0 → xI g (a + 1 + j) i = xI h (p + 1 + j) i) → Q g) : xcv (xMC n) 26 [.ref a, .ref p] h Q := by
  obtain ⟨n, rfl⟩ := xsucc hn
  have st : ∀ {g}, Fr (Bl a 2) h g → xS g a = (3, 0) ∧ xS g p = (3, 0) := fun F => by rw [F.1]; exact ⟨Sa.1, Sp.1⟩
  have pin : ∀ {g}, Fr (Bl a 2) h g → ∀ c i, p ≤ c → c ≤ p + 2 → xI g c i = xI h c i := fun F c i h1 h2 => by rw [F.i c (fun z => by unfold Bl at z; omega)]
  have ba : Bl a 2 a := ⟨Nat.le_refl _, by omega⟩
  have f0 : ∀ {g}, Fr (Bl a 2) h g → ∀ i v, Fr (Bl a 2) h (xsI g a i v) := fun F i v => F.wI ba
  refine w_Evening_copyFrom ⟨Sp.1, ⟨ha, Sa.1⟩, ?_⟩
  have F1 := f0 (Fr.rf (P := Bl a 2) (h := h)) 0 (xI h p 0)
  have e7 : ∀ i, i < 1 → xI (xsI h a 0 (xI h p 0)) a i = xI h p i := fun i hi => by
    rw [upI]
    have : i = 0 := by omega
    subst this; rfl
  generalize xsI h a 0 (xI h p 0) = g7 at F1 e7 ⊢
  refine b_Evening_copyFrom_8 ⟨(st F1).2, p + 1 + 0, by rw [F1.2.2.1]; exact (Sp.2 0 (by decide)).1, (st F1).1, a + 1 + 0, by rw [F1.2.2.1]; exact (Sa.2 0 (by decide)).1, ⟨⟨by omega, by omega⟩, by rw [F1.1, (Sp.2 0 (by decide)).2, (Sa.2 0 (by decide)).2]; exact ⟨rfl, rfl⟩, by decide, by rw [F1.1, (Sp.2 0 (by decide)).2, (Sa.2 0 (by decide)).2]; exact ⟨by decide, by decide⟩⟩, ?_⟩
  have G0 : Fr (Bl a 2) h (xcp g7 (p + 1 + 0) 0 (a + 1 + 0) 0 40) := F1.cp ⟨by omega, by omega⟩
  have n0 : ∀ i, i < 1 → xI (xcp g7 (p + 1 + 0) 0 (a + 1 + 0) 0 40) a i = xI h p i := fun i hi => by rw [xcp_ne _ _ _ _ _ (by omega)]; exact e7 i hi
  have m0 : ∀ k i, k < 1 → i < (([40, 40] : List Nat).getD k 0) → xI (xcp g7 (p + 1 + 0) 0 (a + 1 + 0) 0 40) (a + 1 + k) i = xI h (p + 1 + k) i := fun k i hk hi => by
    by_cases e : k = 0
    · subst e
      have hi : i < 40 := hi
      rw [cp_i _ _ _ _ _ _ hi, if_pos rfl]; exact pin F1 _ _ (by omega) (by omega)
    · omega
  show K_Evening_copyFrom n Q 23 [some (.ref a), some (.ref p)] [] (xcp g7 (p + 1 + 0) 0 (a + 1 + 0) 0 40)
  generalize xcp g7 (p + 1 + 0) 0 (a + 1 + 0) 0 40 = x1 at G0 n0 m0 ⊢
  refine b_Evening_copyFrom_23 ⟨(st G0).2, p + 1 + 1, by rw [G0.2.2.1]; exact (Sp.2 1 (by decide)).1, (st G0).1, a + 1 + 1, by rw [G0.2.2.1]; exact (Sa.2 1 (by decide)).1, ⟨⟨by omega, by omega⟩, by rw [G0.1, (Sp.2 1 (by decide)).2, (Sa.2 1 (by decide)).2]; exact ⟨rfl, rfl⟩, by decide, by rw [G0.1, (Sp.2 1 (by decide)).2, (Sa.2 1 (by decide)).2]; exact ⟨by decide, by decide⟩⟩, ?_⟩
  have G1 : Fr (Bl a 2) h (xcp x1 (p + 1 + 1) 0 (a + 1 + 1) 0 40) := G0.cp ⟨by omega, by omega⟩
  have n1 : ∀ i, i < 1 → xI (xcp x1 (p + 1 + 1) 0 (a + 1 + 1) 0 40) a i = xI h p i := fun i hi => by rw [xcp_ne _ _ _ _ _ (by omega)]; exact n0 i hi
  have m1 : ∀ k i, k < 2 → i < (([40, 40] : List Nat).getD k 0) → xI (xcp x1 (p + 1 + 1) 0 (a + 1 + 1) 0 40) (a + 1 + k) i = xI h (p + 1 + k) i := fun k i hk hi => by
    by_cases e : k = 1
    · subst e
      have hi : i < 40 := hi
      rw [cp_i _ _ _ _ _ _ hi, if_pos rfl]; exact pin G0 _ _ (by omega) (by omega)
    · rw [xcp_ne _ _ _ _ _ (by omega)]; exact m0 k i (by omega) hi
  exact hQ _ G1 n1 (fun j i hj hi => m1 j i (by omega) hi)
def BoS (h : xh) (t : Nat) : Prop := xS h t = (4, 0) ∧ ∀ j, j < 3 → xR h t (1 + j) = some (t + 1 + j) ∧ xS h (t + 1 + j) = (20, ([10, 10, 30] : List Nat).getD j 0)
theorem c_Book_copyFrom {n : Nat} (hn : 1 ≤ n) {h : xh} {a p : Nat} (Sa : BoS h a) (Sp : BoS h p) (ha : 64 ≤ a) (hp : 64 ≤ p) (dj : a + 3 < p ∨ p + 3 < a) {Q : xh → Prop} (hQ : ∀ g, Fr (Bl a 3) h g → (∀ i, i < 1 → xI g a i = xI h p i) → (∀ j i, j < 3 → i < ([10, 10, 30] : List Nat).getD j 0 → xI g (a + 1 + j) i = xI h (p + 1 + j) i) → Q g) : xcv (xMC n) 59 [.ref a, .ref p] h Q := by
  obtain ⟨n, rfl⟩ := xsucc hn
  have st : ∀ {g}, Fr (Bl a 3) h g → xS g a = (4, 0) ∧ xS g p = (4, 0) := fun F => by rw [F.1]; exact ⟨Sa.1, Sp.1⟩
  have pin : ∀ {g}, Fr (Bl a 3) h g → ∀ c i, p ≤ c → c ≤ p + 3 → xI g c i = xI h c i := fun F c i h1 h2 => by rw [F.i c (fun z => by unfold Bl at z; omega)]
  have ba : Bl a 3 a := ⟨Nat.le_refl _, by omega⟩
  have f0 : ∀ {g}, Fr (Bl a 3) h g → ∀ i v, Fr (Bl a 3) h (xsI g a i v) := fun F i v => F.wI ba
  refine w_Book_copyFrom ⟨Sp.1, ⟨ha, Sa.1⟩, ?_⟩
  have F1 := f0 (Fr.rf (P := Bl a 3) (h := h)) 0 (xI h p 0)
  have e7 : ∀ i, i < 1 → xI (xsI h a 0 (xI h p 0)) a i = xI h p i := fun i hi => by
    rw [upI]
    have : i = 0 := by omega
    subst this; rfl
  generalize xsI h a 0 (xI h p 0) = g7 at F1 e7 ⊢
  refine b_Book_copyFrom_8 ⟨(st F1).2, p + 1 + 0, by rw [F1.2.2.1]; exact (Sp.2 0 (by decide)).1, (st F1).1, a + 1 + 0, by rw [F1.2.2.1]; exact (Sa.2 0 (by decide)).1, ⟨⟨by omega, by omega⟩, by rw [F1.1, (Sp.2 0 (by decide)).2, (Sa.2 0 (by decide)).2]; exact ⟨rfl, rfl⟩, by decide, by rw [F1.1, (Sp.2 0 (by decide)).2, (Sa.2 0 (by decide)).2]; exact ⟨by decide, by decide⟩⟩, ?_⟩
  have G0 : Fr (Bl a 3) h (xcp g7 (p + 1 + 0) 0 (a + 1 + 0) 0 10) := F1.cp ⟨by omega, by omega⟩
  have n0 : ∀ i, i < 1 → xI (xcp g7 (p + 1 + 0) 0 (a + 1 + 0) 0 10) a i = xI h p i := fun i hi => by rw [xcp_ne _ _ _ _ _ (by omega)]; exact e7 i hi
  have m0 : ∀ k i, k < 1 → i < (([10, 10, 30] : List Nat).getD k 0) → xI (xcp g7 (p + 1 + 0) 0 (a + 1 + 0) 0 10) (a + 1 + k) i = xI h (p + 1 + k) i := fun k i hk hi => by
    by_cases e : k = 0
    · subst e
      have hi : i < 10 := hi
      rw [cp_i _ _ _ _ _ _ hi, if_pos rfl]; exact pin F1 _ _ (by omega) (by omega)
    · omega
  show K_Book_copyFrom n Q 23 [some (.ref a), some (.ref p)] [] (xcp g7 (p + 1 + 0) 0 (a + 1 + 0) 0 10)
  generalize xcp g7 (p + 1 + 0) 0 (a + 1 + 0) 0 10 = x1 at G0 n0 m0 ⊢
  refine b_Book_copyFrom_23 ⟨(st G0).2, p + 1 + 1, by rw [G0.2.2.1]; exact (Sp.2 1 (by decide)).1, (st G0).1, a + 1 + 1, by rw [G0.2.2.1]; exact (Sa.2 1 (by decide)).1, ⟨⟨by omega, by omega⟩, by rw [G0.1, (Sp.2 1 (by decide)).2, (Sa.2 1 (by decide)).2]; exact ⟨rfl, rfl⟩, by decide, by rw [G0.1, (Sp.2 1 (by decide)).2, (Sa.2 1 (by decide)).2]; exact ⟨by decide, by decide⟩⟩, ?_⟩
  have G1 : Fr (Bl a 3) h (xcp x1 (p + 1 + 1) 0 (a + 1 + 1) 0 10) := G0.cp ⟨by omega, by omega⟩
  have n1 : ∀ i, i < 1 → xI (xcp x1 (p + 1 + 1) 0 (a + 1 + 1) 0 10) a i = xI h p i := fun i hi => by rw [xcp_ne _ _ _ _ _ (by omega)]; exact n0 i hi
  have m1 : ∀ k i, k < 2 → i < (([10, 10, 30] : List Nat).getD k 0) → xI (xcp x1 (p + 1 + 1) 0 (a + 1 + 1) 0 10) (a + 1 + k) i = xI h (p + 1 + k) i := fun k i hk hi => by
    by_cases e : k = 1
    · subst e
      have hi : i < 10 := hi
      rw [cp_i _ _ _ _ _ _ hi, if_pos rfl]; exact pin G0 _ _ (by omega) (by omega)
    · rw [xcp_ne _ _ _ _ _ (by omega)]; exact m0 k i (by omega) hi
  show K_Book_copyFrom n Q 38 [some (.ref a), some (.ref p)] [] (xcp x1 (p + 1 + 1) 0 (a + 1 + 1) 0 10)
  generalize xcp x1 (p + 1 + 1) 0 (a + 1 + 1) 0 10 = x2 at G1 n1 m1 ⊢
  refine b_Book_copyFrom_38 ⟨(st G1).2, p + 1 + 2, by rw [G1.2.2.1]; exact (Sp.2 2 (by decide)).1, (st G1).1, a + 1 + 2, by rw [G1.2.2.1]; exact (Sa.2 2 (by decide)).1, ⟨⟨by omega, by omega⟩, by rw [G1.1, (Sp.2 2 (by decide)).2, (Sa.2 2 (by decide)).2]; exact ⟨rfl, rfl⟩, by decide, by rw [G1.1, (Sp.2 2 (by decide)).2, (Sa.2 2 (by decide)).2]; exact ⟨by decide, by decide⟩⟩, ?_⟩
  have G2 : Fr (Bl a 3) h (xcp x2 (p + 1 + 2) 0 (a + 1 + 2) 0 30) := G1.cp ⟨by omega, by omega⟩
  have n2 : ∀ i, i < 1 → xI (xcp x2 (p + 1 + 2) 0 (a + 1 + 2) 0 30) a i = xI h p i := fun i hi => by rw [xcp_ne _ _ _ _ _ (by omega)]; exact n1 i hi
  have m2 : ∀ k i, k < 3 → i < (([10, 10, 30] : List Nat).getD k 0) → xI (xcp x2 (p + 1 + 2) 0 (a + 1 + 2) 0 30) (a + 1 + k) i = xI h (p + 1 + k) i := fun k i hk hi => by
    by_cases e : k = 2
    · subst e
      have hi : i < 30 := hi
      rw [cp_i _ _ _ _ _ _ hi, if_pos rfl]; exact pin G1 _ _ (by omega) (by omega)
    · rw [xcp_ne _ _ _ _ _ (by omega)]; exact m1 k i (by omega) hi
  exact hQ _ G2 n2 (fun j i hj hi => m2 j i (by omega) hi)
def ShS (h : xh) (t : Nat) : Prop := xS h t = (5, 0) ∧ ∀ j, j < 6 → xR h t (3 + j) = some (t + 1 + j) ∧ xS h (t + 1 + j) = (20, ([6, 8, 8, 8, 8, 8] : List Nat).getD j 0)
theorem c_Sheet_copyFrom {n : Nat} (hn : 1 ≤ n) {h : xh} {a p : Nat} (Sa : ShS h a) (Sp : ShS h p) (ha : 64 ≤ a) (hp : 64 ≤ p) (dj : a + 6 < p ∨ p + 6 < a) {Q : xh → Prop} (hQ : ∀ g, Fr (Bl a 6) h g → (∀ i, i < 3 → xI g a i = xI h p i) → (∀ j i, j < 6 → i < ([6, 8, 8, 8, 8, 8] : List Nat).getD j 0 → xI g (a + 1 + j) i = xI h (p + 1 + j) i) → Q g) : xcv (xMC n) 33 [.ref a, .ref p] h Q := by
  obtain ⟨n, rfl⟩ := xsucc hn
  have st : ∀ {g}, Fr (Bl a 6) h g → xS g a = (5, 0) ∧ xS g p = (5, 0) := fun F => by rw [F.1]; exact ⟨Sa.1, Sp.1⟩
  have pin : ∀ {g}, Fr (Bl a 6) h g → ∀ c i, p ≤ c → c ≤ p + 6 → xI g c i = xI h c i := fun F c i h1 h2 => by rw [F.i c (fun z => by unfold Bl at z; omega)]
  have ba : Bl a 6 a := ⟨Nat.le_refl _, by omega⟩
  have f0 : ∀ {g}, Fr (Bl a 6) h g → ∀ i v, Fr (Bl a 6) h (xsI g a i v) := fun F i v => F.wI ba
  refine w_Sheet_copyFrom ⟨Sp.1, ⟨ha, Sa.1⟩, ?_⟩
  have F1 := f0 (Fr.rf (P := Bl a 6) (h := h)) 0 (xI h p 0)
  refine b_Sheet_copyFrom_8 ⟨(st F1).2, ⟨ha, (st F1).1⟩, ?_⟩
  rw [pin F1 p 1 (by omega) (by omega)]
  have F2 := f0 F1 1 (xI h p 1)
  refine b_Sheet_copyFrom_16 ⟨(st F2).2, ⟨ha, (st F2).1⟩, ?_⟩
  rw [pin F2 p 2 (by omega) (by omega)]
  have F3 := f0 F2 2 (xI h p 2)
  have e7 : ∀ i, i < 3 → xI (xsI (xsI (xsI h a 0 (xI h p 0)) a 1 (xI h p 1)) a 2 (xI h p 2)) a i = xI h p i := fun i hi => by
    rw [upI, upI, upI]
    have : i = 0 ∨ i = 1 ∨ i = 2 := by omega
    rcases this with e | e | e <;> subst e <;> rfl
  generalize xsI (xsI (xsI h a 0 (xI h p 0)) a 1 (xI h p 1)) a 2 (xI h p 2) = g7 at F3 e7 ⊢
  refine b_Sheet_copyFrom_24 ⟨(st F3).2, p + 1 + 0, by rw [F3.2.2.1]; exact (Sp.2 0 (by decide)).1, (st F3).1, a + 1 + 0, by rw [F3.2.2.1]; exact (Sa.2 0 (by decide)).1, ⟨⟨by omega, by omega⟩, by rw [F3.1, (Sp.2 0 (by decide)).2, (Sa.2 0 (by decide)).2]; exact ⟨rfl, rfl⟩, by decide, by rw [F3.1, (Sp.2 0 (by decide)).2, (Sa.2 0 (by decide)).2]; exact ⟨by decide, by decide⟩⟩, ?_⟩
  have G0 : Fr (Bl a 6) h (xcp g7 (p + 1 + 0) 0 (a + 1 + 0) 0 6) := F3.cp ⟨by omega, by omega⟩
  have n0 : ∀ i, i < 3 → xI (xcp g7 (p + 1 + 0) 0 (a + 1 + 0) 0 6) a i = xI h p i := fun i hi => by rw [xcp_ne _ _ _ _ _ (by omega)]; exact e7 i hi
  have m0 : ∀ k i, k < 1 → i < (([6, 8, 8, 8, 8, 8] : List Nat).getD k 0) → xI (xcp g7 (p + 1 + 0) 0 (a + 1 + 0) 0 6) (a + 1 + k) i = xI h (p + 1 + k) i := fun k i hk hi => by
    by_cases e : k = 0
    · subst e
      have hi : i < 6 := hi
      rw [cp_i _ _ _ _ _ _ hi, if_pos rfl]; exact pin F3 _ _ (by omega) (by omega)
    · omega
  show K_Sheet_copyFrom n Q 39 [some (.ref a), some (.ref p)] [] (xcp g7 (p + 1 + 0) 0 (a + 1 + 0) 0 6)
  generalize xcp g7 (p + 1 + 0) 0 (a + 1 + 0) 0 6 = x1 at G0 n0 m0 ⊢
  refine b_Sheet_copyFrom_39 ⟨(st G0).2, p + 1 + 1, by rw [G0.2.2.1]; exact (Sp.2 1 (by decide)).1, (st G0).1, a + 1 + 1, by rw [G0.2.2.1]; exact (Sa.2 1 (by decide)).1, ⟨⟨by omega, by omega⟩, by rw [G0.1, (Sp.2 1 (by decide)).2, (Sa.2 1 (by decide)).2]; exact ⟨rfl, rfl⟩, by decide, by rw [G0.1, (Sp.2 1 (by decide)).2, (Sa.2 1 (by decide)).2]; exact ⟨by decide, by decide⟩⟩, ?_⟩
  have G1 : Fr (Bl a 6) h (xcp x1 (p + 1 + 1) 0 (a + 1 + 1) 0 8) := G0.cp ⟨by omega, by omega⟩
  have n1 : ∀ i, i < 3 → xI (xcp x1 (p + 1 + 1) 0 (a + 1 + 1) 0 8) a i = xI h p i := fun i hi => by rw [xcp_ne _ _ _ _ _ (by omega)]; exact n0 i hi
  have m1 : ∀ k i, k < 2 → i < (([6, 8, 8, 8, 8, 8] : List Nat).getD k 0) → xI (xcp x1 (p + 1 + 1) 0 (a + 1 + 1) 0 8) (a + 1 + k) i = xI h (p + 1 + k) i := fun k i hk hi => by
    by_cases e : k = 1
    · subst e
      have hi : i < 8 := hi
      rw [cp_i _ _ _ _ _ _ hi, if_pos rfl]; exact pin G0 _ _ (by omega) (by omega)
    · rw [xcp_ne _ _ _ _ _ (by omega)]; exact m0 k i (by omega) hi
  show K_Sheet_copyFrom n Q 54 [some (.ref a), some (.ref p)] [] (xcp x1 (p + 1 + 1) 0 (a + 1 + 1) 0 8)
  generalize xcp x1 (p + 1 + 1) 0 (a + 1 + 1) 0 8 = x2 at G1 n1 m1 ⊢
  refine b_Sheet_copyFrom_54 ⟨(st G1).2, p + 1 + 2, by rw [G1.2.2.1]; exact (Sp.2 2 (by decide)).1, (st G1).1, a + 1 + 2, by rw [G1.2.2.1]; exact (Sa.2 2 (by decide)).1, ⟨⟨by omega, by omega⟩, by rw [G1.1, (Sp.2 2 (by decide)).2, (Sa.2 2 (by decide)).2]; exact ⟨rfl, rfl⟩, by decide, by rw [G1.1, (Sp.2 2 (by decide)).2, (Sa.2 2 (by decide)).2]; exact ⟨by decide, by decide⟩⟩, ?_⟩
  have G2 : Fr (Bl a 6) h (xcp x2 (p + 1 + 2) 0 (a + 1 + 2) 0 8) := G1.cp ⟨by omega, by omega⟩
  have n2 : ∀ i, i < 3 → xI (xcp x2 (p + 1 + 2) 0 (a + 1 + 2) 0 8) a i = xI h p i := fun i hi => by rw [xcp_ne _ _ _ _ _ (by omega)]; exact n1 i hi
  have m2 : ∀ k i, k < 3 → i < (([6, 8, 8, 8, 8, 8] : List Nat).getD k 0) → xI (xcp x2 (p + 1 + 2) 0 (a + 1 + 2) 0 8) (a + 1 + k) i = xI h (p + 1 + k) i := fun k i hk hi => by
    by_cases e : k = 2
    · subst e
      have hi : i < 8 := hi
      rw [cp_i _ _ _ _ _ _ hi, if_pos rfl]; exact pin G1 _ _ (by omega) (by omega)
    · rw [xcp_ne _ _ _ _ _ (by omega)]; exact m1 k i (by omega) hi
  show K_Sheet_copyFrom n Q 69 [some (.ref a), some (.ref p)] [] (xcp x2 (p + 1 + 2) 0 (a + 1 + 2) 0 8)
  generalize xcp x2 (p + 1 + 2) 0 (a + 1 + 2) 0 8 = x3 at G2 n2 m2 ⊢
  refine b_Sheet_copyFrom_69 ⟨(st G2).2, p + 1 + 3, by rw [G2.2.2.1]; exact (Sp.2 3 (by decide)).1, (st G2).1, a + 1 + 3, by rw [G2.2.2.1]; exact (Sa.2 3 (by decide)).1, ⟨⟨by omega, by omega⟩, by rw [G2.1, (Sp.2 3 (by decide)).2, (Sa.2 3 (by decide)).2]; exact ⟨rfl, rfl⟩, by decide, by rw [G2.1, (Sp.2 3 (by decide)).2, (Sa.2 3 (by decide)).2]; exact ⟨by decide, by decide⟩⟩, ?_⟩
  have G3 : Fr (Bl a 6) h (xcp x3 (p + 1 + 3) 0 (a + 1 + 3) 0 8) := G2.cp ⟨by omega, by omega⟩
  have n3 : ∀ i, i < 3 → xI (xcp x3 (p + 1 + 3) 0 (a + 1 + 3) 0 8) a i = xI h p i := fun i hi => by rw [xcp_ne _ _ _ _ _ (by omega)]; exact n2 i hi
  have m3 : ∀ k i, k < 4 → i < (([6, 8, 8, 8, 8, 8] : List Nat).getD k 0) → xI (xcp x3 (p + 1 + 3) 0 (a + 1 + 3) 0 8) (a + 1 + k) i = xI h (p + 1 + k) i := fun k i hk hi => by
    by_cases e : k = 3
    · subst e
      have hi : i < 8 := hi
      rw [cp_i _ _ _ _ _ _ hi, if_pos rfl]; exact pin G2 _ _ (by omega) (by omega)
    · rw [xcp_ne _ _ _ _ _ (by omega)]; exact m2 k i (by omega) hi
  show K_Sheet_copyFrom n Q 84 [some (.ref a), some (.ref p)] [] (xcp x3 (p + 1 + 3) 0 (a + 1 + 3) 0 8)
  generalize xcp x3 (p + 1 + 3) 0 (a + 1 + 3) 0 8 = x4 at G3 n3 m3 ⊢
  refine b_Sheet_copyFrom_84 ⟨(st G3).2, p + 1 + 4, by rw [G3.2.2.1]; exact (Sp.2 4 (by decide)).1, (st G3).1, a + 1 + 4, by rw [G3.2.2.1]; exact (Sa.2 4 (by decide)).1, ⟨⟨by omega, by omega⟩, by rw [G3.1, (Sp.2 4 (by decide)).2, (Sa.2 4 (by decide)).2]; exact ⟨rfl, rfl⟩, by decide, by rw [G3.1, (Sp.2 4 (by decide)).2, (Sa.2 4 (by decide)).2]; exact ⟨by decide, by decide⟩⟩, ?_⟩
  have G4 : Fr (Bl a 6) h (xcp x4 (p + 1 + 4) 0 (a + 1 + 4) 0 8) := G3.cp ⟨by omega, by omega⟩
  have n4 : ∀ i, i < 3 → xI (xcp x4 (p + 1 + 4) 0 (a + 1 + 4) 0 8) a i = xI h p i := fun i hi => by rw [xcp_ne _ _ _ _ _ (by omega)]; exact n3 i hi
  have m4 : ∀ k i, k < 5 → i < (([6, 8, 8, 8, 8, 8] : List Nat).getD k 0) → xI (xcp x4 (p + 1 + 4) 0 (a + 1 + 4) 0 8) (a + 1 + k) i = xI h (p + 1 + k) i := fun k i hk hi => by
    by_cases e : k = 4
    · subst e
      have hi : i < 8 := hi
      rw [cp_i _ _ _ _ _ _ hi, if_pos rfl]; exact pin G3 _ _ (by omega) (by omega)
    · rw [xcp_ne _ _ _ _ _ (by omega)]; exact m3 k i (by omega) hi
  show K_Sheet_copyFrom n Q 99 [some (.ref a), some (.ref p)] [] (xcp x4 (p + 1 + 4) 0 (a + 1 + 4) 0 8)
  generalize xcp x4 (p + 1 + 4) 0 (a + 1 + 4) 0 8 = x5 at G4 n4 m4 ⊢
  refine b_Sheet_copyFrom_99 ⟨(st G4).2, p + 1 + 5, by rw [G4.2.2.1]; exact (Sp.2 5 (by decide)).1, (st G4).1, a + 1 + 5, by rw [G4.2.2.1]; exact (Sa.2 5 (by decide)).1, ⟨⟨by omega, by omega⟩, by rw [G4.1, (Sp.2 5 (by decide)).2, (Sa.2 5 (by decide)).2]; exact ⟨rfl, rfl⟩, by decide, by rw [G4.1, (Sp.2 5 (by decide)).2, (Sa.2 5 (by decide)).2]; exact ⟨by decide, by decide⟩⟩, ?_⟩
  have G5 : Fr (Bl a 6) h (xcp x5 (p + 1 + 5) 0 (a + 1 + 5) 0 8) := G4.cp ⟨by omega, by omega⟩
  have n5 : ∀ i, i < 3 → xI (xcp x5 (p + 1 + 5) 0 (a + 1 + 5) 0 8) a i = xI h p i := fun i hi => by rw [xcp_ne _ _ _ _ _ (by omega)]; exact n4 i hi
  have m5 : ∀ k i, k < 6 → i < (([6, 8, 8, 8, 8, 8] : List Nat).getD k 0) → xI (xcp x5 (p + 1 + 5) 0 (a + 1 + 5) 0 8) (a + 1 + k) i = xI h (p + 1 + k) i := fun k i hk hi => by
    by_cases e : k = 5
    · subst e
      have hi : i < 8 := hi
      rw [cp_i _ _ _ _ _ _ hi, if_pos rfl]; exact pin G4 _ _ (by omega) (by omega)
    · rw [xcp_ne _ _ _ _ _ (by omega)]; exact m4 k i (by omega) hi
  exact hQ _ G5 n5 (fun j i hj hi => m5 j i (by omega) hi)
