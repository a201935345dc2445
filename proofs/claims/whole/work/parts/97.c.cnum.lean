/-! NUMBERS and room in the class -/
def CR (h : xh) (B : Nat → Nat) (len s : Nat) (F : Nat × Nat) : Prop := CTk h B len s ∧ xI h 117 9 = nI F.1 ∧ xI h 117 10 = (if F.1 = 0 then -1 else nI F.2) ∧ F.1 ≤ 5
def PE (c : Nat) : Prop := c = 117 ∨ c = 118
def Fe (h g : xh) : Prop := Fr PE h g ∧ ∀ i, (i < 2 ∨ (5 < i ∧ i < 9) ∨ 10 < i) → xI g 117 i = xI h 117 i
theorem Fe.rf {h : xh} : Fe h h := ⟨Fr.rf, fun _ _ => rfl⟩
theorem Fe.tr {a b c : xh} (f : Fe a b) (g : Fe b c) : Fe a c := ⟨f.1.tr g.1, fun i hi => (g.2 i hi).trans (f.2 i hi)⟩
theorem Fa.e {h g : xh} (f : Fa h g) : Fe h g := ⟨f.1.mo (fun c z => Or.inl z), fun i hi => f.2 i (by omega)⟩
theorem Fe.tp {h g : xh} (f : Fe h g) {B : Nat → Nat} (T : TpC h B) : TpC g B := fun i hi => by
  rw [f.1.i 66 (fun z => by unfold PE at z; omega)]; exact T i hi
theorem Fe.st {h g : xh} (f : Fe h g) {N : Nat} {xs : Nat → Int32} (S : St0 h N xs) : St0 g N xs := S.fr f.1 (fun c z => by unfold PE at z; omega)
theorem Fe.w118 {h g : xh} (f : Fe h g) {i : Nat} {v : Int32} : Fe h (xsI g 118 i v) := ⟨f.1.wI (Or.inr rfl), fun j hj => by rw [xsI_ne _ _ _ (by decide)]; exact f.2 j hj⟩
theorem Fe.w117 {h g : xh} (f : Fe h g) {i : Nat} {v : Int32} (hi : i = 9 ∨ i = 10) : Fe h (xsI g 117 i v) := ⟨f.1.wI (Or.inl rfl), fun j hj => by rw [upI_o _ _ _ _ (by omega)]; exact f.2 j hj⟩
theorem CR.w118 {h : xh} {B : Nat → Nat} {len s : Nat} {F : Nat × Nat} (C : CR h B len s F) {i : Nat} {v : Int32} : CR (xsI h 118 i v) B len s F := by
  unfold CR CTk at *
  rw [xsI_ne _ _ _ (by decide)]; exact C
theorem CR.fa {h g : xh} {B : Nat → Nat} {len s s' : Nat} {F : Nat × Nat} (C : CR h B len s F) (f : Fa h g) (C' : CTk g B len s') : CR g B len s' F := ⟨C', (f.2 9 (by omega)).trans C.2.1, (f.2 10 (by omega)).trans C.2.2.1, C.2.2.2⟩
theorem CR.adv {n : Nat} (hn : 3 ≤ n) {h : xh} (L : Lay h) {B : Nat → Nat} (T : TpC h B) {len s : Nat} (l6 : len ≤ 600) (hs : s ≤ len) {F : Nat × Nat} (C : CR h B len s F) {Q : xh → Prop} (hQ : ∀ g, Fa h g → CR g B len (nxt B len s) F → Q g) : xcv (xMC n) 129 [.ref 117] h Q := C.1.adv hn L T l6 hs (fun g f C' => hQ g f (C.fa f C'))
theorem c_Reader_noteFault {n : Nat} (hn : 1 ≤ n) {h : xh} (L : Lay h) {B : Nat → Nat} {len s : Nat} {F : Nat × Nat} (C : CR h B len s F) {f p : Nat} (hf : 0 < f) (f5 : f ≤ 5) {Q : xh → Prop} (hQ : ∀ g, Fr PE h g → (∀ i, i < 9 ∨ 10 < i → xI g 117 i = xI h 117 i) → CR g B len s (nt F f p) → xI g 118 = xI h 118 → Q g) : xcv (xMC n) 138 [.ref 117, .int (nI f), .int (nI p)] h Q := by
  obtain ⟨n, rfl⟩ := xsucc hn
  obtain ⟨c1, c2, c3, c4⟩ := C
  refine w_Reader_noteFault ⟨L.s 117, ?_⟩
  rw [c2, nI_e0 (by omega)]
  refine ⟨fun z => hQ h Fr.rf (fun _ _ => rfl) ⟨c1, ?_, ?_, ?_⟩ rfl, fun z => ⟨⟨by decide, L.s 117⟩, ?_⟩⟩
  · unfold nt; rw [if_neg z]; exact c2
  · unfold nt; rw [if_neg z]; exact c3
  · unfold nt; rw [if_neg z]; exact c4
  · have L1 : Lay (xsI h 117 9 (nI f)) := L
    refine b_Reader_noteFault_12 ⟨⟨by decide, L1.s 117⟩, hQ _ ((Fr.rf.wI (Or.inl rfl)).wI (Or.inl rfl)) (fun i hi => ?_) ⟨?_, ?_, ?_, ?_⟩ ?_⟩
    · rw [upI_o _ _ _ _ (by omega), upI_o _ _ _ _ (by omega)]
    · unfold CTk at *
      rw [upI_o _ _ _ _ (by decide), upI_o _ _ _ _ (by decide), upI_o _ _ _ _ (by decide), upI_o _ _ _ _ (by decide), upI_o _ _ _ _ (by decide), upI_o _ _ _ _ (by decide), upI_o _ _ _ _ (by decide), upI_o _ _ _ _ (by decide), upI_o _ _ _ _ (by decide), upI_o _ _ _ _ (by decide)]
      exact c1
    · unfold nt; rw [if_pos z, upI_o _ _ _ _ (by decide), upI_s]
    · unfold nt; rw [if_pos z, upI_s, if_neg (show ¬ f = 0 by omega)]
    · unfold nt; rw [if_pos z]; exact f5
    · rw [xsI_ne _ _ _ (by decide), xsI_ne _ _ _ (by decide)]
theorem c_Reader_canBe {n : Nat} (hn : 1 ≤ n) {h : xh} (L : Lay h) {N : Nat} {xs : Nat → Int32} (S : St0 h N xs) {c i v : Nat} (hc : c < 20) (hi : i < 4) (v9 : v ≤ 99) (ev : xI h 117 5 = nI v) {R : Nat → Nat} (hR : ∀ k, k < i → xI h 118 k = nI (R k) ∧ R k ≤ 99) {Q : Int32 → xh → Prop} (hQ : Q (if canB c i R v then 1 else 0) h) : xci (xMC n) 141 [.ref 117, .int (nI c), .int (nI i)] h Q := by
  obtain ⟨n, rfl⟩ := xsucc hn
  obtain ⟨t1, t2⟩ := S.tab (k := 3) (by omega) (by omega)
  obtain ⟨u1, u2⟩ := S.tab (k := 4) (by omega) (by omega)
  obtain ⟨lo1, lo2⟩ := tb_2 (c * 4 + i) (by omega)
  obtain ⟨hi1, hi2⟩ := tb_3 (c * 4 + i) (by omega)
  have no : ¬ canB c i R v → Q 0 h := fun z => by rw [if_neg z] at hQ; exact hQ
  have ye : canB c i R v → Q 1 h := fun z => by rw [if_pos z] at hQ; exact hQ
  refine w_Reader_canBe ⟨L.s 117, ?_⟩
  rw [show nI c * (4 : Int32) = nI (c * 4) from pk_mul _ 4, nI_add, nI_clamp (by omega), ev]
  have lo1' : xI h 3 (c * 4 + i) = nI (tb 2 (c * 4 + i)) := (t2 _).trans lo1
  have hi1' : xI h 4 (c * 4 + i) = nI (tb 3 (c * 4 + i)) := (u2 _).trans hi1
  rw [lo1', hi1', nI_ltI (by omega) (by omega), nI_leI (by omega) (by omega)]
  refine ⟨xarN t1 (show c * 4 + i < 80 by omega) (by decide), fun z => no (fun y => by have := y.1.1; omega), fun z => ⟨xarN u1 (show c * 4 + i < 80 by omega) (by decide), fun z2 => ?_, fun z2 => no (fun y => z2 y.1.2)⟩⟩
  have k92 : ¬ (c < 4 ∧ i = 3) → ¬ (c = 4 ∧ i = 1) → K_Reader_canBe n Q 92 [some (.ref 117), some (.int (nI c)), some (.int (nI i))] [] h := fun w1 w2 => by
    refine b_Reader_canBe_92 ?_
    rw [show (nI c = (15 : Int32)) = (c = 15) from propext (nI_eq (b := 15) (by omega) (by decide)), nI_e0 (by omega)]
    refine ⟨fun w3 => ye ⟨⟨by omega, z2⟩, fun y => absurd y w1, fun y => absurd y w2, fun y => absurd y.1 w3⟩, fun w3 => ⟨fun w4 => ye ⟨⟨by omega, z2⟩, fun y => absurd y w1, fun y => absurd y w2, fun y => absurd w4 y.2⟩, fun w4 => ⟨L.s 117, 118, L.r 117 6 118, L.x 118 (i := 0) (n := 4) (by omega), ?_⟩⟩⟩
    obtain ⟨r1, r2⟩ := hR 0 (by omega)
    rw [show (0 : Int32).toNatClampNeg = 0 from rfl, r1, ev, nI_ltI (by omega) (by omega)]
    exact ⟨fun y => no (fun x => by have := x.2.2.2 ⟨w3, w4⟩; omega), fun y => ye ⟨⟨by omega, z2⟩, fun y => absurd y w1, fun y => absurd y w2, fun _ => by omega⟩⟩
  have k63 : ¬ (c < 4 ∧ i = 3) → K_Reader_canBe n Q 63 [some (.ref 117), some (.int (nI c)), some (.int (nI i))] [] h := fun w1 => by
    refine b_Reader_canBe_63 ?_
    rw [show (nI c = (4 : Int32)) = (c = 4) from propext (nI_eq (b := 4) (by omega) (by decide)), show (nI i = (1 : Int32)) = (i = 1) from propext (nI_eq (b := 1) (by omega) (by decide))]
    refine ⟨fun w2 => k92 w1 (fun y => w2 y.1), fun w2 => ⟨fun w3 => k92 w1 (fun y => w3 y.2), fun w3 => ⟨L.s 117, 118, L.r 117 6 118, L.x 118 (i := 0) (n := 4) (by omega), ?_⟩⟩⟩
    obtain ⟨r1, r2⟩ := hR 0 (by omega)
    rw [show (0 : Int32).toNatClampNeg = 0 from rfl, r1, ev, nI_eq (by omega) (by omega)]
    exact ⟨fun y => no (fun x => x.2.2.1 ⟨w2, w3⟩ y), fun y => ye ⟨⟨by omega, z2⟩, fun y => absurd y w1, fun _ => y, fun y => by omega⟩⟩
  rw [show ((4 : Int32) ≤ nI c) = (4 ≤ c) from propext (nI_leI (a := 4) (by decide) (by omega)), show (nI i = (3 : Int32)) = (i = 3) from propext (nI_eq (b := 3) (by omega) (by decide))]
  refine ⟨fun w => k63 (fun y => by omega), fun w => ⟨fun w2 => k63 (fun y => w2 y.2), fun w2 => ⟨118, L.r 117 6 118, L.x 118 (i := 2) (n := 4) (by omega), ?_⟩⟩⟩
  obtain ⟨r1, r2⟩ := hR 2 (by omega)
  rw [show (2 : Int32).toNatClampNeg = 2 from rfl, r1, nI_ltI (by omega) (by omega)]
  exact ⟨fun y => no (fun x => by have := x.2.1 ⟨by omega, w2⟩; omega), fun y => ye ⟨⟨by omega, z2⟩, fun _ => by omega, fun y => by omega, fun y => by omega⟩⟩
theorem c_Reader_readNumbers {n : Nat} (hn : 4 ≤ n) {h : xh} (L : Lay h) {N : Nat} {xs : Nat → Int32} (S : St0 h N xs) {B : Nat → Nat} (T : TpC h B) {len s : Nat} (l6 : len ≤ 600) (hs : s ≤ len) {F : Nat × Nat} (C : CR h B len s F) {c : Nat} (hc : c < 20) {Q : Int32 → xh → Prop} (hQ : ∀ g ok s' F' R', nmR B len c (tb 1 c) 0 s F (fun _ => 0) = (ok, s', F', R') → Fe h g → CR g B len s' F' → (ok = true → (∀ i, i < tb 1 c → xI g 118 i = nI (R' i)) ∧ (tb 1 c = 0 → xI g 118 0 = -1)) → Q (if ok = true then 1 else 0) g) : xci (xMC n) 140 [.ref 117, .int (nI c)] h Q := by
  obtain ⟨n, rfl⟩ := xsucc (show 1 ≤ n by omega)
  obtain ⟨t1, t2⟩ := S.tab (k := 2) (by omega) (by omega)
  obtain ⟨nm1, nm2⟩ := tb_1 c hc
  have key : ∀ d i, i + d = tb 1 c → ∀ s F R, s ≤ len → nmR B len c (tb 1 c) 0 s F R = nmR B len c (tb 1 c) 0 s F R → ∀ g, Fe h g → CR g B len s F → (∀ k, k < i → xI g 118 k = nI (R k) ∧ R k ≤ 99) → (tb 1 c = 0 → xI g 118 0 = -1) → (∀ ok s' F' R', nmR B len c d i s F R = (ok, s', F', R') → nmR B len c (tb 1 c) 0 s F R = nmR B len c (tb 1 c) 0 s F R → ∀ g, Fe h g → CR g B len s' F' → (ok = true → (∀ i, i < tb 1 c → xI g 118 i = nI (R' i)) ∧ (tb 1 c = 0 → xI g 118 0 = -1)) → Q (if ok = true then 1 else 0) g) → K_Reader_readNumbers n Q 9 [some (.ref 117), some (.int (nI c)), some (.int (nI i))] [] g := by
    intro d
    induction d with
    | zero =>
      intro i hi s F R hs _ g Fg Cg c1 c0 hq
      have : i = tb 1 c := by omega
      subst this
      obtain ⟨v1, v2⟩ := (Fg.st S).tab (k := 2) (by omega) (by omega)
      refine b_Reader_readNumbers_9 ?_
      rw [nI_clamp (by omega), v2 c]
      have nm1' : (xtab.getD (2 - 1) []).getD c 0 = nI (tb 1 c) := nm1
      rw [nm1']
      exact ⟨xarN v1 (show c < 20 by omega) (by decide), fun _ => hq true s F R rfl rfl g Fg Cg (fun _ => ⟨fun k hk => (c1 k hk).1, c0⟩), fun z => absurd (Int32.le_refl _) z⟩
    | succ d ih =>
      intro i hi s F R hs _ g Fg Cg c1 c0 hq
      have Lg := Fg.1.lay L
      have Sg := Fg.st S
      have Tg := Fg.tp T
      obtain ⟨v1, v2⟩ := Sg.tab (k := 2) (by omega) (by omega)
      have k5 := kd_5 B len s
      refine b_Reader_readNumbers_9 ?_
      rw [nI_clamp (by omega), v2 c]
      have nm1' : (xtab.getD (2 - 1) []).getD c 0 = nI (tb 1 c) := nm1
      rw [nm1', Cg.1.2.2.2.1, show (nI (kd B len s) = (2 : Int32)) = (kd B len s = 2) from propext (nI_eq (b := 2) (by omega) (by decide))]
      refine ⟨xarN v1 (show c < 20 by omega) (by decide), fun z => absurd z (nI_ge (by omega) (by omega)), fun _ => ⟨Lg.s 117, fun k2 => ⟨118, Lg.r 117 6 118, ⟨by decide, Lg.x 118 (n := 4) (by omega)⟩, ?_⟩, fun k2 => ?_⟩⟩
      · have v9 := vl_99 k2
        have sl := kd_lt (B := B) (len := len) (s := s) (by omega)
        have nb := nxt_b (B := B) (len := len) (s := s) hs
        rw [nI_clamp (by omega), Cg.1.2.2.2.2 k2]
        have F1 : Fe h (xsI g 118 i (nI (vl B len s))) := Fg.w118
        have C1 : CR (xsI g 118 i (nI (vl B len s))) B len s F := Cg.w118
        have d1 : ∀ k, k < i → xI (xsI g 118 i (nI (vl B len s))) 118 k = nI (R k) ∧ R k ≤ 99 := fun k hk => by
          rw [upI_o _ _ _ _ (by omega)]; exact c1 k hk
        have di : xI (xsI g 118 i (nI (vl B len s))) 118 i = nI (vl B len s) := upI_s _ _ _ _
        generalize xsI g 118 i (nI (vl B len s)) = g1 at F1 C1 d1 di ⊢
        have L1 := F1.1.lay L
        have ey := nmR_y (c := c) (k := d) (i := i) (F := F) (R := R) k2
        refine b_Reader_readNumbers_38 ⟨L1.s 117, c_Reader_canBe (by omega) L1 (F1.st S) hc (by omega) v9 (C1.1.2.2.2.2 k2) d1 ?_⟩
        have nx : ∀ g2, Fe h g2 → ∀ F2, CR g2 B len s F2 → xI g2 118 = xI g1 118 → (if canB c i R (vl B len s) then F else nt F 2 s) = F2 → xcv (xMC n) 129 [.ref 117] g2 (fun h2 => K_Reader_readNumbers n Q 9 [some (.ref 117), some (.int (nI c)), some (.int (nI i + 1))] [] h2) := fun g2 G2 F2 C2 e118 eF => by
          refine C2.adv (by omega) (G2.1.lay L) (G2.tp T) l6 hs (fun g3 f3 C3 => ?_)
          have e118' : xI g3 118 = xI g1 118 := (f3.1.i 118 (fun z => by unfold P117 at z; omega)).trans e118
          rw [nI_1]
          refine ih (i + 1) (by omega) (nxt B len s) F2 (vup R i (vl B len s)) nb.1 rfl g3 (G2.tr f3.e) C3 (fun k hk => ?_) (fun z => by omega) (fun ok s' F' R' er _ g4 G4 C4 r4 => hq ok s' F' R' (by rw [ey, eF]; exact er) rfl g4 G4 C4 r4)
          rw [e118']
          by_cases e : k = i
          · subst e; rw [vup_s]; exact ⟨di, v9⟩
          · rw [vup_o e]; exact d1 k (by omega)
        by_cases cb : canB c i R (vl B len s)
        · rw [if_pos cb]
          rw [if_pos cb] at nx
          exact ⟨fun _ => ⟨L1.s 117, nx g1 F1 F C1 rfl rfl⟩, fun z => absurd z (by decide)⟩
        · rw [if_neg cb]
          rw [if_neg cb] at nx
          refine ⟨fun z => absurd rfl z, fun _ => ⟨L1.s 117, ?_⟩⟩
          rw [C1.1.2.1]
          refine c_Reader_noteFault (f := 2) (by omega) L1 C1 (by decide) (by decide) (fun g2 G2 i2 C2 e2 => ⟨(G2.lay L1).s 117, nx g2 (F1.tr ⟨G2, fun i hi => i2 i (by omega)⟩) _ C2 e2 rfl⟩)
      · have en := nmR_n (c := c) (k := d) (i := i) (F := F) (R := R) k2
        exact hq false s F R en rfl g Fg Cg (fun z => absurd z (by decide))
  refine w_Reader_readNumbers ⟨L.s 117, 118, L.r 117 6 118, ⟨by decide, L.x 118 (i := 0) (n := 4) (by omega)⟩, b_Reader_readNumbers_7 ?_⟩
  exact key (tb 1 c) 0 (by omega) s F (fun _ => 0) hs rfl _ Fe.rf.w118 C.w118 (fun k hk => absurd hk (Nat.not_lt_zero _)) (fun _ => upI_s _ _ _ _) (fun ok s' F' R' er _ g G4 C4 r4 => hQ g ok s' F' R' er G4 C4 r4)
theorem c_Reader_readThing {n : Nat} (hn : 6 ≤ n) {h : xh} (L : Lay h) {N : Nat} {xs : Nat → Int32} (S : St0 h N xs) {B : Nat → Nat} (T : TpC h B) {len s : Nat} (l6 : len ≤ 600) (hs : s ≤ len) {F : Nat × Nat} (C : CR h B len s F) {Q : Int32 → xh → Prop} (h1 : thg B len s < 3 → ∀ g, Fr PE h g → (∀ i, (i < 2 ∨ i = 6 ∨ i = 8 ∨ 10 < i) → xI g 117 i = xI h 117 i) → CR g B len (nxt B len s) F → xI g 117 7 = nI (thg B len s) → Q 1 g) (h0 : ¬ thg B len s < 3 → Q 0 h) : xci (xMC n) 139 [.ref 117] h Q := by
  obtain ⟨n, rfl⟩ := xsucc (show 1 ≤ n by omega)
  by_cases k1 : kd B len s = 1
  · have et : thg B len s = fsx (fun t => decide (Wd B s (tE B len s) t)) 3 0 := by unfold thg; rw [if_pos k1]
    generalize thg B len s = x at h1 h0 et
    have y : ∀ t, t < 3 → x = t → ((64 ≤ 117 ∧ xS h 117 = (6, 0)) ∧ (xS (xsI h 117 7 (nI t)) 117 = (6, 0) ∧ (xcv (xMC n) 129 [.ref 117] (xsI h 117 7 (nI t)) (fun h4 => (Q (1 : Int32) h4))))) := fun t ht ex => by
      have L1 : Lay (xsI h 117 7 (nI t)) := L
      have T1 : TpC (xsI h 117 7 (nI t)) B := fun i hi => by rw [xsI_ne _ _ _ (by decide)]; exact T i hi
      have C1 : CR (xsI h 117 7 (nI t)) B len s F := by
        obtain ⟨⟨a1, a2, a3, a4, a5⟩, b1, b2, b3⟩ := C
        refine ⟨⟨?_, ?_, ?_, ?_, fun z => ?_⟩, ?_, ?_, b3⟩
        · rw [upI_o _ _ _ _ (by decide)]; exact a1
        · rw [upI_o _ _ _ _ (by decide)]; exact a2
        · rw [upI_o _ _ _ _ (by decide)]; exact a3
        · rw [upI_o _ _ _ _ (by decide)]; exact a4
        · rw [upI_o _ _ _ _ (by decide)]; exact a5 z
        · rw [upI_o _ _ _ _ (by decide)]; exact b1
        · rw [upI_o _ _ _ _ (by decide)]; exact b2
      refine ⟨⟨by decide, L.s 117⟩, L1.s 117, C1.adv (by omega) L1 T1 l6 hs (fun g f C2 => h1 (by omega) g (((Fr.rf.wI (Or.inl rfl)).tr (f.1.mo (fun c z => Or.inl z)))) (fun i hi => ?_) C2 ?_)⟩
      · rw [f.2 i (by omega), upI_o _ _ _ _ (by omega)]
      · rw [f.2 7 (by omega), upI_s, ex]
    obtain ⟨a1, a2⟩ := fsx_1 (d := 2) et.symm
    refine w_Reader_readThing ⟨L.s 117, c_Reader_isWord (j := 0) (by omega) L S T l6 C.1 k1 (by decide) ?_⟩
    by_cases w0 : Wd B s (tE B len s) 0
    · rw [if_pos w0]
      exact ⟨fun z => absurd z (by decide), fun _ => y 0 (by decide) (a1 (decide_eq_true w0))⟩
    · rw [if_neg w0]
      obtain ⟨b1, b2⟩ := fsx_1 (d := 1) (a2 (decide_eq_false w0))
      refine ⟨fun _ => ⟨L.s 117, c_Reader_isWord (j := 1) (by omega) L S T l6 C.1 k1 (by decide) ?_⟩, fun z => absurd rfl z⟩
      by_cases w1 : Wd B s (tE B len s) 1
      · rw [if_pos w1]
        exact ⟨fun z => absurd z (by decide), fun _ => y 1 (by decide) (b1 (decide_eq_true w1))⟩
      · rw [if_neg w1]
        obtain ⟨c1, c2⟩ := fsx_1 (d := 0) (b2 (decide_eq_false w1))
        refine ⟨fun _ => ⟨L.s 117, c_Reader_isWord (j := 2) (by omega) L S T l6 C.1 k1 (by decide) ?_⟩, fun z => absurd rfl z⟩
        by_cases w2 : Wd B s (tE B len s) 2
        · rw [if_pos w2]
          exact ⟨fun z => absurd z (by decide), fun _ => y 2 (by decide) (c1 (decide_eq_true w2))⟩
        · rw [if_neg w2]
          have e3 : 3 = x := c2 (decide_eq_false w2)
          exact ⟨fun _ => h0 (by omega), fun z => absurd rfl z⟩
  · have et : thg B len s = 3 := by unfold thg; rw [if_neg k1]
    exact w_Reader_readThing ⟨L.s 117, c_Reader_isWord0 (by omega) L C.1 k1 ⟨fun _ => ⟨L.s 117, c_Reader_isWord0 (by omega) L C.1 k1 ⟨fun _ => ⟨L.s 117, c_Reader_isWord0 (by omega) L C.1 k1 ⟨fun _ => h0 (by omega), fun z => absurd rfl z⟩⟩, fun z => absurd rfl z⟩⟩, fun z => absurd rfl z⟩⟩
