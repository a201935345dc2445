/-! NUMBERS, faults, words in the reference -/
def MR (h : xh) (B : Nat → Nat) (len s : Nat) (F : Nat × Nat) : Prop := MTk h B len s ∧ xI h 166 17 = nI F.1 ∧ F.1 ≤ 5 ∧ (F.1 ≠ 0 → xI h 166 18 = nI F.2 ∧ F.2 ≤ len)
def ord (F : Nat × Nat) (p : Nat) : Prop := F.1 = 0 ∨ F.2 < p
theorem ord.mo {F : Nat × Nat} {p p' : Nat} (h : ord F p) (hp : p ≤ p') : ord F p' := by unfold ord at *; omega
theorem ord_nt {F : Nat × Nat} {f p p' : Nat} (h : ord F p) (hp : p < p') : ord (nt F f p) p' := by
  unfold ord nt at *
  split
  · right; exact hp
  · rcases h with h | h
    · contradiction
    · right; omega
def Pt (c : Nat) : Prop := c = 166 ∨ c = 177
def Fm (h g : xh) : Prop := Fr Pt h g ∧ xI g 166 21 = xI h 166 21
theorem Fm.rf {h : xh} : Fm h h := ⟨Fr.rf, rfl⟩
theorem Fm.tr {a b c : xh} (f : Fm a b) (g : Fm b c) : Fm a c := ⟨f.1.tr g.1, g.2.trans f.2⟩
theorem Fb.m {h g : xh} (f : Fb h g) : Fm h g := ⟨f.1.mo (fun c z => Or.inl z), f.2 21 (by omega)⟩
theorem Fm.tp {h g : xh} (f : Fm h g) {B : Nat → Nat} (T : TpM h B) : TpM g B := fun i hi => by
  rw [f.1.i 167 (fun z => by unfold Pt at z; omega)]; exact T i hi
theorem MR.fb {h g : xh} {B : Nat → Nat} {len s s' : Nat} {F : Nat × Nat} (C : MR h B len s F) (f : Fb h g) (C' : MTk g B len s') : MR g B len s' F := ⟨C', (f.2 17 (by omega)).trans C.2.1, C.2.2.1, fun z => ⟨(f.2 18 (by omega)).trans (C.2.2.2 z).1, (C.2.2.2 z).2⟩⟩
theorem MR.tok {n : Nat} (hn : 2 ≤ n) {h : xh} (L : Lay h) {B : Nat → Nat} (T : TpM h B) {len s : Nat} (l6 : len ≤ 600) (hs : s ≤ len) {F : Nat × Nat} (C : MR h B len s F) {Q : xh → Prop} (hQ : ∀ g, Fb h g → MR g B len (nxt B len s) F → Q g) : xcv (xMC n) 216 [.ref 166] h Q := C.1.tok hn L T l6 hs (fun g f C' => hQ g f (C.fb f C'))
theorem MTk.w {h : xh} {B : Nat → Nat} {len s : Nat} (C : MTk h B len s) {i : Nat} {v : Int32} (hi : i < 10 ∨ 15 < i) : MTk (xsI h 166 i v) B len s := by
  obtain ⟨a1, a2, a3, a4, a5, a6⟩ := C
  refine ⟨?_, ?_, ?_, ?_, fun z => ?_, a6⟩
  · rw [upI_o _ _ _ _ (by omega)]; exact a1
  · rw [upI_o _ _ _ _ (by omega)]; exact a2
  · rw [upI_o _ _ _ _ (by omega)]; exact a3
  · rw [upI_o _ _ _ _ (by omega)]; exact a4
  · rw [upI_o _ _ _ _ (by omega)]; exact a5 z
theorem MTk.wa {h : xh} {B : Nat → Nat} {len s : Nat} (C : MTk h B len s) {a i : Nat} {v : Int32} (ha : a ≠ 166) : MTk (xsI h a i v) B len s := by
  unfold MTk at *
  rw [xsI_ne _ _ _ (Ne.symm ha)]
  exact C
theorem MR.w {h : xh} {B : Nat → Nat} {len s : Nat} {F : Nat × Nat} (C : MR h B len s F) {i : Nat} {v : Int32} (hi : i < 10 ∨ 18 < i ∨ i = 16) : MR (xsI h 166 i v) B len s F := by
  obtain ⟨c1, c2, c3, c4⟩ := C
  refine ⟨c1.w (by omega), ?_, c3, fun z => ?_⟩
  · rw [upI_o _ _ _ _ (by omega)]; exact c2
  · rw [upI_o _ _ _ _ (by omega)]; exact c4 z
theorem MR.wa {h : xh} {B : Nat → Nat} {len s : Nat} {F : Nat × Nat} (C : MR h B len s F) {a i : Nat} {v : Int32} (ha : a ≠ 166) : MR (xsI h a i v) B len s F := by
  obtain ⟨c1, c2, c3, c4⟩ := C
  refine ⟨c1.wa ha, ?_, c3, fun z => ?_⟩
  · rw [xsI_ne _ _ _ (Ne.symm ha)]; exact c2
  · rw [xsI_ne _ _ _ (Ne.symm ha)]; exact c4 z
theorem c_Mo_later {n : Nat} (hn : 1 ≤ n) {h : xh} (L : Lay h) {B : Nat → Nat} {len s : Nat} (l6 : len ≤ 600) {F : Nat × Nat} (C : MR h B len s F) {f p : Nat} (hf : 0 < f) (f5 : f ≤ 5) (hp : ord F p) (pl : p ≤ len) {Q : xh → Prop} (hQ : ∀ g, Fr Pt h g → (∀ i, i ≠ 17 → i ≠ 18 → xI g 166 i = xI h 166 i) → xI g 177 = xI h 177 → MR g B len s (nt F f p) → Q g) : xcv (xMC n) 224 [.ref 166, .int (nI f), .int (nI p)] h Q := by
  obtain ⟨n, rfl⟩ := xsucc hn
  obtain ⟨c1, c2, c3, c4⟩ := C
  refine w_Mo_later ⟨L.s 166, ?_⟩
  rw [c2, nI_e0 (by omega)]
  refine ⟨fun z => ⟨⟨by decide, L.s 166⟩, ?_⟩, fun z => ?_⟩
  · have L1 : Lay (xsI h 166 17 (nI f)) := L
    refine b_Mo_later_36 ⟨⟨by decide, L1.s 166⟩, hQ _ ((Fr.rf.wI (Or.inl rfl)).wI (Or.inl rfl)) (fun i h1 h2 => ?_) ?_ ?_⟩
    · rw [upI_o _ _ _ _ h2, upI_o _ _ _ _ h1]
    · rw [xsI_ne _ _ _ (by decide), xsI_ne _ _ _ (by decide)]
    · have en : nt F f p = (f, p) := by unfold nt; rw [if_pos z]
      rw [en]
      exact ⟨(c1.w (by omega)).w (by omega), by rw [upI_o _ _ _ _ (by decide), upI_s], f5, fun _ => ⟨upI_s _ _ _ _, pl⟩⟩
  · have lt : F.2 < p := by
      rcases hp with w | w
      · exact absurd w z
      · exact w
    obtain ⟨d1, d2⟩ := c4 z
    have q : Q h := by
      refine hQ h Fr.rf (fun _ _ _ => rfl) rfl ?_
      rw [nt_k z]
      exact ⟨c1, c2, c3, c4⟩
    rw [d1, nI_ltI (by omega) (by omega), nI_eq (by omega) (by omega)]
    exact ⟨fun y => by omega, fun _ => ⟨fun _ => q, fun y => by omega⟩⟩
theorem c_Mo_fails {n : Nat} (hn : 1 ≤ n) {h : xh} (L : Lay h) {s : Nat} (e : xI h 166 12 = nI s) {Q : Int32 → xh → Prop} (hQ : Q 0 (xsI h 166 16 (nI s))) : xci (xMC n) 222 [.ref 166] h Q := by
  obtain ⟨n, rfl⟩ := xsucc hn
  refine w_Mo_fails ⟨L.s 166, ⟨by decide, L.s 166⟩, b_Mo_fails_8 ?_⟩
  rw [e]
  exact hQ
theorem c_Mo_takeBut {n : Nat} (hn : 3 ≤ n) {h : xh} (L : Lay h) {B : Nat → Nat} (T : TpM h B) {len s : Nat} (l6 : len ≤ 600) (hs : s ≤ len) {F : Nat × Nat} (C : MR h B len s F) (o : ord F s) {c k i : Nat} {R : Nat → Nat} {r : Bool × Nat × (Nat × Nat) × (Nat → Nat)} (er : r = nmR B len c (k + 1) i s F R) {x : Nat} (hx : x < 4) {lo hi bu : Int32} (ho : ∀ v, v ≤ 99 → ((xbw (nI v) lo hi ∧ ¬ nI v = bu) ↔ canB c i R v)) {Q : Int32 → xh → Prop} (h1 : ∀ g F' v, Fm h g → v ≤ 99 → r = nmR B len c k (i + 1) (nxt B len s) F' (vup R i v) → MR g B len (nxt B len s) F' → ord F' (nxt B len s) → s < nxt B len s → nxt B len s ≤ len → (∀ j, xI g 177 j = if j = x then nI v else xI h 177 j) → ((canB c i R v → xI g 166 22 = xI h 166 22) ∧ (¬ canB c i R v → xI g 166 22 = 0)) → Q 1 g) (h0 : ∀ g F' R', Fm h g → r = (false, s, F', R') → xI g 166 16 = nI s → Q 0 g) : xci (xMC n) 227 [.ref 166, .int (nI x), .int lo, .int hi, .int bu] h Q := by
  obtain ⟨n, rfl⟩ := xsucc (show 1 ≤ n by omega)
  have k5 := kd_5 B len s
  have km := kM_i _ k5
  refine w_Mo_takeBut ⟨L.s 166, ?_⟩
  rw [C.1.2.2.2.1, show (nI (kM (kd B len s)) = (3 : Int32)) = (kM (kd B len s) = 3) from propext (nI_eq (b := 3) (by omega) (by decide)), km.2.2.2.1]
  refine ⟨fun k2 => ⟨177, L.r 166 20 177, ⟨by decide, L.x 177 (n := 4) hx⟩, ?_⟩, fun k2 => c_Mo_fails (by omega) L C.1.2.1 ⟨Or.inl rfl, h0 _ _ _ ⟨Fr.rf.wI (Or.inl rfl), upI_o _ _ _ _ (by decide)⟩ (er.trans (nmR_n k2)) (upI_s _ _ _ _)⟩⟩
  have v9 := vl_99 k2
  have sl := kd_lt (B := B) (len := len) (s := s) (by omega)
  have nb := nxt_b (B := B) (len := len) (s := s) hs
  rw [nmR_y k2] at er
  rw [nI_clamp (by omega), C.1.2.2.2.2.1 k2]
  have C1 : MR (xsI h 177 x (nI (vl B len s))) B len s F := C.wa (by decide)
  have G1 : Fm h (xsI h 177 x (nI (vl B len s))) := ⟨Fr.rf.wI (Or.inr rfl), by rw [xsI_ne _ _ _ (by decide)]⟩
  have e22 : xI (xsI h 177 x (nI (vl B len s))) 166 22 = xI h 166 22 := by rw [xsI_ne _ _ _ (by decide)]
  have e177 : ∀ j, xI (xsI h 177 x (nI (vl B len s))) 177 j = if j = x then nI (vl B len s) else xI h 177 j := fun j => upI _ _ _ _ _
  generalize xsI h 177 x (nI (vl B len s)) = g1 at C1 G1 e22 e177 ⊢
  have L1 := G1.1.lay L
  have hov := ho (vl B len s) v9
  have yes : canB c i R (vl B len s) → ∀ o1 o2 o3 o4 : Option Value, K_Mo_takeBut n Q 58 [some (.ref 166), o1, o2, o3, o4] [] g1 := fun cb o1 o2 o3 o4 => by
    refine b_Mo_takeBut_58 ⟨L1.s 166, C1.tok (by omega) L1 (G1.tp T) l6 hs (fun g2 f2 C2 => ?_)⟩
    rw [if_pos cb] at er
    refine h1 g2 F (vl B len s) (G1.tr f2.m) v9 er C2 (o.mo (by omega)) (nb.2 sl) nb.1 (fun j => ?_) ⟨fun _ => ?_, fun z => absurd cb z⟩
    · rw [f2.1.i 177 (fun z => by unfold P166 at z; omega)]; exact e177 j
    · rw [f2.2 22 (by omega)]; exact e22
  have no : ¬ canB c i R (vl B len s) → ∀ o1 o2 o3 o4 : Option Value, K_Mo_takeBut n Q 44 [some (.ref 166), o1, o2, o3, o4] [] g1 := fun cb o1 o2 o3 o4 => by
    refine b_Mo_takeBut_44 ⟨L1.s 166, ?_⟩
    rw [C1.1.2.1]
    refine c_Mo_later (f := 2) (by omega) L1 l6 C1 (by decide) (by decide) o hs (fun g2 G2 i2 e2 C2 => ⟨⟨⟨by decide, (G2.lay L1).s 166⟩, Or.inl rfl⟩, ?_⟩)
    have C3 : MR (xsI g2 166 22 0) B len s (nt F 2 s) := C2.w (by omega)
    have G3 : Fm h (xsI g2 166 22 0) := ⟨(G1.1.tr G2).wI (Or.inl rfl), by rw [upI_o _ _ _ _ (by decide), i2 21 (by decide) (by decide)]; exact G1.2⟩
    have L3 := G3.1.lay L
    refine b_Mo_takeBut_58 ⟨L3.s 166, C3.tok (by omega) L3 (G3.tp T) l6 hs (fun g4 f4 C4 => ?_)⟩
    rw [if_neg cb] at er
    refine h1 g4 _ (vl B len s) (G3.tr f4.m) v9 er C4 (ord_nt o (nb.2 sl)) (nb.2 sl) nb.1 (fun j => ?_) ⟨fun z => absurd z cb, fun _ => ?_⟩
    · rw [f4.1.i 177 (fun z => by unfold P166 at z; omega), xsI_ne _ _ _ (by decide), e2]; exact e177 j
    · rw [f4.2 22 (by omega), upI_s]
  refine b_Mo_takeBut_23 ⟨L1.s 166, ?_⟩
  rw [C1.1.2.2.2.2.1 k2]
  refine c_Mo_in (by omega) (fun z => ⟨fun y => absurd y (by decide), fun _ => ⟨L1.s 166, ?_⟩⟩) (fun z => ⟨fun _ => no (fun y => z (hov.mpr y).1) _ _ _ _, fun y => absurd rfl y⟩)
  rw [C1.1.2.2.2.2.1 k2]
  exact ⟨fun y => yes (hov.mp ⟨z, y⟩) _ _ _ _, fun y => no (fun x => (hov.mpr x).2 y) _ _ _ _⟩
theorem c_Mo_take {n : Nat} (hn : 4 ≤ n) {h : xh} (L : Lay h) {B : Nat → Nat} (T : TpM h B) {len s : Nat} (l6 : len ≤ 600) (hs : s ≤ len) {F : Nat × Nat} (C : MR h B len s F) (o : ord F s) {c k i : Nat} {R : Nat → Nat} {r : Bool × Nat × (Nat × Nat) × (Nat → Nat)} (er : r = nmR B len c (k + 1) i s F R) {x : Nat} (hx : x < 4) {a b : Nat} (ha : a ≤ 99) (hb : b ≤ 99) (ho : ∀ v, v ≤ 99 → ((a ≤ v ∧ v ≤ b) ↔ canB c i R v)) {Q : Int32 → xh → Prop} (h1 : ∀ g F' v, Fm h g → v ≤ 99 → r = nmR B len c k (i + 1) (nxt B len s) F' (vup R i v) → MR g B len (nxt B len s) F' → ord F' (nxt B len s) → s < nxt B len s → nxt B len s ≤ len → (∀ j, xI g 177 j = if j = x then nI v else xI h 177 j) → ((canB c i R v → xI g 166 22 = xI h 166 22) ∧ (¬ canB c i R v → xI g 166 22 = 0)) → Q 1 g) (h0 : ∀ g F' R', Fm h g → r = (false, s, F', R') → xI g 166 16 = nI s → Q 0 g) : xci (xMC n) 226 [.ref 166, .int (nI x), .int (nI a), .int (nI b)] h Q := by
  obtain ⟨n, rfl⟩ := xsucc (show 1 ≤ n by omega)
  refine w_Mo_take ⟨L.s 166, c_Mo_takeBut (by omega) L T l6 hs C o er hx (fun v v9 => ?_) (fun g F' v G q1 q2 q3 q4 q5 q6 q7 q8 => ⟨Or.inr rfl, h1 g F' v G q1 q2 q3 q4 q5 q6 q7 q8⟩) (fun g F' R' G q1 q2 => ⟨Or.inl rfl, h0 g F' R' G q1 q2⟩)⟩
  rw [← ho v v9]
  constructor
  · rintro ⟨⟨w1, w2⟩, _⟩
    rw [nI_ltI (by omega) (by omega)] at w1 w2
    omega
  · rintro ⟨w1, w2⟩
    exact ⟨⟨nI_nlt w1 (by omega), nI_nlt w2 (by omega)⟩, nI_m1 (by omega)⟩
/-- words of lines -/
theorem wc_u : ∀ j, j < 22 → ∀ k, k < 22 → wcon j = wcon k → j = k := by decide +kernel
theorem Wd_u {B : Nat → Nat} {len s j k : Nat} (k1 : kd B len s = 1) (hj : j < 22) (hk : k < 22) (h1 : Wd B s (tE B len s) j) (h2 : Wd B s (tE B len s) k) : j = k := by
  have e1 := (wv_i (B := B) (len := len) (s := s) hj).mpr ⟨k1, h1⟩
  have e2 := (wv_i (B := B) (len := len) (s := s) hk).mpr ⟨k1, h2⟩
  have e := e1.symm.trans e2
  have b : ∀ j, j < 22 → wcon j < 2 ^ 63 := by decide +kernel
  exact wc_u j hj k hk ((pk_lEQ (b j hj) (b k hk)).mp e)
theorem stx_u : ∀ q, q < 4 → ∀ c, c < 20 → ∀ d, d < 20 → (FC q ≤ c ∧ c < FC (q + 1) ∧ FC q ≤ d ∧ d < FC (q + 1) ∧ stx c = stx d) → c = d := by decide +kernel
theorem cdf_w {B : Nat → Nat} {len q s c : Nat} (hq : q < 4) (h1 : FC q ≤ c) (h2 : c < FC (q + 1)) (w : kd B len s = 1 ∧ Wd B s (tE B len s) (stx c)) : cdf B len q s = c := by
  obtain ⟨f1, f2, _⟩ := FC_t q hq
  unfold cdf
  rw [if_pos w.1]
  obtain ⟨a1, a2⟩ := fsx_sp (p := fun c => decide (Wd B s (tE B len s) (stx c))) (d := FC (q + 1) - FC q) (i := FC q) (k := c) h1 (by omega) (decide_eq_true w.2)
  have a3 := (fsx_le (fun c => decide (Wd B s (tE B len s) (stx c))) (FC (q + 1) - FC q) (FC q)).1
  have a4 := of_decide_eq_true a2
  exact stx_u q hq _ (by omega) c (by omega) ⟨a3, by omega, h1, h2, Wd_u w.1 (stx_t _ (by omega)) (stx_t _ (by omega)) a4 w.2⟩
theorem cdf_n {B : Nat → Nat} {len q s : Nat} (hq : q < 4) (h : ∀ c, FC q ≤ c → c < FC (q + 1) → ¬ (kd B len s = 1 ∧ Wd B s (tE B len s) (stx c))) : ¬ cdf B len q s < FC (q + 1) := by
  intro z
  have cb := cdf_b B len hq s
  by_cases k1 : kd B len s = 1
  · have e : cdf B len q s = fsx (fun c => decide (Wd B s (tE B len s) (stx c))) (FC (q + 1) - FC q) (FC q) := by unfold cdf; rw [if_pos k1]
    have := fsx_lt (p := fun c => decide (Wd B s (tE B len s) (stx c))) (d := FC (q + 1) - FC q) (i := FC q) (by omega)
    rw [← e] at this
    exact h _ cb.1 z ⟨k1, of_decide_eq_true this⟩
  · have e : cdf B len q s = FC (q + 1) := by unfold cdf; rw [if_neg k1]
    omega
theorem wct : ((1702258030 : Int64) = lN (wcon 3) ∧ (27991845764359524 : Int64) = lN (wcon 4) ∧ (435627783289 : Int64) = lN (wcon 5) ∧ (1818325876 : Int64) = lN (wcon 6)) ∧ ((112628746448759 : Int64) = lN (wcon 7) ∧ (1752132965 : Int64) = lN (wcon 8) ∧ (1936684400 : Int64) = lN (wcon 9) ∧ (1885430629 : Int64) = lN (wcon 10) ∧ (1668246628 : Int64) = lN (wcon 11) ∧ (1952541803 : Int64) = lN (wcon 12)) ∧ ((431416243813 : Int64) = lN (wcon 13) ∧ (465490439269 : Int64) = lN (wcon 14) ∧ (2002872692 : Int64) = lN (wcon 15) ∧ (125780071117422 : Int64) = lN (wcon 16)) ∧ ((474214787188 : Int64) = lN (wcon 17) ∧ (418548245860 : Int64) = lN (wcon 18)) ∧ ((495790025587 : Int64) = lN (wcon 0) ∧ (113715424159091 : Int64) = lN (wcon 1) ∧ (1650550643 : Int64) = lN (wcon 2)) ∧ ((1936224101 : Int64) = lN (wcon 19) ∧ (1718579060 : Int64) = lN (wcon 20) ∧ (1751737445 : Int64) = lN (wcon 21)) := by decide +kernel
