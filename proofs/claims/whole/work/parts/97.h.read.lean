/-! A TEXT in the class -/
def Kp (h g : xh) : Prop := (∀ c, 119 ≤ c → c ≤ 140 → xI g c = xI h c) ∧ xI g 117 8 = xI h 117 8
theorem Kp.tr {a b c : xh} (f : Kp a b) (g : Kp b c) : Kp a c := ⟨fun x h1 h2 => (g.1 x h1 h2).trans (f.1 x h1 h2), g.2.trans f.2⟩
theorem Fa.kp {h g : xh} (f : Fa h g) : Kp h g := ⟨fun c h1 h2 => f.1.i c (fun z => by unfold P117 at z; omega), f.2 8 (by omega)⟩
theorem Fe.kp {h g : xh} (f : Fe h g) : Kp h g := ⟨fun c h1 h2 => f.1.i c (fun z => by unfold PE at z; omega), f.2 8 (by omega)⟩
theorem DR.kp {q : Nat} {h g : xh} {D : Nat → Int32} (d : DR q h D) (k : Kp h g) : DR q g D := by
  have e : ∀ c, 119 ≤ c → c ≤ 140 → xI g c = xI h c := k.1
  have e2 : ∀ j s, j < 7 → xI g (120 + j) s = xI h (120 + j) s := fun j s hj => by rw [e _ (by omega) (by omega)]
  unfold DR at *
  rw [e 119 (by decide) (by decide), e 127 (by decide) (by decide), e 128 (by decide) (by decide), e 129 (by decide) (by decide), e 130 (by decide) (by decide), e 131 (by decide) (by decide), e 132 (by decide) (by decide), e 133 (by decide) (by decide), e 134 (by decide) (by decide), e 135 (by decide) (by decide), e 136 (by decide) (by decide), e 137 (by decide) (by decide), e 138 (by decide) (by decide), e 139 (by decide) (by decide), e 140 (by decide) (by decide)]
  by_cases q0 : q = 0
  · rw [if_pos q0] at *
    exact ⟨d.1, fun j s hj hs hb => (e2 j s hj).trans (d.2 j s hj hs hb)⟩
  · rw [if_neg q0] at *
    exact d
theorem Sf.kp {h g : xh} (z : Sf h) (k : Kp h g) : Sf g := by
  unfold Sf
  rw [k.1 119 (by decide) (by decide), k.1 127 (by decide) (by decide), k.1 130 (by decide) (by decide), k.1 134 (by decide) (by decide)]
  exact z
theorem TO.kp {h g : xh} {far : Nat} (t : TO h far) (k : Kp h g) : TO g far := by
  unfold TO
  rw [k.2]
  exact t
def CL (h : xh) (q : Nat) (B : Nat → Nat) (len s : Nat) (F : Nat × Nat) (D : Nat → Int32) (far : Nat) : Prop := CR h B len s F ∧ Sf h ∧ (F.1 = 0 → DR q h D ∧ pOK q D far ∧ (q = 0 → TO h far)) ∧ (q ≠ 0 → xI h 119 6 = 0 ∧ xI h 117 8 = 0)
def PRd (c : Nat) : Prop := 117 ≤ c ∧ c ≤ 140
theorem CR.fq {h g : xh} {B : Nat → Nat} {len s : Nat} {F : Nat × Nat} (C : CR h B len s F) (f : Fq h g) : CR g B len s F := by
  obtain ⟨⟨a1, a2, a3, a4, a5⟩, b1, b2, b3⟩ := C
  exact ⟨⟨(f.2 1 (by decide)).trans a1, (f.2 4 (by decide)).trans a2, (f.2 2 (by decide)).trans a3, (f.2 3 (by decide)).trans a4, fun z => (f.2 5 (by decide)).trans (a5 z)⟩, (f.2 9 (by decide)).trans b1, (f.2 10 (by decide)).trans b2, b3⟩
theorem lnG_t {B : Nat → Nat} {len c s : Nat} {F : Nat × Nat} {D : Nat → Int32} {far : Nat} (h : c ≠ 16) : lnG B len c s F D far = lnF B len c 0 D far (nmR B len c (tb 1 c) 0 (nxt B len s) F (fun _ => 0)) := by
  unfold lnG; rw [if_neg h]
theorem c_Reader_readLine {n : Nat} (hn : 7 ≤ n) {h : xh} (L : Lay h) {N : Nat} {xs : Nat → Int32} (S : St0 h N xs) {B : Nat → Nat} (T : TpC h B) {len s : Nat} (l6 : len ≤ 600) (hs : s < len) {q : Nat} (hq : q < 4) {F : Nat × Nat} {D : Nat → Int32} {far : Nat} (C : CL h q B len s F D far) {Q : Int32 → xh → Prop} (hQ : ∀ g ok s' F' D' far', lnR B len q s F D far = (ok, s', F', D', far') → Fr PRd h g → s' ≤ len → (ok = true → CL g q B len s' F' D' far' ∧ s < s') → (ok = false → xI g 117 4 = nI s') → Q (if ok = true then 1 else 0) g) : xci (xMC n) 133 [.ref 117, .int (nI q)] h Q := by
  obtain ⟨n, rfl⟩ := xsucc (show 1 ≤ n by omega)
  obtain ⟨C0, Z, dd, dz⟩ := C
  have cb := cdf_b B len hq s
  refine w_Reader_readLine ⟨L.s 117, c_Reader_codeOf (by omega) L S T l6 C0.1 hq ?_⟩
  by_cases cc : cdf B len q s < FC (q + 1)
  · have e0 : lnR B len q s F D far = lnG B len (cdf B len q s) s (if fuB (cdf B len q s) D = true then nt F (fuN (cdf B len q s)) s else F) D far := by unfold lnR; rw [if_pos cc]
    have hc : cq q (cdf B len q s) := cq_of hq cb.1 cc
    rw [if_pos cc]
    generalize cdf B len q s = c at e0 hc
    have c20 := hc.b
    have fl : ∀ g, Fr PE h g → Fr PRd h g := fun g f => f.mo (fun c z => by unfold PE at z; unfold PRd; omega)
    refine ⟨fun _ => ⟨L.s 117, c_Reader_checkRoom (by omega) L C0 (by omega) Z hc (fun f => (dd f).1) (fun g1 G1 i1 C1 => ⟨(G1.lay L).s 117, ?_⟩)⟩, fun z => absurd (nI_pos' (by omega)) z⟩
    have f1 : (if fuB c D = true then nt F (fuN c) s else F).1 = 0 → F.1 = 0 ∧ fuB c D = false := fun z => by
      cases fb : fuB c D
      · rw [fb, if_neg (by decide)] at z
        exact ⟨z, rfl⟩
      · rw [fb, if_pos rfl] at z
        have := nt_p (F := F) (f := fuN c) (s := s) (by unfold fuN; split <;> decide)
        omega
    generalize (if fuB c D = true then nt F (fuN c) s else F) = F1 at e0 C1 f1
    have T1 : TpC g1 B := fun i hi => by rw [G1.i 66 (fun z => by unfold PE at z; omega)]; exact T i hi
    have S1 : St0 g1 N xs := S.fr G1 (fun c z => by unfold PE at z; omega)
    have k1 : Kp h g1 := ⟨fun c h1 h2 => G1.i c (fun z => by unfold PE at z; omega), i1 8 (by omega)⟩
    have nb := nxt_b (B := B) (len := len) (s := s) (by omega)
    refine C1.adv (by omega) (G1.lay L) T1 l6 (by omega) (fun g2 f2 C2 => ?_)
    have G2 : Fr PE h g2 := G1.tr (f2.1.mo (fun c z => Or.inl z))
    have k2 : Kp h g2 := k1.tr f2.kp
    have T2 := f2.tp T1
    have S2 : St0 g2 N xs := S.fr G2 (fun c z => by unfold PE at z; omega)
    have tail : ∀ th g s1, th < 3 → s1 ≤ len → s < s1 → Fr PE h g → Kp h g → CR g B len s1 F1 → (c = 16 → xI g 117 7 = nI th ∧ th < 3) → lnR B len q s F D far = lnF B len c th D far (nmR B len c (tb 1 c) 0 s1 F1 (fun _ => 0)) → ∀ o1 : Option Value, K_Reader_readLine n Q 36 [some (.ref 117), o1, some (.int (nI c))] [] g := fun th g s1 th3 hs1 ss1 G k C' ht el o1 => by
      have Lg := G.lay L
      have Tg : TpC g B := fun i hi => by rw [G.i 66 (fun z => by unfold PE at z; omega)]; exact T i hi
      have Sg : St0 g N xs := S.fr G (fun c z => by unfold PE at z; omega)
      have nm := nmR_g (B := B) (len := len) (c := c) (k := tb 1 c) (i := 0) (s := s1) (F := F1) (R := fun _ => 0) hs1
      refine b_Reader_readLine_36 ⟨Lg.s 117, c_Reader_readNumbers (by omega) Lg Sg Tg l6 hs1 C' c20 (fun g3 ok s2 F2 R er G3 C3 r3 => ?_)⟩
      rw [er] at nm el
      obtain ⟨m1, m2, m3, m4, m5⟩ := nm
      have m1 : s2 ≤ len := m1
      have m2 : s1 ≤ s2 := m2
      have GL : Fr PRd h g3 := fl _ (G.tr G3.1)
      cases ok
      · refine ⟨fun _ => hQ g3 false s2 F2 D far (by rw [el]; rfl) GL m1 (fun z => absurd z (by decide)) (fun _ => C3.1.2.1), fun z => absurd rfl z⟩
      · obtain ⟨m5a, m5b⟩ := m5 rfl
        obtain ⟨r3a, r3b⟩ := r3 rfl
        have k5 := kd_5 B len s2
        have L3 := G3.1.lay Lg
        refine ⟨fun z => absurd z (by decide), fun _ => ⟨L3.s 117, ?_⟩⟩
        rw [C3.1.2.2.2.1, show (nI (kd B len s2) = (3 : Int32)) = (kd B len s2 = 3) from propext (nI_eq (b := 3) (by omega) (by decide))]
        refine ⟨fun k3 => ?_, fun k3 => hQ g3 false s2 F2 D far (by rw [el]; unfold lnF; rw [if_neg (fun z => k3 z.2)]) GL m1 (fun z => absurd z (by decide)) (fun _ => C3.1.2.1)⟩
        have el' : lnR B len q s F D far = (true, nxt B len s2, F2, tl c th R D, frU c R far) := by
          rw [el]; unfold lnF; rw [if_pos ⟨rfl, k3⟩]
        have sl2 := kd_lt (B := B) (len := len) (s := s2) (by omega)
        have nb2 := nxt_b (B := B) (len := len) (s := s2) m1
        refine C3.adv (by omega) L3 (G3.tp Tg) l6 m1 (fun g4 f4 C4 => ?_)
        have k4 : Kp h g4 := (k.tr G3.kp).tr f4.kp
        have L4 := f4.1.lay L3
        have e118 : xI g4 118 = xI g3 118 := f4.1.i 118 (fun z => by unfold P117 at z; omega)
        have F20 : F2.1 = 0 → F.1 = 0 ∧ fuB c D = false := fun z => f1 (m4 z)
        refine ⟨L4.s 117, c_Reader_tellLine (f0 := F2.1 = 0) (D := D) (far := far) (th := th) (by omega) L4 (Z.kp k4) hc (fun i hi => by rw [e118]; exact r3a i hi) (fun z => by rw [e118]; exact r3b z) (fun z => ⟨by rw [f4.2 7 (by omega), G3.2 7 (by omega)]; exact (ht z).1, th3⟩) (fun z => ?_) (fun g5 G5 Z5 d5 g58 g519 => ?_)⟩
        · obtain ⟨z1, z2⟩ := F20 z
          obtain ⟨a1, a2, a3⟩ := dd z1
          refine ⟨a1.kp k4, a2, fun c4 => ?_, z2⟩
          subst c4
          have q0 : q = 0 := by unfold cq at hc; omega
          exact ⟨rg_4 (fun i hi => m5b z i (by omega) (by omega)), (a3 q0).kp k4⟩
        · refine hQ g5 true _ _ _ _ el' (fl _ (G.tr (G3.1.tr (f4.1.mo (fun c z => Or.inl z)))) |>.tr (G5.1.mo (fun c z => by unfold PD at z; unfold PRd; omega))) nb2.1 (fun _ => ⟨⟨C4.fq G5, Z5, fun z => ?_, fun z => ?_⟩, by omega⟩) (fun z => absurd z (by decide))
          · obtain ⟨z1, z2⟩ := F20 z
            obtain ⟨a1, a2, a3⟩ := dd z1
            obtain ⟨b1, b2⟩ := d5 z
            refine ⟨b1, pOK_up a2 hc th3 (fun i hi => m5b z i (by omega) (by omega)) z2, fun q0 => ?_⟩
            by_cases c4 : c = 4
            · subst c4; exact b2 rfl
            · have ef : frU c R far = far := by unfold frU; rw [if_neg c4]
              rw [ef]
              unfold TO
              rw [g58 c4]
              exact (a3 q0).kp k4
          · have c4 : c ≠ 4 := by unfold cq at hc; omega
            rw [g519 z, g58 c4, k4.2, k4.1 119 (by decide) (by decide)]
            exact dz z
    rw [show (nI c = (16 : Int32)) = (c = 16) from propext (nI_eq (b := 16) (by omega) (by decide))]
    refine ⟨fun c16 => tail 0 g2 (nxt B len s) (by decide) nb.1 (nb.2 hs) G2 k2 C2 (fun z => absurd z c16) (by rw [e0, lnG_t c16]) _, fun c16 => ⟨(G2.lay L).s 117, c_Reader_readThing (by omega) (G2.lay L) S2 T2 l6 nb.1 C2 (fun th3 g3 G3 i3 C3 e7 => ⟨fun _ => ?_, fun z => absurd z (by decide)⟩) (fun th3 => ⟨fun z => absurd rfl z, fun _ => ?_⟩)⟩⟩
    · have nb2 := nxt_b (B := B) (len := len) (s := nxt B len s) nb.1
      have tl1 : nxt B len s < len := by
        apply Nat.lt_of_not_le
        intro z
        have : thg B len (nxt B len s) = 3 := by
          unfold thg
          rw [if_neg]
          unfold kd
          rw [if_pos z]; decide
        omega
      refine tail (thg B len (nxt B len s)) g3 (nxt B len (nxt B len s)) th3 nb2.1 (by have := nb.2 hs; have := nb2.2 tl1; omega) (G2.tr G3) (k2.tr ⟨fun c h1 h2 => G3.i c (fun z => by unfold PE at z; omega), i3 8 (by omega)⟩) C3 (fun _ => ⟨e7, th3⟩) ?_ _
      rw [e0]
      unfold lnG
      rw [if_pos c16, if_pos th3]
    · refine hQ g2 false (nxt B len s) F1 D far ?_ (fl _ G2) nb.1 (fun z => absurd z (by decide)) (fun _ => C2.1.2.1)
      rw [e0]
      unfold lnG
      rw [if_pos c16, if_neg th3]
  · rw [if_neg cc]
    refine ⟨fun z => absurd z (by decide), fun _ => hQ h false s F D far ?_ Fr.rf (by omega) (fun z => absurd z (by decide)) (fun _ => C0.1.2.1)⟩
    unfold lnR
    rw [if_neg cc]
theorem c_Town_clear {n : Nat} (hn : 1 ≤ n) {h : xh} (L : Lay h) {Q : xh → Prop} (hQ : ∀ g, Fq h g → xI g 117 = xI h 117 → (∀ i, i < 7 → xI g 119 i = bln 0 i) → (∀ s, s < 9 → xI g 125 s = 0 ∧ xI g 126 s = -1) → (∀ c, 126 < c → xI g c = xI h c) → Q g) : xcv (xMC n) 39 [.ref 119] h Q := by
  obtain ⟨n, rfl⟩ := xsucc hn
  have key : ∀ d s, s + d = 9 → ∀ g, Fq h g → xI g 117 = xI h 117 → (∀ i, i < 7 → xI g 119 i = bln 0 i) → (∀ k, k < s → xI g 125 k = 0 ∧ xI g 126 k = -1) → (∀ c, 126 < c → xI g c = xI h c) → K_Town_clear n Q 40 [some (.ref 119), some (.int (nI s))] [] g := by
    intro d
    induction d with
    | zero =>
      intro s hs g F g1 g2 g3 g4
      have : s = 9 := by omega
      subst this
      exact b_Town_clear_40 ⟨fun _ => hQ g F g1 g2 g3 g4, fun z => absurd (Int32.le_refl _) z⟩
    | succ d ih =>
      intro s hs g F g1 g2 g3 g4
      have Lg := F.1.lay L
      have L1 : Lay (xsI g 125 s 0) := Lg
      refine b_Town_clear_40 ⟨fun z => absurd z (nI_ge (b := 9) (by omega) (by decide)), fun _ => ⟨Lg.s 119, 125, Lg.r 119 12 125, ⟨by decide, Lg.x 125 (n := 9) (by omega)⟩, ?_⟩⟩
      rw [nI_clamp (by omega)]
      refine b_Town_clear_53 ⟨L1.s 119, 126, L1.r 119 13 126, ⟨by decide, L1.x 126 (n := 9) (by omega)⟩, b_Town_clear_60 ?_⟩
      rw [nI_1, nI_clamp (by omega)]
      refine ih (s + 1) (by omega) _ F.w.w ?_ (fun i hi => ?_) (fun k hk => ?_) (fun c hc => ?_)
      · rw [xsI_ne _ _ _ (by decide), xsI_ne _ _ _ (by decide)]; exact g1
      · rw [xsI_ne _ _ _ (by decide), xsI_ne _ _ _ (by decide)]; exact g2 i hi
      · rw [xsI_ne _ _ _ (show 125 ≠ 126 by decide), upI, upI, xsI_ne _ _ _ (show 126 ≠ 125 by decide)]
        by_cases e : k = s
        · rw [if_pos e, if_pos e]; exact ⟨rfl, rfl⟩
        · rw [if_neg e, if_neg e]; exact g3 k (by omega)
      · rw [xsI_ne _ _ _ (by omega), xsI_ne _ _ _ (by omega)]; exact g4 c hc
  have hs : ∀ {g : xh}, Lay g → xS g 119 = (2, 0) := fun Lg => Lg.s 119
  refine w_Town_clear ⟨⟨by decide, hs L⟩, b_Town_clear_5 ⟨⟨by decide, hs (L.wI 119 0 0)⟩, b_Town_clear_10 ⟨⟨by decide, hs ((L.wI 119 0 0).wI 119 1 0)⟩, b_Town_clear_16 ⟨⟨by decide, hs (((L.wI 119 0 0).wI 119 1 0).wI 119 2 60)⟩, b_Town_clear_21 ⟨⟨by decide, hs ((((L.wI 119 0 0).wI 119 1 0).wI 119 2 60).wI 119 3 2)⟩, b_Town_clear_27 ⟨⟨by decide, hs (((((L.wI 119 0 0).wI 119 1 0).wI 119 2 60).wI 119 3 2).wI 119 4 60)⟩, b_Town_clear_33 ⟨⟨by decide, hs ((((((L.wI 119 0 0).wI 119 1 0).wI 119 2 60).wI 119 3 2).wI 119 4 60).wI 119 5 9)⟩, b_Town_clear_38 (key 9 0 (by omega) _ Fq.rf.w.w.w.w.w.w.w ?_ (fun i hi => ?_) (fun k hk => absurd hk (Nat.not_lt_zero _)) (fun c hc => ?_))⟩⟩⟩⟩⟩⟩⟩
  · rw [xsI_ne _ _ _ (by decide), xsI_ne _ _ _ (by decide), xsI_ne _ _ _ (by decide), xsI_ne _ _ _ (by decide), xsI_ne _ _ _ (by decide), xsI_ne _ _ _ (by decide), xsI_ne _ _ _ (by decide)]
  · rw [upI, upI, upI, upI, upI, upI, upI]
    have : i = 0 ∨ i = 1 ∨ i = 2 ∨ i = 3 ∨ i = 4 ∨ i = 5 ∨ i = 6 := by omega
    rcases this with e | e | e | e | e | e | e <;> subst e <;> rfl
  · rw [xsI_ne _ _ _ (by omega), xsI_ne _ _ _ (by omega), xsI_ne _ _ _ (by omega), xsI_ne _ _ _ (by omega), xsI_ne _ _ _ (by omega), xsI_ne _ _ _ (by omega), xsI_ne _ _ _ (by omega)]
