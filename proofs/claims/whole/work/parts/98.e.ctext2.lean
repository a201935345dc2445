/-! text in the class: placeFor, text -/
theorem c_So_placeFor {n : Nat} (hn : 1 ≤ n) {h : xh} (L : Lay h) {cc : Nat → Nat} (hc : ∀ q, q < 4 → xI h 67 q = nI (cc q) ∧ cc q ≤ 2) {p a : Int32} {Q : Int32 → xh → Prop} (h0 : (¬ ∃ q k, Vk cc p a q k) → Q (-2) h) (h1 : ∀ q k, Vk cc p a q k → Q (nI k) h) : xci (xMC n) 155 [.ref 64, .int p, .int a] h Q := by
  obtain ⟨n, rfl⟩ := xsucc (show 1 ≤ n by omega)
  have uq : ∀ {x y : Nat}, x < 2 ^ 31 → y < 2 ^ 31 → nI x = nI y → x = y := fun a b e => (nI_eq a b).mp e
  refine w_So_placeFor ⟨fun z => h0 (fun ⟨q, k, hq, ep, _⟩ => ?_), fun z => ⟨fun y => ?_, fun y => h0 (fun ⟨q, k, hq, ep, _⟩ => ?_)⟩⟩
  · subst ep; exact nI_pos (by omega) z
  · obtain ⟨q, hq, ep⟩ := nI_of z
    subst ep
    have hq : q < 4 := (nI_ltI (b := 4) hq (by decide)).mp y
    obtain ⟨e, c2⟩ := hc q hq
    refine ⟨L.s 64, 65, L.r 64 0 65, L.s 65, 67, L.r 65 4 67, L.x 67 (n := 4) hq, ?_⟩
    rw [nI_clamp (show q < 2 ^ 31 by omega), e]
    refine ⟨fun na => ⟨fun w => h0 (fun ⟨q', k, hq', ep, hv⟩ => ?_), fun w => ?_⟩, fun na => ?_⟩
    · have := uq (by omega) (by omega) ep
      subst this
      rcases hv with ⟨w1, _⟩ | ⟨w1, w2⟩
      · exact na w1
      · subst w1; exact nI_pos (by omega) w
    · obtain ⟨k, hk, ek⟩ := nI_of w
      subst ek
      refine ⟨fun v => h0 (fun ⟨q', k', hq', ep, hv⟩ => ?_), fun v => h1 q k ⟨hq, rfl, Or.inr ⟨rfl, (nI_ltI hk (by omega)).mp (Int32.not_le.mp v)⟩⟩⟩
      have := uq (by omega) (by omega) ep
      subst this
      rcases hv with ⟨w1, _⟩ | ⟨w1, w2⟩
      · exact na w1
      · have := uq hk (by omega) w1
        subst this
        exact absurd (nI_lt w2 (by omega)) (Int32.not_lt.mpr v)
    · refine ⟨fun v => h0 (fun ⟨q', k', hq', ep, hv⟩ => ?_), fun v => h1 q (cc q) ⟨hq, rfl, Or.inl ⟨na, (nI_ltI (b := 2) (by omega) (by decide)).mp (Int32.not_le.mp v), rfl⟩⟩⟩
      have := uq (by omega) (by omega) ep
      subst this
      rcases hv with ⟨w1, w2, _⟩ | ⟨w1, w2⟩
      · exact absurd (nI_lt (b := 2) w2 (by decide)) (Int32.not_lt.mpr v)
      · exact nI_m1 (k := k') (by omega) (w1.symm.trans na)
  · subst ep
    exact y (nI_lt (b := 4) hq (by decide))
def TC (g : xh) (f : Nat) (p : Int32) : Prop := xI g 65 1 = 0 ∧ xI g 65 2 = nI f ∧ xI g 65 3 = p
def Pz (c : Nat) : Prop := c = 65 ∨ PRd c
def Pzz (q k c : Nat) : Prop := Pz c ∨ Pk q k c
theorem rdP_0 {len q : Nat} {r : Bool × Nat × (Nat × Nat) × (Nat → Int32) × Nat} (f0 : rdF q r = 0) : rdP len q r = -1 := by
  unfold rdF at f0
  unfold rdP
  by_cases r1 : r.1 = true
  · rw [if_pos r1] at f0 ⊢
    by_cases z1 : r.2.2.1.1 = 0
    · rw [if_pos z1] at f0 ⊢
      by_cases z2 : q = 0 ∧ bN r.2.2.2.1 6 < r.2.2.2.2
      · rw [if_pos z2] at f0; exact absurd f0 (by decide)
      · rw [if_neg z2]
    · rw [if_neg z1] at f0; exact absurd f0 z1
  · rw [if_neg r1] at f0; exact absurd f0 (by decide)
theorem c_So_text {n : Nat} (hn : 9 ≤ n) {h : xh} (L : Lay h) {N : Nat} {xs : Nat → Int32} (S : St0 h N xs) {B : Nat → Nat} (T : TpC h B) {len : Nat} (l6 : len ≤ 600) (e1 : xI h 65 1 = nI len) {cc : Nat → Nat} (hc : ∀ q, q < 4 → xI h 67 q = nI (cc q) ∧ cc q ≤ 2) {p a : Int32} {Q : Int32 → xh → Prop} (h2 : (¬ ∃ q k, Vk cc p a q k) → ∀ g, Fr Pz h g → TC g 0 (-1) → Q (-2) g) (h1 : ∀ q k r, Vk cc p a q k → rdR B len q = r → rdF q r ≠ 0 → rdF q r ≤ 5 → ∀ g, Fr Pz h g → TC g (rdF q r) (rdP len q r) → Q (-1) g) (h0 : ∀ q k r, Vk cc p a q k → rdR B len q = r → rdF q r = 0 → ∀ g, Fg (Pzz q k) h g → Lay g → Nn g → TC g 0 (-1) → (∀ i, xI g 67 i = if i = q then nI (max (cc q) (k + 1)) else xI h 67 i) → IT q g (65 + iO q k) r.2.2.2.1 → Q (nI k) g) : xci (xMC n) 154 [.ref 64, .int p, .int a] h Q := by
  obtain ⟨n, rfl⟩ := xsucc (show 1 ≤ n by omega)
  have L1 : Lay (xsI h 65 1 0) := L
  refine w_So_text ⟨L.s 64, 65, L.r 64 0 65, L.s 65, ⟨by decide, L.s 65⟩, ?_⟩
  refine b_So_text_16 ⟨L1.s 64, 65, L1.r 64 0 65, ⟨by decide, L1.s 65⟩, ?_⟩
  have L2 : Lay (xsI (xsI h 65 1 0) 65 2 0) := L
  refine b_So_text_24 ⟨L2.s 64, 65, L2.r 64 0 65, ⟨by decide, L2.s 65⟩, ?_⟩
  have L3 : Lay (xsI (xsI (xsI h 65 1 0) 65 2 0) 65 3 (-1)) := L
  have G3 : Fr Pz h (xsI (xsI (xsI h 65 1 0) 65 2 0) 65 3 (-1)) := ((Fr.rf.wI (Or.inl rfl)).wI (Or.inl rfl)).wI (Or.inl rfl)
  have T3 : TC (xsI (xsI (xsI h 65 1 0) 65 2 0) 65 3 (-1)) 0 (-1) := by
    refine ⟨?_, ?_, ?_⟩
    · rw [upI_o _ _ _ _ (by decide), upI_o _ _ _ _ (by decide), upI_s]
    · rw [upI_o _ _ _ _ (by decide), upI_s]; rfl
    · rw [upI_s]
  rw [e1]
  generalize xsI (xsI (xsI h 65 1 0) 65 2 0) 65 3 (-1) = g at *
  have c3 : xI g 67 = xI h 67 := G3.i 67 (fun z => by unfold Pz PRd at z; omega)
  have B3 : TpC g B := fun i hi => by rw [G3.i 66 (fun z => by unfold Pz PRd at z; omega)]; exact T i hi
  have S3 : St0 g N xs := fun c hc => by rw [G3.i c (fun z => by unfold Pz PRd at z; omega), G3.1, G3.2.2.1]; exact S c hc
  refine b_So_text_32 ⟨L3.s 64, c_So_placeFor (by omega) L3 (cc := cc) (fun q hq => by rw [c3]; exact hc q hq) (fun nv => ⟨fun z => absurd rfl z, fun _ => h2 nv g G3 T3⟩) (fun q k V => ⟨fun _ => ?_, fun z => absurd z (fun y => ?_)⟩)⟩
  · have V' := V
    obtain ⟨hq, ep, hv⟩ := V'
    subst ep
    obtain ⟨eq, c2⟩ := hc q hq
    have k2 : k < 2 := by rcases hv with e | e <;> omega
    refine ⟨L3.s 64, 117, L3.r 64 2 117, L3.s 117, c_Reader_readText (by omega) L3 S3 B3 l6 hq (fun g2 r er G2 f9 f10 d le5 => ?_)⟩
    have L4 := G2.lay L3
    have GG : Fr Pz h g2 := G3.tr (G2.mo (fun c z => Or.inr z))
    refine ⟨L4.s 64, 65, L4.r 64 0 65, 117, L4.r 64 2 117, L4.s 117, ⟨by decide, L4.s 65⟩, ?_⟩
    rw [f9]
    have L5 : Lay (xsI g2 65 2 (nI (rdF q r))) := L4
    refine b_So_text_73 ⟨L5.s 64, 65, L5.r 64 0 65, 117, L5.r 64 2 117, L5.s 117, ⟨by decide, L5.s 65⟩, ?_⟩
    rw [xsI_ne _ _ _ (show 117 ≠ 65 by decide), f10]
    have L6 : Lay (xsI (xsI g2 65 2 (nI (rdF q r))) 65 3 (rdP len q r)) := L4
    have F6 : Fr (fun c => c = 65) g2 (xsI (xsI g2 65 2 (nI (rdF q r))) 65 3 (rdP len q r)) := ((Fr.rf (P := fun c => c = 65)).wI rfl).wI rfl
    have T6 : TC (xsI (xsI g2 65 2 (nI (rdF q r))) 65 3 (rdP len q r)) (rdF q r) (rdP len q r) := by
      refine ⟨?_, ?_, ?_⟩
      · rw [upI_o _ _ _ _ (by decide), upI_o _ _ _ _ (by decide), G2.i 65 (fun z => by unfold PRd at z; omega)]; exact T3.1
      · rw [upI_o _ _ _ _ (by decide), upI_s]
      · rw [upI_s]
    generalize xsI (xsI g2 65 2 (nI (rdF q r))) 65 3 (rdP len q r) = g3 at *
    have G6 : Fr Pz h g3 := GG.tr (F6.mo (fun c z => Or.inl z))
    have r9 : xI g3 117 9 = nI (rdF q r) := by rw [F6.i 117 (by decide)]; exact f9
    refine b_So_text_87 ⟨L6.s 64, 117, L6.r 64 2 117, L6.s 117, ?_⟩
    rw [r9, nI_e0 (show rdF q r < 2 ^ 31 by omega)]
    refine ⟨fun f0 => ?_, fun f0 => h1 q k r V er f0 le5 g3 G6 T6⟩
    obtain ⟨d1, d2, d3⟩ := d f0
    have I6 : IT q g3 (iD q) r.2.2.2.1 := IT.sm hq (DR.it L4 hq d1 d2 d3) (fun c z1 z2 => by
      have := iD_b hq
      exact F6.g.2.2 c (fun z => by omega))
    rw [f0, rdP_0 f0] at T6
    refine c_So_keepDraft (c := cc q) (by omega) L6 hq k2 c2 ?_ (fun g4 G4 L7 N7 c7 i7 => h0 q k r V er f0 g4 ?_ L7 N7 ?_ (fun i => ?_) (i7 _ I6))
    · rw [G6.i 67 (fun z => by unfold Pz PRd at z; omega)]; exact eq
    · exact (G6.g.mo (R := Pzz q k) (fun c z => Or.inl z)).tr (G4.mo (fun c z => Or.inr z))
    · have := (G4.2.2 65 (fun z => by have := iO_b hq k2; unfold Pk Bl Pc3 at z; omega)).2.2.1
      unfold TC
      rw [this]; exact T6
    · rw [c7 i, G6.i 67 (fun z => by unfold Pz PRd at z; omega)]
  · obtain ⟨hq, ep, hv⟩ := V
    have := (hc q hq).2
    have k2 : k < 2 := by rcases hv with e | e <;> omega
    have w : ¬ nI k < 0 := nI_pos (by omega)
    rw [y] at w
    exact w (by decide)
