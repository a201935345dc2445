/-! text on both sides -/
def Vk (cc : Nat → Nat) (p a : Int32) (q k : Nat) : Prop := q < 4 ∧ p = nI q ∧ ((a = -1 ∧ cc q < 2 ∧ k = cc q) ∨ (a = nI k ∧ k < cc q))
def TB (h g : xh) (f : Nat) (p : Int32) : Prop := (xI g 168 0 = 0 ∧ xI g 169 0 = nI f ∧ xI g 170 0 = p) ∧ ∀ i, i ≠ 0 → xI g 168 i = xI h 168 i ∧ xI g 169 i = xI h 169 i ∧ xI g 170 i = xI h 170 i
def Px (c : Nat) : Prop := PM c ∨ c = 168 ∨ c = 169 ∨ c = 170
def Py (q c : Nat) : Prop := Px c ∨ c = 171 ∨ c = 172 + q
theorem stW_N : ∀ q, q < 4 → stW q ≤ 81 ∧ stW q * 1 + stW q ≤ ([560, 648, 408, 392] : List Nat).getD q 0 := by decide
theorem c_Mo_storeAll {n : Nat} (hn : 2 ≤ n) {h : xh} (L : Lay h) {D : Nat → Int32} (td : Td h D) {q k : Nat} (hq : q < 4) (hk : k < 2) {Q : xh → Prop} (hQ : ∀ g, Fr (fun c => c = 172 + q) h g → (∀ i, i < stW q → xI g (172 + q) (stW q * k + i) = D i) → (∀ i, (i < stW q * k ∨ stW q * k + stW q ≤ i) → xI g (172 + q) i = xI h (172 + q) i) → Q g) : xcv (xMC n) 242 [.ref 166, .int (nI q), .int (nI k)] h Q := by
  obtain ⟨n, rfl⟩ := xsucc (show 1 ≤ n by omega)
  have ce : ∀ k : Nat, k < 20 → (nI q = nI k) = (q = k) := fun k hk => propext (nI_eq (by omega) (by omega))
  refine w_Mo_storeAll ?_
  rw [show (nI q = (0 : Int32)) = (q = 0) from ce 0 (by decide), show (nI q = (1 : Int32)) = (q = 1) from ce 1 (by decide), show (nI q = (2 : Int32)) = (q = 2) from ce 2 (by decide)]
  refine ⟨fun e => ⟨L.s 166, 172, L.r 166 6 172, ?_⟩, fun n0 => ⟨fun e => ⟨L.s 166, 173, L.r 166 7 173, ?_⟩, fun n1 => ⟨fun e => ⟨L.s 166, 174, L.r 166 8 174, ?_⟩, fun n2 => ⟨L.s 166, 175, L.r 166 9 175, ?_⟩⟩⟩⟩
  · subst e
    exact c_Mo_store (w := 70) (N := 560) (by omega) L td (L.s 172) (by decide) (by decide) (by decide) (by decide) hk (by omega) (by decide) hQ
  · subst e
    exact c_Mo_store (w := 81) (N := 648) (by omega) L td (L.s 173) (by decide) (by decide) (by decide) (by decide) hk (by omega) (by decide) hQ
  · subst e
    exact c_Mo_store (w := 51) (N := 408) (by omega) L td (L.s 174) (by decide) (by decide) (by decide) (by decide) hk (by omega) (by decide) hQ
  · have e : q = 3 := by omega
    subst e
    exact c_Mo_store (w := 49) (N := 392) (by omega) L td (L.s 175) (by decide) (by decide) (by decide) (by decide) hk (by omega) (by decide) hQ
theorem c_Mo_text {n : Nat} (hn : 11 ≤ n) {h : xh} (L : Lay h) {B : Nat → Nat} (T : TpM h B) {len : Nat} (l6 : len ≤ 600) (e168 : xI h 168 0 = nI len) {cc : Nat → Nat} (hc : ∀ q, q < 4 → xI h 171 q = nI (cc q) ∧ cc q ≤ 2) {p a : Int32} {Q : Int32 → xh → Prop} (h2 : (¬ ∃ q k, Vk cc p a q k) → ∀ g, Fr Px h g → TB h g 0 (-1) → Q (-2) g) (h1 : ∀ q k r, Vk cc p a q k → rdR B len q = r → rdF q r ≠ 0 → ∀ g, Fr Px h g → TB h g (rdF q r) (rdP len q r) → Q (-1) g) (h0 : ∀ q k r, Vk cc p a q k → rdR B len q = r → rdF q r = 0 → ∀ g, Fr (Py q) h g → TB h g 0 (-1) → (∀ i, xI g 171 i = if i = q then nI (max (cc q) (k + 1)) else xI h 171 i) → (∀ i, i < stW q → xI g (172 + q) (stW q * k + i) = r.2.2.2.1 i) → (∀ i, (i < stW q * k ∨ stW q * k + stW q ≤ i) → xI g (172 + q) i = xI h (172 + q) i) → Q (nI k) g) : xci (xMC n) 212 [.ref 166, .int p, .int a] h Q := by
  obtain ⟨n, rfl⟩ := xsucc (show 1 ≤ n by omega)
  have z0 : (0 : Int32).toNatClampNeg = 0 := rfl
  have L1 : Lay (xsI h 166 0 0) := L
  refine w_Mo_text ⟨⟨by decide, L.s 166⟩, b_Mo_text_5 ⟨L1.s 166, 168, L1.r 166 2 168, L1.x 168 (i := 0) (n := 4) (by omega), ⟨by decide, L1.s 166⟩, ?_⟩⟩
  rw [z0, xsI_ne h 0 0 (show 168 ≠ 166 by decide), e168]
  have L2 : Lay (xsI (xsI h 166 0 0) 166 11 (nI len)) := L
  refine b_Mo_text_15 ⟨L2.s 166, 168, L2.r 166 2 168, ⟨by decide, L2.x 168 (i := 0) (n := 4) (by omega)⟩, ?_⟩
  rw [z0]
  have L3 : Lay (xsI (xsI (xsI h 166 0 0) 166 11 (nI len)) 168 0 0) := L
  refine b_Mo_text_22 ⟨L3.s 166, 169, L3.r 166 3 169, ⟨by decide, L3.x 169 (i := 0) (n := 4) (by omega)⟩, ?_⟩
  rw [z0]
  have L4 : Lay (xsI (xsI (xsI (xsI h 166 0 0) 166 11 (nI len)) 168 0 0) 169 0 0) := L
  refine b_Mo_text_29 ⟨L4.s 166, 170, L4.r 166 4 170, ⟨by decide, L4.x 170 (i := 0) (n := 4) (by omega)⟩, ?_⟩
  rw [z0]
  have L5 : Lay (xsI (xsI (xsI (xsI (xsI h 166 0 0) 166 11 (nI len)) 168 0 0) 169 0 0) 170 0 (-1)) := L
  have G5 : Fr Px h (xsI (xsI (xsI (xsI (xsI h 166 0 0) 166 11 (nI len)) 168 0 0) 169 0 0) 170 0 (-1)) := ((((Fr.rf.wI (Or.inl mP)).wI (Or.inl mP)).wI (Or.inr (Or.inl rfl))).wI (Or.inr (Or.inr (Or.inl rfl)))).wI (Or.inr (Or.inr (Or.inr rfl)))
  have B5 : TB h (xsI (xsI (xsI (xsI (xsI h 166 0 0) 166 11 (nI len)) 168 0 0) 169 0 0) 170 0 (-1)) 0 (-1) := by
    refine ⟨⟨?_, ?_, ?_⟩, fun i hi => ⟨?_, ?_, ?_⟩⟩
    · rw [xsI_ne _ _ _ (by decide), xsI_ne _ _ _ (by decide), upI_s]
    · rw [xsI_ne _ _ _ (by decide), upI_s]; rfl
    · rw [upI_s]
    · rw [xsI_ne _ _ _ (by decide), xsI_ne _ _ _ (by decide), upI_o _ _ _ _ hi, xsI_ne _ _ _ (by decide), xsI_ne _ _ _ (by decide)]
    · rw [xsI_ne _ _ _ (by decide), upI_o _ _ _ _ hi, xsI_ne _ _ _ (by decide), xsI_ne _ _ _ (by decide), xsI_ne _ _ _ (by decide)]
    · rw [upI_o _ _ _ _ hi, xsI_ne _ _ _ (by decide), xsI_ne _ _ _ (by decide), xsI_ne _ _ _ (by decide), xsI_ne _ _ _ (by decide)]
  have a11 : xI (xsI (xsI (xsI (xsI (xsI h 166 0 0) 166 11 (nI len)) 168 0 0) 169 0 0) 170 0 (-1)) 166 11 = nI len := by rw [xsI_ne _ _ _ (by decide), xsI_ne _ _ _ (by decide), xsI_ne _ _ _ (by decide), upI_s]
  generalize xsI (xsI (xsI (xsI (xsI h 166 0 0) 166 11 (nI len)) 168 0 0) 169 0 0) 170 0 (-1) = g at *
  have c5 : xI g 171 = xI h 171 := G5.i 171 (fun z => by unfold Px PM at z; omega)
  have T5 : TpM g B := fun i hi => by rw [G5.i 167 (fun z => by unfold Px PM at z; omega)]; exact T i hi
  have go : ∀ q k, Vk cc p a q k → K_Mo_text n Q 75 [some (.ref 166), some (.int p), some (.int a), none] [] g := fun q k V => by
    have V' := V
    obtain ⟨hq, ep, hv⟩ := V'
    subst ep
    obtain ⟨eq, c2⟩ := hc q hq
    have k2 : k < 2 := by rcases hv with e | e <;> omega
    refine b_Mo_text_75 ⟨L5.s 166, c_Mo_readText (by omega) L5 T5 l6 a11 hq (fun g2 r er G2 i2 e169 e170 td => ?_)⟩
    have L6 := G2.lay L5
    have GG : Fr Px h g2 := G5.tr (G2.mo (fun c z => by unfold Pw at z; unfold Px PM; omega))
    have c6 : xI g2 171 = xI h 171 := (G2.i 171 (fun z => by unfold Pw at z; omega)).trans c5
    have B6 : TB h g2 (rdF q r) (rdP len q r) := by
      refine ⟨⟨?_, e169, e170⟩, fun i hi => ⟨?_, ?_, ?_⟩⟩
      · rw [G2.i 168 (fun z => by unfold Pw at z; omega)]; exact B5.1.1
      · rw [G2.i 168 (fun z => by unfold Pw at z; omega)]; exact (B5.2 i hi).1
      · rw [(i2 i hi).1]; exact (B5.2 i hi).2.1
      · rw [(i2 i hi).2]; exact (B5.2 i hi).2.2
    by_cases f0 : rdF q r = 0
    · rw [if_pos f0]
      have td := td f0
      have eP : rdP len q r = -1 := by
        unfold rdF at f0
        unfold rdP
        by_cases r1 : r.1 = true
        · rw [if_pos r1] at f0 ⊢
          by_cases z1 : r.2.2.1.1 = 0
          · rw [if_pos z1] at f0 ⊢
            by_cases z2 : q = 0 ∧ bN r.2.2.2.1 6 < r.2.2.2.2
            · rw [if_pos z2] at f0; exact absurd f0 (by decide)
            · rw [if_neg z2]
          · rw [if_neg z1] at f0; exact absurd f0 z1
        · rw [if_neg r1] at f0; exact absurd f0 (by decide)
      rw [f0, eP] at B6
      have k100 : K_Mo_text n Q 100 [some (.ref 166), some (.int (nI q)), some (.int a), none] [.int (nI k)] g2 := by
        refine b_Mo_text_100 ⟨L6.s 166, 171, L6.r 166 5 171, L6.x 171 (n := 16) (by omega), ?_⟩
        rw [nI_clamp (by omega), c6, eq]
        have fin : ∀ w : Int32, nI (cc q) + w = nI (max (cc q) (k + 1)) → ∀ o2 : Option Value, K_Mo_text n Q 118 [some (.ref 166), some (.int (nI q)), o2, some (.int (nI k))] [.int w, .int (nI (cc q)), .int (nI q), .ref 171] g2 := fun w ew o2 => by
          refine b_Mo_text_118 ⟨⟨by decide, L6.x 171 (n := 16) (by omega)⟩, ?_⟩
          rw [nI_clamp (by omega), ew]
          have L7 : Lay (xsI g2 171 q (nI (max (cc q) (k + 1)))) := L6
          refine b_Mo_text_120 ⟨L7.s 166, c_Mo_storeAll (by omega) L7 (D := r.2.2.2.1) (fun i hi => by rw [xsI_ne _ _ _ (by decide)]; exact td i hi) hq k2 (fun g3 G3 s1 s2 => h0 q k r V er f0 g3 ?_ ?_ (fun i => ?_) s1 (fun i hi => ?_))⟩
          · exact ((GG.mo (R := Py q) (fun c z => Or.inl z)).wI (Or.inr (Or.inl rfl))).tr (G3.mo (R := Py q) (fun c z => Or.inr (Or.inr z)))
          · have k1 : ∀ c, c < 171 → xI g3 c = xI g2 c := fun c hc => by rw [G3.i c (show ¬ c = 172 + q by omega), xsI_ne _ _ _ (by omega)]
            unfold TB
            rw [k1 168 (by decide), k1 169 (by decide), k1 170 (by decide)]
            exact B6
          · rw [G3.i 171 (show ¬ 171 = 172 + q by omega), upI, c6]
          · rw [s2 i hi, xsI_ne _ _ _ (by omega), GG.i (172 + q) (fun z => by unfold Px PM at z; omega)]
        rcases hv with ⟨w1, w2, w3⟩ | ⟨w1, w2⟩
        · subst w3
          refine ⟨fun z => absurd w1 z, fun _ => fin 1 ?_ _⟩
          rw [nI_1, show max (cc q) (cc q + 1) = cc q + 1 by omega]
        · have : ¬ a = -1 := fun z => nI_m1 (k := k) (by omega) (w1.symm.trans z)
          refine ⟨fun _ => fin 0 ?_ _, fun z => absurd z this⟩
          rw [nI_z, show max (cc q) (k + 1) = cc q by omega]
      refine ⟨fun _ => ?_, fun z => absurd z (by decide)⟩
      rcases hv with ⟨w1, w2, w3⟩ | ⟨w1, w2⟩
      · refine ⟨fun z => absurd w1 z, fun _ => ⟨L6.s 166, 171, L6.r 166 5 171, L6.x 171 (n := 16) (by omega), ?_⟩⟩
        rw [nI_clamp (by omega), c6, eq, ← w3]
        exact k100
      · have : ¬ a = -1 := fun z => nI_m1 (k := k) (by omega) (w1.symm.trans z)
        refine ⟨fun _ => ?_, fun z => absurd z this⟩
        rw [w1] at k100 ⊢
        exact k100
    · rw [if_neg f0]
      exact ⟨fun z => absurd rfl z, fun _ => h1 q k r V er f0 g2 GG B6⟩
  refine b_Mo_text_36 (c_Mo_in (by omega) (fun z => ⟨fun y => absurd y (by decide), fun _ => ?_⟩) (fun z => ⟨fun _ => h2 (fun ⟨q, k, hq, ep, _⟩ => z ?_) g G5 B5, fun y => absurd rfl y⟩))
  · obtain ⟨q, hq, ep⟩ := xbw_of (m := 3) (by decide) z
    have hq : q < 4 := by omega
    subst ep
    obtain ⟨eq, c2⟩ := hc q hq
    have uq : ∀ {x y : Nat}, x < 4 → y < 4 → nI x = nI y → x = y := fun a b e => (nI_eq (by omega) (by omega)).mp e
    refine ⟨fun na => ⟨L5.s 166, c_Mo_is (by omega) L5 (by omega) (by omega) (by rw [c5]; exact eq) (fun k hk ek => ⟨fun _ => go q k ⟨hq, rfl, Or.inr ⟨ek, hk⟩⟩, fun y => absurd y (by decide)⟩) (fun nk => ⟨fun y => absurd rfl y, fun _ => h2 (fun ⟨q', k, hq', ep', hv⟩ => ?_) g G5 B5⟩)⟩, fun na => ⟨L5.s 166, 171, L5.r 166 5 171, L5.x 171 (n := 16) (by omega), ?_⟩⟩
    · have := uq hq hq' ep'
      subst this
      rcases hv with ⟨w1, _⟩ | ⟨w1, w2⟩
      · exact na w1
      · exact nk k w2 w1
    · rw [nI_clamp (by omega), c5, eq, show (nI (cc q) = (2 : Int32)) = (cc q = 2) from propext (nI_eq (b := 2) (by omega) (by decide))]
      refine ⟨fun n2 => go q (cc q) ⟨hq, rfl, Or.inl ⟨na, by omega, rfl⟩⟩, fun n2 => h2 (fun ⟨q', k, hq', ep', hv⟩ => ?_) g G5 B5⟩
      have := uq hq hq' ep'
      subst this
      rcases hv with ⟨w1, w2, _⟩ | ⟨w1, w2⟩
      · omega
      · exact nI_m1 (k := k) (by omega) (w1.symm.trans na)
  · subst ep
    exact ⟨nI_pos (by omega), nI_nlt (a := 3) (by omega) (by decide)⟩
