/-! rows in the reference, all that is told in the class -/
theorem c_Mo_copyRow {n : Nat} (hn : 1 ≤ n) {h : xh} {a w s d N : Nat} (hs : xS h a = (20, N)) (ha : 64 ≤ a) (sd : s ≠ d) (s1 : w * s + w ≤ N) (d1 : w * d + w ≤ N) (hN2 : N < 2 ^ 31) {Q : xh → Prop} (hQ : ∀ g, Fr (fun c => c = a) h g → (∀ i, i < w → xI g a (w * d + i) = xI h a (w * s + i)) → (∀ i, (i < w * d ∨ w * d + w ≤ i) → xI g a i = xI h a i) → Q g) : xcv (xMC n) 354 [.ref a, .int (nI w), .int (nI s), .int (nI d)] h Q := by
  obtain ⟨n, rfl⟩ := xsucc hn
  have dj : w * s + w ≤ w * d ∨ w * d + w ≤ w * s := by
    rcases Nat.lt_or_ge s d with e | e
    · left; have := Nat.mul_le_mul_left w (show s + 1 ≤ d from e); rw [Nat.mul_add, Nat.mul_one] at this; exact this
    · right; have := Nat.mul_le_mul_left w (show d + 1 ≤ s by omega); rw [Nat.mul_add, Nat.mul_one] at this; exact this
  have key : ∀ m i, i + m = w → ∀ g, Fr (fun c => c = a) h g → (∀ j, j < i → xI g a (w * d + j) = xI h a (w * s + j)) → (∀ j, (j < w * d ∨ w * d + w ≤ j) → xI g a j = xI h a j) → K_Mo_copyRow n Q 3 [some (.ref a), some (.int (nI w)), some (.int (nI s)), some (.int (nI d)), some (.int (nI i))] [] g := by
    intro m
    induction m with
    | zero =>
      intro i hi g G c1 c2
      have : i = w := by omega
      subst this
      exact b_Mo_copyRow_3 ⟨fun _ => hQ g G c1 c2, fun z => absurd (Int32.le_refl _) z⟩
    | succ m ih =>
      intro i hi g G c1 c2
      refine b_Mo_copyRow_3 ⟨fun z => absurd z (nI_ge (by omega) (by omega)), fun _ => ?_⟩
      rw [pk_mul, nI_add, pk_mul, nI_add, nI_clamp (by omega), nI_clamp (by omega)]
      refine ⟨xarN (by rw [G.1]; exact hs) (by omega) hN2, ⟨ha, xarN (by rw [G.1]; exact hs) (by omega) hN2⟩, b_Mo_copyRow_25 ?_⟩
      rw [nI_1, c2 (w * s + i) (by omega)]
      refine ih (i + 1) (by omega) _ (G.wI rfl) (fun j hj => ?_) (fun j hj => ?_)
      · rw [upI]
        by_cases e : w * d + j = w * d + i
        · rw [if_pos e, show j = i by omega]
        · rw [if_neg e]; exact c1 j (by omega)
      · rw [upI_o _ _ _ _ (by omega)]; exact c2 j hj
  exact w_Mo_copyRow (key w 0 (by omega) h Fr.rf (fun j hj => absurd hj (Nat.not_lt_zero _)) (fun _ _ => rfl))
def sW (c : Nat) : Nat := ([600, 1, 1, 1, 4, 140, 162, 102, 98] : List Nat).getD (c - 167) 0
/-- slot d of cell c has what slot s had; nothing else of it changed -/
def Rw (h g : xh) (s d c : Nat) : Prop := (∀ i, i < sW c → xI g c (sW c * d + i) = xI h c (sW c * s + i)) ∧ ∀ i, (i < sW c * d ∨ sW c * d + sW c ≤ i) → xI g c i = xI h c i
def Pa (m c : Nat) : Prop := 167 ≤ c ∧ c < m
theorem c_Mo_copyAll {n : Nat} (hn : 2 ≤ n) {h : xh} (L : Lay h) {s d : Nat} (h4 : s < 4) (d4 : d < 4) (sd : s ≠ d) (nar : ∀ i, i < 600 → xnar 2 (xI h 167 (600 * s + i))) {Q : xh → Prop} (hQ : ∀ g, Fr (Pa 176) h g → (∀ c, 167 ≤ c → c < 176 → Rw h g s d c) → Q g) : xcv (xMC n) 353 [.ref 166, .int (nI s), .int (nI d)] h Q := by
  obtain ⟨n, rfl⟩ := xsucc (show 1 ≤ n by omega)
  have row : ∀ {g : xh} (m : Nat), 168 ≤ m → m < 176 → xS h m = (20, sW m * 4) → sW m ≤ 600 → Fr (Pa m) h g → (∀ c, 167 ≤ c → c < m → Rw h g s d c) → ∀ {Q : xh → Prop}, (∀ g', Fr (Pa (m + 1)) h g' → (∀ c, 167 ≤ c → c < m + 1 → Rw h g' s d c) → Q g') → xcv (xMC n) 354 [.ref m, .int (nI (sW m)), .int (nI s), .int (nI d)] g Q := fun {g} m m1 m2 hs hw G R {Q} hQ => by
    have a1 : sW m * s ≤ sW m * 3 := Nat.mul_le_mul_left _ (by omega)
    have a2 : sW m * d ≤ sW m * 3 := Nat.mul_le_mul_left _ (by omega)
    refine c_Mo_copyRow (N := sW m * 4) (by omega) (by rw [G.1]; exact hs) (by omega) sd (by omega) (by omega) (by omega) (fun g' G' c1 c2 => hQ g' ?_ (fun c y1 y2 => ?_))
    · exact (G.mo (R := Pa (m + 1)) (fun c z => ⟨z.1, Nat.lt_succ_of_lt z.2⟩)).tr (G'.mo (fun c (z : c = m) => by unfold Pa; omega))
    · have em : xI g m = xI h m := G.i m (fun z => by unfold Pa at z; omega)
      by_cases e : c = m
      · subst e
        rw [em] at c1 c2
        exact ⟨c1, c2⟩
      · have ec : xI g' c = xI g c := G'.i c e
        unfold Rw
        rw [ec]
        exact R c y1 (by omega)
  have key : ∀ m i, i + m = 600 → ∀ g, Fr (Pa 168) h g → (∀ j, j < i → xI g 167 (600 * d + j) = xI h 167 (600 * s + j)) → (∀ j, (j < 600 * d ∨ 600 * d + 600 ≤ j) → xI g 167 j = xI h 167 j) → K_Mo_copyAll n Q 2 [some (.ref 166), some (.int (nI s)), some (.int (nI d)), some (.int (nI i))] [] g := by
    intro m
    induction m with
    | zero =>
      intro i hi g G c1 c2
      have : i = 600 := by omega
      subst this
      have R0 : ∀ c, 167 ≤ c → c < 168 → Rw h g s d c := fun c y1 y2 => by
        have : c = 167 := by omega
        subst this
        exact ⟨c1, c2⟩
      have L0 := G.lay L
      refine b_Mo_copyAll_2 ⟨fun _ => ⟨L0.s 166, 168, L0.r 166 2 168, row 168 (by decide) (by decide) (L.s 168) (by decide) G R0 (fun g1 G1 R1 => ?_)⟩, fun z => absurd (Int32.le_refl _) z⟩
      have L1 := G1.lay L
      refine ⟨L1.s 166, 169, L1.r 166 3 169, row 169 (by decide) (by decide) (L.s 169) (by decide) G1 R1 (fun g1 G1 R1 => ?_)⟩
      have L1 := G1.lay L
      refine ⟨L1.s 166, 170, L1.r 166 4 170, row 170 (by decide) (by decide) (L.s 170) (by decide) G1 R1 (fun g1 G1 R1 => ?_)⟩
      have L1 := G1.lay L
      refine ⟨L1.s 166, 171, L1.r 166 5 171, row 171 (by decide) (by decide) (L.s 171) (by decide) G1 R1 (fun g1 G1 R1 => ?_)⟩
      have L1 := G1.lay L
      refine ⟨L1.s 166, 172, L1.r 166 6 172, row 172 (by decide) (by decide) (L.s 172) (by decide) G1 R1 (fun g1 G1 R1 => ?_)⟩
      have L1 := G1.lay L
      refine ⟨L1.s 166, 173, L1.r 166 7 173, row 173 (by decide) (by decide) (L.s 173) (by decide) G1 R1 (fun g1 G1 R1 => ?_)⟩
      have L1 := G1.lay L
      refine ⟨L1.s 166, 174, L1.r 166 8 174, row 174 (by decide) (by decide) (L.s 174) (by decide) G1 R1 (fun g1 G1 R1 => ?_)⟩
      have L1 := G1.lay L
      exact ⟨L1.s 166, 175, L1.r 166 9 175, row 175 (by decide) (by decide) (L.s 175) (by decide) G1 R1 hQ⟩
    | succ m ih =>
      intro i hi g G c1 c2
      have L0 := G.lay L
      refine b_Mo_copyAll_2 ⟨fun z => absurd z (nI_ge (b := 600) (by omega) (by omega)), fun _ => ⟨L0.s 166, 167, L0.r 166 1 167, ?_⟩⟩
      rw [show (600 : Int32) = nI 600 from rfl, pk_mul, nI_add, pk_mul, nI_add, nI_clamp (by omega), nI_clamp (by omega), c2 (600 * s + i) (by omega)]
      refine ⟨L0.x 167 (n := 2400) (by omega), ⟨by decide, L0.x 167 (n := 2400) (by omega), nar i (by omega)⟩, b_Mo_copyAll_33 ?_⟩
      rw [nI_1]
      refine ih (i + 1) (by omega) _ (G.wI ⟨by decide, by decide⟩) (fun j hj => ?_) (fun j hj => ?_)
      · rw [upI]
        by_cases e : 600 * d + j = 600 * d + i
        · rw [if_pos e, show j = i by omega]
        · rw [if_neg e]; exact c1 j (by omega)
      · rw [upI_o _ _ _ _ (by omega)]; exact c2 j hj
  exact w_Mo_copyAll (key 600 0 (by omega) h Fr.rf (fun j hj => absurd hj (Nat.not_lt_zero _)) (fun _ _ => rfl))
theorem TSh.fr {P : Nat → Prop} {h g : xh} {b : Nat} (H : TSh h b) (F : Fr P h g) : TSh g b := by
  unfold TSh IS TnS EvS BoS ShS at *
  rw [F.1, F.2.2.1]
  exact H
theorem iO_dj : ∀ q, q < 4 → ∀ k, k < 2 → ∀ r, r < 4 → ∀ j, j < 2 → 4 * k + q ≠ 4 * j + r → iO q k + iL q < iO r j ∨ iO r j + iL r < iO q k := by
  intro q hq k hk r hr j hj ne
  have k2 : k = 0 ∨ k = 1 := by omega
  have j2 : j = 0 ∨ j = 1 := by omega
  revert ne
  rcases q4 hq with z | z | z | z <;> rcases k2 with y | y <;> subst z <;> subst y <;> rcases q4 hr with z | z | z | z <;> rcases j2 with y | y <;> subst z <;> subst y <;> decide
theorem c_Told_copyFrom {n : Nat} (hn : 2 ≤ n) {h : xh} {a p : Nat} (Sa : TSh h a) (Sp : TSh h p) (ha : 64 ≤ a) (hp : 64 ≤ p) (dj : a + 50 < p ∨ p + 50 < a) {Q : xh → Prop} (hQ : ∀ g, Fr (Bl a 50) h g → (∀ i, i < 600 → xI g (a + 1) i = xI h (p + 1) i) → (∀ i, 1 ≤ i → i < 4 → xI g a i = xI h p i) → (∀ i, i < 4 → xI g (a + 2) i = xI h (p + 2) i) → (∀ q k D, q < 4 → k < 2 → IT q h (p + iO q k) D → IT q g (a + iO q k) D) → Q g) : xcv (xMC n) 146 [.ref a, .ref p] h Q := by
  obtain ⟨n, rfl⟩ := xsucc (show 1 ≤ n by omega)
  have bk : ∀ m, m ≤ 50 → Bl a 50 (a + m) := fun m hm => ⟨by omega, by omega⟩
  have b0 : Bl a 50 a := bk 0 (by decide)
  have pin : ∀ {g}, Fr (Bl a 50) h g → ∀ c, p ≤ c → c ≤ p + 50 → xI g c = xI h c := fun F c h1 h2 => F.i c (fun z => by unfold Bl at z; omega)
  refine w_Told_copyFrom ⟨Sp.1.1, p + 1, Sp.2.1.1, Sa.1.1, a + 1, Sa.2.1.1, ⟨⟨by omega, by omega⟩, by rw [Sp.1.2.1, Sa.1.2.1]; exact ⟨rfl, rfl⟩, by decide, by rw [Sp.1.2.1, Sa.1.2.1]; exact ⟨by decide, by decide⟩⟩, ?_⟩
  have F1 : Fr (Bl a 50) h (xcp h (p + 1) 0 (a + 1) 0 600) := Fr.rf.cp (bk 1 (by decide))
  have t1 : ∀ i, i < 600 → xI (xcp h (p + 1) 0 (a + 1) 0 600) (a + 1) i = xI h (p + 1) i := fun i hi => by rw [cp_i _ _ _ _ _ _ hi, if_pos rfl]
  show K_Told_copyFrom n Q 16 [some (.ref a), some (.ref p), none] [] (xcp h (p + 1) 0 (a + 1) 0 600)
  generalize xcp h (p + 1) 0 (a + 1) 0 600 = g1 at F1 t1 ⊢
  refine b_Told_copyFrom_16 ⟨(Sp.fr F1).1.1, ⟨ha, (Sa.fr F1).1.1⟩, ?_⟩
  rw [pin F1 p (by omega) (by omega)]
  have F2 : Fr (Bl a 50) h (xsI g1 a 1 (xI h p 1)) := F1.wI b0
  refine b_Told_copyFrom_24 ⟨(Sp.fr F2).1.1, ⟨ha, (Sa.fr F2).1.1⟩, ?_⟩
  rw [pin F2 p (by omega) (by omega)]
  have F3 : Fr (Bl a 50) h (xsI (xsI g1 a 1 (xI h p 1)) a 2 (xI h p 2)) := F2.wI b0
  refine b_Told_copyFrom_32 ⟨(Sp.fr F3).1.1, ⟨ha, (Sa.fr F3).1.1⟩, ?_⟩
  rw [pin F3 p (by omega) (by omega)]
  have F4 : Fr (Bl a 50) h (xsI (xsI (xsI g1 a 1 (xI h p 1)) a 2 (xI h p 2)) a 3 (xI h p 3)) := F3.wI b0
  have t4 : ∀ i, i < 600 → xI (xsI (xsI (xsI g1 a 1 (xI h p 1)) a 2 (xI h p 2)) a 3 (xI h p 3)) (a + 1) i = xI h (p + 1) i := fun i hi => by
    rw [xsI_ne _ _ _ (by omega), xsI_ne _ _ _ (by omega), xsI_ne _ _ _ (by omega)]; exact t1 i hi
  have u4 : ∀ i, 1 ≤ i → i < 4 → xI (xsI (xsI (xsI g1 a 1 (xI h p 1)) a 2 (xI h p 2)) a 3 (xI h p 3)) a i = xI h p i := fun i h1 h2 => by
    rw [upI, upI, upI]
    have : i = 1 ∨ i = 2 ∨ i = 3 := by omega
    rcases this with e | e | e <;> subst e <;> rfl
  generalize xsI (xsI (xsI g1 a 1 (xI h p 1)) a 2 (xI h p 2)) a 3 (xI h p 3) = g4 at F4 t4 u4 ⊢
  have Sa4 := Sa.fr F4
  have Sp4 := Sp.fr F4
  refine b_Told_copyFrom_40 ⟨Sp4.1.1, p + 2, Sp4.2.1.2.1, Sa4.1.1, a + 2, Sa4.2.1.2.1, ⟨⟨by omega, by omega⟩, by rw [Sp4.1.2.2, Sa4.1.2.2]; exact ⟨rfl, rfl⟩, by decide, by rw [Sp4.1.2.2, Sa4.1.2.2]; exact ⟨by decide, by decide⟩⟩, b_Told_copyFrom_54 ?_⟩
  have F5 : Fr (Bl a 50) h (xcp g4 (p + 2) 0 (a + 2) 0 4) := F4.cp (bk 2 (by decide))
  have t5 : ∀ i, i < 600 → xI (xcp g4 (p + 2) 0 (a + 2) 0 4) (a + 1) i = xI h (p + 1) i := fun i hi => by rw [xcp_ne _ _ _ _ _ (by omega)]; exact t4 i hi
  have u5 : ∀ i, 1 ≤ i → i < 4 → xI (xcp g4 (p + 2) 0 (a + 2) 0 4) a i = xI h p i := fun i h1 h2 => by rw [xcp_ne _ _ _ _ _ (by omega)]; exact u4 i h1 h2
  have v5 : ∀ i, i < 4 → xI (xcp g4 (p + 2) 0 (a + 2) 0 4) (a + 2) i = xI h (p + 2) i := fun i hi => by rw [cp_i _ _ _ _ _ _ hi, if_pos rfl, pin F4 (p + 2) (by omega) (by omega)]
  show K_Told_copyFrom n Q 56 [some (.ref a), some (.ref p), some (.int 0)] [] (xcp g4 (p + 2) 0 (a + 2) 0 4)
  generalize xcp g4 (p + 2) 0 (a + 2) 0 4 = g5 at F5 t5 u5 v5 ⊢
  -- one item
  let A : xh → Nat → Prop := fun g m => Fr (Bl a 50) h g ∧ (∀ i, i < 600 → xI g (a + 1) i = xI h (p + 1) i) ∧ (∀ i, 1 ≤ i → i < 4 → xI g a i = xI h p i) ∧ (∀ i, i < 4 → xI g (a + 2) i = xI h (p + 2) i) ∧ ∀ q k D, q < 4 → k < 2 → 4 * k + q < m → IT q h (p + iO q k) D → IT q g (a + iO q k) D
  have it : ∀ {g : xh} (q k : Nat), q < 4 → k < 2 → A g (4 * k + q) → ∀ {Q : xh → Prop}, (∀ g', A g' (4 * k + q + 1) → Q g') → xcv (xMC n) (iM q) [.ref (a + iO q k), .ref (p + iO q k)] g Q := fun {g} q k hq hk ⟨G, e1, e2, e3, e4⟩ {Q} hQ => by
    have b := iO_b hq hk
    refine c_item_copy (by omega) hq (((Sa.fr G).2.2 q hq).2 k hk).2 (((Sp.fr G).2.2 q hq).2 k hk).2 (by omega) (by omega) (by omega) (fun g' G' e => hQ g' ⟨G.tr (G'.mo (fun c z => by unfold Bl at z ⊢; omega)), fun i hi => ?_, fun i h1 h2 => ?_, fun i hi => ?_, fun r j D hr hj hm H => ?_⟩)
    · rw [G'.i (a + 1) (fun z => by unfold Bl at z; omega)]; exact e1 i hi
    · rw [G'.i a (fun z => by unfold Bl at z; omega)]; exact e2 i h1 h2
    · rw [G'.i (a + 2) (fun z => by unfold Bl at z; omega)]; exact e3 i hi
    · by_cases y : 4 * j + r = 4 * k + q
      · have y1 : r = q := by omega
        have y2 : j = k := by omega
        subst y1; subst y2
        refine e D (IT.sm hr H (fun c c1 c2 => ?_))
        exact G.g.2.2 c (fun z => by unfold Bl at z; omega)
      · have b2 := iO_b hr hj
        refine IT.sm hr (e4 r j D hr hj (by omega) H) (fun c c1 c2 => G'.g.2.2 c (fun z => ?_))
        have := iO_dj q hq k hk r hr j hj (fun z => y z.symm)
        unfold Bl at z
        omega
  have A5 : A g5 0 := ⟨F5, t5, u5, v5, fun q k D hq hk z => absurd z (Nat.not_lt_zero _)⟩
  have lp : ∀ (k : Nat) (g : xh), k < 2 → A g (4 * k) → (∀ g', A g' (4 * (k + 1)) → K_Told_copyFrom n Q 56 [some (.ref a), some (.ref p), some (.int (nI (k + 1)))] [] g') → K_Told_copyFrom n Q 56 [some (.ref a), some (.ref p), some (.int (nI k))] [] g := fun k g hk Ag nx => by
    refine b_Told_copyFrom_56 ⟨fun z => absurd z (nI_ge (b := 2) hk (by omega)), fun _ => ?_⟩
    rw [nI_clamp (show k < 2 ^ 31 by omega), nI_1]
    have Sg := Sa.fr Ag.1
    have Tg := Sp.fr Ag.1
    refine ⟨Sg.1.1, a + iA 0, Sg.2.1.2.2 0 (by decide), xarN (Sg.2.2 0 (by decide)).1 hk, a + iO 0 k, ((Sg.2.2 0 (by decide)).2 k hk).1, Tg.1.1, p + iA 0, Tg.2.1.2.2 0 (by decide), xarN (Tg.2.2 0 (by decide)).1 hk, p + iO 0 k, ((Tg.2.2 0 (by decide)).2 k hk).1, ((Sg.2.2 0 (by decide)).2 k hk).2.1, it 0 k (by decide) hk Ag (fun g Ag => ?_)⟩
    have Sg := Sa.fr Ag.1
    have Tg := Sp.fr Ag.1
    refine ⟨Sg.1.1, a + iA 1, Sg.2.1.2.2 1 (by decide), xarN (Sg.2.2 1 (by decide)).1 hk, a + iO 1 k, ((Sg.2.2 1 (by decide)).2 k hk).1, Tg.1.1, p + iA 1, Tg.2.1.2.2 1 (by decide), xarN (Tg.2.2 1 (by decide)).1 hk, p + iO 1 k, ((Tg.2.2 1 (by decide)).2 k hk).1, ((Sg.2.2 1 (by decide)).2 k hk).2.1, it 1 k (by decide) hk Ag (fun g Ag => ?_)⟩
    have Sg := Sa.fr Ag.1
    have Tg := Sp.fr Ag.1
    refine ⟨Sg.1.1, a + iA 2, Sg.2.1.2.2 2 (by decide), xarN (Sg.2.2 2 (by decide)).1 hk, a + iO 2 k, ((Sg.2.2 2 (by decide)).2 k hk).1, Tg.1.1, p + iA 2, Tg.2.1.2.2 2 (by decide), xarN (Tg.2.2 2 (by decide)).1 hk, p + iO 2 k, ((Tg.2.2 2 (by decide)).2 k hk).1, ((Sg.2.2 2 (by decide)).2 k hk).2.1, it 2 k (by decide) hk Ag (fun g Ag => ?_)⟩
    have Sg := Sa.fr Ag.1
    have Tg := Sp.fr Ag.1
    exact ⟨Sg.1.1, a + iA 3, Sg.2.1.2.2 3 (by decide), xarN (Sg.2.2 3 (by decide)).1 hk, a + iO 3 k, ((Sg.2.2 3 (by decide)).2 k hk).1, Tg.1.1, p + iA 3, Tg.2.1.2.2 3 (by decide), xarN (Tg.2.2 3 (by decide)).1 hk, p + iO 3 k, ((Tg.2.2 3 (by decide)).2 k hk).1, ((Sg.2.2 3 (by decide)).2 k hk).2.1, it 3 k (by decide) hk Ag nx⟩
  refine lp 0 g5 (by decide) A5 (fun g6 A6 => lp 1 g6 (by decide) A6 (fun g7 A7 => b_Told_copyFrom_56 ⟨fun _ => hQ g7 A7.1 A7.2.1 A7.2.2.1 A7.2.2.2.1 (fun q k D hq hk H => A7.2.2.2.2 q k D hq hk (by omega) H), fun z => absurd (Int32.le_refl _) z⟩))
