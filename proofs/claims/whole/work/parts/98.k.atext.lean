/-! text agrees -/
theorem Vk_u {cc : Nat → Nat} (hc : ∀ q, q < 4 → cc q ≤ 2) {p a : Int32} {q k q2 k2 : Nat} (V : Vk cc p a q k) (V2 : Vk cc p a q2 k2) : q2 = q ∧ k2 = k := by
  obtain ⟨hq, ep, hv⟩ := V
  obtain ⟨hq2, ep2, hv2⟩ := V2
  have := nI_v (by omega) (by omega) ep ep2
  subst this
  have c2 := hc _ hq
  refine ⟨rfl, ?_⟩
  rcases hv with ⟨v1, v2, v3⟩ | ⟨v1, v2⟩ <;> rcases hv2 with ⟨w1, w2, w3⟩ | ⟨w1, w2⟩
  · omega
  · exact absurd (w1.symm.trans v1) (nI_m1 (by omega))
  · exact absurd (v1.symm.trans w1) (nI_m1 (by omega))
  · exact nI_v (by omega) (by omega) v1 w1
theorem sW_2 {q : Nat} (hq : q < 4) : sW (172 + q) = 2 * stW q := by
  rcases q4 hq with z | z | z | z <;> subst z <;> rfl
theorem txt0 {N : Nat} {xs : Nat → Int32} {cc : Nat → Nat} {h g f : xh} (I : Iv N xs cc h) {fl : Nat} {pl : Int32} (G : Fr Pz h g) (T : TC g fl pl) (F : Fr Px g f) (U : TB g f fl pl) : Iv N xs cc f := by
  have A : Fr (fun c => Pz c ∨ Px c) h f := (G.mo (fun c z => Or.inl z)).tr (F.mo (fun c z => Or.inr z))
  have nP : ∀ c, ¬ (c = 65 ∨ (117 ≤ c ∧ c ≤ 140) ∨ c = 166 ∨ (168 ≤ c ∧ c ≤ 170) ∨ (176 ≤ c ∧ c ≤ 191)) → ¬ (Pz c ∨ Px c) := fun c h1 z => by unfold Pz PRd Px PM at z; omega
  have s : ∀ c, ¬ (c = 65 ∨ (117 ≤ c ∧ c ≤ 140) ∨ c = 166 ∨ (168 ≤ c ∧ c ≤ 170) ∨ (176 ≤ c ∧ c ≤ 191)) → Sm h f c := fun c hc => A.g.2.2 c (nP c hc)
  obtain ⟨⟨u1, u2, u3⟩, u4⟩ := U
  obtain ⟨t1, t2, t3⟩ := T
  obtain ⟨hB, ⟨l, l6, e1, e2⟩, e3, e4⟩ := I.2.1
  have g8 : ∀ c, 168 ≤ c → c ≤ 170 → xI g c = xI h c := fun c h1 h2 => G.i c (fun z => by unfold Pz PRd at z; omega)
  have f65 : xI f 65 = xI g 65 := F.i 65 (fun z => by unfold Px PM at z; omega)
  refine I.ch A.2.1 (fun c hc => s c (by omega)) (A.lay I.lay) (fun c h1 h2 m m1 m4 i hi => ?_) ⟨?_, ⟨0, by omega, ?_, ?_⟩, ⟨?_, ?_⟩, fun q hq => ?_⟩ (I.2.2.1.sm (fun c h1 h2 => s c (by omega)) (A.i 172 (nP 172 (by omega))) (A.i 175 (nP 175 (by omega))))
  · by_cases c1 : c = 168
    · subst c1
      rw [(u4 _ (by show 1 * m + i ≠ 0; omega)).1, g8 168 (by decide) (by decide)]
    · by_cases c2 : c = 169
      · subst c2
        rw [(u4 _ (by show 1 * m + i ≠ 0; omega)).2.1, g8 169 (by decide) (by decide)]
      · by_cases c3 : c = 170
        · subst c3
          rw [(u4 _ (by show 1 * m + i ≠ 0; omega)).2.2, g8 170 (by decide) (by decide)]
        · rw [A.i c (nP c (by omega))]
  · rw [A.i 66 (nP 66 (by omega)), A.i 167 (nP 167 (by omega))]
    exact hB
  · rw [f65, t1]; rfl
  · rw [u1]; rfl
  · rw [f65, t2, u2]
  · rw [f65, t3, u3]
  · obtain ⟨q1, q2, q3, q5⟩ := e4 q hq
    refine ⟨q1, by rw [A.i 67 (nP 67 (by omega))]; exact q2, by rw [A.i 171 (nP 171 (by omega))]; exact q3, fun k hk => ?_⟩
    have ob := iO_b hq (show k < 2 by omega)
    refine IT.cg hq (IT.sm hq (q5 k hk) (fun c h1 h2 => s c (by omega))) (fun i hi => ?_)
    unfold mQ
    rw [A.i (172 + q) (nP _ (by omega))]
theorem txt1 {N : Nat} {xs : Nat → Int32} {cc : Nat → Nat} {h g f : xh} (I : Iv N xs cc h) {q k : Nat} (hq : q < 4) (k2 : k < 2) (kc : k ≤ cc q) {D : Nat → Int32} (G : Fg (Pzz q k) h g) (Lg : Lay g) (nn : Nn g) (T : TC g 0 (-1)) (c67 : ∀ i, xI g 67 i = if i = q then nI (max (cc q) (k + 1)) else xI h 67 i) (it : IT q g (65 + iO q k) D) (F : Fr (Py q) g f) (U : TB g f 0 (-1)) (c71 : ∀ i, xI f 171 i = if i = q then nI (max (cc q) (k + 1)) else xI g 171 i) (st : ∀ i, i < stW q → xI f (172 + q) (stW q * k + i) = D i) (ot : ∀ i, (i < stW q * k ∨ stW q * k + stW q ≤ i) → xI f (172 + q) i = xI g (172 + q) i) : Iv N xs (fun i => if i = q then max (cc q) (k + 1) else cc i) f := by
  have ob0 := iO_b hq k2
  have A : Fg (fun c => Pzz q k c ∨ Py q c) h f := (G.mo (fun c z => Or.inl z)).tr (F.g.mo (fun c z => Or.inr z))
  have L := F.lay Lg
  have nF : ∀ c, ¬ (c = 166 ∨ (168 ≤ c ∧ c ≤ 171) ∨ c = 172 + q ∨ (176 ≤ c ∧ c ≤ 191)) → ¬ Py q c := fun c h1 z => by unfold Py Px PM at z; omega
  have nG : ∀ c, ¬ (c = 65 ∨ c = 67 ∨ (65 + iO q k ≤ c ∧ c ≤ 65 + iO q k + iL q) ∨ (117 ≤ c ∧ c ≤ 140) ∨ c = 146 ∨ c = 150 ∨ c = 159) → ¬ Pzz q k c := fun c h1 z => by unfold Pzz Pz PRd Pk Bl Pc3 at z; omega
  have nP : ∀ c, ¬ (c = 65 ∨ c = 67 ∨ (65 + iO q k ≤ c ∧ c ≤ 65 + iO q k + iL q) ∨ (117 ≤ c ∧ c ≤ 140) ∨ c = 146 ∨ c = 150 ∨ c = 159 ∨ c = 166 ∨ (168 ≤ c ∧ c ≤ 171) ∨ c = 172 + q ∨ (176 ≤ c ∧ c ≤ 191)) → ¬ (Pzz q k c ∨ Py q c) := fun c h1 z => by
    rcases z with z | z
    · exact nG c (by omega) z
    · exact nF c (by omega) z
  have s : ∀ c, ¬ (c = 65 ∨ c = 67 ∨ (65 + iO q k ≤ c ∧ c ≤ 65 + iO q k + iL q) ∨ (117 ≤ c ∧ c ≤ 140) ∨ c = 146 ∨ c = 150 ∨ c = 159 ∨ c = 166 ∨ (168 ≤ c ∧ c ≤ 171) ∨ c = 172 + q ∨ (176 ≤ c ∧ c ≤ 191)) → Sm h f c := fun c hc => A.2.2 c (nP c hc)
  have si : ∀ c, ¬ (c = 65 ∨ c = 67 ∨ (65 + iO q k ≤ c ∧ c ≤ 65 + iO q k + iL q) ∨ (117 ≤ c ∧ c ≤ 140) ∨ c = 146 ∨ c = 150 ∨ c = 159 ∨ c = 166 ∨ (168 ≤ c ∧ c ≤ 171) ∨ c = 172 + q ∨ (176 ≤ c ∧ c ≤ 191)) → xI f c = xI h c := fun c hc => (s c hc).2.2.1
  obtain ⟨⟨u1, u2, u3⟩, u4⟩ := U
  obtain ⟨t1, t2, t3⟩ := T
  obtain ⟨hB, ⟨l, l6, e1, e2⟩, e3, e4⟩ := I.2.1
  have gm : ∀ c, 160 ≤ c → ¬ c < 160 → xI g c = xI h c := fun c h1 _ => (G.2.2 c (nG c (by omega))).2.2.1
  have f65 : xI f 65 = xI g 65 := F.i 65 (nF 65 (by omega))
  have w2 := sW_2 hq
  have wk : stW q * k + stW q ≤ 2 * stW q := by
    have z : k = 0 ∨ k = 1 := by omega
    rcases z with z | z <;> subst z <;> omega
  refine I.ch A.1 (fun c hc => s c (by omega)) L (fun c h1 h2 m m1 m4 i hi => ?_) ⟨?_, ⟨0, by omega, ?_, ?_⟩, ⟨?_, ?_⟩, fun r hr => ?_⟩ ⟨fun a ea => ?_, fun a ea => ?_, fun a ea => ?_, ?_, ?_⟩
  · by_cases c1 : c = 168
    · subst c1
      rw [(u4 _ (by show 1 * m + i ≠ 0; omega)).1, gm 168 (by decide) (by decide)]
    · by_cases c2 : c = 169
      · subst c2
        rw [(u4 _ (by show 1 * m + i ≠ 0; omega)).2.1, gm 169 (by decide) (by decide)]
      · by_cases c3 : c = 170
        · subst c3
          rw [(u4 _ (by show 1 * m + i ≠ 0; omega)).2.2, gm 170 (by decide) (by decide)]
        · by_cases c4 : c = 171
          · subst c4
            rw [c71, if_neg (by show ¬ 4 * m + i = q; omega), gm 171 (by decide) (by decide)]
          · by_cases c5 : c = 172 + q
            · subst c5
              have : sW (172 + q) * 1 ≤ sW (172 + q) * m := Nat.mul_le_mul_left _ m1
              rw [ot _ (by omega), gm (172 + q) (by omega) (by omega)]
            · rw [si c (by omega)]
  · rw [si 66 (by omega), si 167 (by omega)]
    exact hB
  · rw [f65, t1]; rfl
  · rw [u1]; rfl
  · rw [f65, t2, u2]
  · rw [f65, t3, u3]
  · obtain ⟨q1, q2, q3, q5⟩ := e4 r hr
    have f67 : xI f 67 = xI g 67 := F.i 67 (nF 67 (by omega))
    rw [show 4 * 0 + r = r by omega] at q3 ⊢
    rw [f67, c67, c71]
    dsimp only
    by_cases e : r = q
    · subst e
      rw [if_pos rfl, if_pos rfl, if_pos rfl]
      refine ⟨by omega, rfl, rfl, fun j hj => ?_⟩
      by_cases ej : j = k
      · subst ej
        refine IT.cg hr (IT.sm hr it (fun c h1 h2 => F.g.2.2 c (nF c (by omega)))) (fun i hi => ?_)
        unfold mQ
        rw [Nat.mul_zero, Nat.zero_add]
        exact st i hi
      · have jc : j < cc r := by omega
        have ob := iO_b hr (show j < 2 by omega)
        have dj := iO_dj r hr k k2 r hr j (by omega) (by omega)
        refine IT.cg hr (IT.sm hr (q5 j jc) (fun c h1 h2 => s c (by omega))) (fun i hi => ?_)
        unfold mQ
        rw [Nat.mul_zero, Nat.zero_add, ot, gm (172 + r) (by omega) (by omega)]
        have z : (j = 0 ∧ k = 1) ∨ (j = 1 ∧ k = 0) := by omega
        rcases z with ⟨z1, z2⟩ | ⟨z1, z2⟩ <;> subst z1 <;> subst z2 <;> omega
    · rw [if_neg e, if_neg e, if_neg e]
      refine ⟨q1, q2, by rw [gm 171 (by decide) (by decide)]; exact q3, fun j hj => ?_⟩
      have ob := iO_b hr (show j < 2 by omega)
      have dj := iO_dj q hq k k2 r hr j (by omega) (by omega)
      refine IT.cg hr (IT.sm hr (q5 j hj) (fun c h1 h2 => s c (by omega))) (fun i hi => ?_)
      unfold mQ
      rw [si (172 + r) (by omega)]
  · rw [F.2.2.1, nn.1] at ea
    exact nomatch ea
  · rw [F.2.2.1, nn.2.1] at ea
    exact nomatch ea
  · rw [F.2.2.1, nn.2.2] at ea
    exact nomatch ea
  · unfold Z3
    rw [si 153 (by omega), si 154 (by omega), si 155 (by omega)]
    exact I.z
  · rw [si 163 (by omega)]
    exact I.zz
theorem a_text {n : Nat} (hn : 11 ≤ n) {N : Nat} {xs : Nat → Int32} {cc : Nat → Nat} {h : xh} (I : Iv N xs cc h) {p a : Int32} : xci (xMC n) 154 [.ref 64, .int p, .int a] h (fun r h1 => Md N xs h1 ∧ xci (xMC n) 212 [.ref 166, .int p, .int a] h1 (Bt N xs r)) := by
  obtain ⟨⟨B, hB⟩, ⟨l, l6, e1, e2⟩, e3, e4⟩ := I.2.1
  have c2 : ∀ q, q < 4 → cc q ≤ 2 := fun q hq => (e4 q hq).1
  have m7 : ∀ i, i < 600 → xI h 167 i = sB (B i) ∧ B i < 256 := fun i hi => by
    have := hB i hi
    rw [Nat.mul_zero, Nat.zero_add] at this
    exact this.2
  have m1 : ∀ q, q < 4 → xI h 171 q = nI (cc q) ∧ cc q ≤ 2 := fun q hq => by
    have := e4 q hq
    rw [Nat.mul_zero, Nat.zero_add] at this
    exact ⟨this.2.2.1, this.1⟩
  refine c_So_text (by omega) I.lay I.st (B := B) (fun i hi => ⟨(hB i hi).1, (hB i hi).2.2⟩) l6 e1 (cc := cc) (fun q hq => ⟨(e4 q hq).2.1, (e4 q hq).1⟩) (fun nv g G T => ?_) (fun q k r V er f0 f5 g G T => ?_) (fun q k r V er f0 g G Lg nn T c67 it => ?_)
  · have gi : ∀ c, 166 ≤ c → xI g c = xI h c := fun c hc => G.i c (fun z => by unfold Pz PRd at z; omega)
    refine ⟨⟨G.lay I.lay, I.st.sm (fun c hc => G.g.2.2 c (fun z => by unfold Pz PRd at z; omega))⟩, c_Mo_text hn (G.lay I.lay) (B := B) (fun i hi => by rw [gi 167 (by decide)]; exact m7 i hi) l6 (by rw [gi 168 (by decide)]; exact e2) (cc := cc) (fun q hq => by rw [gi 171 (by decide)]; exact m1 q hq) (fun _ f F U => Bt.mk rfl (txt0 I G T F U)) (fun q k r V => absurd ⟨q, k, V⟩ nv) (fun q k r V => absurd ⟨q, k, V⟩ nv)⟩
  · have gi : ∀ c, 166 ≤ c → xI g c = xI h c := fun c hc => G.i c (fun z => by unfold Pz PRd at z; omega)
    refine ⟨⟨G.lay I.lay, I.st.sm (fun c hc => G.g.2.2 c (fun z => by unfold Pz PRd at z; omega))⟩, c_Mo_text hn (G.lay I.lay) (B := B) (fun i hi => by rw [gi 167 (by decide)]; exact m7 i hi) l6 (by rw [gi 168 (by decide)]; exact e2) (cc := cc) (fun q hq => by rw [gi 171 (by decide)]; exact m1 q hq) (fun nv => absurd ⟨q, k, V⟩ nv) (fun q' k' r' V' er' f0' f F U => ?_) (fun q' k' r' V' er' f0' => ?_)⟩
    · obtain ⟨y1, y2⟩ := Vk_u c2 V V'
      subst y1; subst y2; subst er; subst er'
      exact Bt.mk rfl (txt0 I G T F U)
    · obtain ⟨y1, y2⟩ := Vk_u c2 V V'
      subst y1; subst y2; subst er; subst er'
      exact absurd f0' f0
  · have hq := V.1
    have k2 : k < 2 := by
      have := c2 q hq
      rcases V.2.2 with e | e <;> omega
    have kc : k ≤ cc q := by rcases V.2.2 with e | e <;> omega
    have ob := iO_b hq k2
    have gi : ∀ c, 166 ≤ c → xI g c = xI h c := fun c hc => (G.2.2 c (fun z => by unfold Pzz Pz PRd Pk Bl Pc3 at z; omega)).2.2.1
    refine ⟨⟨Lg, I.st.sm (fun c hc => G.2.2 c (fun z => by unfold Pzz Pz PRd Pk Bl Pc3 at z; omega))⟩, c_Mo_text hn Lg (B := B) (fun i hi => by rw [gi 167 (by decide)]; exact m7 i hi) l6 (by rw [gi 168 (by decide)]; exact e2) (cc := cc) (fun q hq => by rw [gi 171 (by decide)]; exact m1 q hq) (fun nv => absurd ⟨q, k, V⟩ nv) (fun q' k' r' V' er' f0' => ?_) (fun q' k' r' V' er' f0' f F U c71 st ot => ?_)⟩
    · obtain ⟨y1, y2⟩ := Vk_u c2 V V'
      subst y1; subst y2; subst er; subst er'
      exact absurd f0 f0'
    · obtain ⟨y1, y2⟩ := Vk_u c2 V V'
      subst y1; subst y2; subst er; subst er'
      exact Bt.mk rfl (txt1 I hq k2 kc G Lg nn T c67 it F U c71 st ot)
