/-! image and again agree -/
theorem Nn.ca {f : xh} {cc : Nat → Nat} (nn : Nn f) (z : Z3 f) (zz : xI f 163 0 = 0) : Ca f cc :=
  ⟨fun a ea => (by rw [nn.1] at ea; exact nomatch ea), fun a ea => (by rw [nn.2.1] at ea; exact nomatch ea), fun a ea => (by rw [nn.2.2] at ea; exact nomatch ea), z, zz⟩
theorem nI_lt3 {k : Nat} (hk : k < 3) : nI k < (3 : Int32) := nI_lt (b := 3) hk (by decide)
theorem c_Mo_in3 {n : Nat} (hn : 1 ≤ n) {h : xh} {p : Int32} {Q : Int32 → xh → Prop} (h1 : ∀ k, k < 3 → p = nI k → Q 1 h) (h0 : (∀ k, k < 3 → ¬ p = nI k) → Q 0 h) : xci (xMC n) 211 [.int p, .int 0, .int 2] h Q := by
  refine c_Mo_in hn (fun z => ?_) (fun z => h0 (fun k hk e => z ?_))
  · obtain ⟨q, hq, ep⟩ := xbw_of (m := 2) (by decide) z
    exact h1 q (by omega) ep
  · subst e
    exact ⟨nI_pos (by omega), nI_nlt (a := 2) (by omega) (by decide)⟩
theorem a_again {n : Nat} (hn : 11 ≤ n) {N : Nat} {xs : Nat → Int32} {cc : Nat → Nat} {h : xh} (I : Iv N xs cc h) {p : Int32} : xci (xMC n) 162 [.ref 64, .int p] h (fun r h1 => Md N xs h1 ∧ xci (xMC n) 355 [.ref 166, .int p] h1 (Bt N xs r)) := by
  obtain ⟨n, rfl⟩ := xsucc (show 1 ≤ n by omega)
  have L := I.lay
  -- the reference where it does nothing
  have no : (∀ k, k < 3 → p = nI k → xI h 192 k = 0) → xci (xMC (n + 1)) 355 [.ref 166, .int p] h (Bt N xs 0) := fun hk => by
    have F : Fr PM h (xsI h 166 0 0) := Fr.rf.wI mP
    have L1 := F.lay L
    refine w_Mo_again ⟨⟨by decide, L.s 166⟩, b_Mo_again_5 (c_Mo_in3 (by omega) (fun k k3 e => ⟨fun z => absurd z (by decide), fun _ => ⟨L1.s 166, 192, L1.r 166 56 192, ?_⟩⟩) (fun z => ⟨fun _ => Bt.mk rfl (I.m F), fun y => absurd rfl y⟩))⟩
    have e0 := hk k k3 e
    subst e
    refine ⟨L1.x 192 (n := 3) k3, ?_⟩
    rw [nI_clamp (by omega), xsI_ne _ _ _ (by decide), e0]
    exact ⟨fun y => absurd rfl y, fun _ => Bt.mk rfl (I.m F)⟩
  refine w_So_again ⟨fun z => ⟨I.md, no (fun k hk e => ?_)⟩, fun z => ⟨fun y => ?_, fun y => ⟨I.md, no (fun k hk e => ?_)⟩⟩⟩
  · subst e; exact absurd z (nI_pos (by omega))
  · obtain ⟨k, hk, ep⟩ := nI_of z
    subst ep
    have k3 : k < 3 := (nI_ltI (b := 3) hk (by decide)).mp y
    refine ⟨L.s 64, 116, L.r 64 1 116, L.x 116 (n := 3) k3, ?_⟩
    rw [nI_clamp hk]
    have im := I.2.2.2.1 k k3
    refine ⟨fun b eb => ?_, fun eb => ⟨I.md, no (fun j j3 e => ?_)⟩⟩
    · rcases im with ⟨i1, i2⟩ | ⟨b', c2, i1, i2, i3, i4, i5⟩
      · rw [i1] at eb; exact nomatch eb
      · have : b' = b := by rw [i1] at eb; exact Option.some.inj eb
        subst this
        refine ⟨65, L.r 64 0 65, L.s 65, c_Told_copyFrom (by omega) L.tsh i3 (by decide) (by omega) (by omega) (fun g G t1 t2 t3 t4 => ?_)⟩
        have Lg := G.lay L
        refine ⟨Lg.s 64, c_So_forgetAll (by omega) Lg (fun g2 ⟨F1, F2, F3, F4, F5⟩ => ?_)⟩
        have L2 := F5 Lg
        have H1 : ∀ c, ¬ ((65 ≤ c ∧ c ≤ 115) ∨ c = 146 ∨ c = 150 ∨ c = 159) → Sm h g2 c := fun c hc => (G.g.2.2 c (fun z => by unfold Bl at z; omega)).tr (F1.2.2 c (fun z => by unfold Pc3 at z; omega))
        refine ⟨⟨L2, I.st.sm (fun c hc => H1 c (by omega))⟩, ?_⟩
        have F : Fr PM g2 (xsI g2 166 0 0) := Fr.rf.wI mP
        have L3 := F.lay L2
        have H2 : ∀ c, ¬ ((65 ≤ c ∧ c ≤ 115) ∨ c = 146 ∨ c = 150 ∨ c = 159 ∨ c = 166) → Sm h (xsI g2 166 0 0) c := fun c hc => (H1 c (by omega)).tr (sI_sm _ _ _ _ (by omega))
        have G2 : ∀ c, ¬ (c = 146 ∨ c = 150 ∨ c = 159 ∨ c = 166) → Sm g (xsI g2 166 0 0) c := fun c hc => (F1.2.2 c (fun z => by unfold Pc3 at z; omega)).tr (sI_sm _ _ _ _ (by omega))
        have nn3 : Nn (xsI g2 166 0 0) := F4
        have n3 : xN (xsI g2 166 0 0) = xN h := F1.1.trans G.2.1
        refine w_Mo_again ⟨⟨by decide, L2.s 166⟩, b_Mo_again_5 ?_⟩
        generalize xsI g2 166 0 0 = g3 at *
        refine c_Mo_in3 (by omega) (fun j j3 e => ⟨fun z => absurd z (by decide), fun _ => ⟨L3.s 166, 192, L3.r 166 56 192, L3.x 192 (n := 3) k3, ?_⟩⟩) (fun z => absurd rfl (z k k3))
        rw [nI_clamp (by omega), (H2 192 (by omega)).2.2.1, i4, nI_1]
        refine ⟨fun _ => ?_, fun z => absurd z (by decide)⟩
        have nar : ∀ i, i < 600 → xnar 2 (xI g3 167 (600 * (k + 1) + i)) := fun i hi => by
          obtain ⟨⟨B, hB⟩, _⟩ := i5
          rw [(H2 167 (by omega)).2.2.1, (hB i hi).2.1]
          exact sB_n _
        refine c_Mo_copyAll (d := 0) (by omega) L3 (show k + 1 < 4 by omega) (by decide) (by omega) nar (fun f Ff R => ?_)
        have fs : ∀ c, ¬ (167 ≤ c ∧ c < 176) → Sm g3 f c := fun c hc => Ff.g.2.2 c (fun z => by unfold Pa at z; omega)
        refine Bt.mk rfl (I.ch (c2 := c2) (Ff.2.1.trans n3) (fun c hc => (H2 c (by omega)).tr (fs c (by omega))) (Ff.lay L3) (fun c h1 h2 m m1 m4 i hi => ?_) ?_ (Nn.ca ?_ ?_ ?_))
        · have : sW c * 1 ≤ sW c * m := Nat.mul_le_mul_left _ m1
          rw [(R c h1 h2).2 _ (by omega), (H2 c (by omega)).2.2.1]
        · have gf : ∀ c, 65 ≤ c → c ≤ 115 → Sm g f c := fun c h1 h2 => (G2 c (by omega)).tr (fs c (by omega))
          refine i5.cp (fun i hi => ?_) (fun i h1 h2 => ?_) (fun i hi => ?_) (fun q j D hq hj H => ?_) (fun c h1 h2 i hi => ?_)
          · rw [(gf (65 + 1) (by decide) (by decide)).2.2.1]; exact t1 i hi
          · rw [(gf 65 (by decide) (by decide)).2.2.1]; exact t2 i h1 h2
          · rw [(gf (65 + 2) (by decide) (by decide)).2.2.1]; exact t3 i hi
          · have ob := iO_b hq hj
            exact IT.sm hq (t4 q j D hq hj H) (fun c h1 h2 => gf c (by omega) (by omega))
          · rw [(R c h1 h2).1 i hi, (H2 c (by omega)).2.2.1]
        · unfold Nn
          rw [Ff.2.2.1]
          exact nn3
        · unfold Z3
          have e : ∀ c, 153 ≤ c → c ≤ 155 → xI f c = xI h c := fun c h1 h2 => ((H2 c (by omega)).tr (fs c (by omega))).2.2.1
          rw [e 153 (by decide) (by decide), e 154 (by decide) (by decide), e 155 (by decide) (by decide)]
          exact I.z
        · rw [((H2 163 (by omega)).tr (fs 163 (by omega))).2.2.1]
          exact I.zz
    · have := nI_v (by omega) (by omega) rfl e
      subst this
      rcases im with ⟨i1, i2⟩ | ⟨b', c2, i1, i2, i3, i4, i5⟩
      · exact i2
      · rw [i1] at eb; exact nomatch eb
  · subst e; exact absurd (nI_lt3 hk) y
