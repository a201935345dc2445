/-! image agrees -/
theorem Ca.im {h f : xh} {cc : Nat → Nat} (C : Ca h cc) (L : Lay h) (W : TwC h (cc 0)) (V : ShC h (cc 3)) (F : ∀ c, 146 ≤ c → c ≤ 164 → Sm h f c) (e2 : ∀ k, k < 2 → ∀ i, i < 70 → mT f k i = mT h k i) (e5 : ∀ k, k < 2 → ∀ i, i < 49 → mS f k i = mS h k i) : Ca f cc := by
  obtain ⟨c1, c2, c3, c4, c5⟩ := C
  have z3 : Z3 f := c4.sm (fun c z => F c (by unfold P15 at z; omega) (by unfold P15 at z; omega))
  refine ⟨fun a ea => ?_, fun a ea => ?_, fun a ea => ?_, z3, by rw [(F 163 (by decide) (by decide)).2.2.1]; exact c5⟩
  · rw [(F 146 (by decide) (by decide)).2.1] at ea
    obtain ⟨k, hk, e, b⟩ := c1 a ea
    have := W.2.1
    refine ⟨k, hk, e, Bo.cg L (W.2.2 k hk) (by omega) (by omega) (e2 k (by omega)) ?_⟩
    unfold Bo BoQ at b ⊢
    rw [(F 148 (by decide) (by decide)).2.2.2, (F 147 (by decide) (by decide)).2.2.2]
    exact b
  · rw [(F 150 (by decide) (by decide)).2.1] at ea
    obtain ⟨k, hk, e, b⟩ := c2 a ea
    have := W.2.1
    refine ⟨k, hk, e, Rr.cg L c4 (W.2.2 k hk) (by omega) (by omega) (e2 k (by omega)) ?_⟩
    have i : ∀ c, 150 ≤ c → c ≤ 158 → xI f c = xI h c := fun c h1 h2 => (F c (by omega) (by omega)).2.2.1
    unfold Rr Ap Pq Pp Tq at b ⊢
    rw [i 150 (by decide) (by decide), i 151 (by decide) (by decide), i 152 (by decide) (by decide), i 153 (by decide) (by decide), i 154 (by decide) (by decide), i 155 (by decide) (by decide), i 157 (by decide) (by decide), i 158 (by decide) (by decide)]
    exact b
  · rw [(F 159 (by decide) (by decide)).2.1] at ea
    obtain ⟨k, hk, e, b⟩ := c3 a ea
    have := V.2.1
    refine ⟨k, hk, e, Sr.cg L c5 (V.2.2 k hk) (by omega) (by omega) (e5 k (by omega)) ?_⟩
    have i : ∀ c, 159 ≤ c → c ≤ 164 → xI f c = xI h c := fun c h1 h2 => (F c (by omega) (by omega)).2.2.1
    unfold Sr at b ⊢
    rw [i 159 (by decide) (by decide), i 160 (by decide) (by decide), i 161 (by decide) (by decide), i 164 (by decide) (by decide)]
    exact b
theorem TSh.sm {h g : xh} {b : Nat} (H : TSh h b) (fb : ∀ c, b ≤ c → c ≤ b + 50 → Sm h g c) : TSh g b := by
  obtain ⟨⟨t1, t2, t3⟩, ⟨t4, t5, t6⟩, t7⟩ := H
  have g0 := fb b (by omega) (by omega)
  refine ⟨⟨by rw [g0.1]; exact t1, by rw [(fb (b + 1) (by omega) (by omega)).1]; exact t2, by rw [(fb (b + 2) (by omega) (by omega)).1]; exact t3⟩, ⟨by rw [g0.2.1]; exact t4, by rw [g0.2.1]; exact t5, fun q hq => by rw [g0.2.1]; exact t6 q hq⟩, fun q hq => ?_⟩
  have a1 : iA q ≤ 36 := by rcases q4 hq with z | z | z | z <;> subst z <;> decide
  have ga := fb (b + iA q) (by omega) (by omega)
  refine ⟨by rw [ga.1]; exact (t7 q hq).1, fun k hk => ⟨by rw [ga.2.1]; exact ((t7 q hq).2 k hk).1, ?_⟩⟩
  have ob := iO_b hq hk
  exact IT_IS hq ((t7 q hq).2 k hk).2 (fun c h1 h2 => fb c (by omega) (by omega))
theorem Im.c2 {h g : xh} {k : Nat} (I : Im h k) (n : xN h ≤ xN g) (f6 : xR g 116 k = xR h 116 k) (f2 : xI g 192 k = xI h 192 k) (F : ∀ b, xR h 116 k = some b → 193 ≤ b → b + 51 ≤ xN h → ∀ c, b ≤ c → c ≤ b + 50 → Sm h g c) (M : ∀ c, 167 ≤ c → c < 176 → ∀ i, i < sW c → xI g c (sW c * (k + 1) + i) = xI h c (sW c * (k + 1) + i)) : Im g k := by
  rcases I with ⟨i1, i2⟩ | ⟨b, cc, i1, i2, i3, i4, i5⟩
  · exact Or.inl ⟨by rw [f6]; exact i1, by rw [f2]; exact i2⟩
  · have fb := F b i1 i2.1 i2.2
    exact Or.inr ⟨b, cc, by rw [f6]; exact i1, ⟨i2.1, by omega⟩, i3.sm fb, by rw [f2]; exact i4, i5.sm fb M⟩
theorem img {n : Nat} (hn : 10 ≤ n) {N : Nat} {xs : Nat → Int32} {cc : Nat → Nat} {h : xh} (I : Iv N xs cc h) {k : Nat} (k3 : k < 3) {h1 : xh} {b : Nat} (L1 : Lay h1) (n1 : xN h ≤ xN h1) (T1 : TSh h1 b) (b1 : 193 ≤ b) (b2 : b + 51 ≤ xN h1) (r1 : ∀ j, xR h1 116 j = if j = k then some b else xR h 116 j) (s1 : ∀ c, c < xN h → c ≠ 116 → Sm h h1 c) (dj : ∀ j b', j < 3 → j ≠ k → xR h 116 j = some b' → b' + 51 ≤ xN h → b + 50 < b' ∨ b' + 50 < b) : xcv (xMC n) 146 [.ref b, .ref 65] h1 (fun g => Md N xs g ∧ xci (xMC (n + 1)) 352 [.ref 166, .int (nI k)] g (Bt N xs 1)) := by
  have nh := I.lay.1
  have R1 : RT h1 65 0 cc := I.2.1.sm (fun c h1 h2 => s1 c (by omega) (by omega)) (fun c h1 h2 i _ => by rw [(s1 c (by omega) (by omega)).2.2.1])
  refine c_Told_copyFrom (by omega) T1 L1.tsh (by omega) (by decide) (by omega) (fun g G t1 t2 t3 t4 => ?_)
  have Lg := G.lay L1
  have sg : ∀ c, ¬ (b ≤ c ∧ c ≤ b + 50) → Sm h1 g c := fun c hc => G.g.2.2 c (fun z => by unfold Bl at z; omega)
  refine ⟨⟨Lg, I.st.sm (fun c hc => (s1 c (by omega) (by omega)).tr (sg c (by omega)))⟩, ?_⟩
  have F2 : Fr (fun c => c = 166) g (xsI g 166 0 0) := (Fr.rf (P := fun c => c = 166)).wI rfl
  have L2 := F2.lay Lg
  refine w_Mo_image ⟨⟨by decide, Lg.s 166⟩, b_Mo_image_5 ?_⟩
  generalize xsI g 166 0 0 = g2 at F2 L2 ⊢
  refine c_Mo_in3 (by omega) (fun j j3 ej => ⟨fun _ => ⟨L2.s 166, ?_⟩, fun z => absurd z (by decide)⟩) (fun z => absurd rfl (z k k3))
  have g2h : ∀ c, c < xN h → c ≠ 116 → ¬ (b ≤ c ∧ c ≤ b + 50) → c ≠ 166 → Sm h g2 c := fun c h1 h2 h3 h4 => ((s1 c h1 h2).tr (sg c h3)).tr (F2.g.2.2 c h4)
  rw [nI_1]
  obtain ⟨⟨B, hB⟩, _⟩ := I.2.1
  refine c_Mo_copyAll (s := 0) (d := k + 1) (by omega) L2 (by decide) (by omega) (by omega) (fun i hi => ?_) (fun f1 F3 R => ?_)
  · rw [(g2h 167 (by omega) (by decide) (by omega) (by decide)).2.2.1, (hB i hi).2.1]
    exact sB_n _
  have L3 := F3.lay L2
  refine ⟨L3.s 166, 192, L3.r 166 56 192, ⟨by decide, L3.x 192 (n := 3) k3, Or.inr rfl⟩, b_Mo_image_31 ?_⟩
  rw [nI_clamp (by omega)]
  have F4 : Fr (fun c => c = 192) f1 (xsI f1 192 k 1) := (Fr.rf (P := fun c => c = 192)).wI rfl
  have u4 : ∀ i, xI (xsI f1 192 k 1) 192 i = if i = k then 1 else xI f1 192 i := fun i => upI _ _ _ _ _
  generalize xsI f1 192 k 1 = f at F4 u4 ⊢
  have A : Fr (fun c => (b ≤ c ∧ c ≤ b + 50) ∨ c = 166 ∨ (167 ≤ c ∧ c < 176) ∨ c = 192) h1 f := (((G.mo (fun c z => Or.inl z)).tr (F2.mo (fun c z => Or.inr (Or.inl z)))).tr (F3.mo (fun c z => Or.inr (Or.inr (Or.inl z))))).tr (F4.mo (fun c z => Or.inr (Or.inr (Or.inr z))))
  have s : ∀ c, c < xN h → c ≠ 116 → ¬ (b ≤ c ∧ c ≤ b + 50) → ¬ (166 ≤ c ∧ c < 176) → c ≠ 192 → Sm h f c := fun c h1 h2 h3 h4 h5 => (s1 c h1 h2).tr (A.g.2.2 c (by omega))
  have ro : ∀ c, 167 ≤ c → c < 176 → xI f c = xI f1 c := fun c h1 h2 => F4.i c (by omega)
  have g2c : ∀ c, 167 ≤ c → c < 176 → xI g2 c = xI h c := fun c h1 h2 => (g2h c (by omega) (by omega) (by omega) (by omega)).2.2.1
  have Mo : ∀ c, 167 ≤ c → c < 176 → ∀ m, m ≠ k + 1 → ∀ i, i < sW c → xI f c (sW c * m + i) = xI h c (sW c * m + i) := fun c h1 h2 m hm i hi => by
    rw [ro c h1 h2, (R c h1 h2).2 _ ?_, g2c c h1 h2]
    rcases Nat.lt_or_ge m (k + 1) with e | e
    · have := Nat.mul_le_mul_left (sW c) (show m + 1 ≤ k + 1 from e)
      rw [Nat.mul_add, Nat.mul_one] at this
      omega
    · have := Nat.mul_le_mul_left (sW c) (show (k + 1) + 1 ≤ m by omega)
      rw [Nat.mul_add, Nat.mul_one] at this
      omega
  have rf : xR f 116 = xR h1 116 := by rw [A.2.2.1]
  have nf : xN f = xN h1 := A.2.1
  refine Bt.mk (cc := cc) rfl ⟨⟨A.lay L1, I.st.sm (fun c hc => s c (by omega) (by omega) (by omega) (by omega) (by omega))⟩, I.2.1.sm (fun c h1 h2 => s c (by omega) (by omega) (by omega) (by omega) (by omega)) (fun c h1 h2 i hi => Mo c h1 h2 0 (by omega) i hi), ?_, fun j j3 => ?_, fun j1 j2 x y hj1 hj2 ne ex ey => ?_⟩
  · refine I.2.2.1.im I.lay I.tc I.sc (fun c h1 h2 => s c (by omega) (by omega) (by omega) (by omega) (by omega)) (fun j hj i hi => ?_) (fun j hj i hi => ?_)
    · have := Mo 172 (by decide) (by decide) 0 (by omega) (70 * j + i) (by show 70 * j + i < 140; omega)
      rw [Nat.mul_zero, Nat.zero_add] at this
      exact this
    · have := Mo 175 (by decide) (by decide) 0 (by omega) (49 * j + i) (by show 49 * j + i < 98; omega)
      rw [Nat.mul_zero, Nat.zero_add] at this
      exact this
  · by_cases e : j = k
    · subst e
      refine Or.inr ⟨b, cc, by rw [rf, r1, if_pos rfl], ⟨b1, by omega⟩, T1.fr A, by rw [u4, if_pos rfl], ?_⟩
      have gf : ∀ c, b ≤ c → c ≤ b + 50 → Sm g f c := fun c h1 h2 => ((F2.g.2.2 c (by omega)).tr (F3.g.2.2 c (fun z => by unfold Pa at z; omega))).tr (F4.g.2.2 c (by omega))
      refine R1.cp (fun i hi => ?_) (fun i h1 h2 => ?_) (fun i hi => ?_) (fun q m D hq hm H => ?_) (fun c h1 h2 i hi => ?_)
      · rw [(gf (b + 1) (by omega) (by omega)).2.2.1]; exact t1 i hi
      · rw [(gf b (by omega) (by omega)).2.2.1]; exact t2 i h1 h2
      · rw [(gf (b + 2) (by omega) (by omega)).2.2.1]; exact t3 i hi
      · have ob := iO_b hq hm
        exact IT.sm hq (t4 q m D hq hm H) (fun c h1 h2 => gf c (by omega) (by omega))
      · rw [ro c h1 h2, (R c h1 h2).1 i hi, g2c c h1 h2, (s1 c (by omega) (by omega)).2.2.1]
    · refine (I.2.2.2.1 j j3).c2 (by omega) (by rw [rf, r1, if_neg e]) ?_ (fun b' eb h1 h2 c h3 h4 => ?_) (fun c h1 h2 i hi => Mo c h1 h2 (j + 1) (by omega) i hi)
      · rw [u4, if_neg e, F3.i 192 (fun z => by unfold Pa at z; omega), (g2h 192 (by omega) (by decide) (by omega) (by decide)).2.2.1]
      · have := dj j b' j3 e eb h2
        exact s c (by omega) (by omega) (by omega) (by omega) (by omega)
  · rw [rf, r1] at ex ey
    have bd : ∀ j x, j < 3 → xR h 116 j = some x → x + 51 ≤ xN h := fun j x hj e => by
      rcases I.2.2.2.1 j hj with ⟨i1, i2⟩ | ⟨b', c2, i1, i2, i3, i4, i5⟩
      · rw [i1] at e; exact nomatch e
      · rw [i1] at e
        have := Option.some.inj e
        omega
    by_cases e1 : j1 = k
    · by_cases e2 : j2 = k
      · omega
      · rw [if_pos e1] at ex
        rw [if_neg e2] at ey
        have := Option.some.inj ex
        have := dj j2 y hj2 e2 ey (bd j2 y hj2 ey)
        omega
    · rw [if_neg e1] at ex
      by_cases e2 : j2 = k
      · rw [if_pos e2] at ey
        have := Option.some.inj ey
        have := dj j1 x hj1 e1 ex (bd j1 x hj1 ex)
        omega
      · rw [if_neg e2] at ey
        exact I.2.2.2.2 j1 j2 x y hj1 hj2 ne ex ey
theorem a_image {n : Nat} (hn : 11 ≤ n) {N : Nat} {xs : Nat → Int32} {cc : Nat → Nat} {h : xh} (I : Iv N xs cc h) {p : Int32} : xci (xMC n) 161 [.ref 64, .int p] h (fun r h1 => Md N xs h1 ∧ xci (xMC n) 352 [.ref 166, .int p] h1 (Bt N xs r)) := by
  obtain ⟨n, rfl⟩ := xsucc (show 1 ≤ n by omega)
  have L := I.lay
  have no : (∀ k, k < 3 → ¬ p = nI k) → xci (xMC (n + 1)) 352 [.ref 166, .int p] h (Bt N xs 0) := fun hk => by
    have F : Fr PM h (xsI h 166 0 0) := Fr.rf.wI mP
    exact w_Mo_image ⟨⟨by decide, L.s 166⟩, b_Mo_image_5 (c_Mo_in3 (by omega) (fun k k3 e => absurd e (hk k k3)) (fun z => ⟨fun y => absurd rfl y, fun _ => Bt.mk rfl (I.m F)⟩))⟩
  refine w_So_image ⟨fun z => ⟨I.md, no (fun k hk e => ?_)⟩, fun z => ⟨fun y => ?_, fun y => ⟨I.md, no (fun k hk e => ?_)⟩⟩⟩
  · subst e; exact absurd z (nI_pos (by omega))
  · obtain ⟨k, hk, ep⟩ := nI_of z
    subst ep
    have k3 : k < 3 := (nI_ltI (b := 3) hk (by decide)).mp y
    refine ⟨L.s 64, 116, L.r 64 1 116, L.x 116 (n := 3) k3, ?_⟩
    rw [nI_clamp hk]
    have bd : ∀ j x, j < 3 → xR h 116 j = some x → 193 ≤ x ∧ x + 51 ≤ xN h ∧ TSh h x := fun j x hj e => by
      rcases I.2.2.2.1 j hj with ⟨i1, i2⟩ | ⟨b', c2, i1, i2, i3, i4, i5⟩
      · rw [i1] at e; exact nomatch e
      · rw [i1] at e
        have := Option.some.inj e
        subst this
        exact ⟨i2.1, i2.2, i3⟩
    refine ⟨fun b eb => ?_, fun eb => ?_⟩
    · obtain ⟨b1, b2, b3⟩ := bd k b k3 eb
      refine b_So_image_37 ⟨L.s 64, 65, L.r 64 0 65, b3.1.1, img (by omega) I k3 L (Nat.le_refl _) b3 b1 b2 (fun j => ?_) (fun c _ _ => Sm.rf) (fun j b' hj ne e _ => I.2.2.2.2 k j b b' k3 hj (fun z => ne z.symm) eb e)⟩
      by_cases e : j = k
      · rw [if_pos e, e]; exact eb
      · rw [if_neg e]
    · have nh := L.1
      refine ⟨xnw_at h 1 0, c_Told_init (by omega) (by omega) (by rw [xnw_N]; omega) (xnw_at h 1 0) ?_⟩
      obtain ⟨q1, q2, q3⟩ := nTold_ok h (xN h) rfl
      generalize nTold (xN h) (xnw h 1 0) = g at q1 q2 q3 ⊢
      have Lg : Lay g := by
        refine ⟨by omega, fun c h1 h2 => ?_, fun c i v h1 h2 h3 => ?_⟩
        · rw [(q2 c (by omega)).1]; exact L.2.1 c h1 h2
        · rw [(q2 c (by omega)).2.1]; exact L.2.2 c i v h1 h2 h3
      refine ⟨Lg.s 64, 116, Lg.r 64 1 116, ⟨by decide, Lg.x 116 (n := 3) k3, by omega, q3.1.1⟩, ?_⟩
      have L2 : Lay (xsR g 116 k (some (xN h))) := by
        refine ⟨Lg.1, Lg.2.1, fun c i v h1 h2 h3 => ?_⟩
        rw [xR_at]
        by_cases e : c = 116 ∧ i = k
        · obtain ⟨e1, e2⟩ := e
          subst e1
          exact nomatch (show (none : Option Nat) = some v from h3)
        · rw [if_neg e]; exact Lg.2.2 c i v h1 h2 h3
      refine b_So_image_37_2 ⟨L2.s 64, 65, L2.r 64 0 65, q3.1.1, img (by omega) I k3 L2 (by show xN h ≤ xN g; omega) (q3.sm (fun c h1 h2 => sR_sm _ _ _ _ (by omega))) (by omega) (by show xN h + 51 ≤ xN g; omega) (fun j => ?_) (fun c h1 h2 => (q2 c h1).tr (sR_sm _ _ _ _ h2)) (fun j b' hj ne e h2 => by omega)⟩
      rw [xR_at]
      by_cases e : j = k
      · rw [if_pos ⟨rfl, e⟩, if_pos e]
      · rw [if_neg (fun z => e z.2), if_neg e, (q2 116 (by omega)).2.1]
  · subst e; exact absurd (nI_lt3 hk) y
