/-! look in the class: findWalked, findHides, prepare -/
theorem or_add : ∀ k, k < 9 → ∀ y, y < 2 ^ k → y ||| 2 ^ k = 2 ^ k + y := by decide +kernel
theorem od_0 (S : Nat → Int32) : od S 0 = 0 := by
  have : ∀ k, oD S 0 k = 0 := by
    intro k
    induction k with
    | zero => rfl
    | succ k ih => unfold oD; rw [ih, Nat.zero_testBit]; rfl
  exact this _
theorem pcn0 : pcn 9 0 = 0 := by decide
def PWk (c : Nat) : Prop := c = 159 ∨ c = 162 ∨ c = 163
theorem c_Search_findWalked {n : Nat} (hn : 5 ≤ n) {h : xh} (L : Lay h) {s : Nat} {S : Nat → Int32} (H : Sh h s S) (hs : s + 6 < 159) (z0 : xI h 163 0 = 0) {Q : xh → Prop} (hQ : ∀ h', Fr PWk h h' → xI h' 163 0 = 0 → Od h' S → Wq h' S 1 → xI h' 159 7 = nI (lw S (bN S 2) (2 ^ bN S 2 - 1) 8) → Q h') : xcv (xMC n) 109 [.ref 159, .ref s] h Q := by
  obtain ⟨n, rfl⟩ := xsucc (show 1 ≤ n by omega)
  have o := H.ok.n
  have q8 := p8 H.ok
  have fp := Nat.two_pow_pos (bN S 2)
  have fS : ∀ {g}, Fr PWk h g → Sh g s S := fun F => H.fr F (fun c h1 h2 z => by unfold PWk at z; omega)
  have e00 : ∀ {g : xh}, (∀ V, V < 2 ^ bN S 2 → xI g 163 V = nI (od S V)) → xI g 163 0 = 0 := fun f => by rw [f 0 fp, od_0]; rfl
  have fin : ∀ g, Fr PWk h g → Od g S → Wq g S 1 → ∀ o4 : Option Value, K_Search_findWalked n Q 79 [some (.ref 159), some (.ref s), some (.int (nI (2 ^ bN S 2 - 1))), some (.int (nI 0)), o4] [] g := by
    intro g F O W o4
    have Lg := F.lay L
    have Hg := fS F
    have wr : ∀ v : Int32, v = nI (lw S (bN S 2) (2 ^ bN S 2 - 1) 8) → (64 ≤ 159 ∧ xS g 159 = (10, 0)) ∧ Q (xsI g 159 7 v) := fun v hv => by
      refine ⟨⟨by decide, Lg.s 159⟩, hQ _ (F.wI (Or.inl rfl)) ?_ ⟨fun V hV => ?_, ?_⟩ (fun V a h1 h2 h3 h4 => ?_) ?_⟩
      · rw [xsI_ne _ _ _ (by decide)]; exact e00 O.1
      · rw [xsI_ne _ _ _ (by decide)]; exact O.1 V hV
      · rw [upI_o _ _ _ _ (by decide)]; exact O.2
      · rw [xsI_ne _ _ _ (by decide)]; exact W V a h1 h2 h3 h4
      · rw [upI_s]; exact hv
    refine b_Search_findWalked_79 ⟨fun _ => ⟨fun z => ⟨Lg.s 159, ?_⟩, fun z => wr 0 ?_⟩, fun z => absurd (by decide) z⟩
    · have hne : bN S 2 ≠ 0 := fun e => z (by rw [e]; rfl)
      obtain ⟨d, ed⟩ : ∃ d, bN S 2 = d + 1 := ⟨bN S 2 - 1, by omega⟩
      refine c_Search_leastWalked (V := 0) (a := 8) (d := d) (by omega) Lg Hg O fp W (Or.inl rfl) (by rw [pcn0]; omega) (wr _ ?_)
      rw [lft_0, ed]
    · have z1 := (nI_eq (b := 0) (by omega) (by decide)).mp z
      have : bN S 2 = 0 := by
        by_cases c : bN S 2 = 0
        · exact c
        · have : 2 ^ 1 ≤ 2 ^ bN S 2 := Nat.pow_le_pow_right (by decide) (by omega)
          omega
      rw [this]; rfl
  have k79 : ∀ x, x < 2 ^ bN S 2 → ∀ g, Fr PWk h g → Od g S → Wq g S (x + 1) → ∀ o4 : Option Value, K_Search_findWalked n Q 79 [some (.ref 159), some (.ref s), some (.int (nI (2 ^ bN S 2 - 1))), some (.int (nI x)), o4] [] g := by
    intro x
    induction x with
    | zero => intro hx g F O W o4; exact fin g F O W o4
    | succ x ih =>
      intro hx g F O W o4
      refine b_Search_findWalked_79 ⟨fun z => absurd z (nI_nle (by omega) (by omega)), fun _ => ?_⟩
      have key : ∀ e a, a + e = bN S 2 → ∀ g, Fr PWk h g → Od g S → Wq g S (x + 1 + 1) → (∀ b, b < a → (x + 1).testBit b = true → xI g 162 ((x + 1) * 8 + b) = nI (lw S (bN S 2 - pcn 9 (x + 1)) (lft S (x + 1)) b)) → K_Search_findWalked n Q 86 [some (.ref 159), some (.ref s), some (.int (nI (2 ^ bN S 2 - 1))), some (.int (nI (x + 1))), some (.int (nI a))] [] g := by
        intro e
        induction e with
        | zero =>
          intro a hae g F O W c1
          have : a = bN S 2 := by omega
          subst this
          have Hg := fS F
          refine b_Search_findWalked_86 ⟨Hg.s, ?_⟩
          rw [Hg.n 2, show nI (x + 1) + (-1 : Int32) = nI x from pk_m1 x]
          refine ⟨fun _ => ih (by omega) g F O (fun V b h1 h2 h3 h4 => ?_) _, fun z => absurd (Int32.le_refl _) z⟩
          by_cases c : V = x + 1
          · subst c; exact c1 b h3 h4
          · exact W V b (by omega) h2 h3 h4
        | succ e ie =>
          intro a hae g F O W c1
          have Lg := F.lay L
          have Hg := fS F
          refine b_Search_findWalked_86 ⟨Hg.s, ?_⟩
          rw [Hg.n 2, bt_has (x + 1) (by omega) a (by omega)]
          refine ⟨fun z => absurd z (nI_ge (by omega) (by omega)), fun _ => ?_⟩
          cases c : (x + 1).testBit a
          · refine ⟨fun _ => b_Search_findWalked_134 ?_, fun z => absurd z (by decide)⟩
            rw [nI_1]
            refine ie (a + 1) (by omega) g F O W (fun b hb h1 => ?_)
            by_cases eb : b = a
            · subst eb; rw [c] at h1; exact absurd h1 (by decide)
            · exact c1 b (by omega) h1
          · have wr : ∀ v : Int32, v = nI (lw S (bN S 2 - pcn 9 (x + 1)) (lft S (x + 1)) a) → (64 ≤ 162 ∧ xar g 162 20 (nI (x + 1) * 8 + nI a)) ∧ K_Search_findWalked n Q 134 [some (.ref 159), some (.ref s), some (.int (nI (2 ^ bN S 2 - 1))), some (.int (nI (x + 1))), some (.int (nI a))] [] (xsI g 162 (nI (x + 1) * 8 + nI a).toNatClampNeg v) := by
              intro v hv
              rw [show nI (x + 1) * (8 : Int32) = nI ((x + 1) * 8) from pk_mul _ 8, nI_add, nI_clamp (by omega)]
              refine ⟨⟨by decide, Lg.x 162 (n := 2048) (by omega)⟩, b_Search_findWalked_134 ?_⟩
              rw [nI_1]
              refine ie (a + 1) (by omega) _ (F.wI (Or.inr (Or.inl rfl))) ⟨fun V hV => ?_, ?_⟩ (fun V b h1 h2 h3 h4 => ?_) (fun b hb h1 => ?_)
              · rw [xsI_ne _ _ _ (by decide)]; exact O.1 V hV
              · rw [xsI_ne _ _ _ (by decide)]; exact O.2
              · rw [upI_o _ _ _ _ (by omega)]; exact W V b h1 h2 h3 h4
              · rw [upI]
                by_cases eb : b = a
                · subst eb; rw [if_pos rfl]; exact hv
                · rw [if_neg (by omega)]; exact c1 b (by omega) h1
            refine ⟨fun z => absurd rfl z, fun _ => ⟨Lg.s 159, 162, Lg.r 159 3 162, ?_⟩⟩
            rw [nI_eq (by omega) (by omega)]
            have pp := lft_p H.ok hx
            refine ⟨fun z => ?_, fun z => wr 0 ?_⟩
            · have ne : lft S (x + 1) ≠ 0 := fun y => by
                refine z ?_
                have : sdf (2 ^ bN S 2 - 1) (x + 1) = 0 := y
                have sb := sdf0.mp this
                refine Nat.eq_of_testBit_eq (fun i => ?_)
                rw [full_bit]
                by_cases ci : i < bN S 2
                · rw [decide_eq_true ci]
                  exact sb i (by rw [full_bit, decide_eq_true ci])
                · rw [decide_eq_false ci]
                  exact Nat.testBit_lt_two_pow (Nat.lt_of_lt_of_le hx (Nat.pow_le_pow_right (by decide) (by omega)))
              have nz : pcn 9 (lft S (x + 1)) ≠ 0 := fun y => ne (pcn_z _ (by have := lft_lt S (x + 1); omega) y)
              obtain ⟨d, ed⟩ : ∃ d, bN S 2 - pcn 9 (x + 1) = d + 1 := ⟨bN S 2 - pcn 9 (x + 1) - 1, by omega⟩
              have al : a < bN S 2 := by omega
              have ea : atI a = nI a := by unfold atI; rw [if_neg (by omega)]
              have := c_Search_leastWalked (n := n) (V := x + 1) (a := a) (d := d) (by omega) Lg Hg O hx W (Or.inr al) ed (Q := fun r1 h1 => (64 ≤ 162 ∧ xar h1 162 20 (nI (x + 1) * 8 + nI a)) ∧ K_Search_findWalked n Q 134 [some (.ref 159), some (.ref s), some (.int (nI (2 ^ bN S 2 - 1))), some (.int (nI (x + 1))), some (.int (nI a))] [] (xsI h1 162 (nI (x + 1) * 8 + nI a).toNatClampNeg r1)) (wr _ (by rw [ed]))
              rw [ea] at this
              exact this
            · have : pcn 9 (x + 1) = bN S 2 := by rw [z, pcn_full9 _ (by omega)]
              rw [this, Nat.sub_self]; rfl
      exact key (bN S 2) 0 (by omega) g F O W (fun b hb => absurd hb (Nat.not_lt_zero _))
  have k11 : ∀ d k, k + d = bN S 2 → ∀ g, Fr PWk h g → (∀ V, V < 2 ^ k → xI g 163 V = nI (od S V)) → ∀ o4 : Option Value, K_Search_findWalked n Q 11 [some (.ref 159), some (.ref s), some (.int (nI (2 ^ bN S 2 - 1))), some (.int (nI k)), o4] [] g := by
    intro d
    induction d with
    | zero =>
      intro k hk g F c1 o4
      have : k = bN S 2 := by omega
      subst this
      have Hg := fS F
      have Lg := F.lay L
      refine b_Search_findWalked_11 ⟨Hg.s, ?_⟩
      rw [Hg.n 2, nI_clamp (by omega)]
      refine ⟨fun _ => ⟨Lg.s 159, 163, Lg.r 159 4 163, Lg.x 163 (n := 256) (by omega), ⟨by decide, Lg.s 159⟩, b_Search_findWalked_77 ?_⟩, fun z => absurd (Int32.le_refl _) z⟩
      refine k79 (2 ^ bN S 2 - 1) (by omega) _ (F.wI (Or.inl rfl)) ⟨fun V hV => ?_, ?_⟩ (fun V a h1 h2 h3 h4 => by omega) _
      · rw [xsI_ne _ _ _ (by decide)]; exact c1 V hV
      · rw [upI_s, c1 _ (by omega)]
    | succ d ih =>
      intro k hk g F c1 o4
      have Hg := fS F
      have pk : 2 ^ k ≤ 128 := Nat.le_trans (Nat.pow_le_pow_right (by decide) (show k ≤ 7 by omega)) (by decide)
      refine b_Search_findWalked_11 ⟨Hg.s, ?_⟩
      rw [Hg.n 2]
      refine ⟨fun z => absurd z (nI_ge (by omega) (by omega)), fun _ => ?_⟩
      have key : ∀ e x, x + e = 2 ^ k → ∀ g, Fr PWk h g → (∀ V, V < 2 ^ k → xI g 163 V = nI (od S V)) → (∀ y, y < x → xI g 163 (2 ^ k + y) = nI (od S (2 ^ k + y))) → K_Search_findWalked n Q 22 [some (.ref 159), some (.ref s), some (.int (nI (2 ^ bN S 2 - 1))), some (.int (nI k)), some (.int (nI x))] [] g := by
        intro e
        induction e with
        | zero =>
          intro x hx g F c1 c2
          have : x = 2 ^ k := by omega
          subst this
          refine b_Search_findWalked_22 ?_
          rw [bt_shl k (by omega), nI_1]
          refine ⟨fun _ => ih (k + 1) (by omega) g F (fun V hV => ?_) _, fun z => absurd (Int32.le_refl _) z⟩
          rw [Nat.pow_succ] at hV
          by_cases c : V < 2 ^ k
          · exact c1 V c
          · have := c2 (V - 2 ^ k) (by omega)
            rwa [show 2 ^ k + (V - 2 ^ k) = V by omega] at this
        | succ e ie =>
          intro x hx g F c1 c2
          have Lg := F.lay L
          have Hg := fS F
          have oa := or_add k (by omega) x (by omega)
          have bk : x.testBit k = false := Nat.testBit_lt_two_pow (by omega)
          have eo : od S (2 ^ k + x) = od S x + bN S (41 + k) := by
            have := oD_or (S := S) bk (bN S 2)
            rw [if_pos (by omega), oa] at this
            exact this
          refine b_Search_findWalked_22 ?_
          rw [bt_shl k (by omega), nI_or, oa, nI_clamp (by omega), nI_clamp (by omega)]
          refine ⟨fun z => absurd z (nI_ge (by omega) (by omega)), fun _ => ⟨Lg.s 159, 163, Lg.r 159 4 163, Lg.x 163 (n := 256) (by omega), Hg.s, _, Hg.r 5, Hg.x 4 (by omega), ⟨by decide, Lg.x 163 (n := 256) (by omega)⟩, b_Search_findWalked_55 ?_⟩⟩
          have e6 : xI g (s + 2 + 4) (nI k).toNatClampNeg = nI (bN S (41 + k)) := by rw [nI_clamp (by omega)]; exact (Hg.v6 (by omega)).trans (H.ok.1 _ (by omega))
          show K_Search_findWalked n Q 22 _ [] (xsI g 163 (2 ^ k + x) (xI g 163 x + xI g (s + 2 + 4) (nI k).toNatClampNeg))
          rw [c1 x (by omega), e6, nI_add, ← eo, nI_1]
          refine ie (x + 1) (by omega) _ (F.wI (Or.inr (Or.inr rfl))) (fun V hV => ?_) (fun y hy => ?_)
          · rw [upI_o _ _ _ _ (by omega)]; exact c1 V hV
          · rw [upI]
            by_cases c : y = x
            · subst c; rw [if_pos rfl]
            · rw [if_neg (by omega)]; exact c2 y (by omega)
      exact key (2 ^ k) 0 (by omega) g F c1 (fun y hy => absurd hy (Nat.not_lt_zero _))
  refine w_Search_findWalked ⟨H.s, ?_⟩
  rw [H.n 2, bt_shl _ (by omega), show nI (2 ^ bN S 2) - (1 : Int32) = nI (2 ^ bN S 2 - 1) from pk_sub (b := 1) (by omega)]
  refine k11 (bN S 2) 0 (by omega) h Fr.rf (fun V hV => ?_) _
  have : V = 0 := by have : V < 1 := hV
                     omega
  subst this
  rw [z0, od_0]; rfl
