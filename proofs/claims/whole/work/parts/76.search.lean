/-! look in the class: findHides; prepare; shod, look -/
def P164 (c : Nat) : Prop := c = 164
theorem c_Search_findHides {n : Nat} (hn : 5 ≤ n) {h : xh} (L : Lay h) {s : Nat} {S : Nat → Int32} (H : Sh h s S) (hs : s + 6 < 159) (O : Od h S) (Wk : Wq h S 1) {Q : xh → Prop} (hQ : ∀ h', Fr P164 h h' → (∀ k, k < bN S 2 → xI h' 164 k = nI (hk S k)) → Q h') : xcv (xMC n) 112 [.ref 159, .ref s] h Q := by
  obtain ⟨n, rfl⟩ := xsucc (show 1 ≤ n by omega)
  have o := H.ok.n
  have q8 := p8 H.ok
  have fp := Nat.two_pow_pos (bN S 2)
  have fS : ∀ {g}, Fr P164 h g → Sh g s S := fun F => H.fr F (fun c h1 h2 z => by unfold P164 at z; omega)
  have fO : ∀ {g}, Fr P164 h g → Od g S := fun {g} F => ⟨fun V hV => by rw [F.i 163 (fun z => by unfold P164 at z; omega)]; exact O.1 V hV, by rw [F.i 159 (fun z => by unfold P164 at z; omega)]; exact O.2⟩
  have fW : ∀ {g}, Fr P164 h g → Wq g S 1 := fun {g} F V a h1 h2 h3 h4 => by rw [F.i 162 (fun z => by unfold P164 at z; omega)]; exact Wk V a h1 h2 h3 h4
  have key : ∀ d i, i + d = bN S 2 → ∀ V, V < 2 ^ bN S 2 → lft S V = (hq S i).1 → ∀ g, Fr P164 h g → (∀ k, k < i → xI g 164 k = nI (hk S k)) → ∀ o5 o6 o7 : Option Value, K_Search_findHides n Q 7 [some (.ref 159), some (.ref s), some (.int (nI V)), some (.int (atI (hq S i).2)), some (.int (nI i)), o5, o6, o7] [] g := by
    intro d
    induction d with
    | zero =>
      intro i hi V hV eV g F c1 o5 o6 o7
      have : i = bN S 2 := by omega
      subst this
      have Hg := fS F
      refine b_Search_findHides_7 ⟨Hg.s, ?_⟩
      rw [Hg.n 2]
      exact ⟨fun _ => hQ g F c1, fun z => absurd (Int32.le_refl _) z⟩
    | succ d ih =>
      intro i hi V hV eV g F c1 o5 o6 o7
      have Hg := fS F
      have Lg := F.lay L
      have Og := fO F
      have Wg := fW F
      obtain ⟨h1, h2, h3⟩ := hq_p H.ok i (by omega)
      obtain ⟨k1, k2⟩ := hk_p H.ok (i := i) (by omega)
      have pp := lft_p H.ok hV
      rw [eV, h2] at pp
      have ed : bN S 2 - pcn 9 V = d + 1 := by omega
      have dd : bN S 2 - (i + 1) = d := by omega
      refine b_Search_findHides_7 ⟨Hg.s, ?_⟩
      rw [Hg.n 2]
      refine ⟨fun z => absurd z (nI_ge (by omega) (by omega)), fun _ => ⟨Lg.s 159, c_Search_leastWalked (by omega) Lg Hg Og hV (fun V' a q1 q2 q3 q4 => Wg V' a (by omega) q2 q3 q4) h3 ed ⟨Hg.s, ?_⟩⟩⟩
      rw [Hg.n 2, eV]
      have inner : ∀ j, j ≤ bN S 2 → ∀ v6 : Int32, v6 = nI (if fsx (pL S d (hq S i).1 (hq S i).2) (bN S 2 - j) j < bN S 2 then fsx (pL S d (hq S i).1 (hq S i).2) (bN S 2 - j) j else 0) → K_Search_findHides n Q 36 [some (.ref 159), some (.ref s), some (.int (nI V)), some (.int (atI (hq S i).2)), some (.int (nI i)), some (.int (nI (lw S (d + 1) (hq S i).1 (hq S i).2))), some (.int v6), some (.int (nI j - 1))] [] g := by
        intro j
        induction j with
        | zero =>
          intro hj v6 hv
          have eh : fsx (pL S d (hq S i).1 (hq S i).2) (bN S 2 - 0) 0 = hk S i := by unfold hk; rw [dd]; rfl
          rw [eh, if_pos k1] at hv
          subst hv
          refine b_Search_findHides_36 ⟨fun _ => ⟨Lg.s 159, 164, Lg.r 159 5 164, ⟨by decide, Lg.x 164 (n := 8) (by omega)⟩, b_Search_findHides_83 ?_⟩, fun z => absurd (by decide) z⟩
          rw [nI_1, nI_clamp (by omega), bt_set _ (by omega)]
          have bf : V.testBit (hk S i) = false := by
            have := lft_bit (S := S) (V := V) k1
            rw [eV, k2] at this
            cases hb : V.testBit (hk S i)
            · rfl
            · rw [hb] at this; exact absurd this (by decide)
          have ih' := ih (i + 1) (by omega) (V ||| 2 ^ hk S i) (orb_lt hV k1) (by rw [lft_or, eV, hq_s]) (xsI g 164 i (nI (hk S i))) (F.wI rfl) (fun k hk' => by
            rw [upI]
            by_cases c : k = i
            · subst c; rw [if_pos rfl]
            · rw [if_neg c]; exact c1 k (by omega))
          have ea : atI (hq S (i + 1)).2 = nI (hk S i) := by
            rw [hq_s]
            unfold atI
            rw [if_neg (show ¬ hk S i = 8 by omega)]
          rw [ea] at ih'
          exact ih' _ _ _
        | succ j ij =>
          intro hj v6 hv
          rw [nI_pred]
          have st : fsx (pL S d (hq S i).1 (hq S i).2) (bN S 2 - j) j = if pL S d (hq S i).1 (hq S i).2 j = true then j else fsx (pL S d (hq S i).1 (hq S i).2) (bN S 2 - (j + 1)) (j + 1) := by
            rw [show bN S 2 - j = (bN S 2 - (j + 1)) + 1 by omega]
            rfl
          have bj := lft_bit (S := S) (V := V) (show j < bN S 2 by omega)
          rw [eV] at bj
          have skip : ¬ pL S d (hq S i).1 (hq S i).2 j = true → K_Search_findHides n Q 36 [some (.ref 159), some (.ref s), some (.int (nI V)), some (.int (atI (hq S i).2)), some (.int (nI i)), some (.int (nI (lw S (d + 1) (hq S i).1 (hq S i).2))), some (.int v6), some (.int (nI j + (-1)))] [] g := by
            intro np
            rw [show nI j + (-1 : Int32) = nI j - 1 from (Int32.sub_eq_add_neg _ _).symm]
            refine ij (by omega) v6 ?_
            rw [st, if_neg np]
            exact hv
          refine b_Search_findHides_36 ⟨fun z => absurd z (nI_pos (by omega)), fun _ => ?_⟩
          rw [bt_has V (by omega) j (by omega)]
          cases c : V.testBit j
          · rw [c] at bj
            refine ⟨fun z => absurd rfl z, fun _ => ⟨Lg.s 159, c_Search_walkedBy (by omega) Lg Hg Og hV (fun V' a q1 q2 q3 q4 => Wg V' a (by omega) q2 q3 q4) h3 (by omega) c ed ?_⟩⟩
            rw [eV]
            have pr := pcn_rm (W := (hq S i).1) (a := j) bj (by omega)
            have l2 := lw_b H.ok d (sdf (hq S i).1 (2 ^ j)) j (sdf_lt h1) (by omega) (Or.inr (by omega))
            have l3 := wy_le H.ok h3 (show j < bN S 2 by omega)
            have l5 : wy S (hq S i).2 j * od S (hq S i).1 ≤ 18 * 160 := Nat.mul_le_mul l3 (od_le H.ok _)
            have l6 : tmL S (lw S d) (hq S i).1 (hq S i).2 j < 2 ^ 31 := by unfold tmL; omega
            have l7 := lw_b H.ok (d + 1) (hq S i).1 (hq S i).2 h1 (by omega) h3
            rw [nI_eq l6 (by omega)]
            have pe : pL S d (hq S i).1 (hq S i).2 j = true ↔ tmL S (lw S d) (hq S i).1 (hq S i).2 j = lw S (d + 1) (hq S i).1 (hq S i).2 := by
              unfold pL
              rw [bj]
              simp
            refine ⟨fun z => skip (fun y => z (pe.mp y)), fun z => ?_⟩
            rw [show nI j + (-1 : Int32) = nI j - 1 from (Int32.sub_eq_add_neg _ _).symm]
            refine ij (by omega) _ ?_
            rw [st, if_pos (pe.mpr z), if_pos (by omega)]
          · rw [c] at bj
            refine ⟨fun _ => skip (fun y => ?_), fun z => absurd z (by decide)⟩
            unfold pL at y
            rw [bj] at y
            exact absurd y (by simp)
      refine inner (bN S 2) (Nat.le_refl _) 0 ?_
      rw [Nat.sub_self, if_neg (by show ¬ bN S 2 < bN S 2; omega)]; rfl
  exact w_Search_findHides (key (bN S 2) 0 (by omega) 0 fp (lft_0 S) h Fr.rf (fun k hk' => absurd hk' (Nat.not_lt_zero _)) none none none)
/-- what is worked out of a list -/
def Sr (h : xh) (S : Nat → Int32) : Prop := xI h 160 0 = nI (nd S (bN S 1) 63) ∧ (∀ f, f < bN S 1 → xI h 161 f = nI (shS S f)) ∧ xI h 159 6 = nI (od S (2 ^ bN S 2 - 1)) ∧ xI h 159 7 = nI (lw S (bN S 2) (2 ^ bN S 2 - 1) 8) ∧ ∀ k, k < bN S 2 → xI h 164 k = nI (hk S k)
theorem Sh.sm {h h' : xh} {t : Nat} {S : Nat → Int32} (H : Sh h t S) (hp : ∀ c, t ≤ c → c ≤ t + 6 → Sm h h' c) : Sh h' t S := by
  obtain ⟨h1, h2, ⟨h3, h4⟩, h5, h6, h7, h8, h9⟩ := H
  refine ⟨by rw [(hp t (by omega) (by omega)).1]; exact h1, fun i hi => by rw [(hp t (by omega) (by omega)).2.1]; exact h2 i hi, ⟨by rw [(hp (t + 1) (by omega) (by omega)).1]; exact h3, fun i hi => by rw [(hp (t + 2 + i) (by omega) (by omega)).1]; exact h4 i hi⟩, fun i hi => ?_, fun k hk => ?_, fun k hk => ?_, fun k hk => ?_, h9⟩
  · rw [(hp t (by omega) (by omega)).2.2.1]; exact h5 i hi
  · rw [(hp (t + 1) (by omega) (by omega)).2.2.1]; exact h6 k hk
  · rw [(hp (t + 2) (by omega) (by omega)).2.2.1, (hp (t + 3) (by omega) (by omega)).2.2.1]; exact h7 k hk
  · rw [(hp (t + 4) (by omega) (by omega)).2.2.1, (hp (t + 5) (by omega) (by omega)).2.2.1, (hp (t + 6) (by omega) (by omega)).2.2.1]; exact h8 k hk
theorem c_Search_prepare {n : Nat} (hn : 6 ≤ n) {h : xh} (L : Lay h) {s : Nat} {S : Nat → Int32} (H : Sh h s S) (hs : s + 6 < 159) (h64 : 64 ≤ s) (z0 : xI h 163 0 = 0) (hc : ∀ a, xR h 159 0 = some a → 64 ≤ a ∧ (a = s → Sr h S)) {Q : xh → Prop} (hQ : ∀ h', Fg P6 h h' → Lay h' → xI h' 163 0 = 0 → xR h' 159 0 = some s → Sr h' S → Q h') : xcv (xMC n) 105 [.ref 159, .ref s] h Q := by
  obtain ⟨n, rfl⟩ := xsucc (show 1 ≤ n by omega)
  have go : (64 ≤ 159 ∧ xS h 159 = (10, 0)) ∧ K_Search_prepare n Q 14 [some (.ref 159), some (.ref s)] [] (xsR h 159 0 (some s)) := by
    refine ⟨⟨by decide, L.s 159⟩, ?_⟩
    have L1 : Lay (xsR h 159 0 (some s)) := L.wR 159 (some s)
    have F1 : Fg P6 h (xsR h 159 0 (some s)) := Fg.rf.wR sP
    have r1 : xR (xsR h 159 0 (some s)) 159 0 = some s := by rw [xR_at, if_pos ⟨rfl, rfl⟩]
    have z1 : xI (xsR h 159 0 (some s)) 163 0 = 0 := z0
    generalize xsR h 159 0 (some s) = g1 at L1 F1 r1 z1 ⊢
    have H1 : Sh g1 s S := H.sm (fun c h1 h2 => F1.2.2 c (fun z => by unfold P6 at z; omega))
    refine b_Search_prepare_14 ⟨L1.s 159, c_Search_findNeed (by omega) L1 H1 hs (fun g2 F2 N2 => ?_)⟩
    have L2 := F2.lay L1
    have H2 : Sh g2 s S := H1.fr F2 (fun c h1 h2 z => by unfold P160 at z; omega)
    refine ⟨L2.s 159, c_Search_findShoes (by omega) L2 H2 hs N2 (fun g3 F3 N3 => ?_)⟩
    have L3 := F3.lay L2
    have H3 : Sh g3 s S := H2.fr F3 (fun c h1 h2 z => by unfold P161 at z; omega)
    have z3 : xI g3 163 0 = 0 := by rw [F3.i 163 (fun z => by unfold P161 at z; omega), F2.i 163 (fun z => by unfold P160 at z; omega)]; exact z1
    refine ⟨L3.s 159, c_Search_findWalked (by omega) L3 H3 hs z3 (fun g4 F4 z4 O4 W4 w4 => ?_)⟩
    have L4 := F4.lay L3
    have H4 : Sh g4 s S := H3.fr F4 (fun c h1 h2 z => by unfold PWk at z; omega)
    refine ⟨L4.s 159, c_Search_findHides (by omega) L4 H4 hs O4 W4 (fun g5 F5 h5 => ?_)⟩
    refine hQ g5 (F1.tr (((F2.g.mo (fun c z => by unfold P160 at z; unfold P6; omega)).tr (F3.g.mo (fun c z => by unfold P161 at z; unfold P6; omega))).tr ((F4.g.mo (fun c z => by unfold PWk at z; unfold P6; omega)).tr (F5.g.mo (fun c z => by unfold P164 at z; unfold P6; omega))))) (F5.lay L4) ?_ ?_ ⟨?_, fun f hf => ?_, ?_, ?_, h5⟩
    · rw [F5.i 163 (fun z => by unfold P164 at z; omega)]; exact z4
    · rw [F5.2.2.1, F4.2.2.1, F3.2.2.1, F2.2.2.1]; exact r1
    · rw [F5.i 160 (fun z => by unfold P164 at z; omega), F4.i 160 (fun z => by unfold PWk at z; omega), F3.i 160 (fun z => by unfold P161 at z; omega)]
      exact N2 0 0 (by omega) (by omega) (by omega)
    · rw [F5.i 161 (fun z => by unfold P164 at z; omega), F4.i 161 (fun z => by unfold PWk at z; omega)]
      exact N3 f hf
    · rw [F5.i 159 (fun z => by unfold P164 at z; omega)]; exact O4.2
    · rw [F5.i 159 (fun z => by unfold P164 at z; omega)]; exact w4
  refine w_Search_prepare ⟨L.s 159, fun a1 ea => ⟨⟨(hc a1 ea).1, h64⟩, fun _ => go, fun e => ?_⟩, fun _ => go⟩
  subst e
  exact hQ h Fg.rf L z0 ea ((hc a1 ea).2 rfl)
