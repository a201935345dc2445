/-! THE WAY in the class: the best, the good beginnings -/
theorem nI_e0 {n : Nat} (h : n < 2 ^ 31) : nI n = 0 ↔ n = 0 := nI_eq (b := 0) h (by decide)
def Rt (h : xh) (t : Nat) (T : Nat → Int32) : Prop := Lay h ∧ Tn h t T ∧ t + 7 < 150 ∧ Ap h T (stp T) ∧ Pq h T (2 ^ stp T) ∧ Pp h T (2 ^ stp T) ∧ xI h 150 1 = nI (2 ^ stp T - 1) ∧ xI h 150 13 = nI (ppl T (stp T))
def PWy (c : Nat) : Prop := c = 150 ∨ c = 156 ∨ c = 158
def Fw (h g : xh) : Prop := Fr PWy h g ∧ xI g 150 1 = xI h 150 1 ∧ xI g 150 13 = xI h 150 13
theorem Fw.rf {h : xh} : Fw h h := ⟨Fr.rf, rfl, rfl⟩
theorem Fw.tr {a b c : xh} (f : Fw a b) (g : Fw b c) : Fw a c := ⟨f.1.tr g.1, g.2.1.trans f.2.1, g.2.2.trans f.2.2⟩
theorem Fw.w0 {h g : xh} (f : Fw h g) {i : Nat} {v : Int32} (h1 : i ≠ 1 := by decide) (h2 : i ≠ 13 := by decide) : Fw h (xsI g 150 i v) := ⟨f.1.wI (Or.inl rfl), by rw [upI_o _ _ _ _ (Ne.symm h1)]; exact f.2.1, by rw [upI_o _ _ _ _ (Ne.symm h2)]; exact f.2.2⟩
theorem Fw.wa {h g : xh} (f : Fw h g) {c i : Nat} {v : Int32} (hc : PWy c) (h1 : c ≠ 150) : Fw h (xsI g c i v) := ⟨f.1.wI hc, by rw [xsI_ne _ _ _ (Ne.symm h1)]; exact f.2.1, by rw [xsI_ne _ _ _ (Ne.symm h1)]; exact f.2.2⟩
theorem Rt.fr {h g : xh} {t : Nat} {T : Nat → Int32} (R : Rt h t T) (F : Fw h g) : Rt g t T := by
  obtain ⟨L, H, ht, A, P, Q, e1, e2⟩ := R
  refine ⟨F.1.lay L, H.fr F.1 (fun c h1 h2 z => by unfold PWy at z; omega), ht, fun a s h1 h2 => ?_, fun V a h1 h2 h3 => ?_, fun V hV => ?_, F.2.1.trans e1, F.2.2.trans e2⟩
  · rw [F.1.i 151 (fun z => by unfold PWy at z; omega)]; exact A a s h1 h2
  · rw [F.1.i 152 (fun z => by unfold PWy at z; omega)]; exact P V a h1 h2 h3
  · rw [F.1.i 154 (fun z => by unfold PWy at z; omega), F.1.i 155 (fun z => by unfold PWy at z; omega)]; exact Q V hV
theorem Rt.L {h : xh} {t : Nat} {T : Nat → Int32} (R : Rt h t T) : Lay h := R.1
theorem Rt.H {h : xh} {t : Nat} {T : Nat → Int32} (R : Rt h t T) : Tn h t T := R.2.1
theorem Rt.ok {h : xh} {t : Nat} {T : Nat → Int32} (R : Rt h t T) : TnOK T := R.2.1.ok
theorem Rt.p {h : xh} {t : Nat} {T : Nat → Int32} (R : Rt h t T) {V a : Nat} (hV : V < 2 ^ stp T) (ha : a < stp T) (hb : V.testBit a = true) : xI h 152 (V * 9 + a) = nI (ph T V a) := by
  rw [ph_k hb]; exact R.2.2.2.2.1 V a hV ha hb
theorem Rt.b {h : xh} {t : Nat} {T : Nat → Int32} (R : Rt h t T) : stp T ≤ 9 ∧ 2 ^ stp T ≤ 512 ∧ 0 < 2 ^ stp T := by
  have s9 := stp9 R.ok
  exact ⟨s9, Nat.le_trans (Nat.pow_le_pow_right (by decide) s9) (by decide), Nat.two_pow_pos _⟩
theorem ff_1 {T : Nat → Int32} {a : Nat} (ha : a < stp T) : ff T (2 ^ a) = fdN T a := by
  have := ff_or (T := T) (V := 0) (Nat.zero_testBit a) ha
  rw [Nat.zero_or] at this
  rw [this]
  unfold ff
  rw [bsm_0]; omega
theorem ff_bit {T : Nat → Int32} {V a : Nat} (h : V.testBit a = true) (ha : a < stp T) : fdN T a ≤ ff T V := by
  have := ff_or (T := T) (sdf_self V a) ha
  rw [sdf_or h] at this
  omega
theorem c_Routes_doneAt {n : Nat} (hn : 1 ≤ n) {h : xh} {t : Nat} {T : Nat → Int32} (R : Rt h t T) {V a : Nat} (hV : V < 2 ^ stp T) (ha : a < stp T) (hb : V.testBit a = true) {Q : Int32 → xh → Prop} (hQ : Q (nI (dn T V a)) h) : xci (xMC n) 93 [.ref 150, .int (nI V), .int (nI a)] h Q := by
  obtain ⟨n, rfl⟩ := xsucc hn
  obtain ⟨s9, p512, _⟩ := R.b
  have L := R.L
  refine w_Routes_doneAt ⟨L.s 150, 152, L.r 150 3 152, ?_⟩
  rw [show nI V * (9 : Int32) = nI (V * 9) from pk_mul _ 9, nI_add, nI_clamp (by omega), nI_clamp (by omega), R.p hV ha hb]
  refine ⟨L.x 152 (n := 4608) (by omega), 155, L.r 150 6 155, L.x 155 (n := 512) (by omega), ?_⟩
  rw [(R.2.2.2.2.2.1 V hV).2, nI_add]
  exact hQ
theorem c_Routes_isWarm {n : Nat} (hn : 2 ≤ n) {h : xh} {t : Nat} {T : Nat → Int32} (R : Rt h t T) {V a : Nat} (hV : V < 2 ^ stp T) (ha : a < stp T) (hb : V.testBit a = true) {Q : Int32 → xh → Prop} (hQ : Q (if dn T V a < clN T + fdN T a then 1 else 0) h) : xci (xMC n) 92 [.ref 150, .ref t, .int (nI V), .int (nI a)] h Q := by
  obtain ⟨n, rfl⟩ := xsucc (show 1 ≤ n by omega)
  obtain ⟨s9, p512, _⟩ := R.b
  have L := R.L
  have ok := R.ok
  have H := R.H
  have pw : 2 ^ a < 2 ^ stp T := Nat.pow_lt_pow_right (by decide) ha
  refine w_Routes_isWarm ⟨L.s 150, c_Routes_doneAt (by omega) R hV ha hb ⟨L.s 150, 155, L.r 150 6 155, ?_⟩⟩
  have db := dn_b ok hV (Or.inr ⟨ha, hb⟩)
  have fl : fdN T a ≤ dn T V a := by have := ff_bit hb ha; unfold dn; omega
  have e4 : xI h t 4 = nI (clN T) := (H.i 4).trans ok.hm.2.2.2.1.1
  have l4 : clN T ≤ 99 := ok.hm.2.2.2.1.2
  rw [bt_shl a (by omega), nI_clamp (by omega), (R.2.2.2.2.2.1 (2 ^ a) pw).2, ff_1 ha, e4, pk_sub fl, nI_leI (by omega) (by omega)]
  refine ⟨L.x 155 (n := 512) (by omega), H.s, fun z => ?_, fun z => ?_⟩
  · rw [if_neg (by omega)] at hQ; exact hQ
  · rw [if_pos (by omega)] at hQ; exact hQ
theorem c_Routes_isPeopled {n : Nat} (hn : 1 ≤ n) {h : xh} {t : Nat} {T : Nat → Int32} (R : Rt h t T) {V : Nat} (hV : V < 2 ^ stp T) {Q : Int32 → xh → Prop} (hQ : Q (if sdf V (ppl T (stp T)) = 0 then 1 else 0) h) : xci (xMC n) 90 [.ref 150, .int (nI V)] h Q := by
  obtain ⟨n, rfl⟩ := xsucc hn
  obtain ⟨s9, p512, _⟩ := R.b
  have sl : sdf V (ppl T (stp T)) < 2 ^ stp T := sdf_lt hV
  refine w_Routes_isPeopled ⟨R.L.s 150, ?_⟩
  rw [R.2.2.2.2.2.2.2, bt_sdf, nI_e0 (by omega)]
  refine ⟨fun z => ?_, fun z => ?_⟩
  · rw [if_neg z] at hQ; exact hQ
  · rw [if_pos z] at hQ; exact hQ
theorem c_Routes_fewestMinutes {n : Nat} (hn : 3 ≤ n) {h : xh} {t : Nat} {T : Nat → Int32} (R : Rt h t T) {V : Nat} (hV : V < 2 ^ stp T) {Q : Int32 → xh → Prop} (hQ : Q (nI (fw T V)) h) : xci (xMC n) 91 [.ref 150, .ref t, .int (nI V)] h Q := by
  obtain ⟨n, rfl⟩ := xsucc (show 1 ≤ n by omega)
  obtain ⟨s9, p512, _⟩ := R.b
  have H := R.H
  have key : ∀ d k, k + d = stp T → K_Routes_fewestMinutes n Q 6 [some (.ref 150), some (.ref t), some (.int (nI V)), some (.int (nI (fwk T V k))), some (.int (nI k))] [] h := by
    intro d
    induction d with
    | zero =>
      intro k hk
      have : k = stp T := by omega
      subst this
      refine b_Routes_fewestMinutes_6 ⟨H.s, ?_⟩
      rw [H.i 6, R.ok.s6.1]
      exact ⟨fun _ => hQ, fun z => absurd (Int32.le_refl _) z⟩
    | succ d ih =>
      intro k hk
      have ih' := ih (k + 1) (by omega)
      unfold fwk at ih'
      refine b_Routes_fewestMinutes_6 ⟨H.s, ?_⟩
      rw [H.i 6, R.ok.s6.1]
      refine ⟨fun z => absurd z (nI_ge (by omega) (by omega)), fun _ => c_Routes_has (by omega) (by omega) (by omega) ?_⟩
      rw [nI_1]
      cases c : V.testBit k
      · rw [if_neg (fun z => by rw [c] at z; exact absurd z.1 (by decide))] at ih'
        exact ⟨fun _ => ih', fun z => absurd rfl z⟩
      · refine ⟨fun z => absurd z (by decide), fun _ => ⟨R.L.s 150, c_Routes_isWarm (by omega) R hV (by omega) c ?_⟩⟩
        by_cases w : dn T V k < clN T + fdN T k
        · rw [if_pos ⟨c, w⟩] at ih'
          rw [if_pos w]
          refine ⟨fun z => absurd z (by decide), fun _ => ⟨R.L.s 150, c_Routes_doneAt (by omega) R hV (by omega) c (c_Math_min (by omega) ?_)⟩⟩
          have l1 := fwk_far T V k
          have l2 := dn_b R.ok hV (Or.inr ⟨show k < stp T by omega, c⟩)
          rw [show (if nI (dn T V k) < nI (fwk T V k) then nI (dn T V k) else nI (fwk T V k)) = nI (min (fwk T V k) (dn T V k)) from mn_n (by omega) (by omega)]
          exact ih'
        · rw [if_neg (fun z => w z.2)] at ih'
          rw [if_neg w]
          exact ⟨fun _ => ih', fun z => absurd rfl z⟩
  exact w_Routes_fewestMinutes (key (stp T) 0 (by omega))
theorem c_Routes_findBestOfWay {n : Nat} (hn : 4 ≤ n) {h : xh} {t : Nat} {T : Nat → Int32} (R : Rt h t T) {Q : xh → Prop} (hQ : ∀ g, Fw h g → xI g 150 11 = nI (bp T (ppl T (stp T))) → xI g 150 12 = nI (bm T (ppl T (stp T))) → Q g) : xcv (xMC n) 89 [.ref 150, .ref t] h Q := by
  obtain ⟨n, rfl⟩ := xsucc (show 1 ≤ n by omega)
  obtain ⟨s9, p512, fp⟩ := R.b
  have ok := R.ok
  generalize hA : ppl T (stp T) = A at hQ
  have bqb : ∀ N, N < 2 ^ stp T → (bq T A N).1 ≤ 180 ∧ (bq T A N).2 ≤ 1710 := fun N hN => by
    rcases (bq_p ok (A := A) N hN).1 with e | ⟨V, a, f, e1, e2⟩
    · omega
    · have := dn_b ok f.1 (Or.inr ⟨f.2.2.1, f.2.2.2.1⟩)
      have := pp_le ok V
      omega
  have key : ∀ d V, V + 1 + d = 2 ^ stp T → ∀ g, Fw h g → xI g 150 11 = nI (bq T A V).1 → xI g 150 12 = nI (bq T A V).2 → ∀ o3 : Option Value, K_Routes_findBestOfWay n Q 12 [some (.ref 150), some (.ref t), some (.int (nI (V + 1))), o3] [] g := by
    intro d
    induction d with
    | zero =>
      intro V hV g F e1 e2 o3
      have Rg := R.fr F
      refine b_Routes_findBestOfWay_12 ⟨Rg.L.s 150, ?_⟩
      rw [Rg.2.2.2.2.2.2.1]
      have eV : V = 2 ^ stp T - 1 := by omega
      subst eV
      exact ⟨fun _ => hQ g F e1 e2, fun z => absurd (nI_lt (by omega) (by omega)) z⟩
    | succ d ih =>
      intro V hV g F e1 e2 o3
      have Rg := R.fr F
      have hV' : V + 1 < 2 ^ stp T := by omega
      obtain ⟨b1, b2⟩ := bqb V (by omega)
      have ih' := ih (V + 1) (by omega)
      unfold bq at ih'
      have skip : ¬ (sdf (V + 1) A = 0 ∧ fw T (V + 1) < 1000000 ∧ ((bq T A V).1 < pp T (V + 1) ∨ (pp T (V + 1) = (bq T A V).1 ∧ fw T (V + 1) < (bq T A V).2))) → ∀ o3 : Option Value, K_Routes_findBestOfWay n Q 95 [some (.ref 150), some (.ref t), some (.int (nI (V + 1))), o3] [] g := fun c o3 => by
        rw [if_neg c] at ih'
        refine b_Routes_findBestOfWay_95 ?_
        rw [nI_1]
        exact ih' g F e1 e2 _
      refine b_Routes_findBestOfWay_12 ⟨Rg.L.s 150, ?_⟩
      rw [Rg.2.2.2.2.2.2.1]
      refine ⟨fun z => absurd z (nI_nlt (by omega) (by omega)), fun _ => c_Routes_isPeopled (by omega) Rg hV' ?_⟩
      rw [hA]
      by_cases c0 : sdf (V + 1) A = 0
      · rw [if_pos c0]
        refine ⟨fun z => absurd z (by decide), fun _ => ⟨Rg.L.s 150, c_Routes_fewestMinutes (by omega) Rg hV' ?_⟩⟩
        have fl := fwk_far T (V + 1) (stp T)
        have fl' : fw T (V + 1) ≤ 1000000 := fl
        have ppl' := pp_le ok (V + 1)
        have take : (sdf (V + 1) A = 0 ∧ fw T (V + 1) < 1000000 ∧ ((bq T A V).1 < pp T (V + 1) ∨ (pp T (V + 1) = (bq T A V).1 ∧ fw T (V + 1) < (bq T A V).2))) → K_Routes_findBestOfWay n Q 80 [some (.ref 150), some (.ref t), some (.int (nI (V + 1))), some (.int (nI (fw T (V + 1))))] [] g := fun c => by
          rw [if_pos c] at ih'
          refine b_Routes_findBestOfWay_80 ⟨Rg.L.s 150, 154, Rg.L.r 150 5 154, Rg.L.x 154 (n := 512) (by omega), ⟨by decide, Rg.L.s 150⟩, ?_⟩
          rw [nI_clamp (by omega), (Rg.2.2.2.2.2.1 (V + 1) hV').1]
          have F1 : Fw h (xsI g 150 11 (nI (pp T (V + 1)))) := F.w0
          refine b_Routes_findBestOfWay_90 ⟨⟨by decide, (R.fr F1).L.s 150⟩, b_Routes_findBestOfWay_95 ?_⟩
          rw [nI_1]
          refine ih' _ F1.w0 ?_ ?_ _
          · rw [upI_o _ _ _ _ (by decide), upI_s]
          · rw [upI_s]
        refine b_Routes_findBestOfWay_39 ⟨fun z => skip (fun c => ?_) _, fun z => ⟨Rg.L.s 150, 154, Rg.L.r 150 5 154, Rg.L.x 154 (n := 512) (by omega), ?_⟩⟩
        · exact nI_ge (b := 1000000) c.2.1 (by decide) z
        · have z' : fw T (V + 1) < 1000000 := by
            apply Nat.lt_of_not_le
            intro y
            exact z ((nI_leI (a := 1000000) (by decide) (by omega)).mpr y)
          rw [nI_clamp (by omega), (Rg.2.2.2.2.2.1 (V + 1) hV').1, e1, e2, nI_ltI (by omega) (by omega), nI_eq (by omega) (by omega), nI_leI (by omega) (by omega)]
          refine ⟨fun y => take ⟨c0, z', Or.inl y⟩, fun y => ⟨fun x => skip (fun c => ?_) _, fun x => ⟨fun w => skip (fun c => ?_) _, fun w => take ⟨c0, z', Or.inr ⟨x, by omega⟩⟩⟩⟩⟩
          · omega
          · omega
      · rw [if_neg c0]
        refine ⟨fun _ => b_Routes_findBestOfWay_39 ⟨fun _ => skip (fun c => c0 c.1) _, fun z => absurd (Int32.le_refl _) z⟩, fun z => absurd rfl z⟩
  have F0 : Fw h (xsI h 150 11 0) := Fw.rf.w0
  refine w_Routes_findBestOfWay ⟨⟨by decide, R.L.s 150⟩, b_Routes_findBestOfWay_5 ⟨⟨by decide, (R.fr F0).L.s 150⟩, b_Routes_findBestOfWay_10 (key (2 ^ stp T - 1) 0 (by omega) _ F0.w0 ?_ ?_ _)⟩⟩
  · rw [upI_o _ _ _ _ (by decide), upI_s]; rfl
  · rw [upI_s]; rfl
