/-! ROUTES in the class: prepare; way, round, talks, lost, vans, chat -/
def wP (T : Nat → Int32) : Nat := bp T (wA T)
def wM (T : Nat → Int32) : Nat := bm T (wA T)
theorem wB {T : Nat → Int32} (ok : TnOK T) : Best T (wA T) (wP T) (wM T) := best ok _
def wL (T : Nat → Int32) : Nat := wl T (wA T) (wP T) (wM T)
def wK (T : Nat → Int32) (k : Nat) : Nat := wk T (wA T) (wP T) (wM T) k
/-- what is worked out of a town -/
def Rr (h : xh) (T : Nat → Int32) : Prop := (Ap h T (stp T) ∧ Pq h T (2 ^ stp T) ∧ Pp h T (2 ^ stp T) ∧ xI h 150 1 = nI (2 ^ stp T - 1) ∧ xI h 150 13 = nI (wA T)) ∧ Tq h T (2 ^ stp T) ∧ (∀ k, k < stp T → xI h 157 k = nI (rk T k)) ∧ (xI h 150 11 = nI (wP T) ∧ xI h 150 12 = nI (wM T)) ∧ xI h 150 10 = nI (wL T) ∧ ∀ k, k < wL T → xI h 158 k = nI (wK T k)
def Z3 (h : xh) : Prop := xI h 153 0 = 0 ∧ xI h 154 0 = 0 ∧ xI h 155 0 = 0
theorem c_Routes_prepare {n : Nat} (hn : 6 ≤ n) {h : xh} (L : Lay h) {t : Nat} {T : Nat → Int32} (H : Tn h t T) (ht : t + 7 < 150) (h64 : 64 ≤ t) (z0 : Z3 h) (hc : ∀ a, xR h 150 0 = some a → 64 ≤ a ∧ (a = t → Rr h T)) {Q : xh → Prop} (hQ : ∀ h', Fg P15 h h' → Lay h' → Z3 h' → xR h' 150 0 = some t → Rr h' T → Q h') : xcv (xMC n) 83 [.ref 150, .ref t] h Q := by
  obtain ⟨n, rfl⟩ := xsucc (show 1 ≤ n by omega)
  have ok := H.ok
  have s9 := stp9 ok
  have fp := Nat.two_pow_pos (stp T)
  have go : (64 ≤ 150 ∧ xS h 150 = (9, 0)) ∧ K_Routes_prepare n Q 14 [some (.ref 150), some (.ref t)] [] (xsR h 150 0 (some t)) := by
    refine ⟨⟨by decide, L.s 150⟩, ?_⟩
    have L1 : Lay (xsR h 150 0 (some t)) := L.wR 150 (some t)
    have F1 : Fg P15 h (xsR h 150 0 (some t)) := Fg.rf.wR rP
    have r1 : xR (xsR h 150 0 (some t)) 150 0 = some t := by rw [xR_at, if_pos ⟨rfl, rfl⟩]
    have z1 : Z3 (xsR h 150 0 (some t)) := z0
    generalize xsR h 150 0 (some t) = g1 at L1 F1 r1 z1 ⊢
    have H1 : Tn g1 t T := H.sm (fun c h1 h2 => F1.2.2 c (fun z => by unfold P15 at z; omega))
    refine b_Routes_prepare_14 ⟨H1.s, ⟨by decide, L1.s 150⟩, ?_⟩
    rw [H1.i 6, ok.s6.1, bt_shl _ (by omega), show nI (2 ^ stp T) - (1 : Int32) = nI (2 ^ stp T - 1) from pk_sub (b := 1) (by omega)]
    have F2 : Fr P15 g1 (xsI g1 150 1 (nI (2 ^ stp T - 1))) := Fr.rf.wI rP
    have e2 : xI (xsI g1 150 1 (nI (2 ^ stp T - 1))) 150 1 = nI (2 ^ stp T - 1) := upI_s _ _ _ _
    have z2 : Z3 (xsI g1 150 1 (nI (2 ^ stp T - 1))) := by
      unfold Z3
      rw [xsI_ne _ _ _ (by decide), xsI_ne _ _ _ (by decide), xsI_ne _ _ _ (by decide)]
      exact z1
    generalize xsI g1 150 1 (nI (2 ^ stp T - 1)) = g2 at F2 e2 z2 ⊢
    have L2 := F2.lay L1
    have H2 : Tn g2 t T := H1.fr F2 (fun c h1 h2 z => by unfold P15 at z; omega)
    refine b_Routes_prepare_26 ⟨L2.s 150, c_Routes_measure (by omega) L2 H2 ht z2.2.1 z2.2.2 (fun g3 F3 q3 A3 P3 e13 => ?_)⟩
    have L3 := F3.lay L2
    have H3 : Tn g3 t T := H2.fr F3 (fun c h1 h2 z => by unfold PMs at z; omega)
    have f3 : xI g3 150 1 = nI (2 ^ stp T - 1) := (q3 1 (by decide)).trans e2
    have z3 : xI g3 153 0 = 0 := by rw [F3.i 153 (fun z => by unfold PMs at z; omega)]; exact z2.1
    refine ⟨L3.s 150, c_Routes_findPaths (by omega) L3 H3 ht A3 f3 z3 (fun g4 F4 P4 T4 => ?_)⟩
    have L4 := F4.lay L3
    have H4 : Tn g4 t T := H3.fr F4 (fun c h1 h2 z => by unfold PPa at z; omega)
    have A4 : Ap g4 T (stp T) := fun a s h1 h2 => by rw [F4.i 151 (fun z => by unfold PPa at z; omega)]; exact A3 a s h1 h2
    have f4 : xI g4 150 1 = nI (2 ^ stp T - 1) := by rw [F4.i 150 (fun z => by unfold PPa at z; omega)]; exact f3
    have e4 : xI g4 150 13 = nI (ppl T (stp T)) := by rw [F4.i 150 (fun z => by unfold PPa at z; omega)]; exact e13
    have p4 : Pp g4 T (2 ^ stp T) := fun V hV => by rw [F4.i 154 (fun z => by unfold PPa at z; omega), F4.i 155 (fun z => by unfold PPa at z; omega)]; exact P3 V hV
    refine ⟨L4.s 150, c_Routes_findRound (by omega) L4 H4 ht A4 P4 T4 f4 (fun g5 F5 r5 => ?_)⟩
    have L5 := F5.lay L4
    have H5 : Tn g5 t T := H4.fr F5 (fun c h1 h2 z => by unfold P157 at z; omega)
    have no5 : ∀ c, c ≠ 157 → xI g5 c = xI g4 c := fun c hc => F5.i c (fun z => by unfold P157 at z; exact hc z)
    have R5 : Rt g5 t T := by
      refine ⟨L5, H5, ht, fun a s h1 h2 => ?_, fun V a h1 h2 h3 => ?_, fun V hV => ?_, ?_, ?_⟩
      · rw [no5 151 (by decide)]; exact A4 a s h1 h2
      · rw [no5 152 (by decide)]; exact P4 V a h1 h2 h3
      · rw [no5 154 (by decide), no5 155 (by decide)]; exact p4 V hV
      · rw [no5 150 (by decide)]; exact f4
      · rw [no5 150 (by decide)]; exact e4
    refine ⟨L5.s 150, c_Routes_findBestOfWay (by omega) R5 (fun g6 F6 b6 m6 => ?_)⟩
    have R6 := R5.fr F6
    refine ⟨R6.L.s 150, c_Routes_findWay (by omega) R6 rfl (best ok _) b6 m6 (fun g7 F7 b7 m7 l7 k7 => ?_)⟩
    have R7 := R6.fr F7
    have F67 := F6.tr F7
    have no : ∀ c, ¬ PWy c → xI g7 c = xI g5 c := fun c hc => F67.1.i c hc
    have T7 : Tq g7 T (2 ^ stp T) := fun V hV => by rw [no 153 (fun z => by unfold PWy at z; omega), no5 153 (by decide)]; exact T4 V hV
    refine hQ g7 (F1.tr ((F2.g.tr (F3.g.mo (fun c z => by unfold PMs at z; unfold P15; omega))).tr (((F4.g.mo (fun c z => by unfold PPa at z; unfold P15; omega)).tr (F5.g.mo (fun c z => by unfold P157 at z; unfold P15; omega))).tr (F67.1.g.mo (fun c z => by unfold PWy at z; unfold P15; omega))))) R7.L ⟨?_, ?_, ?_⟩ ?_ ⟨⟨R7.2.2.2.1, R7.2.2.2.2.1, R7.2.2.2.2.2.1, R7.2.2.2.2.2.2.1, R7.2.2.2.2.2.2.2⟩, T7, fun k hk => ?_, ⟨b7, m7⟩, l7, k7⟩
    · rw [T7 0 fp, pcn0]
      show nI (dr T 9 9) = 0
      rw [dr_99]; rfl
    · rw [(R7.2.2.2.2.2.1 0 fp).1, pp_0]; rfl
    · rw [(R7.2.2.2.2.2.1 0 fp).2]
      unfold ff
      rw [bsm_0]; rfl
    · rw [F67.1.2.2.1, F5.2.2.1, F4.2.2.1, F3.2.2.1, F2.2.2.1]; exact r1
    · rw [no 157 (fun z => by unfold PWy at z; omega)]; exact r5 k hk
  refine w_Routes_prepare ⟨L.s 150, fun a1 ea => ⟨⟨(hc a1 ea).1, h64⟩, fun _ => go, fun e => ?_⟩, fun _ => go⟩
  subst e
  exact hQ h Fg.rf L z0 ea ((hc a1 ea).2 rfl)
def CRr (h : xh) (c : Nat) : Prop := ∀ a, xR h 150 0 = some a → ∃ k, k < c ∧ a = 69 + 8 * k ∧ Rr h (mT h k)
theorem CRr.hc {h : xh} {c j : Nat} (B : CRr h c) : ∀ a, xR h 150 0 = some a → 64 ≤ a ∧ (a = 69 + 8 * j → Rr h (mT h j)) := fun a ea => by
  obtain ⟨k, hk, e, b⟩ := B a ea
  refine ⟨by omega, fun z => ?_⟩
  have : k = j := by omega
  subst this
  exact b
theorem CRr.of {h h' : xh} {c j : Nat} (hj : j < c) (F : Fg P15 h h') (r : xR h' 150 0 = some (69 + 8 * j)) (b : Rr h' (mT h j)) : CRr h' c := fun a ea => by
  rw [r] at ea
  cases ea
  refine ⟨j, hj, rfl, ?_⟩
  have e : mT h' j = mT h j := by
    unfold mT
    rw [(F.2.2 172 (fun z => by unfold P15 at z; omega)).2.2.1]
  rw [e]
  exact b
theorem Rr.rt {h : xh} {T : Nat → Int32} (R : Rr h T) (L : Lay h) {t : Nat} (H : Tn h t T) (ht : t + 7 < 150) : Rt h t T := ⟨L, H, ht, R.1.1, R.1.2.1, R.1.2.2.1, R.1.2.2.2.1, R.1.2.2.2.2⟩
def sWay (T : Nat → Int32) (k : Int32) : Int32 := if k = -1 then nI (wP T) else if k = -2 then nI (wM T) else if ¬ k < 0 ∧ k.toNatClampNeg < wL T then nI (wK T k.toNatClampNeg) else -1
theorem sWay_n {T : Nat → Int32} {k : Nat} (hk : k < 2 ^ 31) : sWay T (nI k) = if k < wL T then nI (wK T k) else -1 := by
  unfold sWay
  rw [if_neg (nI_m1 hk), if_neg (fun z => nI_pos hk (by rw [z]; decide)), nI_clamp hk]
  by_cases c : k < wL T
  · rw [if_pos c, if_pos ⟨nI_pos hk, c⟩]
  · rw [if_neg c, if_neg (fun z => c z.2)]
theorem sWay_o {T : Nat → Int32} {k : Int32} (h1 : ¬ k = -1) (h2 : ¬ k = -2) (h3 : k < 0) : sWay T k = -1 := by
  unfold sWay
  rw [if_neg h1, if_neg h2, if_neg (fun z => z.1 h3)]
theorem wL9 {T : Nat → Int32} (ok : TnOK T) : wL T ≤ stp T := (wl_p ok (wB ok)).1
theorem c_So_way {n : Nat} (hn : 7 ≤ n) {h : xh} (L : Lay h) {c : Nat} (W : TwC h c) (B : CRr h c) (z0 : Z3 h) {p k : Int32} {Q : Int32 → xh → Prop} (h1 : ∀ j, j < c → p = nI j → ∀ h', Fg P15 h h' → Lay h' → Z3 h' → CRr h' c → Q (sWay (mT h j) k) h') (h0 : (∀ j, j < c → ¬ p = nI j) → Q (-1) h) : xci (xMC n) 174 [.ref 64, .int p, .int k] h Q := by
  obtain ⟨n, rfl⟩ := xsucc (show 1 ≤ n by omega)
  have c2 := W.2.1
  refine w_So_way ⟨L.s 64, 65, L.r 64 0 65, L.s 65, c_Told_townAt (by omega) L W.1 W.2.1 (fun j hj e => ⟨fun a2 ea => ?_, fun z => nomatch z⟩) (fun z => ⟨fun a2 ea => (nomatch ea), fun _ => h0 z⟩)⟩
  cases ea
  have H := W.2.2 j hj
  refine ⟨L.s 64, 150, L.r 64 5 150, L.s 150, c_Routes_prepare (by omega) L H (by omega) (by omega) z0 B.hc (fun g F Lg zg rg Rg => ?_)⟩
  have hQ := h1 j hj e g F Lg zg (CRr.of hj F rg Rg)
  have s9 := stp9 H.ok
  have w9 := wL9 H.ok
  generalize mT h j = T at *
  refine ⟨fun z => ⟨fun y => ⟨fun x => ?_, fun x => ⟨Lg.s 64, 150, Lg.r 64 5 150, Lg.s 150, ?_⟩⟩, fun y => ⟨Lg.s 64, 150, Lg.r 64 5 150, Lg.s 150, ?_⟩⟩, fun z => ⟨Lg.s 64, 150, Lg.r 64 5 150, Lg.s 150, ?_⟩⟩
  · rwa [sWay_o z y x] at hQ
  · obtain ⟨i, hi, ei⟩ := nI_of x
    subst ei
    rw [sWay_n hi] at hQ
    rw [Rg.2.2.2.2.1, nI_ltI hi (by omega)]
    refine ⟨fun q => ⟨158, Lg.r 150 9 158, Lg.x 158 (n := 9) (by omega), ?_⟩, fun q => ?_⟩
    · rw [if_pos q] at hQ
      rw [nI_clamp hi, Rg.2.2.2.2.2 i q]
      exact hQ
    · rwa [if_neg q] at hQ
  · subst y
    rw [Rg.2.2.2.1.2]
    exact hQ
  · subst z
    rw [Rg.2.2.2.1.1]
    exact hQ
theorem c_So_round {n : Nat} (hn : 7 ≤ n) {h : xh} (L : Lay h) {c : Nat} (W : TwC h c) (B : CRr h c) (z0 : Z3 h) {p k : Int32} {Q : Int32 → xh → Prop} (h1 : ∀ j, j < c → p = nI j → ∀ h', Fg P15 h h' → Lay h' → Z3 h' → CRr h' c → Q (sRound (mT h j) k) h') (h0 : (∀ j, j < c → ¬ p = nI j) → Q (-1) h) : xci (xMC n) 175 [.ref 64, .int p, .int k] h Q := by
  obtain ⟨n, rfl⟩ := xsucc (show 1 ≤ n by omega)
  have c2 := W.2.1
  refine w_So_round ⟨L.s 64, 65, L.r 64 0 65, L.s 65, c_Told_townAt (by omega) L W.1 W.2.1 (fun j hj e => ⟨fun a2 ea => ?_, fun z => nomatch z⟩) (fun z => ⟨fun a2 ea => (nomatch ea), fun _ => h0 z⟩)⟩
  cases ea
  have H := W.2.2 j hj
  refine ⟨L.s 64, 150, L.r 64 5 150, L.s 150, c_Routes_prepare (by omega) L H (by omega) (by omega) z0 B.hc (fun g F Lg zg rg Rg => ?_)⟩
  have hQ := h1 j hj e g F Lg zg (CRr.of hj F rg Rg)
  have s9 := stp9 H.ok
  have Hg : Tn g (69 + 8 * j) (mT h j) := H.sm (fun c h1 h2 => F.2.2 c (fun z => by unfold P15 at z; omega))
  generalize mT h j = T at *
  have p512 : 2 ^ stp T ≤ 512 := Nat.le_trans (Nat.pow_le_pow_right (by decide) s9) (by decide)
  have fp := Nat.two_pow_pos (stp T)
  refine ⟨fun z => ⟨fun x => ?_, fun x => ⟨Hg.s, ?_⟩⟩, fun z => ⟨Lg.s 64, 150, Lg.r 64 5 150, Lg.s 150, 153, Lg.r 150 4 153, ?_⟩⟩
  · rwa [sRound_o z x] at hQ
  · obtain ⟨i, hi, ei⟩ := nI_of x
    subst ei
    rw [sRound_n hi] at hQ
    rw [Hg.i 6, Hg.ok.s6.1, nI_ltI hi (by omega)]
    refine ⟨fun q => ⟨Lg.s 64, 150, Lg.r 64 5 150, Lg.s 150, 157, Lg.r 150 8 157, Lg.x 157 (n := 9) (by omega), ?_⟩, fun q => ?_⟩
    · rw [if_pos q] at hQ
      rw [nI_clamp hi, Rg.2.2.1 i q]
      exact hQ
    · rwa [if_neg q] at hQ
  · subst z
    rw [Rg.1.2.2.2.1, nI_clamp (by omega), Rg.2.1 _ (by omega), pcn_f9 _ s9]
    exact ⟨Lg.x 153 (n := 512) (by omega), hQ⟩
theorem c_So_vans {n : Nat} (hn : 7 ≤ n) {h : xh} (L : Lay h) {c : Nat} (W : TwC h c) (B : CRr h c) (z0 : Z3 h) {p b : Int32} {Q : Int32 → xh → Prop} (h1 : ∀ j, j < c → p = nI j → ∀ h', Fg P15 h h' → Lay h' → Z3 h' → CRr h' c → Q (sVans (mT h j) b) h') (h0 : (∀ j, j < c → ¬ p = nI j) → Q (-1) h) : xci (xMC n) 179 [.ref 64, .int p, .int b] h Q := by
  obtain ⟨n, rfl⟩ := xsucc (show 1 ≤ n by omega)
  have c2 := W.2.1
  refine w_So_vans ⟨L.s 64, 65, L.r 64 0 65, L.s 65, c_Told_townAt (by omega) L W.1 W.2.1 (fun j hj e => ⟨fun a2 ea => ?_, fun z => nomatch z⟩) (fun z => ⟨fun a2 ea => (nomatch ea), fun _ => h0 z⟩)⟩
  cases ea
  have H := W.2.2 j hj
  refine ⟨L.s 64, 150, L.r 64 5 150, L.s 150, c_Routes_prepare (by omega) L H (by omega) (by omega) z0 B.hc (fun g F Lg zg rg Rg => ?_)⟩
  have hQ := h1 j hj e g F Lg zg (CRr.of hj F rg Rg)
  have ok := H.ok
  generalize mT h j = T at *
  have fp := Nat.two_pow_pos (stp T)
  have vl := vmn_le (hlN T) (2 ^ stp T - 1)
  unfold sVans at hQ
  refine ⟨Lg.s 64, 150, Lg.r 64 5 150, Lg.s 150, c_Routes_stopsOfFirstVan (by omega) Lg ok Rg.2.1 Rg.1.2.2.2.1 ⟨fun z => ⟨Lg.s 64, 150, Lg.r 64 5 150, Lg.s 150, c_Routes_homeLast (by omega) Lg ok Rg.2.1 Rg.1.2.2.2.1 (by omega) ?_⟩, fun z => ?_⟩⟩
  · rwa [if_pos z] at hQ
  · rwa [if_neg z] at hQ
def sTalks (T : Nat → Int32) : Int32 := if wL T = 0 then -1 else if wL T = 1 then 9 else nI (min 9 (tkN T (wA T) (wP T) (wM T)))
theorem c_Routes_talksAheadOfLast {n : Nat} (hn : 1 ≤ n) {h : xh} {t : Nat} {T : Nat → Int32} (R : Rr h T) (L : Lay h) (H : Tn h t T) (w0 : 0 < wL T) {Q : Int32 → xh → Prop} (hQ : Q (nI (tkN T (wA T) (wP T) (wM T))) h) : xci (xMC n) 98 [.ref 150, .ref t] h Q := by
  obtain ⟨n, rfl⟩ := xsucc hn
  have ok := H.ok
  have s9 := stp9 ok
  have p512 : 2 ^ stp T ≤ 512 := Nat.le_trans (Nat.pow_le_pow_right (by decide) s9) (by decide)
  have w9 := wL9 ok
  obtain ⟨q1, q2, q3, q4⟩ := co_p ok pplA (wB ok) w0
  have mb := ((wB ok).b ok).2
  have e5 : xI h t 5 = nI (bN T 5) := (H.i 5).trans ok.hm.2.2.2.2.1
  have b5 := ok.hm.2.2.2.2.2
  have e4 : xI h t 4 = nI (clN T) := (H.i 4).trans ok.hm.2.2.2.1.1
  have l4 : clN T ≤ 99 := ok.hm.2.2.2.1.2
  have pw : 2 ^ laN T (wA T) (wP T) (wM T) < 2 ^ stp T := Nat.pow_lt_pow_right (by decide) q2
  refine w_Routes_talksAheadOfLast ⟨L.s 150, ?_⟩
  rw [R.2.2.2.2.1, e5, e4, R.2.2.2.1.2, show nI (wL T) - (1 : Int32) = nI (wL T - 1) from pk_sub (b := 1) (by omega), nI_clamp (by omega), nI_e0 (by omega)]
  refine ⟨fun z => by omega, fun _ => ⟨H.s, fun _ => ⟨155, L.r 150 6 155, 158, L.r 150 9 158, L.x 158 (n := 9) (by omega), ?_⟩, fun z => absurd (nI_lt (a := 0) (by omega) (by omega)) z⟩⟩
  rw [show xI h 158 (wL T - 1) = nI (laN T (wA T) (wP T) (wM T)) from R.2.2.2.2.2 (wL T - 1) (by omega), bt_shl _ (by omega), nI_clamp (by omega), (R.1.2.2.1 _ pw).2, ff_1 q2, pk_sub (show fdN T (laN T (wA T) (wP T) (wM T)) ≤ wM T by omega), show nI (clN T) - (1 : Int32) = nI (clN T - 1) from pk_sub (b := 1) (by omega), show wM T - fdN T (laN T (wA T) (wP T) (wM T)) = coN T (wA T) (wP T) (wM T) from rfl, pk_sub (by omega), pk_div (by omega) (by omega) (by omega)]
  exact ⟨L.x 155 (n := 512) (by omega), fun z => absurd ((nI_e0 (by omega)).mp z) (by omega), hQ⟩
theorem c_So_talks {n : Nat} (hn : 7 ≤ n) {h : xh} (L : Lay h) {c : Nat} (W : TwC h c) (B : CRr h c) (z0 : Z3 h) {p : Int32} {Q : Int32 → xh → Prop} (h1 : ∀ j, j < c → p = nI j → ∀ h', Fg P15 h h' → Lay h' → Z3 h' → CRr h' c → Q (sTalks (mT h j)) h') (h0 : (∀ j, j < c → ¬ p = nI j) → Q (-1) h) : xci (xMC n) 176 [.ref 64, .int p] h Q := by
  obtain ⟨n, rfl⟩ := xsucc (show 1 ≤ n by omega)
  have c2 := W.2.1
  refine w_So_talks ⟨L.s 64, 65, L.r 64 0 65, L.s 65, c_Told_townAt (by omega) L W.1 W.2.1 (fun j hj e => ⟨fun a2 ea => ?_, fun z => nomatch z⟩) (fun z => ⟨fun a2 ea => (nomatch ea), fun _ => h0 z⟩)⟩
  cases ea
  have H := W.2.2 j hj
  refine ⟨L.s 64, 150, L.r 64 5 150, L.s 150, c_Routes_prepare (by omega) L H (by omega) (by omega) z0 B.hc (fun g F Lg zg rg Rg => ?_)⟩
  have hQ := h1 j hj e g F Lg zg (CRr.of hj F rg Rg)
  have ok := H.ok
  have Hg : Tn g (69 + 8 * j) (mT h j) := H.sm (fun c h1 h2 => F.2.2 c (fun z => by unfold P15 at z; omega))
  generalize mT h j = T at *
  have s9 := stp9 ok
  have w9 := wL9 ok
  unfold sTalks at hQ
  refine ⟨Lg.s 64, 150, Lg.r 64 5 150, Lg.s 150, ?_⟩
  obtain ⟨n, rfl⟩ := xsucc (show 1 ≤ n by omega)
  refine w_Routes_talksAtFirst ⟨Lg.s 150, ?_⟩
  rw [Rg.2.2.2.2.1, nI_e0 (by omega), show (nI (wL T) = (1 : Int32)) = (wL T = 1) from propext (nI_eq (b := 1) (by omega) (by decide))]
  refine ⟨fun z => ⟨fun y => c_Routes_talksAheadOfLast (by omega) Rg Lg Hg (by omega) (c_Math_min (by omega) ?_), fun y => ?_⟩, fun z => ?_⟩
  · rw [if_neg z, if_neg y] at hQ
    have tb := tk_b ok (A := wA T) (p := wP T) (m := wM T)
    rw [show (if nI (tkN T (wA T) (wP T) (wM T)) < (9 : Int32) then nI (tkN T (wA T) (wP T) (wM T)) else 9) = nI (min 9 (tkN T (wA T) (wP T) (wM T))) from mn_n (a := 9) (by omega) (by omega)]
    exact hQ
  · rw [if_neg z, if_pos y] at hQ; exact hQ
  · rw [if_pos z] at hQ; exact hQ
def sLost (T : Nat → Int32) (s : Nat) : Int32 := nI (wP T) - nI (bp T (sdf (wA T) (2 ^ s)))
theorem c_Routes_mostWarmWithout {n : Nat} (hn : 4 ≤ n) {h : xh} {t : Nat} {T : Nat → Int32} (R : Rt h t T) {s : Nat} (hs : s < stp T) {Q : Int32 → xh → Prop} (hQ : Q (nI (bp T (sdf (wA T) (2 ^ s)))) h) : xci (xMC n) 99 [.ref 150, .ref t, .int (nI s)] h Q := by
  obtain ⟨n, rfl⟩ := xsucc (show 1 ≤ n by omega)
  obtain ⟨s9, p512, fp⟩ := R.b
  have ok := R.ok
  have L := R.L
  have mb : ∀ V, mwk T (wA T) s V ≤ 180 := fun V => by
    induction V with
    | zero => exact Nat.zero_le _
    | succ V ih =>
      have := pp_le ok (V + 1)
      unfold mwk
      split <;> omega
  have eb : bp T (sdf (wA T) (2 ^ s)) = mwk T (wA T) s (2 ^ stp T - 1) := (mwk_e T (wA T) s _).symm
  rw [eb] at hQ
  have key : ∀ d V, V + 1 + d = 2 ^ stp T → K_Routes_mostWarmWithout n Q 5 [some (.ref 150), some (.ref t), some (.int (nI s)), some (.int (nI (mwk T (wA T) s V))), some (.int (nI (V + 1)))] [] h := by
    intro d
    induction d with
    | zero =>
      intro V hV
      have eV : V = 2 ^ stp T - 1 := by omega
      subst eV
      refine b_Routes_mostWarmWithout_5 ⟨L.s 150, ?_⟩
      rw [R.2.2.2.2.2.2.1]
      exact ⟨fun _ => hQ, fun z => absurd (nI_lt (by omega) (by omega)) z⟩
    | succ d ih =>
      intro V hV
      have hV' : V + 1 < 2 ^ stp T := by omega
      have ih' := ih (V + 1) (by omega)
      unfold mwk at ih'
      have m1 := mb V
      have pl := pp_le ok (V + 1)
      have fl : fw T (V + 1) ≤ 1000000 := fwk_far T (V + 1) (stp T)
      have skip : ¬ (sdf (V + 1) (wA T) = 0 ∧ (V + 1).testBit s = false ∧ mwk T (wA T) s V < pp T (V + 1) ∧ fw T (V + 1) < 1000000) → K_Routes_mostWarmWithout n Q 5 [some (.ref 150), some (.ref t), some (.int (nI s)), some (.int (nI (mwk T (wA T) s V))), some (.int (nI (V + 1) + 1))] [] h := fun c => by
        rw [if_neg c] at ih'
        rw [nI_1]
        exact ih'
      refine b_Routes_mostWarmWithout_5 ⟨L.s 150, ?_⟩
      rw [R.2.2.2.2.2.2.1]
      refine ⟨fun z => absurd z (nI_nlt (by omega) (by omega)), fun _ => c_Routes_isPeopled (by omega) R hV' ?_⟩
      by_cases c0 : sdf (V + 1) (ppl T (stp T)) = 0
      · rw [if_pos c0]
        refine ⟨fun z => absurd z (by decide), fun _ => c_Routes_has (by omega) (by omega) (by omega) ?_⟩
        cases cb : (V + 1).testBit s
        · refine ⟨fun z => absurd rfl z, fun _ => ⟨L.s 150, 154, L.r 150 5 154, L.x 154 (n := 512) (by omega), ?_⟩⟩
          rw [nI_clamp (by omega), (R.2.2.2.2.2.1 _ hV').1, nI_leI (by omega) (by omega)]
          refine ⟨fun z => skip (fun c => by omega), fun z => c_Routes_fewestMinutes (by omega) R hV' ⟨fun y => skip (fun c => nI_ge (b := 1000000) c.2.2.2 (by decide) y), fun y => ⟨L.s 150, 154, L.r 150 5 154, L.x 154 (n := 512) (by omega), ?_⟩⟩⟩
          have y' : fw T (V + 1) < 1000000 := by
            apply Nat.lt_of_not_le
            intro q
            exact y ((nI_leI (a := 1000000) (by decide) (by omega)).mpr q)
          rw [(R.2.2.2.2.2.1 _ hV').1]
          rw [if_pos ⟨c0, cb, by omega, y'⟩] at ih'
          rw [nI_1]
          exact ih'
        · exact ⟨fun _ => skip (fun c => by rw [cb] at c; exact absurd c.2.1 (by decide)), fun z => absurd z (by decide)⟩
      · rw [if_neg c0]
        exact ⟨fun _ => skip (fun c => c0 c.1), fun z => absurd rfl z⟩
  exact w_Routes_mostWarmWithout (key (2 ^ stp T - 1) 0 (by omega))
theorem c_So_lost {n : Nat} (hn : 7 ≤ n) {h : xh} (L : Lay h) {c : Nat} (W : TwC h c) (B : CRr h c) (z0 : Z3 h) {p q : Int32} {Q : Int32 → xh → Prop} (h1 : ∀ j s, j < c → p = nI j → s < stp (mT h j) → q = nI s → ∀ h', Fg P15 h h' → Lay h' → Z3 h' → CRr h' c → Q (sLost (mT h j) s) h') (h0 : ¬ (∃ j s, j < c ∧ p = nI j ∧ s < stp (mT h j) ∧ q = nI s) → Q (-1) h) : xci (xMC n) 177 [.ref 64, .int p, .int q] h Q := by
  obtain ⟨n, rfl⟩ := xsucc (show 1 ≤ n by omega)
  have c2 := W.2.1
  have uq : ∀ {j j' : Nat}, j < c → j' < c → nI j = nI j' → j = j' := fun a b e => (nI_eq (by omega) (by omega)).mp e
  refine w_So_lost ⟨L.s 64, 65, L.r 64 0 65, L.s 65, c_Told_townAt (by omega) L W.1 W.2.1 (fun j hj e => ⟨fun a2 ea => ?_, fun z => nomatch z⟩) (fun z => ⟨fun a2 ea => (nomatch ea), fun _ => h0 (fun ⟨j, s, hj, e, _⟩ => z j hj e)⟩)⟩
  cases ea
  have H := W.2.2 j hj
  refine ⟨H.s, c_Town_hasStop (by omega) H (fun s hs es => ⟨fun _ => ⟨L.s 64, 150, L.r 64 5 150, L.s 150, c_Routes_prepare (by omega) L H (by omega) (by omega) z0 B.hc (fun g F Lg zg rg Rg => ?_)⟩, fun y => absurd y (by decide)⟩) (fun z => ⟨fun y => absurd rfl y, fun _ => h0 (fun ⟨j', s, hj', e', hs, es⟩ => ?_)⟩)⟩
  · have hQ := h1 j s hj e hs es g F Lg zg (CRr.of hj F rg Rg)
    have Hg : Tn g (69 + 8 * j) (mT h j) := H.sm (fun c h1 h2 => F.2.2 c (fun z => by unfold P15 at z; omega))
    subst es
    refine ⟨Lg.s 64, 150, Lg.r 64 5 150, Lg.s 150, c_Routes_mostWarmWithout (by omega) (Rg.rt Lg Hg (by omega)) hs ?_⟩
    rw [Rg.2.2.2.1.1]
    exact hQ
  · have := uq hj hj' (e.symm.trans e')
    subst this
    exact z s hs es
def ctN (T : Nat → Int32) : Nat := if wL T = 0 then 0 else cbk T (roN T (wA T) (wP T) (wM T)) (ahN T (wA T) (wP T) (wM T)) (tkN T (wA T) (wP T) (wM T)) (2 ^ stp T - 1)
def sChat (T : Nat → Int32) (b : Int32) : Int32 := if b = 0 then nI (pp T (ctN T)) else nI (ctN T)
theorem ctN_lt (T : Nat → Int32) : ctN T < 2 ^ stp T := by
  have fp := Nat.two_pow_pos (stp T)
  unfold ctN
  split
  · exact fp
  · have := cbk_le T (roN T (wA T) (wP T) (wM T)) (ahN T (wA T) (wP T) (wM T)) (tkN T (wA T) (wP T) (wM T)) (2 ^ stp T - 1)
    omega
theorem c_Routes_stopsToTalkAt {n : Nat} (hn : 2 ≤ n) {h : xh} {t : Nat} {T : Nat → Int32} (R : Rr h T) (L : Lay h) (H : Tn h t T) {Q : Int32 → xh → Prop} (hQ : Q (nI (ctN T)) h) : xci (xMC n) 102 [.ref 150, .ref t] h Q := by
  obtain ⟨n, rfl⟩ := xsucc (show 1 ≤ n by omega)
  have ok := H.ok
  have s9 := stp9 ok
  have p512 : 2 ^ stp T ≤ 512 := Nat.le_trans (Nat.pow_le_pow_right (by decide) s9) (by decide)
  have fp := Nat.two_pow_pos (stp T)
  have w9 := wL9 ok
  have tb := tk_b ok (A := wA T) (p := wP T) (m := wM T)
  unfold ctN at hQ
  refine w_Routes_stopsToTalkAt ⟨L.s 150, ?_⟩
  rw [R.2.2.2.2.1, nI_e0 (by omega)]
  refine ⟨fun w0 => ?_, fun z => by rw [if_pos z] at hQ; exact hQ⟩
  rw [if_neg w0] at hQ
  have qw := fun i (hi : i ≤ wL T) => (wq_w ok (wB ok) hi).1.1
  have rl : roN T (wA T) (wP T) (wM T) < 2 ^ stp T := qw _ (Nat.le_refl _)
  have al : ahN T (wA T) (wP T) (wM T) < 2 ^ stp T := qw _ (Nat.sub_le _ _)
  have key : ∀ d V, V + 1 + d = 2 ^ stp T → ∀ o1 : Option Value, K_Routes_stopsToTalkAt n Q 69 [some (.ref 150), o1, some (.int (nI (roN T (wA T) (wP T) (wM T)))), some (.int (nI (ahN T (wA T) (wP T) (wM T)))), some (.int (nI (tkN T (wA T) (wP T) (wM T)))), some (.int (nI (cbk T (roN T (wA T) (wP T) (wM T)) (ahN T (wA T) (wP T) (wM T)) (tkN T (wA T) (wP T) (wM T)) V))), some (.int (nI (V + 1)))] [] h := by
    generalize roN T (wA T) (wP T) (wM T) = ro at *
    generalize ahN T (wA T) (wP T) (wM T) = ah at *
    generalize tkN T (wA T) (wP T) (wM T) = tk at *
    intro d
    induction d with
    | zero =>
      intro V hV o1
      have eV : V = 2 ^ stp T - 1 := by omega
      subst eV
      refine b_Routes_stopsToTalkAt_69 ⟨L.s 150, ?_⟩
      rw [R.1.2.2.2.1]
      exact ⟨fun _ => hQ, fun z => absurd (nI_lt (by omega) (by omega)) z⟩
    | succ d ih =>
      intro V hV o1
      have hV' : V + 1 < 2 ^ stp T := by omega
      have ih' := ih (V + 1) (by omega)
      unfold cbk at ih'
      have cl := cbk_le T ro ah tk V
      have skip : ¬ (sdf (V + 1) ro = 0 ∧ pcn 9 ((V + 1) &&& ah) ≤ tk ∧ pp T (cbk T ro ah tk V) < pp T (V + 1)) → ∀ o1 : Option Value, K_Routes_stopsToTalkAt n Q 69 [some (.ref 150), o1, some (.int (nI ro)), some (.int (nI ah)), some (.int (nI tk)), some (.int (nI (cbk T ro ah tk V))), some (.int (nI (V + 1) + 1))] [] h := fun c o1 => by
        rw [if_neg c] at ih'
        rw [nI_1]
        exact ih' o1
      have sl : sdf (V + 1) ro < 2 ^ stp T := sdf_lt hV'
      have al2 : (V + 1) &&& ah ≤ V + 1 := Nat.and_le_left
      have p9 := pcn_le 9 ((V + 1) &&& ah)
      refine b_Routes_stopsToTalkAt_69 ⟨L.s 150, ?_⟩
      rw [R.1.2.2.2.1, bt_sdf, nI_and, nI_e0 (by omega)]
      refine ⟨fun z => absurd z (nI_nlt (by omega) (by omega)), fun _ => ⟨fun z => skip (fun c => z c.1) _, fun z => c_Integer_bitCount (by omega) (by omega) ?_⟩⟩
      rw [nI_ltI (by omega) (by omega)]
      refine ⟨fun y => skip (fun c => by omega) _, fun y => ⟨L.s 150, 154, L.r 150 5 154, L.x 154 (n := 512) (by omega), L.x 154 (n := 512) (by omega), ?_⟩⟩
      have l1 := pp_le ok (V + 1)
      have l2 := pp_le ok (cbk T ro ah tk V)
      rw [nI_clamp (by omega), nI_clamp (by omega), (R.1.2.2.1 _ hV').1, (R.1.2.2.1 (cbk T ro ah tk V) (by omega)).1, nI_leI (by omega) (by omega)]
      refine ⟨fun x => skip (fun c => by omega) _, fun x => ?_⟩
      rw [if_pos ⟨z, by omega, by omega⟩] at ih'
      rw [nI_1]
      exact ih' _
  have k13 : ∀ d i, i + d = wL T → ∀ o4 o5 o6 : Option Value, K_Routes_stopsToTalkAt n Q 13 [some (.ref 150), some (.ref t), some (.int (nI (wq T (wA T) (wP T) (wM T) i).1)), some (.int (nI i)), o4, o5, o6] [] h := by
    intro d
    induction d with
    | zero =>
      intro i hi o4 o5 o6
      have : i = wL T := by omega
      subst this
      refine b_Routes_stopsToTalkAt_13 ⟨L.s 150, ?_⟩
      rw [R.2.2.2.2.1, show nI (wL T) - (1 : Int32) = nI (wL T - 1) from pk_sub (b := 1) (by omega), nI_clamp (by omega)]
      refine ⟨fun _ => ⟨158, L.r 150 9 158, L.x 158 (n := 9) (by omega), c_Routes_talksAheadOfLast (by omega) R L H (by omega) ?_⟩, fun z => absurd (Int32.le_refl _) z⟩
      obtain ⟨w, ew⟩ : ∃ w, wL T = w + 1 := ⟨wL T - 1, by omega⟩
      have hk := R.2.2.2.2.2 (wL T - 1) (by omega)
      have k1 := (wk_w ok (wB ok) (i := wL T - 1) (by show wL T - 1 < wL T; omega)).1
      have s2 := (wq_st ok (wB ok) (i := wL T - 1) (by show wL T - 1 < wL T; omega)).2
      have k1' : wK T (wL T - 1) < stp T := k1
      rw [hk, bt_clr _ (by omega)]
      have er : sdf (wq T (wA T) (wP T) (wM T) (wL T)).1 (2 ^ wK T (wL T - 1)) = ahN T (wA T) (wP T) (wM T) := by
        have e1 : (wq T (wA T) (wP T) (wM T) (wL T)).1 = (wq T (wA T) (wP T) (wM T) (wL T - 1)).1 ||| 2 ^ wK T (wL T - 1) := by
          rw [show wL T = (wL T - 1) + 1 by omega, wq_s]; rfl
        rw [e1]; exact sdf_orb s2
      rw [er]
      exact key (2 ^ stp T - 1) 0 (by omega) _
    | succ d ih =>
      intro i hi o4 o5 o6
      have ih' := ih (i + 1) (by omega)
      rw [wq_s] at ih'
      have k1 : wK T i < stp T := (wk_w ok (wB ok) (i := i) (by show i < wL T; omega)).1
      refine b_Routes_stopsToTalkAt_13 ⟨L.s 150, ?_⟩
      rw [R.2.2.2.2.1]
      refine ⟨fun z => absurd z (nI_ge (by omega) (by omega)), fun _ => ⟨158, L.r 150 9 158, L.x 158 (n := 9) (by omega), ?_⟩⟩
      rw [nI_clamp (by omega), R.2.2.2.2.2 i (by omega), bt_set _ (by omega), nI_1]
      exact ih' _ _ _
  exact k13 (wL T) 0 (by omega) _ _ _
theorem c_So_chat {n : Nat} (hn : 7 ≤ n) {h : xh} (L : Lay h) {c : Nat} (W : TwC h c) (B : CRr h c) (z0 : Z3 h) {p b : Int32} {Q : Int32 → xh → Prop} (h1 : ∀ j, j < c → p = nI j → ∀ h', Fg P15 h h' → Lay h' → Z3 h' → CRr h' c → Q (sChat (mT h j) b) h') (h0 : (∀ j, j < c → ¬ p = nI j) → Q (-1) h) : xci (xMC n) 181 [.ref 64, .int p, .int b] h Q := by
  obtain ⟨n, rfl⟩ := xsucc (show 1 ≤ n by omega)
  have c2 := W.2.1
  refine w_So_chat ⟨L.s 64, 65, L.r 64 0 65, L.s 65, c_Told_townAt (by omega) L W.1 W.2.1 (fun j hj e => ⟨fun a2 ea => ?_, fun z => nomatch z⟩) (fun z => ⟨fun a2 ea => (nomatch ea), fun _ => h0 z⟩)⟩
  cases ea
  have H := W.2.2 j hj
  refine ⟨L.s 64, 150, L.r 64 5 150, L.s 150, c_Routes_prepare (by omega) L H (by omega) (by omega) z0 B.hc (fun g F Lg zg rg Rg => ?_)⟩
  have hQ := h1 j hj e g F Lg zg (CRr.of hj F rg Rg)
  have Hg : Tn g (69 + 8 * j) (mT h j) := H.sm (fun c h1 h2 => F.2.2 c (fun z => by unfold P15 at z; omega))
  generalize mT h j = T at *
  have s9 := stp9 Hg.ok
  have p512 : 2 ^ stp T ≤ 512 := Nat.le_trans (Nat.pow_le_pow_right (by decide) s9) (by decide)
  have cl := ctN_lt T
  unfold sChat at hQ
  refine ⟨Lg.s 64, 150, Lg.r 64 5 150, Lg.s 150, c_Routes_stopsToTalkAt (by omega) Rg Lg Hg ⟨fun z => ⟨Lg.s 64, 150, Lg.r 64 5 150, Lg.s 150, 154, Lg.r 150 5 154, Lg.x 154 (n := 512) (by omega), ?_⟩, fun z => ?_⟩⟩
  · rw [if_pos z] at hQ
    rw [nI_clamp (by omega), (Rg.1.2.2.1 _ cl).1]
    exact hQ
  · rwa [if_neg z] at hQ
