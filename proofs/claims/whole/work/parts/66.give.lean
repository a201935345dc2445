/-! give, mean, tells of the class -/
def CB (h : xh) (c : Nat) : Prop := ∀ a, xR h 146 0 = some a → ∃ k, k < c ∧ a = 69 + 8 * k ∧ Bo h (mT h k)
theorem CB.hc {h : xh} {c j : Nat} (B : CB h c) : ∀ a, xR h 146 0 = some a → 64 ≤ a ∧ (a = 69 + 8 * j → Bo h (mT h j)) := fun a ea => by
  obtain ⟨k, hk, e, b⟩ := B a ea
  refine ⟨by omega, fun z => ?_⟩
  have : k = j := by omega
  subst this
  exact b
theorem CB.of {h h' : xh} {c j : Nat} (hj : j < c) (F : Fg PB h h') (r : xR h' 146 0 = some (69 + 8 * j)) (b : Bo h' (mT h j)) : CB h' c := fun a ea => by
  rw [r] at ea
  cases ea
  refine ⟨j, hj, rfl, ?_⟩
  have e : mT h' j = mT h j := by
    unfold mT
    rw [(F.2.2 172 (fun z => by unfold PB at z; omega)).2.2.1]
  rw [e]
  exact b
theorem c_So_isSoup {n : Nat} (hn : 1 ≤ n) {h : xh} {p : Int32} {Q : Int32 → xh → Prop} (h1 : ∀ so, so < 100 → p = nI so → Q 1 h) (h0 : (∀ so, so < 100 → ¬ p = nI so) → Q 0 h) : xci (xMC n) 169 [.int p] h Q := by
  obtain ⟨n, rfl⟩ := xsucc hn
  refine w_So_isSoup ⟨fun z => h0 (fun so hs e => ?_), fun z => ⟨fun y => h0 (fun so hs e => ?_), fun y => ?_⟩⟩
  · subst e; exact nI_pos (by omega) z
  · subst e; exact nI_ge (b := 100) hs (by decide) y
  · obtain ⟨j, hj, e⟩ := nI_of z
    subst e
    exact h1 j (Nat.lt_of_not_le (fun q => y (nI_le (a := 100) q hj))) rfl
theorem mayC_n {T : Nat → Int32} (ok : TnOK T) {st d : Int32} (h : mayC T st d) : ∃ k dd, k < stp T ∧ st = nI k ∧ d = nI dd ∧ dd ≤ 20 := by
  obtain ⟨k, hk, e, h1, h2⟩ := h
  obtain ⟨elo, ehi, lh, h20⟩ := ok.lh hk
  rw [elo] at h1
  rw [ehi] at h2
  have d0 : ¬ d < 0 := fun z => h1 (Int32.lt_of_lt_of_le z (nI_pos' (by omega)))
  obtain ⟨dd, hd, ed⟩ := nI_of d0
  subst ed
  rw [nI_ltI (by omega) hd] at h2
  exact ⟨k, dd, hk, e, rfl, by omega⟩
theorem c_So_give {n : Nat} (hn : 6 ≤ n) {h : xh} (L : Lay h) {c : Nat} (W : TwC h c) (B : CB h c) {p st q d : Int32} {Q : Int32 → xh → Prop} (h1 : ∀ j k so dd, j < c → p = nI j → k < stp (mT h j) → st = nI k → so < 100 → q = nI so → dd ≤ 20 → d = nI dd → mayC (mT h j) st d → ∀ h', Fg PB h h' → Lay h' → CB h' c → Q (nI (gvN (mT h j) k so dd)) h') (h0 : ¬ (∃ j, j < c ∧ p = nI j ∧ (∃ so, so < 100 ∧ q = nI so) ∧ mayC (mT h j) st d) → Q (-1) h) : xci (xMC n) 168 [.ref 64, .int p, .int st, .int q, .int d] h Q := by
  obtain ⟨n, rfl⟩ := xsucc (show 1 ≤ n by omega)
  have c2 := W.2.1
  have uq : ∀ {j j' : Nat}, j < c → j' < c → nI j = nI j' → j = j' := fun a b e => (nI_eq (by omega) (by omega)).mp e
  refine w_So_give ⟨L.s 64, 65, L.r 64 0 65, L.s 65, c_Told_townAt (by omega) L W.1 W.2.1 (fun j hj e => ⟨fun a2 ea => ?_, fun z => nomatch z⟩) (fun z => ⟨fun a2 ea => (nomatch ea), fun _ => h0 (fun ⟨j, hj, e, _⟩ => z j hj e)⟩)⟩
  cases ea
  subst e
  have H := W.2.2 j hj
  refine c_So_isSoup (by omega) (fun so hs es => ⟨fun y => absurd y (by decide), fun _ => ⟨H.s, c_Town_mayCome (by omega) H (fun z => ⟨fun _ => ⟨L.s 64, 146, L.r 64 4 146, L.s 146, ?_⟩, fun y => absurd y (by decide)⟩) (fun z => ⟨fun y => absurd rfl y, fun _ => h0 (fun ⟨j', hj', e', _, m⟩ => ?_)⟩)⟩⟩) (fun z => ⟨fun _ => h0 (fun ⟨_, _, _, ⟨so, hs, es⟩, _⟩ => z so hs es), fun y => absurd rfl y⟩)
  · obtain ⟨k, dd, hk, ek, ed, hd⟩ := mayC_n H.ok z
    have hq := h1 j k so dd hj rfl hk ek hs es hd ed z
    subst ek
    subst es
    subst ed
    exact c_Bowls_bestGift (by omega) L H (by omega) (by omega) B.hc hk hs hd (fun g F Lg rg Bg => hq g F Lg (CB.of hj F rg Bg))
  · have := uq hj hj' e'
    subst this
    exact z m
theorem c_So_mean {n : Nat} (hn : 6 ≤ n) {h : xh} (L : Lay h) {c : Nat} (W : TwC h c) (B : CB h c) {p st q un : Int32} {Q : Int64 → xh → Prop} (h1 : ∀ j k so, j < c → p = nI j → k ≤ stp (mT h j) → st = nI k → so < 100 → q = nI so → ∀ h', Fg PB h h' → Lay h' → CB h' c → Q (lN (gpt (cn (mT h j) (stp (mT h j) - k) so) (wd (mT h j) (stp (mT h j) - k)) un)) h') (h0 : ¬ (∃ j, j < c ∧ p = nI j ∧ (∃ so, so < 100 ∧ q = nI so) ∧ ∃ k, k ≤ stp (mT h j) ∧ st = nI k) → Q (-1) h) : xcj (xMC n) 170 [.ref 64, .int p, .int st, .int q, .int un] h Q := by
  obtain ⟨n, rfl⟩ := xsucc (show 1 ≤ n by omega)
  have c2 := W.2.1
  have uq : ∀ {j j' : Nat}, j < c → j' < c → nI j = nI j' → j = j' := fun a b e => (nI_eq (by omega) (by omega)).mp e
  refine w_So_mean ⟨L.s 64, 65, L.r 64 0 65, L.s 65, c_Told_townAt (by omega) L W.1 W.2.1 (fun j hj e => ⟨fun a2 ea => ?_, fun z => nomatch z⟩) (fun z => ⟨fun a2 ea => (nomatch ea), fun _ => h0 (fun ⟨j, hj, e, _⟩ => z j hj e)⟩)⟩
  cases ea
  subst e
  have H := W.2.2 j hj
  have s9 := stp9 H.ok
  refine c_So_isSoup (by omega) (fun so hs es => ⟨fun y => absurd y (by decide), fun _ => ⟨fun z => h0 (fun ⟨j', hj', ej', _, ⟨k, hk, ek⟩⟩ => ?_), fun z => ⟨H.s, ?_⟩⟩⟩) (fun z => ⟨fun _ => h0 (fun ⟨_, _, _, ⟨so, hs, es⟩, _⟩ => z so hs es), fun y => absurd rfl y⟩)
  · have := uq hj hj' ej'
    subst this
    subst ek
    exact nI_pos (by omega) z
  · obtain ⟨k, hk, ek⟩ := nI_of z
    subst ek
    subst es
    rw [H.i 6, H.ok.s6.1, nI_leI hk (by omega)]
    refine ⟨fun y => ⟨L.s 64, 146, L.r 64 4 146, L.s 146, ?_⟩, fun y => h0 (fun ⟨j', hj', ej', _, ⟨k', hk', ek'⟩⟩ => ?_)⟩
    · have hq := h1 j k so hj rfl y rfl hs rfl
      obtain ⟨n, rfl⟩ := xsucc (show 1 ≤ n by omega)
      refine w_Bowls_meanFrom ⟨L.s 146, c_Bowls_prepare (by omega) L H (by omega) (by omega) B.hc (fun g F Lg rg Bg => ⟨Lg.s 146, 147, Lg.r 146 1 147, ?_⟩)⟩
      rw [show nI k * (100 : Int32) = nI (k * 100) from pk_mul _ 100, nI_add, nI_clamp (by omega), nI_clamp (by omega), Bg.2 k so (by omega) y hs]
      refine ⟨Lg.x 147 (n := 1000) (by omega), 148, Lg.r 146 2 148, Lg.x 148 (n := 10) (by omega), ?_⟩
      rw [Bg.1 k (by omega) y]
      have b1 := cn_b H.ok (d := stp (mT h j) - k) (by omega) so
      have b2 := wd_b H.ok (d := stp (mT h j) - k) (by omega)
      exact c_Fraction_part (by omega) (by omega) (by omega) (hq g F Lg (CB.of hj F rg Bg))
    · have := uq hj hj' ej'
      subst this
      have := (nI_eq hk (by omega)).mp ek'
      omega
def tlN (T : Nat → Int32) (so dd : Nat) : Nat := cbN T (stp T - 1) 0 so dd (gvN T 0 so dd) (cn T (stp T - 1))
theorem c_So_tells {n : Nat} (hn : 7 ≤ n) {h : xh} (L : Lay h) {c : Nat} (W : TwC h c) (B : CB h c) {p q d un : Int32} {Q : Int64 → xh → Prop} (h1 : ∀ j so dd, j < c → p = nI j → 0 < stp (mT h j) → so < 100 → q = nI so → dd ≤ 20 → d = nI dd → mayC (mT h j) 0 d → ∀ h', Fg PB h h' → Lay h' → CB h' c → Q (lN (gpt (tlN (mT h j) so dd) (wd (mT h j) (stp (mT h j) - 1)) un)) h') (h0 : ¬ (∃ j, j < c ∧ p = nI j ∧ (∃ so, so < 100 ∧ q = nI so) ∧ mayC (mT h j) 0 d) → Q (-1) h) : xcj (xMC n) 172 [.ref 64, .int p, .int q, .int d, .int un] h Q := by
  obtain ⟨n, rfl⟩ := xsucc (show 1 ≤ n by omega)
  have c2 := W.2.1
  have uq : ∀ {j j' : Nat}, j < c → j' < c → nI j = nI j' → j = j' := fun a b e => (nI_eq (by omega) (by omega)).mp e
  refine w_So_tells ⟨L.s 64, 65, L.r 64 0 65, L.s 65, c_Told_townAt (by omega) L W.1 W.2.1 (fun j hj e => ⟨fun a2 ea => ?_, fun z => nomatch z⟩) (fun z => ⟨fun a2 ea => (nomatch ea), fun _ => h0 (fun ⟨j, hj, e, _⟩ => z j hj e)⟩)⟩
  cases ea
  subst e
  have H := W.2.2 j hj
  have s9 := stp9 H.ok
  refine c_So_isSoup (by omega) (fun so hs es => ⟨fun y => absurd y (by decide), fun _ => ⟨H.s, c_Town_mayCome (by omega) H (fun z => ⟨fun _ => ⟨L.s 64, 146, L.r 64 4 146, L.s 146, ?_⟩, fun y => absurd y (by decide)⟩) (fun z => ⟨fun y => absurd rfl y, fun _ => h0 (fun ⟨j', hj', e', _, m⟩ => ?_)⟩)⟩⟩) (fun z => ⟨fun _ => h0 (fun ⟨_, _, _, ⟨so, hs, es⟩, _⟩ => z so hs es), fun y => absurd rfl y⟩)
  · obtain ⟨k, dd, hk, ek, ed, hd⟩ := mayC_n H.ok z
    have k0 : k = 0 := ((nI_eq (a := 0) (by decide) (by omega)).mp ek).symm
    subst k0
    have hq := h1 j so dd hj rfl hk hs es hd ed z
    subst es
    subst ed
    obtain ⟨n, rfl⟩ := xsucc (show 1 ≤ n by omega)
    refine w_Bowls_meanOnceTold ⟨L.s 146, c_Bowls_bestGift (by omega) L H (by omega) (by omega) B.hc (s := 0) hk hs hd (fun g F Lg rg Bg => ⟨Lg.s 146, ?_⟩)⟩
    have Hg : Tn g (69 + 8 * j) (mT h j) := H.sm (fun c h1 h2 => F.2.2 c (fun z => by unfold PB at z; omega))
    have al : gvN (mT h j) 0 so dd ≤ min dd so := agm_le _ _
    refine c_Bowls_countsAfter (by omega) Lg Hg (s := 0) hk (Bg.mo (by omega)) hs hd (by omega) (by omega) ⟨Lg.s 146, 148, Lg.r 146 2 148, Lg.x 148 (i := 1) (n := 10) (by omega), ?_⟩
    rw [show (1 : Int32).toNatClampNeg = 1 from rfl, Bg.1 1 (by omega) (by omega)]
    have b2 := wd_b H.ok (d := stp (mT h j) - 1) (by omega)
    exact c_Fraction_part (by omega) (cbN_b H.ok (by omega) hd) (by omega) (hq g F Lg (CB.of hj F rg Bg))
  · have := uq hj hj' e'
    subst this
    exact z m
