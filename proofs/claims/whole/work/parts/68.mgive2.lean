/-! give, mean, tells in the reference: the calls -/
theorem c_Mo_give {n : Nat} (hn : 6 ≤ n) {h : xh} (L : Lay h) {c : Nat} (W : TwM h c) {p st q d : Int32} {Q : Int32 → xh → Prop} (h1 : ∀ j k so dd, j < c → p = nI j → k < stp (mT h j) → st = nI k → so < 100 → q = nI so → dd ≤ 20 → d = nI dd → mayC (mT h j) st d → ∀ h', Fr PM h h' → Q (nI (gvN (mT h j) k so dd)) h') (h0 : ¬ (∃ j, j < c ∧ p = nI j ∧ (∃ so, so < 100 ∧ q = nI so) ∧ mayC (mT h j) st d) → ∀ h', Fr PM h h' → Q (-1) h') : xci (xMC n) 272 [.ref 166, .int p, .int st, .int q, .int d] h Q := by
  obtain ⟨n, rfl⟩ := xsucc (show 1 ≤ n by omega)
  have c2 := W.2.1
  have hs := L.s 166 (p := (11, 0))
  have F : Fr PM h (xsI h 166 0 0) := Fr.rf.wI mP
  obtain ⟨W', eT⟩ := W.fr F
  have uq : ∀ {j j' : Nat}, j < c → j' < c → nI j = nI j' → j = j' := fun a b e => (nI_eq (by omega) (by omega)).mp e
  refine w_Mo_give ⟨⟨by decide, hs⟩, b_Mo_give_5 (c_Mo_in (by omega) (fun z => ⟨fun y => absurd y (by decide), fun _ => ⟨hs, ?_⟩⟩) (fun z => ⟨fun _ => h0 (fun ⟨_, _, _, ⟨so, hs, es⟩, _⟩ => z ((nb (a := 0) (b := 99) rfl rfl (by decide) (by decide)).mpr ⟨so, by omega, by omega, es⟩)) _ F, fun y => absurd rfl y⟩))⟩
  obtain ⟨so, _, hso, es⟩ := (nb (a := 0) (b := 99) rfl rfl (by decide) (by decide)).mp z
  subst es
  refine c_Mo_hand (by omega) (F.lay L) W' (fun j hj e h' F' M => ⟨fun y => absurd y (by decide), fun _ => ⟨M.L.s 166, ?_⟩⟩) (fun z h' F' => ⟨fun _ => h0 (fun ⟨j, hj, e, _⟩ => z j hj e) h' (F.tr F'), fun y => absurd rfl y⟩)
  rw [eT] at M
  subst e
  refine c_Mo_isStop (by omega) M (fun k hk ek => ⟨fun y => absurd y (by decide), fun _ => ⟨M.L.s 166, ?_⟩⟩) (fun z => ⟨fun _ => h0 (fun ⟨j', hj', e', _, m⟩ => ?_) h' (F.tr F'), fun y => absurd rfl y⟩)
  · subst ek
    refine c_Mo_mayCome (by omega) M hk (fun z => ⟨fun _ => ⟨M.L.s 166, ?_⟩, fun y => absurd y (by decide)⟩) (fun z => ⟨fun y => absurd rfl y, fun _ => h0 (fun ⟨j', hj', e', _, m⟩ => ?_) h' (F.tr F')⟩)
    · obtain ⟨k', dd, hk', ek, ed, hd⟩ := mayC_n M.ok z
      have hq := h1 j k so dd hj rfl hk rfl (by omega) rfl hd ed z
      subst ed
      exact c_Mo_findCounts (by omega) M (fun g F2 M2 B => ⟨M2.L.s 166, c_Mo_gives (by omega) M2 hk (B.mo (by omega)) (by omega) hd (hq g ((F.tr F').tr F2))⟩)
    · have := uq hj hj' e'
      subst this
      exact z m
  · have := uq hj hj' e'
    subst this
    obtain ⟨k, hk, ek, _⟩ := m
    exact z k hk ek
theorem c_Mo_mean {n : Nat} (hn : 6 ≤ n) {h : xh} (L : Lay h) {c : Nat} (W : TwM h c) {p st q un : Int32} {Q : Int64 → xh → Prop} (h1 : ∀ j k so, j < c → p = nI j → k ≤ stp (mT h j) → st = nI k → so < 100 → q = nI so → ∀ h', Fr PM h h' → Q (lN (gpt (cn (mT h j) (stp (mT h j) - k) so) (wd (mT h j) (stp (mT h j) - k)) un)) h') (h0 : ¬ (∃ j, j < c ∧ p = nI j ∧ (∃ so, so < 100 ∧ q = nI so) ∧ ∃ k, k ≤ stp (mT h j) ∧ st = nI k) → ∀ h', Fr PM h h' → Q (-1) h') : xcj (xMC n) 278 [.ref 166, .int p, .int st, .int q, .int un] h Q := by
  obtain ⟨n, rfl⟩ := xsucc (show 1 ≤ n by omega)
  have c2 := W.2.1
  have hs := L.s 166 (p := (11, 0))
  have F : Fr PM h (xsI h 166 0 0) := Fr.rf.wI mP
  obtain ⟨W', eT⟩ := W.fr F
  have uq : ∀ {j j' : Nat}, j < c → j' < c → nI j = nI j' → j = j' := fun a b e => (nI_eq (by omega) (by omega)).mp e
  refine w_Mo_mean ⟨⟨by decide, hs⟩, b_Mo_mean_5 (c_Mo_in (by omega) (fun z => ⟨fun y => absurd y (by decide), fun _ => ⟨hs, ?_⟩⟩) (fun z => ⟨fun _ => h0 (fun ⟨_, _, _, ⟨so, hs, es⟩, _⟩ => z ((nb (a := 0) (b := 99) rfl rfl (by decide) (by decide)).mpr ⟨so, by omega, by omega, es⟩)) _ F, fun y => absurd rfl y⟩))⟩
  obtain ⟨so, _, hso, es⟩ := (nb (a := 0) (b := 99) rfl rfl (by decide) (by decide)).mp z
  subst es
  refine c_Mo_hand (by omega) (F.lay L) W' (fun j hj e h' F' M => ⟨fun y => absurd y (by decide), fun _ => ⟨M.L.s 166, ?_⟩⟩) (fun z h' F' => ⟨fun _ => h0 (fun ⟨j, hj, e, _⟩ => z j hj e) h' (F.tr F'), fun y => absurd rfl y⟩)
  rw [eT] at M
  subst e
  have s9 := stp9 M.ok
  rw [M.sp]
  refine c_Mo_in (by omega) (fun z => ⟨fun _ => ⟨M.L.s 166, ?_⟩, fun y => absurd y (by decide)⟩) (fun z => ⟨fun y => absurd rfl y, fun _ => h0 (fun ⟨j', hj', e', _, ⟨k, hk, ek⟩⟩ => ?_) h' (F.tr F')⟩)
  · obtain ⟨k, _, hk, ek⟩ := (nb (a := 0) rfl rfl (by omega) (by omega)).mp z
    have hq := h1 j k so hj rfl hk ek (by omega) rfl
    subst ek
    refine c_Mo_findCounts (by omega) M (fun g F2 M2 B => ⟨M2.L.s 166, 182, M2.L.r 166 39 182, ?_⟩)
    rw [show (100 : Int32) * nI k = nI (100 * k) from pk_mul 100 _, nI_add, nI_clamp (by omega), nI_clamp (by omega), B.2 k so (by omega) hk (by omega)]
    refine ⟨M2.L.x 182 (n := 1000) (by omega), 183, M2.L.r 166 40 183, M2.L.x 183 (n := 10) (by omega), ?_⟩
    rw [B.1 k (by omega) hk]
    have b1 := cn_b M.ok (d := stp (mT h j) - k) (by omega) so
    have b2 := wd_b M.ok (d := stp (mT h j) - k) (by omega)
    have b3 := (wd_le M.ok (stp (mT h j) - k) (by omega)).2
    exact c_Mo_part (by omega) (by omega) (by omega) (by omega) (hq g ((F.tr F').tr F2))
  · have := uq hj hj' e'
    subst this
    exact z ((nb (a := 0) rfl rfl (by omega) (by omega)).mpr ⟨k, by omega, hk, ek⟩)
theorem c_Mo_tells {n : Nat} (hn : 7 ≤ n) {h : xh} (L : Lay h) {c : Nat} (W : TwM h c) {p q d un : Int32} {Q : Int64 → xh → Prop} (h1 : ∀ j so dd, j < c → p = nI j → 0 < stp (mT h j) → so < 100 → q = nI so → dd ≤ 20 → d = nI dd → mayC (mT h j) 0 d → ∀ h', Fr PM h h' → Q (lN (gpt (tlN (mT h j) so dd) (wd (mT h j) (stp (mT h j) - 1)) un)) h') (h0 : ¬ (∃ j, j < c ∧ p = nI j ∧ (∃ so, so < 100 ∧ q = nI so) ∧ mayC (mT h j) 0 d) → ∀ h', Fr PM h h' → Q (-1) h') : xcj (xMC n) 336 [.ref 166, .int p, .int q, .int d, .int un] h Q := by
  obtain ⟨n, rfl⟩ := xsucc (show 1 ≤ n by omega)
  have c2 := W.2.1
  have hs := L.s 166 (p := (11, 0))
  have F : Fr PM h (xsI h 166 0 0) := Fr.rf.wI mP
  obtain ⟨W', eT⟩ := W.fr F
  have uq : ∀ {j j' : Nat}, j < c → j' < c → nI j = nI j' → j = j' := fun a b e => (nI_eq (by omega) (by omega)).mp e
  refine w_Mo_tells ⟨⟨by decide, hs⟩, b_Mo_tells_5 (c_Mo_in (by omega) (fun z => ⟨fun y => absurd y (by decide), fun _ => ⟨hs, ?_⟩⟩) (fun z => ⟨fun _ => h0 (fun ⟨_, _, _, ⟨so, hs, es⟩, _⟩ => z ((nb (a := 0) (b := 99) rfl rfl (by decide) (by decide)).mpr ⟨so, by omega, by omega, es⟩)) _ F, fun y => absurd rfl y⟩))⟩
  obtain ⟨so, _, hso, es⟩ := (nb (a := 0) (b := 99) rfl rfl (by decide) (by decide)).mp z
  subst es
  refine c_Mo_hand (by omega) (F.lay L) W' (fun j hj e h' F' M => ⟨fun y => absurd y (by decide), fun _ => ⟨M.L.s 166, ?_⟩⟩) (fun z h' F' => ⟨fun _ => h0 (fun ⟨j, hj, e, _⟩ => z j hj e) h' (F.tr F'), fun y => absurd rfl y⟩)
  rw [eT] at M
  subst e
  have s9 := stp9 M.ok
  rw [M.sp]
  refine ⟨fun z => h0 (fun ⟨j', hj', e', _, m⟩ => ?_) h' (F.tr F'), fun z => ?_⟩
  · have := uq hj hj' e'
    subst this
    have z0 := (nI_eq (b := 0) (by omega) (by decide)).mp z
    obtain ⟨k, hk, _⟩ := m
    omega
  · have hk : 0 < stp (mT h j) := Nat.pos_of_ne_zero (fun e => z (by rw [e]; rfl))
    refine c_Mo_mayCome (k := 0) (by omega) M hk (fun z => ⟨fun _ => ⟨M.L.s 166, ?_⟩, fun y => absurd y (by decide)⟩) (fun z => ⟨fun y => absurd rfl y, fun _ => h0 (fun ⟨j', hj', e', _, m⟩ => ?_) h' (F.tr F')⟩)
    · obtain ⟨k', dd, hk', ek, ed, hd⟩ := mayC_n M.ok z
      have hq := h1 j so dd hj rfl hk (by omega) rfl hd ed z
      subst ed
      refine c_Mo_findCounts (by omega) M (fun g F2 M2 B => ⟨M2.L.s 166, c_Mo_gives (s := 0) (by omega) M2 hk (B.mo (by omega)) (by omega) hd ⟨M2.L.s 166, ?_⟩⟩)
      have al : gvN (mT h j) 0 so dd ≤ min dd so := agm_le _ _
      refine c_Mo_countsBy (s := 0) (by omega) M2 hk (B.mo (by omega)) (by omega) hd (by omega) (by omega) ⟨M2.L.s 166, 183, M2.L.r 166 40 183, M2.L.x 183 (i := 1) (n := 10) (by omega), ?_⟩
      rw [show (1 : Int32).toNatClampNeg = 1 from rfl, B.1 1 (by omega) (by omega)]
      have b2 := wd_b M.ok (d := stp (mT h j) - 1) (by omega)
      have b3 := (wd_le M.ok (stp (mT h j) - 1) (by omega)).2
      exact c_Mo_part (by omega) (cbN_b M.ok (by omega) hd) (by omega) (by omega) (hq g ((F.tr F').tr F2))
    · have := uq hj hj' e'
      subst this
      exact z m
