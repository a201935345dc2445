/-! lack: the calls -/
theorem c_So_lack {n : Nat} (hn : 6 ≤ n) {h : xh} (L : Lay h) {c : Nat} (W : TwC h c) (B : CB h c) {p q un : Int32} {Q : Int64 → xh → Prop} (h1 : ∀ j so, j < c → p = nI j → so < 100 → q = nI so → ∀ h', Fg PB h h' → Lay h' → CB h' c → Q (lN (gpt (lkU (mT h j) so) (wd (mT h j) (stp (mT h j))) un)) h') (h0 : ¬ (∃ j, j < c ∧ p = nI j ∧ ∃ so, so < 100 ∧ q = nI so) → Q (-1) h) : xcj (xMC n) 173 [.ref 64, .int p, .int q, .int un] h Q := by
  obtain ⟨n, rfl⟩ := xsucc (show 1 ≤ n by omega)
  have c2 := W.2.1
  refine w_So_lack ⟨L.s 64, 65, L.r 64 0 65, L.s 65, c_Told_townAt (by omega) L W.1 W.2.1 (fun j hj e => ⟨fun a2 ea => ?_, fun z => nomatch z⟩) (fun z => ⟨fun a2 ea => (nomatch ea), fun _ => h0 (fun ⟨j, hj, e, _⟩ => z j hj e)⟩)⟩
  cases ea
  have H := W.2.2 j hj
  refine c_So_isSoup (by omega) (fun so hs es => ⟨fun _ => ⟨L.s 64, 146, L.r 64 4 146, L.s 146, ?_⟩, fun y => absurd y (by decide)⟩) (fun z => ⟨fun y => absurd rfl y, fun _ => h0 (fun ⟨_, _, _, ⟨so, hs, es⟩⟩ => z so hs es)⟩)
  have hq := h1 j so hj e hs es
  subst es
  exact c_Bowls_chanceOfMore (by omega) L H (by omega) (by omega) B.hc hs (fun g F Lg rg Bg => hq g F Lg (CB.of hj F rg Bg))
theorem c_Mo_lack {n : Nat} (hn : 5 ≤ n) {h : xh} (L : Lay h) {c : Nat} (W : TwM h c) {p q un : Int32} {Q : Int64 → xh → Prop} (h1 : ∀ j so, j < c → p = nI j → so < 100 → q = nI so → ∀ h', Fr PM h h' → Q (lN (gpt (lkU (mT h j) so) (wd (mT h j) (stp (mT h j))) un)) h') (h0 : ¬ (∃ j, j < c ∧ p = nI j ∧ ∃ so, so < 100 ∧ q = nI so) → ∀ h', Fr PM h h' → Q (-1) h') : xcj (xMC n) 342 [.ref 166, .int p, .int q, .int un] h Q := by
  obtain ⟨n, rfl⟩ := xsucc (show 1 ≤ n by omega)
  have c2 := W.2.1
  have hs := L.s 166 (p := (11, 0))
  have F0 : Fr PM h (xsI h 166 0 0) := Fr.rf.wI mP
  obtain ⟨W', eT⟩ := W.fr F0
  refine w_Mo_lack ⟨⟨by decide, hs⟩, b_Mo_lack_5 (c_Mo_in (by omega) (fun z => ⟨fun y => absurd y (by decide), fun _ => ⟨hs, ?_⟩⟩) (fun z => ⟨fun _ => h0 (fun ⟨_, _, _, ⟨so, hs, es⟩⟩ => z ((nb (a := 0) (b := 99) rfl rfl (by decide) (by decide)).mpr ⟨so, by omega, by omega, es⟩)) _ F0, fun y => absurd rfl y⟩))⟩
  obtain ⟨so, _, hso, es⟩ := (nb (a := 0) (b := 99) rfl rfl (by decide) (by decide)).mp z
  refine c_Mo_hand (by omega) (F0.lay L) W' (fun j hj e h' F' M => ⟨fun _ => ?_, fun y => absurd y (by decide)⟩) (fun z h' F' => ⟨fun y => absurd rfl y, fun _ => h0 (fun ⟨j, hj, e, _⟩ => z j hj e) h' (F0.tr F')⟩)
  rw [eT] at M
  have hQ := h1 j so hj e (by omega) es
  subst es
  generalize mT h j = T at M hQ
  have F1 := F0.tr F'
  have s9 := stp9 M.ok
  have ok := M.ok
  clear h1 h0 W' eT
  have k230 : ∀ (g : xh), Fr PM h g → Mt g T → (∀ x, x < 362 → xL g 189 x = lN (lk T (stp T) x)) → ∀ o1 o2 o9 o10 : Option Value, ∀ d x, x + d = 362 → so + 1 ≤ x → K_Mo_lack n Q 230 [some (.ref 166), o1, o2, some (.int un), some (.long (lN (pd T (stp T)))), none, some (.long (lN (sumN (fun i => lk T (stp T) (so + 1 + i)) (x - (so + 1))))), none, some (.int (nI x)), o9, o10] [] g := by
    intro g F Mg R o1 o2 o9 o10 d
    have Lg := Mg.L
    induction d with
    | zero =>
      intro x hx hx2
      have : x = 362 := by omega
      subst this
      have hQ := hQ g F
      unfold lkU at hQ
      have b1 := lkU_b ok so
      unfold lkU at b1
      rw [wd_all] at hQ
      have b2 := wd_b ok (d := stp T) (Nat.le_refl _)
      have b3 := (wd_le ok (stp T) (Nat.le_refl _)).2
      rw [wd_all] at b2 b3
      rw [show 362 - (so + 1) = 361 - so by omega]
      exact b_Mo_lack_230 ⟨fun _ => c_Mo_part (by omega) b1 (by omega) (by omega) hQ, fun z => absurd (Int32.le_refl _) z⟩
    | succ d ih =>
      intro x hx hx2
      have ih' := ih (x + 1) (by omega) (by omega)
      rw [show x + 1 - (so + 1) = (x - (so + 1)) + 1 by omega] at ih'
      unfold sumN at ih'
      rw [show so + 1 + (x - (so + 1)) = x by omega, ← lN_add] at ih'
      refine b_Mo_lack_230 ⟨fun z => absurd z (nI_ge (b := 362) (by omega) (by decide)), fun _ => ⟨Lg.s 166, 189, Lg.r 166 53 189, Lg.x 189 (n := 362) (by omega), ?_⟩⟩
      rw [nI_clamp (by omega), R x (by omega), nI_1]
      exact ih'
  have k67 : ∀ d p, p + d = stp T → ∀ (g : xh), Fr PM h g → Mt g T → (∀ x, x < 362 → xL g 189 x = lN (lk T p x)) → ∀ o1 o7 o8 o9 o10 : Option Value, K_Mo_lack n Q 67 [some (.ref 166), o1, some (.int (nI so)), some (.int un), some (.long (lN (pd T p))), none, some (.int (nI p)), o7, o8, o9, o10] [] g := by
    intro d
    induction d with
    | zero =>
      intro p hp g F Mg R o1 o7 o8 o9 o10
      have : p = stp T := by omega
      subst this
      refine b_Mo_lack_67 ⟨Mg.L.s 166, ?_⟩
      rw [Mg.sp, nI_1]
      refine ⟨fun _ => ?_, fun z => absurd (Int32.le_refl _) z⟩
      have k0 := k230 g F Mg R o1 (some (.int (nI so))) o9 o10 (361 - so) (so + 1) (by omega) (Nat.le_refl _)
      rw [Nat.sub_self] at k0
      exact k0
    | succ d ih =>
      intro p hp g F Mg R o1 o7 o8 o9 o10
      obtain ⟨elo, ehi, lh, h20⟩ := ok.lh (s := p) (by omega)
      refine b_Mo_lack_67 ⟨Mg.L.s 166, ?_⟩
      rw [Mg.sp]
      refine ⟨fun z => absurd z (nI_ge (by omega) (by omega)), fun _ => ?_⟩
      have k161 : ∀ (e x : Nat), x + e = 362 → ∀ (g : xh), Fr PM h g → Mt g T → (∀ x, x < 362 → xL g 190 x = lN (lk T (p + 1) x)) → (∀ y, y < x → xL g 189 y = lN (lk T (p + 1) y)) → ∀ o8 o9 o10 : Option Value, K_Mo_lack n Q 161 [some (.ref 166), o1, some (.int (nI so)), some (.int un), some (.long (lN (pd T p))), none, some (.int (nI p)), some (.int (nI x)), o8, o9, o10] [] g := by
        intro e
        induction e with
        | zero =>
          intro x hx g F Mg R1 R2 o8 o9 o10
          have : x = 362 := by omega
          subst this
          refine b_Mo_lack_161 ⟨fun _ => ⟨Mg.L.s 166, c_Mo_of (by omega) Mg (nI_add 43 p) (by omega) ⟨Mg.L.s 166, c_Mo_of (by omega) Mg (nI_add 34 p) (by omega) ?_⟩⟩, fun z => absurd (Int32.le_refl _) z⟩
          rw [elo, ehi, pk_sub lh, nI_1, nI_1, nI_l (by omega), lN_mul]
          exact ih (p + 1) (by omega) g F Mg R2 _ _ _ _ _
        | succ e ie =>
          intro x hx g F Mg R1 R2 o8 o9 o10
          have Lg := Mg.L
          refine b_Mo_lack_161 ⟨fun z => absurd z (nI_ge (b := 362) (by omega) (by decide)), fun _ => ⟨Lg.s 166, 189, Lg.r 166 53 189, 190, Lg.r 166 54 190, Lg.x 190 (n := 362) (by omega), ⟨by decide, Lg.x 189 (n := 362) (by omega)⟩, b_Mo_lack_183 ?_⟩⟩
          rw [nI_clamp (by omega), nI_1, R1 x (by omega)]
          refine ie (x + 1) (by omega) _ (F.wL mPa) Mg.wl (fun y hy => ?_) (fun y hy => ?_) _ _ _
          · rw [xsL_ne _ _ _ (by decide)]; exact R1 y hy
          · rw [upL]
            by_cases c : y = x
            · subst c; rw [if_pos rfl]
            · rw [if_neg c]; exact R2 y (by omega)
      have k79 : ∀ (e x : Nat), x + e = 362 → ∀ (g : xh), Fr PM h g → Mt g T → (∀ x, x < 362 → xL g 189 x = lN (lk T p x)) → (∀ y, y < x → xL g 190 y = lN (lk T (p + 1) y)) → ∀ o8 o9 o10 : Option Value, K_Mo_lack n Q 79 [some (.ref 166), o1, some (.int (nI so)), some (.int un), some (.long (lN (pd T p))), none, some (.int (nI p)), some (.int (nI x)), o8, o9, o10] [] g := by
        intro e
        induction e with
        | zero =>
          intro x hx g F Mg R1 R2 o8 o9 o10
          have : x = 362 := by omega
          subst this
          exact b_Mo_lack_79 ⟨fun _ => k161 362 0 (by omega) g F Mg R2 (fun y hy => absurd hy (Nat.not_lt_zero _)) _ _ _, fun z => absurd (Int32.le_refl _) z⟩
        | succ e ie =>
          intro x hx g F Mg R1 R2 o8 o9 o10
          have Lg := Mg.L
          refine b_Mo_lack_79 ⟨fun z => absurd z (nI_ge (b := 362) (by omega) (by decide)), fun _ => ⟨Lg.s 166, c_Mo_of (by omega) Mg (nI_add 34 p) (by omega) ?_⟩⟩
          rw [elo]
          have es := lk_s T p x
          have ec : chc T p = bN T (43 + p) - bN T (34 + p) + 1 := rfl
          rw [ec] at es
          generalize bN T (34 + p) = lo at *
          generalize bN T (43 + p) = hi at *
          have wr : ∀ v : Int64, v = lN (lk T (p + 1) x) → ∀ o8 o9 o10 : Option Value, (64 ≤ 190 ∧ xar g 190 22 (nI x)) ∧ K_Mo_lack n Q 152 [some (.ref 166), o1, some (.int (nI so)), some (.int un), some (.long (lN (pd T p))), none, some (.int (nI p)), some (.int (nI x)), o8, o9, o10] [] (xsL g 190 (nI x).toNatClampNeg v) := by
            intro v hv o8 o9 o10
            refine ⟨⟨by decide, Lg.x 190 (n := 362) (by omega)⟩, b_Mo_lack_152 ?_⟩
            rw [nI_clamp (by omega), nI_1]
            refine ie (x + 1) (by omega) _ (F.wL mPa) Mg.wl (fun y hy => ?_) (fun y hy => ?_) _ _ _
            · rw [xsL_ne _ _ _ (by decide)]; exact R1 y hy
            · rw [upL]
              by_cases c : y = x
              · subst c; rw [if_pos rfl]; exact hv
              · rw [if_neg c]; exact R2 y (by omega)
          have key : ∀ e d, d + e = hi + 1 → lo ≤ d → K_Mo_lack n Q 101 [some (.ref 166), o1, some (.int (nI so)), some (.int un), some (.long (lN (pd T p))), none, some (.int (nI p)), some (.int (nI x)), some (.long (lN (sumN (fun i => if lo + i ≤ x then lk T p (x - (lo + i)) else 0) (d - lo)))), none, some (.int (nI d))] [] g := by
            intro e
            induction e with
            | zero =>
              intro d hd ld
              have : d = hi + 1 := by omega
              subst this
              refine b_Mo_lack_101 ⟨Lg.s 166, c_Mo_of (by omega) Mg (nI_add 43 p) (by omega) ?_⟩
              rw [ehi]
              refine ⟨fun _ => ⟨Lg.s 166, 190, Lg.r 166 54 190, wr _ ?_ _ _ _⟩, fun z => absurd (nI_lt (by omega) (by omega)) z⟩
              rw [es, show hi + 1 - lo = hi - lo + 1 by omega]
            | succ e ik =>
              intro d hd ld
              refine b_Mo_lack_101 ⟨Lg.s 166, c_Mo_of (by omega) Mg (nI_add 43 p) (by omega) ?_⟩
              rw [ehi]
              refine ⟨fun z => absurd z (nI_nlt (by omega) (by omega)), fun _ => ⟨fun z => ⟨Lg.s 166, 190, Lg.r 166 54 190, wr _ ?_ _ _ _⟩, fun z => ⟨Lg.s 166, 189, Lg.r 166 53 189, ?_⟩⟩⟩
              · rw [nI_ltI (by omega) (by omega)] at z
                have ee := sumN_ext (f := fun i => if lo + i ≤ x then lk T p (x - (lo + i)) else 0) (a := d - lo) (hi + 1 - d) (fun i hi => if_neg (by omega))
                rw [show d - lo + (hi + 1 - d) = hi - lo + 1 by omega] at ee
                rw [es, ee]
              · rw [nI_ltI (by omega) (by omega)] at z
                have ik' := ik (d + 1) (by omega) (by omega)
                rw [show d + 1 - lo = (d - lo) + 1 by omega] at ik'
                unfold sumN at ik'
                rw [if_pos (by omega), show lo + (d - lo) = d by omega, ← lN_add] at ik'
                rw [pk_sub (by omega), nI_clamp (by omega), R1 (x - d) (by omega), nI_1]
                exact ⟨Lg.x 189 (n := 362) (by omega), ik'⟩
          have k0 := key (hi + 1 - lo) lo (by omega) (Nat.le_refl _)
          rw [Nat.sub_self] at k0
          exact k0
      exact k79 362 0 (by omega) g F Mg R (fun y hy => absurd hy (Nat.not_lt_zero _)) _ _ _
  have k30 : ∀ d k, k + d = 362 → ∀ (g : xh), Fr PM h g → Mt g T → (∀ x, x < k → xL g 189 x = lN (lk T 0 x)) → ∀ o1 o5 o6 o7 o8 o9 o10 : Option Value, K_Mo_lack n Q 30 [some (.ref 166), o1, some (.int (nI so)), some (.int un), some (.int (nI k)), o5, o6, o7, o8, o9, o10] [] g := by
    intro d
    induction d with
    | zero =>
      intro k hk g F Mg R o1 o5 o6 o7 o8 o9 o10
      have : k = 362 := by omega
      subst this
      exact b_Mo_lack_30 ⟨fun _ => k67 (stp T) 0 (by omega) g F Mg R _ _ _ _ _, fun z => absurd (Int32.le_refl _) z⟩
    | succ d ih =>
      intro k hk g F Mg R o1 o5 o6 o7 o8 o9 o10
      have step : ∀ v : Int64, v = lN (if k = 0 then 1 else 0) → (64 ≤ 189 ∧ xar g 189 22 (nI k)) ∧ K_Mo_lack n Q 55 [some (.ref 166), o1, some (.int (nI so)), some (.int un), some (.int (nI k)), o5, o6, o7, o8, o9, o10] [] (xsL g 189 (nI k).toNatClampNeg v) := by
        intro v hv
        refine ⟨⟨by decide, Mg.L.x 189 (n := 362) (by omega)⟩, b_Mo_lack_55 ?_⟩
        rw [nI_1, nI_clamp (by omega)]
        refine ih (k + 1) (by omega) _ (F.wL mPa) Mg.wl (fun x hx => ?_) _ _ _ _ _ _ _
        rw [upL]
        by_cases c : x = k
        · subst c; rw [if_pos rfl, hv]; rfl
        · rw [if_neg c]; exact R x (by omega)
      refine b_Mo_lack_30 ⟨fun z => absurd z (nI_ge (b := 362) (by omega) (by decide)), fun _ => ⟨Mg.L.s 166, 189, Mg.L.r 166 53 189, fun z => step _ ?_, fun z => step _ ?_⟩⟩
      · rw [if_neg (fun e => z (by rw [e]; rfl))]; rfl
      · rw [if_pos ((nI_eq (b := 0) (by omega) (by decide)).mp z)]; rfl
  exact k30 362 0 (by omega) h' F1 M (fun x hx => absurd hx (Nat.not_lt_zero _)) _ _ _ _ _ _ _
