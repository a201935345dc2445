/-! give, mean, tells in the reference -/
def BmQ (h : xh) (T : Nat → Int32) (q : Nat) : Prop := (∀ s, q ≤ s → s ≤ stp T → xL h 183 s = lN (wd T (stp T - s))) ∧ ∀ s so, q ≤ s → s ≤ stp T → so < 100 → xL h 182 (100 * s + so) = lN (cn T (stp T - s) so)
theorem BmQ.mo {h : xh} {T : Nat → Int32} {q r : Nat} (B : BmQ h T q) (hqr : q ≤ r) : BmQ h T r := ⟨fun s h1 h2 => B.1 s (by omega) h2, fun s so h1 h2 h3 => B.2 s so (by omega) h2 h3⟩
theorem c_Mo_countsBy {n : Nat} (hn : 3 ≤ n) {h : xh} {T : Nat → Int32} (M : Mt h T) {s so dd g : Nat} (hs : s < stp T) (B : BmQ h T (s + 1)) (hso : so < 100) (hdd : dd ≤ 20) (hg : g ≤ dd) (hg2 : g ≤ so) {Q : Int64 → xh → Prop} (hQ : Q (lN (cbN T (stp T - (s + 1)) s so dd g (cn T (stp T - (s + 1))))) h) : xcj (xMC n) 276 [.ref 166, .int (nI s), .int (nI so), .int (nI dd), .int (nI g)] h Q := by
  obtain ⟨n, rfl⟩ := xsucc (show 1 ≤ n by omega)
  have s9 := stp9 M.ok
  have w2 := wtN_le T s
  have L := M.L
  refine w_Mo_countsBy ⟨L.s 166, c_Mo_weight (by omega) M hs ⟨L.s 166, 183, L.r 166 40 183, ?_⟩⟩
  have i2 : (100 : Int32) * (nI s + 1) + nI so - nI g = nI (100 * (s + 1) + (so - g)) := by
    rw [nI_1, show (100 : Int32) * nI (s + 1) = nI (100 * (s + 1)) from pk_mul 100 _, nI_add, pk_sub (by omega)]
    congr 1
    omega
  rw [i2, nI_1, nI_clamp (by omega), nI_clamp (by omega), wgt_n, pk_sub hg, nI_l (by omega), nI_l (by omega), lN_mul, B.1 (s + 1) (Nat.le_refl _) (by omega), lN_mul]
  refine ⟨L.x 183 (n := 10) (by omega), 182, L.r 166 39 182, L.x 182 (n := 1000) (by omega), ?_⟩
  rw [B.2 (s + 1) (so - g) (Nat.le_refl _) (by omega) (by omega), lN_add, Nat.mul_comm (dd - g)]
  exact hQ
theorem c_Mo_gives {n : Nat} (hn : 4 ≤ n) {h : xh} {T : Nat → Int32} (M : Mt h T) {s so dd : Nat} (hs : s < stp T) (B : BmQ h T (s + 1)) (hso : so < 100) (hdd : dd ≤ 20) {Q : Int32 → xh → Prop} (hQ : Q (nI (gvN T s so dd)) h) : xci (xMC n) 275 [.ref 166, .int (nI s), .int (nI so), .int (nI dd)] h Q := by
  obtain ⟨n, rfl⟩ := xsucc (show 1 ≤ n by omega)
  have L := M.L
  unfold gvN at hQ
  have key : ∀ e x, x + e = min dd so + 1 → 1 ≤ x → K_Mo_gives n Q 6 [some (.ref 166), some (.int (nI s)), some (.int (nI so)), some (.int (nI dd)), some (.int (nI (agm (fun g => cbN T (stp T - (s + 1)) s so dd g (cn T (stp T - (s + 1)))) (x - 1)))), some (.int (nI x))] [] h := by
    intro e
    induction e with
    | zero =>
      intro x hx h1
      have ex : x - 1 = min dd so := by omega
      rw [ex]
      refine b_Mo_gives_6 ⟨fun _ => hQ, fun z => ⟨fun _ => hQ, fun y => ?_⟩⟩
      rw [nI_ltI (by omega) (by omega)] at z y
      omega
    | succ e ih =>
      intro x hx h1
      have ih' := ih (x + 1) (by omega) (by omega)
      obtain ⟨y, rfl⟩ : ∃ y, x = y + 1 := ⟨x - 1, by omega⟩
      rw [show y + 1 + 1 - 1 = y + 1 by omega] at ih'
      rw [show y + 1 - 1 = y by omega]
      have al := agm_le (fun g => cbN T (stp T - (s + 1)) s so dd g (cn T (stp T - (s + 1)))) y
      refine b_Mo_gives_6 ⟨fun z => absurd z (nI_nlt (by omega) (by omega)), fun _ => ⟨fun z => absurd z (nI_nlt (by omega) (by omega)), fun _ => ⟨L.s 166, c_Mo_countsBy (by omega) M hs B hso hdd (by omega) (by omega) ⟨L.s 166, c_Mo_countsBy (by omega) M hs B hso hdd (by omega) (by omega) ?_⟩⟩⟩⟩
      have b1 := cbN_b M.ok (d := stp T - (s + 1)) (s := s) (so := so) (g := y + 1) (by omega) hdd
      have b2 := cbN_b M.ok (d := stp T - (s + 1)) (s := s) (so := so) (g := agm (fun g => cbN T (stp T - (s + 1)) s so dd g (cn T (stp T - (s + 1)))) y) (by omega) hdd
      rw [nI_1]
      refine ⟨fun z => ?_, fun z => ?_⟩
      · have nz : ¬ cbN T (stp T - (s + 1)) s so dd (y + 1) (cn T (stp T - (s + 1))) ≤ cbN T (stp T - (s + 1)) s so dd (agm (fun g => cbN T (stp T - (s + 1)) s so dd g (cn T (stp T - (s + 1)))) y) (cn T (stp T - (s + 1))) := fun w => absurd ((pk_lLE b1 b2).mpr w) (Int64.not_le.mpr z)
        unfold agm at ih'
        rw [if_neg nz] at ih'
        exact ih'
      · have nz : cbN T (stp T - (s + 1)) s so dd (y + 1) (cn T (stp T - (s + 1))) ≤ cbN T (stp T - (s + 1)) s so dd (agm (fun g => cbN T (stp T - (s + 1)) s so dd g (cn T (stp T - (s + 1)))) y) (cn T (stp T - (s + 1))) := (pk_lLE b1 b2).mp (Int64.not_lt.mp z)
        unfold agm at ih'
        rw [if_pos nz] at ih'
        exact ih'
  exact w_Mo_gives (key (min dd so) 1 (by omega) (by omega))
theorem c_Mo_findCounts {n : Nat} (hn : 5 ≤ n) {h : xh} {T : Nat → Int32} (M : Mt h T) {Q : xh → Prop} (hQ : ∀ h', Fr PM h h' → Mt h' T → BmQ h' T 0 → Q h') : xcv (xMC n) 274 [.ref 166] h Q := by
  obtain ⟨n, rfl⟩ := xsucc (show 1 ≤ n by omega)
  have s9 := stp9 M.ok
  have k58 : ∀ s, s ≤ stp T → (∀ g, Fr PM h g → Mt g T → BmQ g T s → ∀ o2 o3 o4 o5 : Option Value, K_Mo_findCounts n Q 5 [some (.ref 166), some (.int (nI s - 1)), o2, o3, o4, o5] [] g) → ∀ d x, x + d = 100 → ∀ g, Fr PM h g → Mt g T → BmQ g T (s + 1) → xL g 183 s = lN (wd T (stp T - s)) → (∀ y, y < x → xL g 182 (100 * s + y) = lN (cn T (stp T - s) y)) → ∀ o3 o4 o5 : Option Value, K_Mo_findCounts n Q 58 [some (.ref 166), some (.int (nI s)), some (.int (nI x)), o3, o4, o5] [] g := by
    intro s hs nx d
    induction d with
    | zero =>
      intro x hx g F Mg B w1 c1 o3 o4 o5
      have : x = 100 := by omega
      subst this
      refine b_Mo_findCounts_58 ⟨fun _ => ?_, fun z => absurd (by decide) z⟩
      rw [show nI s + (-1 : Int32) = nI s - 1 from (Int32.sub_eq_add_neg _ _).symm]
      refine nx g F Mg ⟨fun s' h1 h2 => ?_, fun s' so h1 h2 h3 => ?_⟩ _ _ _ _
      · by_cases e : s' = s
        · subst e; exact w1
        · exact B.1 s' (by omega) h2
      · by_cases e : s' = s
        · subst e; exact c1 so h3
        · exact B.2 s' so (by omega) h2 h3
    | succ d ih =>
      intro x hx g F Mg B w1 c1 o3 o4 o5
      have Lg := Mg.L
      have wr : ∀ v : Int64, v = lN (cn T (stp T - s) x) → ∀ o3 o4 o5 : Option Value, (64 ≤ 182 ∧ xar g 182 22 (nI (100 * s + x))) ∧ K_Mo_findCounts n Q 150 [some (.ref 166), some (.int (nI s)), some (.int (nI x)), o3, o4, o5] [] (xsL g 182 (100 * s + x) v) := by
        intro v hv o3 o4 o5
        refine ⟨⟨by decide, Lg.x 182 (n := 1000) (by omega)⟩, b_Mo_findCounts_150 ?_⟩
        rw [nI_1]
        refine ih (x + 1) (by omega) _ (F.wL mPa) Mg.wl ⟨fun s' h1 h2 => ?_, fun s' so h1 h2 h3 => ?_⟩ ?_ (fun y hy => ?_) _ _ _
        · rw [xsL_ne _ _ _ (by decide)]; exact B.1 s' h1 h2
        · rw [upL_o _ _ _ _ (by omega)]; exact B.2 s' so h1 h2 h3
        · rw [xsL_ne _ _ _ (by decide)]; exact w1
        · rw [upL]
          by_cases e : y = x
          · subst e; rw [if_pos rfl]; exact hv
          · rw [if_neg (by omega)]; exact c1 y (by omega)
      have ix : (100 : Int32) * nI s + nI x = nI (100 * s + x) := by rw [show (100 : Int32) * nI s = nI (100 * s) from pk_mul 100 _, nI_add]
      refine b_Mo_findCounts_58 ⟨fun z => absurd z (nI_nlt (a := 99) (by omega) (by decide)), fun _ => ⟨Lg.s 166, ?_⟩⟩
      rw [Mg.sp, nI_leI (by omega) (by omega)]
      refine ⟨fun z => ?_, fun z => c_Mo_of (by omega) Mg (nI_add 34 s) (by omega) ?_⟩
      · have e : s = stp T := by omega
        refine b_Mo_findCounts_88 ⟨Lg.s 166, ?_⟩
        rw [Mg.sp, nI_leI (by omega) (by omega)]
        refine ⟨fun _ => b_Mo_findCounts_110 ⟨fun _ => ⟨Lg.s 166, 182, Lg.r 166 39 182, ?_⟩, fun y => absurd (by decide) y⟩, fun y => absurd z y⟩
        rw [ix, nI_clamp (by omega)]
        refine wr 0 ?_ _ _ _
        rw [e, Nat.sub_self]; rfl
      · have hs' : s < stp T := by omega
        obtain ⟨elo, ehi, lh, h20⟩ := M.ok.lh hs'
        obtain ⟨dd, ed⟩ : ∃ dd, stp T = s + 1 + dd := ⟨stp T - (s + 1), by omega⟩
        have wr' := wr (lN (sumN (fun i => bmn (fun g => cbN T dd (stp T - (dd + 1)) x (bN T (34 + (stp T - (dd + 1))) + i) g (cn T dd)) (min (bN T (34 + (stp T - (dd + 1))) + i) x)) (chc T (stp T - (dd + 1))))) (by rw [show stp T - s = dd + 1 by omega]; rfl)
        rw [show stp T - (dd + 1) = s by omega] at wr'
        rw [elo]
        generalize hlo : bN T (34 + s) = lo at *
        generalize hhi : bN T (43 + s) = hi at *
        have ec : chc T s = hi - lo + 1 := by unfold chc; rw [hlo, hhi]
        rw [ec] at wr'
        have key : ∀ e w, w + e = hi + 1 → lo ≤ w → K_Mo_findCounts n Q 88 [some (.ref 166), some (.int (nI s)), some (.int (nI x)), some (.long (lN (sumN (fun i => bmn (fun g => cbN T dd s x (lo + i) g (cn T dd)) (min (lo + i) x)) (w - lo)))), none, some (.int (nI w))] [] g := by
          intro e
          induction e with
          | zero =>
            intro w hw lw
            have : w = hi + 1 := by omega
            subst this
            refine b_Mo_findCounts_88 ⟨Lg.s 166, ?_⟩
            rw [Mg.sp, nI_leI (by omega) (by omega)]
            refine ⟨fun y => by omega, fun _ => c_Mo_of (by omega) Mg (nI_add 43 s) (by omega) ?_⟩
            rw [ehi]
            refine b_Mo_findCounts_110 ⟨fun _ => ⟨Lg.s 166, 182, Lg.r 166 39 182, ?_⟩, fun y => absurd (nI_lt (by omega) (by omega)) y⟩
            rw [ix, nI_clamp (by omega), show hi + 1 - lo = hi - lo + 1 by omega]
            exact wr' _ _ _
          | succ e ie =>
            intro w hw lw
            have ie' := ie (w + 1) (by omega) (by omega)
            rw [show w + 1 - lo = (w - lo) + 1 by omega] at ie'
            unfold sumN at ie'
            rw [show lo + (w - lo) = w by omega, ← lN_add, bmn_agm] at ie'
            refine b_Mo_findCounts_88 ⟨Lg.s 166, ?_⟩
            rw [Mg.sp, nI_leI (by omega) (by omega)]
            refine ⟨fun y => by omega, fun _ => c_Mo_of (by omega) Mg (nI_add 43 s) (by omega) ?_⟩
            rw [ehi]
            have al := agm_le (fun g => cbN T (stp T - (s + 1)) s x w g (cn T (stp T - (s + 1)))) (min w x)
            refine b_Mo_findCounts_110 ⟨fun y => absurd y (nI_nlt (by omega) (by omega)), fun _ => ⟨Lg.s 166, c_Mo_gives (by omega) Mg hs' B (by omega) (by omega) ⟨Lg.s 166, c_Mo_countsBy (by omega) Mg hs' B (by omega) (by omega) (Nat.le_trans al (by omega)) (Nat.le_trans al (by omega)) ?_⟩⟩⟩
            rw [nI_1]
            rw [show stp T - (s + 1) = dd by omega]
            exact ie'
        have k0 := key (hi + 1 - lo) lo (by omega) (Nat.le_refl _)
        rw [Nat.sub_self] at k0
        exact k0
  have k5 : ∀ q, q ≤ stp T + 1 → ∀ g, Fr PM h g → Mt g T → BmQ g T q → ∀ o2 o3 o4 o5 : Option Value, K_Mo_findCounts n Q 5 [some (.ref 166), some (.int (nI q - 1)), o2, o3, o4, o5] [] g := by
    intro q
    induction q with
    | zero =>
      intro hq g F Mg B o2 o3 o4 o5
      exact b_Mo_findCounts_5 ⟨fun _ => hQ g F Mg B, fun z => absurd (by decide) z⟩
    | succ q ih =>
      intro hq g F Mg B o2 o3 o4 o5
      have Lg := Mg.L
      rw [nI_pred]
      have wr : ∀ v : Int64, v = lN (wd T (stp T - q)) → (64 ≤ 183 ∧ xar g 183 22 (nI q)) ∧ K_Mo_findCounts n Q 56 [some (.ref 166), some (.int (nI q)), o2, o3, o4, o5] [] (xsL g 183 (nI q).toNatClampNeg v) := by
        intro v hv
        refine ⟨⟨by decide, Lg.x 183 (n := 10) (by omega)⟩, b_Mo_findCounts_56 ?_⟩
        rw [nI_clamp (by omega)]
        refine k58 q (by omega) (ih (by omega)) 100 0 (by omega) _ (F.wL mPa) Mg.wl ⟨fun s' h1 h2 => ?_, fun s' so h1 h2 h3 => ?_⟩ ?_ (fun y hy => absurd hy (Nat.not_lt_zero _)) _ _ _
        · rw [upL_o _ _ _ _ (by omega)]; exact B.1 s' h1 h2
        · rw [xsL_ne _ _ _ (by decide)]; exact B.2 s' so h1 h2 h3
        · rw [upL_s]; exact hv
      refine b_Mo_findCounts_5 ⟨fun z => absurd z (nI_pos (by omega)), fun _ => ⟨Lg.s 166, 183, Lg.r 166 40 183, ?_⟩⟩
      rw [Mg.sp, nI_eq (by omega) (by omega), nI_1]
      refine ⟨fun z => ⟨Lg.x 183 (n := 10) (by omega), ?_⟩, fun z => wr _ ?_⟩
      · have hs' : q < stp T := by omega
        obtain ⟨elo, ehi, lh, h20⟩ := M.ok.lh hs'
        obtain ⟨dd, ed⟩ : ∃ dd, stp T = q + 1 + dd := ⟨stp T - (q + 1), by omega⟩
        refine c_Mo_of (by omega) Mg (nI_add 43 q) (by omega) ⟨Lg.s 166, c_Mo_of (by omega) Mg (nI_add 34 q) (by omega) ?_⟩
        rw [elo, ehi, pk_sub lh, nI_1, nI_l (by omega), nI_clamp (show q + 1 < 2 ^ 31 by omega), B.1 (q + 1) (Nat.le_refl _) (by omega), lN_mul]
        refine wr _ ?_
        rw [show stp T - q = dd + 1 by omega, show stp T - (q + 1) = dd by omega]
        show _ = lN (wd T dd * chc T (stp T - (dd + 1)))
        rw [show stp T - (dd + 1) = q by omega]
        rfl
      · rw [z, Nat.sub_self]; rfl
  refine w_Mo_findCounts ⟨M.L.s 166, ?_⟩
  rw [M.sp, ← nI_pred]
  exact k5 (stp T + 1) (Nat.le_refl _) h Fr.rf M ⟨fun s h1 h2 => by omega, fun s so h1 h2 h3 => by omega⟩ _ _ _ _
