/-! lack: how likely it is that more come -/
def PL9 (c : Nat) : Prop := c = 149
def lk (T : Nat → Int32) : Nat → Nat → Nat
  | 0 => fun x => if x = 0 then 1 else 0
  | p + 1 => fun x => sumN (fun i => if bN T (34 + p) + i ≤ x then lk T p (x - (bN T (34 + p) + i)) else 0) (chc T p)
def pd (T : Nat → Int32) : Nat → Nat
  | 0 => 1
  | p + 1 => pd T p * chc T p
theorem lk_s (T : Nat → Int32) (p x : Nat) : lk T (p + 1) x = sumN (fun i => if bN T (34 + p) + i ≤ x then lk T p (x - (bN T (34 + p) + i)) else 0) (chc T p) := rfl
theorem sumN_z {f : Nat → Nat} : ∀ n, (∀ x, x < n → f x = 0) → sumN f n = 0
  | 0, _ => rfl
  | n + 1, h => by
    show sumN f n + f n = 0
    rw [sumN_z n (fun x hx => h x (by omega)), h n (by omega)]
theorem lk_sup {T : Nat → Int32} (ok : TnOK T) : ∀ p, p ≤ stp T → ∀ x, 20 * p < x → lk T p x = 0
  | 0, _, x, hx => if_neg (by omega)
  | p + 1, hp, x, hx => by
    obtain ⟨_, _, lh, h20⟩ := ok.lh (s := p) (by omega)
    rw [lk_s]
    refine sumN_z _ (fun i hi => ?_)
    unfold chc at hi
    by_cases c : bN T (34 + p) + i ≤ x
    · rw [if_pos c]
      exact lk_sup ok p (by omega) _ (by omega)
    · rw [if_neg c]
theorem lk_le {T : Nat → Int32} (ok : TnOK T) : ∀ p, p ≤ stp T → ∀ x, lk T p x ≤ 21 ^ p
  | 0, _, x => by
    show (if x = 0 then 1 else 0) ≤ 1
    split <;> omega
  | p + 1, hp, x => by
    obtain ⟨_, _, lh, h20⟩ := ok.lh (s := p) (by omega)
    rw [lk_s, Nat.pow_succ]
    have c1 : chc T p ≤ 21 := by unfold chc; omega
    refine Nat.le_trans (sumN_leN (b := 21 ^ p) _ (fun i hi => ?_)) (Nat.mul_le_mul_left _ c1)
    have := lk_le ok p (by omega) (x - (bN T (34 + p) + i))
    split <;> omega
theorem lk_b {T : Nat → Int32} (ok : TnOK T) {p : Nat} (hp : p ≤ stp T) (x : Nat) : lk T p x ≤ 794280046581 := by
  have s9 := stp9 ok
  have h1 := lk_le ok p hp x
  have h2 : 21 ^ p ≤ 21 ^ 9 := Nat.pow_le_pow_right (by decide) (by omega)
  have h3 : (21 : Nat) ^ 9 = 794280046581 := by decide
  omega
theorem wd_pd (T : Nat → Int32) : ∀ d, d ≤ stp T → wd T d * pd T (stp T - d) = pd T (stp T)
  | 0, _ => by show 1 * pd T (stp T - 0) = _; rw [Nat.one_mul]; rfl
  | d + 1, h => by
    have ih := wd_pd T d (by omega)
    obtain ⟨e, he⟩ : ∃ e, stp T = d + 1 + e := ⟨stp T - (d + 1), by omega⟩
    show wd T d * chc T (stp T - (d + 1)) * pd T (stp T - (d + 1)) = _
    rw [show stp T - (d + 1) = e by omega]
    rw [show stp T - d = e + 1 by omega] at ih
    rw [← ih]
    show _ = wd T d * (pd T e * chc T e)
    rw [Nat.mul_assoc, Nat.mul_comm (chc T e)]
theorem wd_all (T : Nat → Int32) : wd T (stp T) = pd T (stp T) := by
  have := wd_pd T (stp T) (Nat.le_refl _)
  rw [Nat.sub_self] at this
  have e : pd T 0 = 1 := rfl
  rw [e, Nat.mul_one] at this
  exact this
theorem c_fillL {n : Nat} (hn : 1 ≤ n) {h : xh} {a N : Nat} (hs : xS h a = (22, N)) (ha : 64 ≤ a) (hN : N < 2 ^ 31) {v : Int64} {Q : xh → Prop} (hQ : ∀ h', Fr (fun c => c = a) h h' → (∀ i, i < N → xL h' a i = v) → Q h') : xcv (xMC n) 6 [.ref a, .long v] h Q := by
  obtain ⟨n, rfl⟩ := xsucc hn
  have key : ∀ d i, i + d = N → ∀ g, Fr (fun c => c = a) h g → (∀ j, j < i → xL g a j = v) → K_Arrays_fill_JJV n Q 6 [some (.ref a), some (.long v), none, some (.int (nI i)), some (.int (nI N))] [] g := by
    intro d
    induction d with
    | zero =>
      intro i hi g F e
      have : i = N := by omega
      subst this
      exact b_Arrays_fill_JJV_6 ⟨fun _ => hQ g F e, fun z => absurd (Int32.le_refl _) z⟩
    | succ d ih =>
      intro i hi g F e
      refine b_Arrays_fill_JJV_6 ⟨fun z => absurd z (nI_ge (by omega) (by omega)), fun _ => ⟨⟨ha, xarN (by rw [F.1]; exact hs) (by omega) hN⟩, b_Arrays_fill_JJV_16 ?_⟩⟩
      rw [nI_1, nI_clamp (by omega)]
      refine ih (i + 1) (by omega) _ (F.wL rfl) (fun j hj => ?_)
      rw [upL]
      by_cases c : j = i
      · rw [if_pos c]
      · rw [if_neg c]; exact e j (by omega)
  refine w_Arrays_fill_JJV ⟨by rw [hs]; exact ⟨show 20 ≤ 22 by decide, show 22 ≤ 28 by decide⟩, ?_⟩
  rw [hs]
  exact key N 0 (by omega) h Fr.rf (fun j hj => absurd hj (Nat.not_lt_zero _))
theorem c_Bowls_waysTo {n : Nat} (hn : 1 ≤ n) {h : xh} (L : Lay h) {x lo hi : Nat} (hx : x ≤ 180) (lh : lo ≤ hi) (h20 : hi ≤ 20) {f : Nat → Nat} (hf : ∀ y, y ≤ x → xL h 149 y = lN (f y)) {Q : Int64 → xh → Prop} (hQ : Q (lN (sumN (fun i => if lo + i ≤ x then f (x - (lo + i)) else 0) (hi - lo + 1))) h) : xcj (xMC n) 80 [.ref 146, .int (nI x), .int (nI lo), .int (nI hi)] h Q := by
  obtain ⟨n, rfl⟩ := xsucc hn
  have key : ∀ e d, d + e = hi + 1 → lo ≤ d → ∀ o2 : Option Value, K_Bowls_waysTo n Q 6 [some (.ref 146), some (.int (nI x)), o2, some (.int (nI hi)), some (.long (lN (sumN (fun i => if lo + i ≤ x then f (x - (lo + i)) else 0) (d - lo)))), none, some (.int (nI d))] [] h := by
    intro e
    induction e with
    | zero =>
      intro d hd ld o2
      have : d = hi + 1 := by omega
      subst this
      rw [show hi + 1 - lo = hi - lo + 1 by omega]
      exact b_Bowls_waysTo_6 ⟨fun _ => hQ, fun z => absurd (nI_lt (by omega) (by omega)) z⟩
    | succ e ih =>
      intro d hd ld o2
      refine b_Bowls_waysTo_6 ⟨fun z => absurd z (nI_nlt (by omega) (by omega)), fun _ => ⟨fun z => ?_, fun z => ?_⟩⟩
      · rw [nI_ltI (by omega) (by omega)] at z
        have ee := sumN_ext (f := fun i => if lo + i ≤ x then f (x - (lo + i)) else 0) (a := d - lo) (hi + 1 - d) (fun i hi => if_neg (by omega))
        rw [show d - lo + (hi + 1 - d) = hi - lo + 1 by omega] at ee
        rw [← ee]
        exact hQ
      · rw [nI_ltI (by omega) (by omega)] at z
        have ih' := ih (d + 1) (by omega) (by omega)
        rw [show d + 1 - lo = (d - lo) + 1 by omega] at ih'
        unfold sumN at ih'
        rw [if_pos (by omega), show lo + (d - lo) = d by omega, ← lN_add] at ih'
        refine ⟨L.s 146, 149, L.r 146 3 149, ?_⟩
        rw [pk_sub (by omega), nI_clamp (by omega), hf (x - d) (by omega), nI_1]
        exact ⟨L.x 149 (n := 181) (by omega), ih' _⟩
  have k0 := key (hi + 1 - lo) lo (by omega) (Nat.le_refl _) (some (.int (nI lo)))
  rw [Nat.sub_self] at k0
  exact w_Bowls_waysTo k0
def lkU (T : Nat → Int32) (so : Nat) : Nat := sumN (fun i => lk T (stp T) (so + 1 + i)) (361 - so)
theorem lkU_b {T : Nat → Int32} (ok : TnOK T) (so : Nat) : lkU T so < 2 ^ 63 := by
  have h1 := sumN_leN (f := fun i => lk T (stp T) (so + 1 + i)) (b := 794280046581) (361 - so) (fun i _ => lk_b ok (Nat.le_refl _) _)
  have h2 : 794280046581 * (361 - so) ≤ 794280046581 * 361 := Nat.mul_le_mul_left _ (by omega)
  unfold lkU
  omega
theorem c_Bowls_chanceOfMore {n : Nat} (hn : 5 ≤ n) {h : xh} (L : Lay h) {t : Nat} {T : Nat → Int32} (H : Tn h t T) (ht : t + 7 < 146) (h64 : 64 ≤ t) (hc : ∀ a, xR h 146 0 = some a → 64 ≤ a ∧ (a = t → Bo h T)) {so : Nat} {un : Int32} (hso : so < 100) {Q : Int64 → xh → Prop} (hQ : ∀ h', Fg PB h h' → Lay h' → xR h' 146 0 = some t → Bo h' T → Q (lN (gpt (lkU T so) (wd T (stp T)) un)) h') : xcj (xMC n) 79 [.ref 146, .ref t, .int (nI so), .int un] h Q := by
  obtain ⟨n, rfl⟩ := xsucc (show 1 ≤ n by omega)
  have s9 := stp9 H.ok
  refine w_Bowls_chanceOfMore ⟨L.s 146, c_Bowls_prepare (by omega) L H ht h64 hc (fun g0 F0 L0 r0 B0 => ⟨L0.s 146, 149, L0.r 146 3 149, ?_⟩)⟩
  have w0 := B0.1 0 (by omega) (by omega)
  rw [Nat.sub_zero] at w0
  have fT : ∀ {g}, Fr PL9 g0 g → Tn g t T := fun {g} F => (H.sm (fun c h1 h2 => F0.2.2 c (fun z => by unfold PB at z; omega))).fr F (fun c h1 h2 z => by unfold PL9 at z; omega)
  have fB : ∀ {g}, Fr PL9 g0 g → Bo g T := fun {g} F => ⟨fun s h1 h2 => by rw [F.l 148 (fun z => by unfold PL9 at z; omega)]; exact B0.1 s h1 h2, fun s so h1 h2 h3 => by rw [F.l 147 (fun z => by unfold PL9 at z; omega)]; exact B0.2 s so h1 h2 h3⟩
  have fQ : ∀ {g}, Fr PL9 g0 g → Q (lN (gpt (lkU T so) (wd T (stp T)) un)) g := fun {g} F => hQ g (F0.tr (F.g.mo (fun c z => by unfold PL9 at z; unfold PB; omega))) (F.lay L0) (by rw [F.2.2.1]; exact r0) (fB F)
  have len : ∀ {g}, Fr PL9 g0 g → xS g 149 = (22, 181) := fun {g} F => (F.lay L0).s 149
  have k93 : ∀ (g : xh), Fr PL9 g0 g → (∀ x, x < 181 → xL g 149 x = lN (lk T (stp T) x)) → ∀ o1 o2 : Option Value, ∀ d x, x + d = 181 → so + 1 ≤ x → K_Bowls_chanceOfMore n Q 93 [some (.ref 146), o1, o2, some (.int un), some (.long (lN (sumN (fun i => lk T (stp T) (so + 1 + i)) (x - (so + 1))))), none, some (.int (nI x))] [] g := by
    intro g F R o1 o2 d
    have Lg := F.lay L0
    induction d with
    | zero =>
      intro x hx hx2
      have : x = 181 := by omega
      subst this
      refine b_Bowls_chanceOfMore_93 ⟨Lg.s 146, 149, Lg.r 146 3 149, by rw [len F]; decide, ?_⟩
      rw [len F]
      refine ⟨fun _ => ⟨148, Lg.r 146 2 148, Lg.x 148 (i := 0) (n := 10) (by omega), ?_⟩, fun z => absurd (Int32.le_refl _) z⟩
      have eU : lkU T so = sumN (fun i => lk T (stp T) (so + 1 + i)) (181 - (so + 1)) := by
        unfold lkU
        rw [show 361 - so = (181 - (so + 1)) + 181 by omega]
        exact sumN_ext _ (fun i hi => lk_sup H.ok _ (Nat.le_refl _) _ (by omega))
      rw [← eU, show (0 : Int32).toNatClampNeg = 0 from rfl, (fB F).1 0 (by omega) (by omega), Nat.sub_zero]
      have b2 := wd_b H.ok (d := stp T) (Nat.le_refl _)
      exact c_Fraction_part (by omega) (lkU_b H.ok so) (by omega) (fQ F)
    | succ d ih =>
      intro x hx hx2
      have ih' := ih (x + 1) (by omega) (by omega)
      rw [show x + 1 - (so + 1) = (x - (so + 1)) + 1 by omega] at ih'
      unfold sumN at ih'
      rw [show so + 1 + (x - (so + 1)) = x by omega, ← lN_add] at ih'
      refine b_Bowls_chanceOfMore_93 ⟨Lg.s 146, 149, Lg.r 146 3 149, by rw [len F]; decide, ?_⟩
      rw [len F]
      refine ⟨fun z => absurd z (nI_ge (b := 181) (by omega) (by decide)), fun _ => ⟨Lg.x 149 (n := 181) (by omega), ?_⟩⟩
      rw [nI_clamp (by omega), R x (by omega), nI_1]
      exact ih'
  have k23 : ∀ d p, p + d = stp T → ∀ (g : xh), Fr PL9 g0 g → (∀ x, x < 181 → xL g 149 x = lN (lk T p x)) → ∀ o5 o6 : Option Value, K_Bowls_chanceOfMore n Q 23 [some (.ref 146), some (.ref t), some (.int (nI so)), some (.int un), some (.int (nI p)), o5, o6] [] g := by
    intro d
    induction d with
    | zero =>
      intro p hp g F R o5 o6
      have : p = stp T := by omega
      subst this
      have Hg := fT F
      refine b_Bowls_chanceOfMore_23 ⟨Hg.s, ?_⟩
      rw [Hg.i 6, H.ok.s6.1, nI_1]
      refine ⟨fun _ => ?_, fun z => absurd (Int32.le_refl _) z⟩
      have k0 := k93 g F R (some (.ref t)) (some (.int (nI so))) (180 - so) (so + 1) (by omega) (Nat.le_refl _)
      rw [Nat.sub_self] at k0
      exact k0
    | succ d ih =>
      intro p hp g F R o5 o6
      have Hg := fT F
      have Lg := F.lay L0
      obtain ⟨elo, ehi, lh, h20⟩ := H.ok.lh (s := p) (by omega)
      refine b_Bowls_chanceOfMore_23 ⟨Hg.s, ?_⟩
      rw [Hg.i 6, H.ok.s6.1]
      refine ⟨fun z => absurd z (nI_ge (by omega) (by omega)), fun _ => ⟨Lg.s 146, 149, Lg.r 146 3 149, by rw [len F]; decide, ?_⟩⟩
      rw [len F]
      have k41 : ∀ j, j ≤ 181 → ∀ (g : xh), Fr PL9 g0 g → (∀ x, j ≤ x → x < 181 → xL g 149 x = lN (lk T (p + 1) x)) → (∀ x, x < j → xL g 149 x = lN (lk T p x)) → K_Bowls_chanceOfMore n Q 41 [some (.ref 146), some (.ref t), some (.int (nI so)), some (.int un), some (.int (nI p)), some (.int (nI j - 1)), o6] [] g := by
        intro j
        induction j with
        | zero =>
          intro hj g F R1 R2
          refine b_Bowls_chanceOfMore_41 ⟨fun _ => ?_, fun z => absurd (by decide) z⟩
          rw [nI_1]
          exact ih (p + 1) (by omega) g F (fun x hx => R1 x (by omega) hx) _ _
        | succ j ij =>
          intro hj g F R1 R2
          have Hg := fT F
          have Lg := F.lay L0
          rw [nI_pred]
          refine b_Bowls_chanceOfMore_41 ⟨fun z => absurd z (nI_pos (by omega)), fun _ => ⟨Lg.s 146, 149, Lg.r 146 3 149, Hg.s, _, Hg.r 3, Hg.x 3 (by omega), _, Hg.r 4, Hg.x 4 (by omega), ?_⟩⟩
          rw [nI_clamp (show p < 2 ^ 31 by omega), Hg.v 3 (by omega), Hg.v 4 (by omega), show 7 + 9 * 3 + p = 34 + p from rfl, show 7 + 9 * 4 + p = 43 + p from rfl, elo, ehi]
          refine c_Bowls_waysTo (by omega) Lg (by omega) lh h20 (f := lk T p) (fun y hy => R2 y (by omega)) ⟨⟨by decide, Lg.x 149 (n := 181) (by omega)⟩, b_Bowls_chanceOfMore_73 ?_⟩
          rw [nI_clamp (by omega), show nI j + (-1 : Int32) = nI j - 1 from (Int32.sub_eq_add_neg _ _).symm]
          refine ij (by omega) _ (F.wL rfl) (fun x h1 h2 => ?_) (fun x hx => ?_)
          · rw [upL]
            by_cases e : x = j
            · subst e; rw [if_pos rfl, lk_s]; rfl
            · rw [if_neg e]; exact R1 x (by omega) h2
          · rw [upL_o _ _ _ _ (by omega)]; exact R2 x (by omega)
      exact k41 181 (Nat.le_refl _) g F (fun x h1 h2 => by omega) R
  refine c_fillL (by omega) (L0.s 149) (by decide) (by decide) (fun g1 F1 e1 => ⟨(F1.lay L0).s 146, 149, (F1.lay L0).r 146 3 149, ⟨by decide, (F1.lay L0).x 149 (i := 0) (n := 181) (by omega)⟩, b_Bowls_chanceOfMore_20 (k23 (stp T) 0 (by omega) _ ((F1.mo (fun _ z => z)).wL rfl) (fun x hx => ?_) _ _)⟩)
  show xL (xsL g1 149 0 1) 149 x = lN (if x = 0 then 1 else 0)
  rw [upL]
  by_cases z : x = 0
  · rw [if_pos z, if_pos z]; rfl
  · rw [if_neg z, if_neg z, e1 x hx]; rfl
