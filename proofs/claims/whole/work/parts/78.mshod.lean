/-! shod in the reference -/
def Mq (h : xh) (S : Nat → Int32) (q : Nat) : Prop := ∀ f V, q ≤ f → f ≤ bN S 1 → V < 64 → xI h 187 (64 * f + V) = nI (nd S (bN S 1 - f) V)
theorem c_Mo_isFit {n : Nat} (hn : 2 ≤ n) {h : xh} {S : Nat → Int32} (M : Ms h S) {k f : Nat} (hk : k < bN S 0) (hf : f < bN S 1) {Q : Int32 → xh → Prop} (hQ : Q (if fit S k f = true then 1 else 0) h) : xci (xMC n) 314 [.ref 166, .int (nI k), .int (nI f)] h Q := by
  obtain ⟨n, rfl⟩ := xsucc (show 1 ≤ n by omega)
  have ok := M.2.2
  have o := ok.n
  have hs := M.1.s 166 (p := (11, 0))
  have s1 := ok.2.2.1 k hk
  have s2 := (ok.2.2.2.1 f hf).1
  refine w_Mo_isFit ⟨hs, c_Mo_listN (by omega) M (nI_add 3 k) (by omega) ⟨hs, c_Mo_listN (by omega) M (nI_add 9 f) (by omega) (c_Mo_in (by omega) (fun z => ⟨Or.inr rfl, ?_⟩) (fun z => ⟨Or.inl rfl, ?_⟩))⟩⟩
  · have t := pk_sub_toInt (a := bN S (3 + k)) (b := bN S (9 + f)) (by omega) (by omega)
    have e1 : (1 : Int32).toInt = 1 := rfl
    have e0 : (0 : Int32).toInt = 0 := rfl
    have z1 := z.1
    have z2 := z.2
    rw [Int32.lt_iff_toInt_lt, t, e0] at z1
    rw [Int32.lt_iff_toInt_lt, t, e1] at z2
    have ft : fit S k f = true := decide_eq_true ⟨hk, by omega⟩
    rwa [if_pos ft] at hQ
  · have t := pk_sub_toInt (a := bN S (3 + k)) (b := bN S (9 + f)) (by omega) (by omega)
    have e1 : (1 : Int32).toInt = 1 := rfl
    have e0 : (0 : Int32).toInt = 0 := rfl
    have ft : ¬ fit S k f = true := fun y => by
      have y := of_decide_eq_true y
      refine z ⟨fun w => ?_, fun w => ?_⟩
      · rw [Int32.lt_iff_toInt_lt, t, e0] at w; omega
      · rw [Int32.lt_iff_toInt_lt, t, e1] at w; omega
    rwa [if_neg ft] at hQ
theorem c_Mo_findNeeds {n : Nat} (hn : 4 ≤ n) {h : xh} {S : Nat → Int32} (M : Ms h S) {Q : xh → Prop} (hQ : ∀ h', Fr PM h h' → Ms h' S → Mq h' S 0 → Q h') : xcv (xMC n) 313 [.ref 166] h Q := by
  obtain ⟨n, rfl⟩ := xsucc (show 1 ≤ n by omega)
  have ok := M.2.2
  have o := ok.n
  have k12 : ∀ f, f ≤ bN S 1 → (∀ g, Fr PM h g → Ms g S → Mq g S f → ∀ o2 o3 o4 : Option Value, K_Mo_findNeeds n Q 6 [some (.ref 166), some (.int (nI f - 1)), o2, o3, o4] [] g) → ∀ d x, x + d = 64 → ∀ g, Fr PM h g → Ms g S → Mq g S (f + 1) → (∀ y, y < x → xI g 187 (64 * f + y) = nI (nd S (bN S 1 - f) y)) → ∀ o3 o4 : Option Value, K_Mo_findNeeds n Q 12 [some (.ref 166), some (.int (nI f)), some (.int (nI x)), o3, o4] [] g := by
    intro f hf nx d
    induction d with
    | zero =>
      intro x hx g F Mg N c1 o3 o4
      have : x = 64 := by omega
      subst this
      refine b_Mo_findNeeds_12 ⟨fun _ => ?_, fun z => absurd (Int32.le_refl _) z⟩
      rw [show nI f + (-1 : Int32) = nI f - 1 from (Int32.sub_eq_add_neg _ _).symm]
      refine nx g F Mg (fun f' V h1 h2 h3 => ?_) _ _ _
      by_cases e : f' = f
      · subst e; exact c1 V h3
      · exact N f' V (by omega) h2 h3
    | succ d ih =>
      intro x hx g F Mg N c1 o3 o4
      have Lg := Mg.1
      have hs := Lg.s 166 (p := (11, 0))
      have i1 : (64 : Int32) * nI f + nI x = nI (64 * f + x) := by rw [show (64 : Int32) * nI f = nI (64 * f) from pk_mul 64 _, nI_add]
      have wr : ∀ v : Int32, v = nI (nd S (bN S 1 - f) x) → ∀ o4 : Option Value, K_Mo_findNeeds n Q 126 [some (.ref 166), some (.int (nI f)), some (.int (nI x)), some (.int v), o4] [] g := by
        intro v hv o4
        refine b_Mo_findNeeds_126 ⟨hs, 187, Lg.r 166 50 187, ?_⟩
        rw [i1, nI_clamp (by omega)]
        refine ⟨⟨by decide, Lg.x 187 (n := 576) (by omega)⟩, b_Mo_findNeeds_138 ?_⟩
        rw [nI_1]
        refine ih (x + 1) (by omega) _ (F.wI mPa) (Mg.wa (by decide)) (fun f' V h1 h2 h3 => ?_) (fun y hy => ?_) _ _
        · rw [upI_o _ _ _ _ (by omega)]; exact N f' V h1 h2 h3
        · rw [upI]
          by_cases c : y = x
          · subst c; rw [if_pos rfl]; exact hv
          · rw [if_neg (by omega)]; exact c1 y (by omega)
      refine b_Mo_findNeeds_12 ⟨fun z => absurd z (nI_ge (b := 64) (by omega) (by decide)), fun _ => ⟨hs, c_Mo_listN (by omega) Mg (i := 1) rfl (by omega) ?_⟩⟩
      rw [nI_leI (by omega) (by omega)]
      refine ⟨fun z => ?_, fun z => ⟨hs, 187, Lg.r 166 50 187, ?_⟩⟩
      · have e : f = bN S 1 := by omega
        have w0 := wr 0 (by rw [e, Nat.sub_self]; rfl)
        refine b_Mo_findNeeds_48 ⟨hs, c_Mo_listN (by omega) Mg (i := 0) rfl (by omega) ⟨fun _ => w0 _, fun _ => ⟨hs, c_Mo_listN (by omega) Mg (i := 1) rfl (by omega) ?_⟩⟩⟩
        rw [nI_leI (by omega) (by omega)]
        exact ⟨fun _ => w0 _, fun y => absurd z y⟩
      · obtain ⟨e, he⟩ : ∃ e, bN S 1 = f + 1 + e := ⟨bN S 1 - (f + 1), by omega⟩
        have bd := nd_le ok e (by omega)
        have n9 := (ok.2.2.2.1 f (by omega)).2
        have i2 : ∀ V, (64 : Int32) * (nI f + 1) + nI V = nI (64 * (f + 1) + V) := fun V => by rw [nI_1, show (64 : Int32) * nI (f + 1) = nI (64 * (f + 1)) from pk_mul 64 _, nI_add]
        have N1 : ∀ V, V < 64 → xI g 187 (64 * (f + 1) + V) = nI (nd S e V) := fun V hV => by
          have := N (f + 1) V (Nat.le_refl _) (by omega) hV
          rwa [show bN S 1 - (f + 1) = e by omega] at this
        rw [i2, nI_clamp (by omega), N1 x (by omega)]
        refine ⟨Lg.x 187 (n := 576) (by omega), ?_⟩
        have key : ∀ dd k, k + dd = bN S 0 → K_Mo_findNeeds n Q 48 [some (.ref 166), some (.int (nI f)), some (.int (nI x)), some (.int (nI (ndg S (nd S e) f x (nd S e x) k))), some (.int (nI k))] [] g := by
          intro dd
          induction dd with
          | zero =>
            intro k hk
            have : k = bN S 0 := by omega
            subst this
            refine b_Mo_findNeeds_48 ⟨hs, c_Mo_listN (by omega) Mg (i := 0) rfl (by omega) ⟨fun _ => wr _ ?_ _, fun y => absurd (Int32.le_refl _) y⟩⟩
            rw [show bN S 1 - f = e + 1 by omega, nd_s, show bN S 1 - (e + 1) = f by omega]
          | succ dd ik =>
            intro k hk
            have ik' := ik (k + 1) (by omega)
            unfold ndg at ik'
            refine b_Mo_findNeeds_48 ⟨hs, c_Mo_listN (by omega) Mg (i := 0) rfl (by omega) ⟨fun y => absurd y (nI_ge (by omega) (by omega)), fun _ => ⟨hs, c_Mo_listN (by omega) Mg (i := 1) rfl (by omega) ⟨fun y => absurd y (nI_ge (by omega) (by omega)), fun _ => c_Mo_has (by omega) (by omega) (by omega) ?_⟩⟩⟩⟩
            rw [nI_1]
            cases cb : x.testBit k
            · rw [if_neg (fun y => by rw [cb] at y; exact absurd y.1 (by decide))] at ik'
              exact ⟨fun _ => ik', fun y => absurd rfl y⟩
            · refine ⟨fun y => absurd y (by decide), fun _ => ⟨hs, c_Mo_isFit (by omega) Mg (by omega) (by omega) ?_⟩⟩
              by_cases cf : fit S k f = true
              · rw [if_pos cf]
                rw [if_pos ⟨cb, cf⟩] at ik'
                refine ⟨fun y => absurd y (by decide), fun _ => ⟨hs, c_Mo_listN (by omega) Mg (nI_add 17 f) (by omega) ⟨hs, 187, Lg.r 166 50 187, ?_⟩⟩⟩
                have sl : sdf x (2 ^ k) < 64 := sdf_lt (k := 6) (by omega)
                rw [bt_clr _ (by omega), i2, nI_clamp (by omega), N1 _ sl, nI_add]
                refine ⟨Lg.x 187 (n := 576) (by omega), c_Mo_greater (by omega) ?_⟩
                have b1 := bd (sdf x (2 ^ k))
                have b2 := bd x
                have lb : ndg S (nd S e) f x (nd S e x) k ≤ 9 * (e + 1) := ndg_le (by omega) (fun y => by have := bd y; omega) k
                rw [mx_n (by omega) (by omega)]
                exact ik'
              · rw [if_neg cf]
                rw [if_neg (fun y => cf y.2)] at ik'
                exact ⟨fun _ => ik', fun y => absurd rfl y⟩
        exact key (bN S 0) 0 (by omega)
  have k6 : ∀ q, q ≤ bN S 1 + 1 → ∀ g, Fr PM h g → Ms g S → Mq g S q → ∀ o2 o3 o4 : Option Value, K_Mo_findNeeds n Q 6 [some (.ref 166), some (.int (nI q - 1)), o2, o3, o4] [] g := by
    intro q
    induction q with
    | zero =>
      intro hq g F Mg N o2 o3 o4
      exact b_Mo_findNeeds_6 ⟨fun _ => hQ g F Mg N, fun z => absurd (by decide) z⟩
    | succ q ih =>
      intro hq g F Mg N o2 o3 o4
      rw [nI_pred]
      exact b_Mo_findNeeds_6 ⟨fun z => absurd z (nI_pos (by omega)), fun _ => k12 q (by omega) (ih (by omega)) 64 0 (by omega) g F Mg N (fun y hy => absurd hy (Nat.not_lt_zero _)) _ _⟩
  refine w_Mo_findNeeds ⟨M.1.s 166, c_Mo_listN (by omega) M (i := 1) rfl (by omega) ?_⟩
  rw [← nI_pred]
  exact k6 (bN S 1 + 1) (Nat.le_refl _) h Fr.rf M (fun f V h1 h2 h3 => by omega) _ _ _
theorem fsx_no {p : Nat → Bool} : ∀ {d i : Nat}, (∀ k, i ≤ k → k < i + d → p k = false) → fsx p d i = i + d
  | 0, i, _ => rfl
  | d + 1, i, h => by
    unfold fsx
    rw [if_neg (by rw [h i (by omega) (by omega)]; decide), fsx_no (fun k h1 h2 => h k (by omega) (by omega))]
    omega
theorem fsx_cg {p p' : Nat → Bool} : ∀ {d i : Nat}, (∀ k, i ≤ k → k < i + d → p k = p' k) → fsx p d i = fsx p' d i
  | 0, i, _ => rfl
  | d + 1, i, h => by
    unfold fsx
    rw [h i (by omega) (by omega), fsx_cg (fun k h1 h2 => h k (by omega) (by omega))]
theorem pS_out {S : Nat → Int32} {d f a k : Nat} (hk : bN S 0 ≤ k) : pS S d f a k = false := by
  unfold pS
  have : fit S k f = false := decide_eq_false (fun z => by omega)
  rw [this, Bool.and_false, Bool.false_and]
theorem c_Mo_shoeOf {n : Nat} (hn : 4 ≤ n) {h : xh} {S : Nat → Int32} (M : Ms h S) (N : Mq h S 0) {t : Nat} (ht : t < bN S 1) {Q : Int32 → xh → Prop} (hQ : Q (nI (shS S t)) h) : xci (xMC n) 315 [.ref 166, .int (nI t)] h Q := by
  obtain ⟨n, rfl⟩ := xsucc (show 1 ≤ n by omega)
  have ok := M.2.2
  have o := ok.n
  have L := M.1
  have hs := L.s 166 (p := (11, 0))
  have f64 : 2 ^ bN S 0 ≤ 64 := Nat.le_trans (Nat.pow_le_pow_right (by decide) o.1) (by decide)
  have fp := Nat.two_pow_pos (bN S 0)
  have key : ∀ e f, f + e = t + 1 → ∀ V, V < 64 → (∀ k, k < bN S 0 → V.testBit k = (avl (gnS S f)).testBit k) → ∀ v3 : Int32, (1 ≤ f → v3 = nI (shS S (f - 1))) → ∀ o5 o6 : Option Value, K_Mo_shoeOf n Q 15 [some (.ref 166), some (.int (nI t)), some (.int (nI V)), some (.int v3), some (.int (nI f)), o5, o6] [] h := by
    intro e
    induction e with
    | zero =>
      intro f hf V hV eV v3 h3 o5 o6
      have : f = t + 1 := by omega
      subst this
      have := h3 (by omega)
      rw [show t + 1 - 1 = t by omega] at this
      subst this
      exact b_Mo_shoeOf_15 ⟨fun _ => hQ, fun z => absurd (nI_lt (by omega) (by omega)) z⟩
    | succ e ih =>
      intro f hf V hV eV v3 h3 o5 o6
      obtain ⟨d, hd⟩ : ∃ d, bN S 1 = f + 1 + d := ⟨bN S 1 - (f + 1), by omega⟩
      have gl := gnS_lt S f
      have pc : ∀ k, pS S d f V k = pS S d f (avl (gnS S f)) k := fun k => by
        by_cases c : k < bN S 0
        · unfold pS
          rw [eV k c, nd_c (S := S) (d + 1) eV, nd_c (S := S) d (a := sdf V (2 ^ k)) (a' := sdf (avl (gnS S f)) (2 ^ k)) (fun j hj => by rw [sdf_bit, sdf_bit, eV j hj])]
        · rw [pS_out (by omega), pS_out (by omega)]
      have sh : shS S f = fsx (pS S d f V) 6 0 := by
        unfold shS
        rw [show bN S 1 - (f + 1) = d by omega]
        exact fsx_cg (fun k _ _ => (pc k).symm)
      have sl : shS S f ≤ 6 := by rw [sh]; exact (fsx_le _ 6 0).2
      refine b_Mo_shoeOf_15 ⟨fun z => absurd z (nI_nlt (by omega) (by omega)), fun _ => ⟨hs, c_Mo_listN (by omega) M (i := 0) rfl (by omega) ?_⟩⟩
      have inner : ∀ j, j ≤ bN S 0 → ∀ v3 : Int32, v3 = nI (fsx (pS S d f V) (6 - j) j) → ∀ o6 : Option Value, K_Mo_shoeOf n Q 33 [some (.ref 166), some (.int (nI t)), some (.int (nI V)), some (.int v3), some (.int (nI f)), some (.int (nI j - 1)), o6] [] h := by
        intro j
        induction j with
        | zero =>
          intro hj v3 hv o6
          rw [Nat.sub_zero, ← sh] at hv
          subst hv
          refine b_Mo_shoeOf_33 ⟨fun _ => ⟨fun z => ?_, fun z => ?_⟩, fun z => absurd (by decide) z⟩
          · have nl : ¬ shS S f < 6 := fun y => nI_ge (b := 6) y (by decide) z
            rw [nI_and, Nat.and_self, nI_1]
            refine ih (f + 1) (by omega) V hV (fun k hk => by rw [gnS_n nl]; exact eV k hk) _ (fun _ => by rw [show f + 1 - 1 = f by omega]) _ _
          · have yl : shS S f < 6 := Nat.lt_of_not_le (fun y => z (nI_le (a := 6) y (by omega)))
            rw [bt_clr _ (by omega), nI_1]
            refine ih (f + 1) (by omega) (sdf V (2 ^ shS S f)) (sdf_lt (k := 6) hV) (fun k hk => ?_) _ (fun _ => by rw [show f + 1 - 1 = f by omega]) _ _
            rw [gnS_y yl, sdf_bit, eV k hk, (avl_b _ gl k (by omega)).1, (avl_b _ (orb_lt (k := 6) gl yl) k (by omega)).1, or_bit, Nat.testBit_two_pow]
            cases (gnS S f).testBit k <;> simp
        | succ j ij =>
          intro hj v3 hv o6
          rw [nI_pred]
          have st : fsx (pS S d f V) (6 - j) j = if pS S d f V j = true then j else fsx (pS S d f V) (6 - (j + 1)) (j + 1) := by
            rw [show 6 - j = (6 - (j + 1)) + 1 by omega]
            rfl
          have skip : ¬ pS S d f V j = true → ∀ o6 : Option Value, K_Mo_shoeOf n Q 108 [some (.ref 166), some (.int (nI t)), some (.int (nI V)), some (.int v3), some (.int (nI f)), some (.int (nI j)), o6] [] h := by
            intro np o6
            refine b_Mo_shoeOf_108 (b_Mo_shoeOf_109 ⟨fun _ => ?_, fun z => absurd rfl z⟩)
            rw [show nI j + (-1 : Int32) = nI j - 1 from (Int32.sub_eq_add_neg _ _).symm]
            refine ij (by omega) v3 ?_ _
            rw [st, if_neg np]
            exact hv
          refine b_Mo_shoeOf_33 ⟨fun z => absurd z (nI_pos (by omega)), fun _ => c_Mo_has (by omega) (by omega) (by omega) ?_⟩
          cases cb : V.testBit j
          · refine ⟨fun _ => skip (fun y => ?_) _, fun y => absurd rfl y⟩
            unfold pS at y
            rw [cb, Bool.false_and, Bool.false_and] at y
            exact absurd y (by decide)
          · refine ⟨fun y => absurd y (by decide), fun _ => ⟨hs, c_Mo_isFit (by omega) M (by omega) (by omega) ?_⟩⟩
            by_cases cf : fit S j f = true
            · rw [if_pos cf]
              refine ⟨fun y => absurd y (by decide), fun _ => ⟨hs, c_Mo_listN (by omega) M (nI_add 17 f) (by omega) ⟨hs, 187, L.r 166 50 187, ?_⟩⟩⟩
              have s6 : sdf V (2 ^ j) < 64 := sdf_lt (k := 6) hV
              rw [bt_clr _ (by omega), nI_1, show (64 : Int32) * nI (f + 1) = nI (64 * (f + 1)) from pk_mul 64 _, show (64 : Int32) * nI f = nI (64 * f) from pk_mul 64 _, nI_add, nI_add, nI_clamp (by omega), nI_clamp (by omega), N (f + 1) _ (by omega) (by omega) s6, N f V (by omega) (by omega) hV, nI_add, show bN S 1 - (f + 1) = d by omega, show bN S 1 - f = d + 1 by omega]
              have b1 := nd_le ok d (by omega) (sdf V (2 ^ j))
              have b2 := nd_le ok (d + 1) (by omega) V
              have n9 := (ok.2.2.2.1 f (by omega)).2
              rw [nI_eq (by omega) (by omega)]
              refine ⟨L.x 187 (n := 576) (by omega), L.x 187 (n := 576) (by omega), fun y => skip (fun q => y ?_) _, fun y => b_Mo_shoeOf_109 ⟨fun q => absurd q (by decide), fun _ => ?_⟩⟩
              · unfold pS at q
                simp only [Bool.and_eq_true] at q
                exact of_decide_eq_true q.2
              · rw [show nI j + (-1 : Int32) = nI j - 1 from (Int32.sub_eq_add_neg _ _).symm]
                refine ij (by omega) _ ?_ _
                rw [st, if_pos]
                unfold pS
                rw [cb, cf, decide_eq_true y]; rfl
            · rw [if_neg cf]
              refine ⟨fun _ => skip (fun y => ?_) _, fun y => absurd rfl y⟩
              unfold pS at y
              simp only [Bool.and_eq_true] at y
              exact cf y.1.2
      refine inner (bN S 0) (Nat.le_refl _) 6 ?_ _
      rw [fsx_no (fun k h1 h2 => pS_out h1), show bN S 0 + (6 - bN S 0) = 6 by omega]; rfl
  refine w_Mo_shoeOf ⟨hs, c_Mo_listN (by omega) M (i := 0) rfl (by omega) ?_⟩
  rw [bt_shl _ (by omega), show nI (2 ^ bN S 0) - (1 : Int32) = nI (2 ^ bN S 0 - 1) from pk_sub (b := 1) (by omega)]
  refine key (t + 1) 0 (by omega) _ (by omega) (fun k hk => ?_) (-1) (fun z => absurd z (by decide)) _ _
  rw [full_bit, decide_eq_true hk, (avl_b (gnS S 0) (by show 0 < 64; decide) k (by omega)).1]
  show true = !(Nat.testBit 0 k)
  rw [Nat.zero_testBit]; rfl
theorem c_Mo_shod {n : Nat} (hn : 5 ≤ n) {h : xh} (L : Lay h) {c : Nat} (W : ShM h c) {p k : Int32} {Q : Int32 → xh → Prop} (h1 : ∀ j, j < c → p = nI j → ∀ h', Fr PM h h' → Q (sShod (mS h j) k) h') (h0 : (∀ j, j < c → ¬ p = nI j) → ∀ h', Fr PM h h' → Q (-1) h') : xci (xMC n) 312 [.ref 166, .int p, .int k] h Q := by
  obtain ⟨n, rfl⟩ := xsucc (show 1 ≤ n by omega)
  have hs := L.s 166 (p := (11, 0))
  have P0 := mP
  refine w_Mo_shod ⟨⟨by decide, hs⟩, b_Mo_shod_5 ⟨hs, c_Mo_hasList (by omega) (h := xsI h 166 0 0) L (c := c) W (fun j hj e M => ⟨fun y => absurd y (by decide), fun _ => ?_⟩) (fun z => ⟨fun _ => h0 z _ ((Fr.rf.wI P0).wI P0), fun y => absurd rfl y⟩)⟩⟩
  have F : Fr PM h (xsI (xsI h 166 0 0) 166 49 p) := (Fr.rf.wI (h := h) (i := 0) (v := 0) P0).wI (i := 49) (v := p) P0
  have hQ := h1 j hj e
  generalize xsI (xsI h 166 0 0) 166 49 p = h' at F M ⊢
  have M' : Ms h' (mS h j) := M
  generalize mS h j = S at hQ M'
  have hs' := M'.1.s 166 (p := (11, 0))
  have ok := M'.2.2
  have o := ok.n
  refine ⟨hs', c_Mo_listN (by omega) M' (i := 1) rfl (by omega) (c_Mo_in (by omega) (fun z => ⟨fun _ => ⟨hs', c_Mo_findNeeds (by omega) M' (fun g F2 M2 N2 => ?_)⟩, fun y => absurd y (by decide)⟩) (fun z => ⟨fun y => absurd rfl y, fun _ => ?_⟩))⟩
  · have hQ := hQ g (F.tr F2)
    have hs2 := M2.1.s 166 (p := (11, 0))
    have f64 : 2 ^ bN S 0 ≤ 64 := Nat.le_trans (Nat.pow_le_pow_right (by decide) o.1) (by decide)
    have fp := Nat.two_pow_pos (bN S 0)
    refine ⟨fun y => ⟨hs2, ?_⟩, fun y => ⟨hs2, 187, M2.1.r 166 50 187, c_Mo_listN (by omega) M2 (i := 0) rfl (by omega) ?_⟩⟩
    · rcases (bwm (by omega)).mp z with e | ⟨i, hi, e⟩
      · exact absurd e y
      · subst e
        rw [sShod_n (by omega), if_pos hi] at hQ
        exact c_Mo_shoeOf (by omega) M2 N2 hi hQ
    · subst y
      rw [bt_shl _ (by omega), show nI (2 ^ bN S 0) - (1 : Int32) = nI (2 ^ bN S 0 - 1) from pk_sub (b := 1) (by omega), nI_clamp (by omega)]
      refine ⟨M2.1.x 187 (n := 576) (by omega), ?_⟩
      have e := N2 0 (2 ^ bN S 0 - 1) (by omega) (by omega) (by omega)
      rw [show 64 * 0 + (2 ^ bN S 0 - 1) = 2 ^ bN S 0 - 1 by omega, Nat.sub_zero] at e
      have ec : nd S (bN S 1) (2 ^ bN S 0 - 1) = nd S (bN S 1) 63 := nd_c _ (fun k hk => by
        have b63 : ∀ k, k < 6 → Nat.testBit 63 k = true := by decide
        rw [full_bit, decide_eq_true hk, b63 k (by omega)])
      rw [e, ec]
      exact hQ
  · have hQ := hQ h' F
    by_cases e : k = -1
    · exact absurd ((bwm (by omega)).mpr (Or.inl e)) z
    · by_cases q : k < 0
      · rwa [sShod_o e q] at hQ
      · obtain ⟨i, hi, ei⟩ := nI_of q
        subst ei
        rwa [sShod_n hi, if_neg (fun w => z ((bwm (by omega)).mpr (Or.inr ⟨i, w, rfl⟩)))] at hQ
