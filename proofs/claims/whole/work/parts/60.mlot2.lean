/-! lot in the reference: the call -/
theorem Mb.pl {h h' : xh} {B : Nat → Int32} (M : Mb h B) (F : Fr PL h h') (e : xI h' = xI h) : Mb h' B := by
  obtain ⟨L, ⟨k, hk, e1, d⟩, ok⟩ := M
  exact ⟨F.lay L, ⟨k, hk, by rw [e]; exact e1, fun i => by rw [e]; exact d i⟩, ok⟩
theorem c_Mo_lot {n : Nat} (hn : 4 ≤ n) {h : xh} (L : Lay h) {c : Nat} (W : BkM h c) {p q un : Int32} {Q : Int64 → xh → Prop} (h1 : ∀ j, j < c → p = nI j → ∀ i, i < c → q = nI i → ∀ h', Fr PM h h' → Q (sLot (mB h j) (mB h i) un) h') (h0 : (∀ j, j < c → ¬ p = nI j) ∨ (∀ j, j < c → ¬ q = nI j) → ∀ h', Fr PM h h' → Q (-1) h') : xcj (xMC n) 343 [.ref 166, .int p, .int q, .int un] h Q := by
  obtain ⟨n, rfl⟩ := xsucc (show 1 ≤ n by omega)
  have hs := L.s 166 (p := (11, 0))
  have F0 : Fr PM h (xsI h 166 0 0) := Fr.rf.wI mP
  obtain ⟨W0, e0⟩ := W.fr F0
  have c2 := W.2.1
  refine w_Mo_lot ⟨⟨by decide, hs⟩, b_Mo_lot_5 ⟨hs, c_Mo_hasB (by omega) (F0.lay L) W0 (fun i hi e2 g1 F1 M1 _ => ⟨fun y => absurd y (by decide), fun _ => ⟨M1.1.s 166, ?_⟩⟩) (fun z g F => ⟨fun _ => h0 (Or.inr z) g (F0.tr F), fun y => absurd rfl y⟩)⟩⟩
  obtain ⟨W1, e1⟩ := W.fr (F0.tr F1)
  refine c_Mo_hasB (by omega) M1.1 W1 (fun j hj e g2 F2 M2 _ => ⟨fun _ => ?_, fun y => absurd y (by decide)⟩) (fun z g F => ⟨fun y => absurd rfl y, fun _ => h0 (Or.inl z) g ((F0.tr F1).tr F)⟩)
  have hQ := h1 j hj e i hi e2
  rw [e1] at M2
  have Fg := (F0.tr F1).tr F2
  have oB := W.2.2 j hj
  have oC := W.2.2 i hi
  have hC : mB h i = mB h i := rfl
  subst e
  subst e2
  have n10 := oB.2.1
  have m10 := oC.2.1
  have hasB : ∀ {g : xh}, Fr PM h g → ∀ {R : Int32 → xh → Prop}, (∀ h', Fr PM h h' → Mb h' (mB h j) → xL h' = xL g → R 1 h') → xci (xMC n) 298 [.ref 166, .int (nI j)] g R := fun {g} F {R} r => c_Mo_hasBk (by omega) (F.lay L) (W.fr F).1 hj (fun h' F' M' e' => r h' (F.tr F') (by rw [← (W.fr F).2]; exact M') e')
  have hasC : ∀ {g : xh}, Fr PM h g → ∀ {R : Int32 → xh → Prop}, (∀ h', Fr PM h h' → Mb h' (mB h i) → xL h' = xL g → R 1 h') → xci (xMC n) 298 [.ref 166, .int (nI i)] g R := fun {g} F {R} r => c_Mo_hasBk (by omega) (F.lay L) (W.fr F).1 hi (fun h' F' M' e' => r h' (F.tr F') (by rw [← (W.fr F).2]; exact M') e')
  clear h1 h0 W0 W1 e0 e1 M1
  have k144 : ∀ (g : xh), Fr PM h g → Lm g (bN (mB h j) 0) (lp (mB h i) (lp (mB h j) bas (bN (mB h j) 0)) (bN (mB h i) 0)) → ∀ o1 o2 : Option Value, K_Mo_lot n Q 144 [some (.ref 166), o1, o2, some (.int un), some (.int (nI (bN (mB h j) 0))), some (.int (nI (suS (mB h j) (bN (mB h j) 0)))), some (.long 0), none, some (.long 0), none, some (.int 0)] [] g := by
    intro g F R o1 o2
    have hQ := hQ g F
    have Lg := F.lay L
    have su := suS_le oB (bN (mB h j) 0) (Nat.le_refl _)
    have u1 := lUp_le oB oC
    have d1 := lDn_le oB oC
    have d0 := lDn_ne oB oC
    unfold sLot at hQ
    have eU : lUp (mB h j) (mB h i) = sumN (fun x => if x < suS (mB h j) (bN (mB h j) 0) then 0 else lp (mB h i) (lp (mB h j) bas (bN (mB h j) 0)) (bN (mB h i) 0) (bN (mB h j) 0) x) 1981 := rfl
    have eD : lDn (mB h j) (mB h i) = sumN (fun x => lp (mB h i) (lp (mB h j) bas (bN (mB h j) 0)) (bN (mB h i) 0) (bN (mB h j) 0) x) 1981 := rfl
    generalize lp (mB h i) (lp (mB h j) bas (bN (mB h j) 0)) (bN (mB h i) 0) = P at R eU eD
    have key : ∀ d x, x + d = 1981 → K_Mo_lot n Q 144 [some (.ref 166), o1, o2, some (.int un), some (.int (nI (bN (mB h j) 0))), some (.int (nI (suS (mB h j) (bN (mB h j) 0)))), some (.long (lN (sumN (fun x => if x < suS (mB h j) (bN (mB h j) 0) then 0 else P (bN (mB h j) 0) x) x))), none, some (.long (lN (sumN (fun x => P (bN (mB h j) 0) x) x))), none, some (.int (nI x))] [] g := by
      intro d
      induction d with
      | zero =>
        intro x hx
        have : x = 1981 := by omega
        subst this
        rw [← eU, ← eD]
        exact b_Mo_lot_144 ⟨fun _ => c_Mo_part (by omega) (by omega) (by omega) d0 hQ, fun z => absurd (by decide) z⟩
      | succ d ih =>
        intro x hx
        have ih' := ih (x + 1) (by omega)
        unfold sumN at ih'
        have ix : (1981 : Int32) * nI (bN (mB h j) 0) + nI x = nI (1981 * bN (mB h j) 0 + x) := by
          rw [show (1981 : Int32) * nI (bN (mB h j) 0) = nI (1981 * bN (mB h j) 0) from pk_mul 1981 _, nI_add]
        refine b_Mo_lot_144 ⟨fun z => absurd z (nI_nlt (a := 1980) (b := x) (by omega) (by decide)), fun _ => ?_⟩
        rw [nI_ltI (by omega) (by omega), ix]
        refine ⟨fun z => b_Mo_lot_179 ⟨Lg.s 166, 191, Lg.r 166 55 191, ?_⟩, fun z => ⟨Lg.s 166, 191, Lg.r 166 55 191, Lg.x 191 (n := 21791) (by omega), b_Mo_lot_179 ⟨Lg.s 166, 191, Lg.r 166 55 191, ?_⟩⟩⟩
        · rw [ix, nI_clamp (by omega), R _ x (Nat.le_refl _) (by omega), nI_1, lN_add, show ∀ a, lN a + (0 : Int64) = lN (a + 0) from fun a => lN_add a 0]
          rw [if_pos z] at ih'
          exact ⟨Lg.x 191 (n := 21791) (by omega), ih'⟩
        · rw [ix, nI_clamp (by omega), R _ x (Nat.le_refl _) (by omega), nI_1, lN_add, lN_add]
          rw [if_neg z] at ih'
          exact ⟨Lg.x 191 (n := 21791) (by omega), ih'⟩
    exact key 1981 0 (by omega)
  have k101 : ∀ (D : Nat → Int32) (w : Nat) (P0 : Nat → Nat → Nat), (∀ (g : xh), Fr PM h g → Lm g (bN (mB h j) 0) (lp D P0 (bN D 0)) → ∀ o7 o8 o9 o10 : Option Value, K_Mo_lot n Q 77 [some (.ref 166), some (.int (nI j)), some (.int (nI i)), some (.int un), some (.int (nI (bN (mB h j) 0))), some (.int (nI (suS (mB h j) (bN (mB h j) 0)))), some (.int (nI (w + 1))), o7, o8, o9, o10] [] g) → ∀ d k, k + d = bN D 0 → ∀ (g : xh), Fr PM h g → Mb g D → Lm g (bN (mB h j) 0) (lp D P0 k) → ∀ o8 o9 o10 : Option Value, K_Mo_lot n Q 101 [some (.ref 166), some (.int (nI j)), some (.int (nI i)), some (.int un), some (.int (nI (bN (mB h j) 0))), some (.int (nI (suS (mB h j) (bN (mB h j) 0)))), some (.int (nI w)), some (.int (nI k)), o8, o9, o10] [] g := by
    intro D w P0 nx d
    induction d with
    | zero =>
      intro k hk g F M R o8 o9 o10
      have : k = bN D 0 := by omega
      subst this
      refine b_Mo_lot_101 ⟨M.1.s 166, c_Mo_nights (by omega) M ⟨fun _ => ?_, fun z => absurd (Int32.le_refl _) z⟩⟩
      rw [nI_1]
      exact nx g F R _ _ _ _
    | succ d ih =>
      intro k hk g F M R o8 o9 o10
      have d10 := M.2.2.2.1
      refine b_Mo_lot_101 ⟨M.1.s 166, c_Mo_nights (by omega) M ⟨fun z => absurd z (nI_ge (by omega) (by omega)), fun _ => ⟨M.1.s 166, c_Mo_nightOf (by omega) M (k := k) (w := 0) (by omega) (by omega) rfl rfl ⟨M.1.s 166, c_Mo_picks (by omega) M.1 n10 R (M.2.2.2.2 k (by omega)).1 (fun g2 F2 eI R2 => ?_)⟩⟩⟩⟩
      rw [nI_1]
      exact ih (k + 1) (by omega) g2 (F.tr (F2.mo PL_PM)) (M.pl F2 eI) R2 _ _ _
  have k77 : ∀ (g : xh), Fr PM h g → Lm g (bN (mB h j) 0) bas → ∀ o7 o8 o9 o10 : Option Value, K_Mo_lot n Q 77 [some (.ref 166), some (.int (nI j)), some (.int (nI i)), some (.int un), some (.int (nI (bN (mB h j) 0))), some (.int (nI (suS (mB h j) (bN (mB h j) 0)))), some (.int 0), o7, o8, o9, o10] [] g := by
    intro g F R o7 o8 o9 o10
    refine b_Mo_lot_77 ⟨fun z => absurd z (by decide), fun _ => ⟨fun z => absurd rfl z, fun _ => ⟨(F.lay L).s 166, hasB F (fun g1 F1 M1 x1 => ?_)⟩⟩⟩
    refine k101 (mB h j) 0 bas (fun g2 F2 R2 o7 o8 o9 o10 => ?_) _ 0 (Nat.zero_add _) g1 F1 M1 (fun k x hk hx => by rw [x1]; exact R k x hk hx) _ _ _
    refine b_Mo_lot_77 ⟨fun z => absurd z (by decide), fun _ => ⟨fun _ => ⟨(F2.lay L).s 166, hasC F2 (fun g3 F3 M3 x3 => ?_)⟩, fun z => absurd z (by decide)⟩⟩
    refine k101 (mB h i) 1 (lp (mB h j) bas (bN (mB h j) 0)) (fun g4 F4 R4 o7 o8 o9 o10 => ?_) _ 0 (Nat.zero_add _) g3 F3 M3 (fun k x hk hx => by rw [x3]; exact R2 k x hk hx) _ _ _
    exact b_Mo_lot_77 ⟨fun _ => k144 g4 F4 R4 _ _, fun z => absurd (by decide) z⟩
  have k28 : ∀ d k, k + d = 21791 → ∀ (g : xh), Fr PM h g → Mb g (mB h j) → (∀ x, x < k → xL g 191 x = lN (if x = 0 then 1 else 0)) → ∀ o5 o6 o7 o8 o9 o10 : Option Value, K_Mo_lot n Q 28 [some (.ref 166), some (.int (nI j)), some (.int (nI i)), some (.int un), some (.int (nI k)), o5, o6, o7, o8, o9, o10] [] g := by
    intro d
    induction d with
    | zero =>
      intro k hk g F M R o5 o6 o7 o8 o9 o10
      have : k = 21791 := by omega
      subst this
      refine b_Mo_lot_28 ⟨fun _ => ⟨M.1.s 166, c_Mo_nights (by omega) M ⟨M.1.s 166, c_Mo_seenFrom (by omega) M (a := 0) (k := bN (mB h j) 0) (by omega) (Nat.le_refl _) rfl rfl ?_⟩⟩, fun z => absurd (Int32.le_refl _) z⟩
      rw [show suS (mB h j) 0 = 0 from rfl, Nat.sub_zero]
      refine k77 g F (fun k x hk hx => ?_) _ _ _ _
      rw [R _ (by omega)]
      unfold bas
      by_cases z : k = 0 ∧ x = 0
      · rw [if_pos z, if_pos (by omega)]
      · rw [if_neg z, if_neg (by omega)]
    | succ d ih =>
      intro k hk g F M R o5 o6 o7 o8 o9 o10
      have step : ∀ v : Int64, v = lN (if k = 0 then 1 else 0) → (64 ≤ 191 ∧ xar g 191 22 (nI k)) ∧ K_Mo_lot n Q 53 [some (.ref 166), some (.int (nI j)), some (.int (nI i)), some (.int un), some (.int (nI k)), o5, o6, o7, o8, o9, o10] [] (xsL g 191 (nI k).toNatClampNeg v) := by
        intro v hv
        refine ⟨⟨by decide, M.1.x 191 (n := 21791) (by omega)⟩, b_Mo_lot_53 ?_⟩
        rw [nI_1, nI_clamp (by omega)]
        refine ih (k + 1) (by omega) _ (F.wL mPa) (by exact M) (fun x hx => ?_) _ _ _ _ _ _
        rw [upL]
        by_cases c : x = k
        · subst c; rw [if_pos rfl, hv]
        · rw [if_neg c]; exact R x (by omega)
      refine b_Mo_lot_28 ⟨fun z => absurd z (nI_ge (b := 21791) (by omega) (by decide)), fun _ => ⟨M.1.s 166, 191, M.1.r 166 55 191, fun z => step _ ?_, fun z => step _ ?_⟩⟩
      · rw [if_neg (fun e => z (by rw [e]; rfl))]; rfl
      · rw [if_pos ((nI_eq (b := 0) (by omega) (by decide)).mp z)]; rfl
  exact k28 21791 0 (by omega) g2 Fg M2 (fun x hx => absurd hx (Nat.not_lt_zero _)) _ _ _ _ _ _
