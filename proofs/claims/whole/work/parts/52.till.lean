/-! till, state, drawn in the class -/
def bgW (T : Nat → Int32) (w : Int32) : Nat → Int32 := fun i => if i = 1 then -1 else if i = 2 then T 2 else if i = 7 then w else if 10 ≤ i ∧ i < 10 + stp T then mid T (i - 10) else 0
theorem bgW_m {T : Nat → Int32} {w : Int32} {s : Nat} (hs : s < stp T) : bgW T w (10 + s) = mid T s := by
  unfold bgW
  rw [if_neg (by omega), if_neg (by omega), if_neg (by omega), if_pos (by omega), show 10 + s - 10 = s by omega]
theorem bgW_z {T : Nat → Int32} {w : Int32} {i : Nat} (hi : 10 + stp T ≤ i) : bgW T w i = 0 := by
  unfold bgW
  rw [if_neg (by omega), if_neg (by omega), if_neg (by omega), if_neg (by omega)]
theorem c_Walk_begin {n : Nat} (hn : 3 ≤ n) {h : xh} (L : Lay h) {t : Nat} {T : Nat → Int32} (H : Tn h t T) (ht : t + 7 < 141) {Q : xh → Prop} (hQ : ∀ h', Fr PW h h' → CW h' t T (bgW T (xI h 141 7)) → Q h') : xcv (xMC n) 114 [.ref 141, .ref t] h Q := by
  obtain ⟨n, rfl⟩ := xsucc (show 1 ≤ n by omega)
  have s9 := stp9 H.ok
  have hs := L.s 141 (p := (7, 0))
  have ge : 64 ≤ 141 := by decide
  refine w_Walk_begin ⟨⟨ge, hs⟩, b_Walk_begin_5 ⟨⟨ge, hs⟩, b_Walk_begin_10 ⟨H.s, ⟨ge, hs⟩, ?_⟩⟩⟩
  have e2 : xI (xsI (xsI h 141 0 0) 141 1 (-1)) t 2 = T 2 := by
    rw [xsI_ne _ _ _ (by omega), xsI_ne _ _ _ (by omega)]
    exact H.i 2
  rw [e2]
  refine b_Walk_begin_18 ⟨⟨ge, hs⟩, b_Walk_begin_23 ⟨⟨ge, hs⟩, b_Walk_begin_28 ⟨⟨ge, hs⟩, b_Walk_begin_33 ⟨⟨ge, hs⟩, b_Walk_begin_38 ?_⟩⟩⟩⟩
  have key : ∀ d s, s + d = 9 → ∀ g, Fr PW h g → (∀ i, i < 8 → xI g 141 i = bgW T (xI h 141 7) i) → (∀ j s', j < 4 → s' < s → xI g (142 + j) s' = bgW T (xI h 141 7) (10 + 10 * j + s')) → K_Walk_begin n Q 40 [some (.ref 141), some (.ref t), some (.int (nI s))] [] g := by
    intro d
    induction d with
    | zero =>
      intro s hsd g F e1 e2
      have : s = 9 := by omega
      subst this
      refine b_Walk_begin_40 ⟨fun _ => hQ g F ⟨F.lay L, ⟨H.fr F (fun c h1 h2 z => by have := z.1; omega), ht⟩, e1, e2, Or.inl rfl⟩, fun z => absurd (Int32.le_refl _) z⟩
    | succ d ih =>
      intro s hsd g F e1 e2
      have Lg := F.lay L
      have Hg : Tn g t T := H.fr F (fun c h1 h2 z => by have := z.1; omega)
      have fin : ∀ v : Int32, v = bgW T (xI h 141 7) (10 + s) → (64 ≤ 142 ∧ xar g 142 20 (nI s)) ∧ K_Walk_begin n Q 57 [some (.ref 141), some (.ref t), some (.int (nI s))] [] (xsI g 142 (nI s).toNatClampNeg v) := by
        intro v hv
        have cl : (nI s).toNatClampNeg = s := nI_clamp (by omega)
        refine ⟨⟨by decide, Lg.x 142 (n := 9) (by omega)⟩, b_Walk_begin_57 ⟨Lg.s 141, 143, Lg.r 141 9 143, ⟨by decide, Lg.x 143 (n := 9) (by omega)⟩, b_Walk_begin_64 ⟨Lg.s 141, 144, Lg.r 141 10 144, ⟨by decide, Lg.x 144 (n := 9) (by omega)⟩, b_Walk_begin_71 ⟨Lg.s 141, 145, Lg.r 141 11 145, ⟨by decide, Lg.x 145 (n := 9) (by omega)⟩, b_Walk_begin_78 ?_⟩⟩⟩⟩
        rw [cl, nI_1]
        refine ih (s + 1) (by omega) _ ((((F.wI ⟨by decide, by decide⟩).wI ⟨by decide, by decide⟩).wI ⟨by decide, by decide⟩).wI ⟨by decide, by decide⟩) (fun i hi => ?_) (fun j s' hj hs' => ?_)
        · rw [xsI_ne _ _ _ (by decide), xsI_ne _ _ _ (by decide), xsI_ne _ _ _ (by decide), xsI_ne _ _ _ (by decide)]
          exact e1 i hi
        · by_cases es : s' = s
          · subst es
            have : j = 0 ∨ j = 1 ∨ j = 2 ∨ j = 3 := by omega
            rcases this with e | e | e | e
            · subst e
              rw [xsI_ne _ _ _ (by decide), xsI_ne _ _ _ (by decide), xsI_ne _ _ _ (by decide), upI_s]
              exact hv
            · subst e
              rw [xsI_ne _ _ _ (by decide), xsI_ne _ _ _ (by decide), upI_s, bgW_z (by omega)]
            · subst e
              rw [xsI_ne _ _ _ (by decide), upI_s, bgW_z (by omega)]
            · subst e
              rw [upI_s, bgW_z (by omega)]
          · rw [upI_c, upI_c, upI_c, upI_c, if_neg (fun z => es z.2), if_neg (fun z => es z.2), if_neg (fun z => es z.2), if_neg (fun z => es z.2)]
            exact e2 j s' hj (by omega)
      refine b_Walk_begin_40 ⟨fun z => absurd z (nI_ge (a := s) (b := 9) (by omega) (by decide)), fun _ => ⟨Lg.s 141, 142, Lg.r 141 8 142, Hg.s, ?_⟩⟩
      by_cases c : s < stp T
      · exact c_Town_middle (by omega) Hg c (fin _ (bgW_m c).symm)
      · exact c_Town_middle0 (by omega) Hg (fun k hk e => by have := (nI_eq (by omega) (by omega)).mp e; omega) (fin _ (bgW_z (by omega)).symm)
  refine key 9 0 (by omega) _ (((((((Fr.rf.wI wP1).wI wP1).wI wP1).wI wP1).wI wP1).wI wP1).wI wP1) (fun i hi => ?_) (fun j s' hj hs' => absurd hs' (Nat.not_lt_zero _))
  have : i = 0 ∨ i = 1 ∨ i = 2 ∨ i = 3 ∨ i = 4 ∨ i = 5 ∨ i = 6 ∨ i = 7 := by omega
  rw [xsI_at, xsI_at, xsI_at, xsI_at, xsI_at, xsI_at, xsI_at]
  rcases this with e | e | e | e | e | e | e | e
  · subst e; rfl
  · subst e; rfl
  · subst e; rfl
  · subst e; rfl
  · subst e; rfl
  · subst e; rfl
  · subst e; rfl
  · subst e; rfl
/-- how many deeds could be, and how it is then -/
def run (T E : Nat → Int32) : Nat → Nat → (Nat → Int32) → Nat × (Nat → Int32)
  | 0, k, W => (k, W)
  | d + 1, k, W => match ddW T W (E (1 + 2 * k)) (E (2 + 2 * k)) with
    | none => (k, W)
    | some W' => run T E d (k + 1) W'
theorem run_n {T E W : Nat → Int32} {d k : Nat} (h : ddW T W (E (1 + 2 * k)) (E (2 + 2 * k)) = none) : run T E (d + 1) k W = (k, W) := by
  show (match ddW T W (E (1 + 2 * k)) (E (2 + 2 * k)) with | none => (k, W) | some W' => run T E d (k + 1) W') = _
  rw [h]
theorem run_s {T E W W' : Nat → Int32} {d k : Nat} (h : ddW T W (E (1 + 2 * k)) (E (2 + 2 * k)) = some W') : run T E (d + 1) k W = run T E d (k + 1) W' := by
  show (match ddW T W (E (1 + 2 * k)) (E (2 + 2 * k)) with | none => (k, W) | some W' => run T E d (k + 1) W') = _
  rw [h]
theorem run_le {T E : Nat → Int32} : ∀ (d k : Nat) (W : Nat → Int32), (run T E d k W).1 ≤ k + d
  | 0, k, W => Nat.le_refl _
  | d + 1, k, W => by
    cases c : ddW T W (E (1 + 2 * k)) (E (2 + 2 * k)) with
    | none => rw [run_n c]; show k ≤ _; omega
    | some W' => rw [run_s c]; have := run_le d (k + 1) W' (T := T) (E := E); omega
theorem c_Walk_follow {n : Nat} (hn : 6 ≤ n) {h : xh} {t e : Nat} {T W E : Nat → Int32} (C : CW h t T W) (G : Ev h e E) (he : e + 2 < 141) {N : Nat} (hN : N ≤ dds E) {x : Int32} (hx : x = nI N) {Q : Int32 → xh → Prop} (hQ : ∀ h', Fr PW h h' → CW h' t T (run T E N 0 W).2 → Q (nI (run T E N 0 W).1) h') : xci (xMC n) 115 [.ref 141, .ref t, .ref e, .int x] h Q := by
  obtain ⟨n, rfl⟩ := xsucc (show 1 ≤ n by omega)
  subst hx
  have d40 : dds E ≤ 40 := G.2.2.2.2.2
  have key : ∀ d k, k + d = N → ∀ (g : xh) (V : Nat → Int32), Fr PW h g → CW g t T V → (∀ h', Fr PW h h' → CW h' t T (run T E d k V).2 → Q (nI (run T E d k V).1) h') → K_Walk_follow n Q 3 [some (.ref 141), some (.ref t), some (.ref e), some (.int (nI N)), some (.int (nI k))] [] g := by
    intro d
    induction d with
    | zero =>
      intro k hk g V F C' q
      have : k = N := by omega
      subst this
      have Gg : Ev g e E := G.fr F (fun c h1 h2 z => by have := z.1; omega)
      refine b_Walk_follow_3 ⟨fun _ => ⟨Gg.1, c_Math_min (by omega) ?_⟩, fun z => absurd (Int32.le_refl _) z⟩
      rw [Gg.2.2.1, G.2.2.2.2.1, if_neg (nI_nlt (by omega) (by omega))]
      exact q g F C'
    | succ d ih =>
      intro k hk g V F C' q
      have Gg : Ev g e E := G.fr F (fun c h1 h2 z => by have := z.1; omega)
      refine b_Walk_follow_3 ⟨fun z => absurd z (nI_ge (by omega) (by omega)), fun _ => ⟨Gg.1, ?_⟩⟩
      rw [Gg.2.2.1, G.2.2.2.2.1]
      refine ⟨fun z => absurd z (nI_ge (by omega) (by omega)), fun _ => ⟨_, Gg.2.1.1, xarN Gg.2.1.2.2.1 (by omega), _, Gg.2.1.2.1, xarN Gg.2.1.2.2.2 (by omega), C'.L.s 141, ?_⟩⟩
      rw [nI_clamp (by omega), (Gg.2.2.2.1 k (by omega)).1, (Gg.2.2.2.1 k (by omega)).2, nI_1]
      refine c_Walk_perform (by omega) C' (fun W' e' h' F' C'' => ⟨fun _ => ?_, fun y => absurd y (by decide)⟩) (fun e' => ⟨fun y => absurd rfl y, fun _ => ?_⟩)
      · rw [run_s e'] at q
        exact ih (k + 1) (by omega) h' W' (F.tr F') C'' q
      · rw [run_n e'] at q
        exact q g F C'
  exact w_Walk_follow (key N 0 (by omega) h W Fr.rf C hQ)
def sDet (T W : Nat → Int32) (w : Int32) : Int32 := if w < 0 then -2 else if w.toNatClampNeg < 7 then W w.toNatClampNeg else if w.toNatClampNeg < 10 then -2 else if w.toNatClampNeg % 10 < stp T then (if w.toNatClampNeg / 10 = 1 then W (10 + w.toNatClampNeg % 10) else if w.toNatClampNeg / 10 = 2 then W (20 + w.toNatClampNeg % 10) else if w.toNatClampNeg / 10 = 3 then W (30 + w.toNatClampNeg % 10) else -2) else -2
theorem sDet_o {T W : Nat → Int32} {w : Int32} (h : w < 0) : sDet T W w = -2 := if_pos h
theorem sDet_n {T W : Nat → Int32} {m : Nat} (h : m < 2 ^ 31) : sDet T W (nI m) = if m < 7 then W m else if m < 10 then -2 else if m % 10 < stp T then (if m / 10 = 1 then W (10 + m % 10) else if m / 10 = 2 then W (20 + m % 10) else if m / 10 = 3 then W (30 + m % 10) else -2) else -2 := by
  unfold sDet
  rw [if_neg (nI_pos h), nI_clamp h]
theorem sDet_s {T W : Nat → Int32} {m : Nat} {x : Int32} (hx : x = nI m) (h : m < 7) : sDet T W x = W m := by
  subst hx
  rw [sDet_n (by omega), if_pos h]
theorem c_Walk_detail {n : Nat} (hn : 2 ≤ n) {h : xh} {t : Nat} {T W : Nat → Int32} (C : CW h t T W) {w : Int32} {Q : Int32 → xh → Prop} (hQ : Q (sDet T W w) h) : xci (xMC n) 122 [.ref 141, .ref t, .int w] h Q := by
  obtain ⟨n, rfl⟩ := xsucc (show 1 ≤ n by omega)
  have hs := C.L.s 141 (p := (7, 0))
  have f : ∀ i : Nat, i < 7 → w = nI i → Q (xI h 141 i) h := fun i hi e => by
    rw [sDet_s e hi] at hQ
    rw [C.i i (by omega)]
    exact hQ
  refine w_Walk_detail ⟨fun z => ⟨hs, f 0 (by decide) z⟩, fun z0 => ⟨fun z => ⟨hs, f 1 (by decide) z⟩, fun z1 => ⟨fun z => ⟨hs, f 2 (by decide) z⟩, fun z2 => ⟨fun z => ⟨hs, f 3 (by decide) z⟩, fun z3 => ⟨fun z => ⟨hs, f 4 (by decide) z⟩, fun z4 => ⟨fun z => ⟨hs, f 5 (by decide) z⟩, fun z5 => ⟨fun z => ⟨hs, f 6 (by decide) z⟩, fun z6 => ⟨fun z => ?_, fun z => ⟨C.H.s, ?_⟩⟩⟩⟩⟩⟩⟩⟩⟩
  · by_cases w0 : w < 0
    · rwa [sDet_o w0] at hQ
    · obtain ⟨m, hm, e⟩ := nI_of w0
      subst e
      have m10 : m < 10 := (nI_ltI (b := 10) hm (by decide)).mp z
      have b : ∀ i : Nat, m = i → nI m = nI i := fun i e => by rw [e]
      have a0 : m ≠ 0 := fun e => z0 (b 0 e)
      have a1 : m ≠ 1 := fun e => z1 (b 1 e)
      have a2 : m ≠ 2 := fun e => z2 (b 2 e)
      have a3 : m ≠ 3 := fun e => z3 (b 3 e)
      have a4 : m ≠ 4 := fun e => z4 (b 4 e)
      have a5 : m ≠ 5 := fun e => z5 (b 5 e)
      have a6 : m ≠ 6 := fun e => z6 (b 6 e)
      rwa [sDet_n hm, if_neg (by omega), if_pos m10] at hQ
  · have w0 : ¬ w < 0 := fun y => z (Int32.lt_of_lt_of_le y (by decide))
    obtain ⟨m, hm, e⟩ := nI_of w0
    subst e
    have m10 : ¬ m < 10 := fun y => z (nI_lt (b := 10) y (by decide))
    rw [sDet_n hm, if_neg (by omega), if_neg m10] at hQ
    rw [show nI m - nI m / (10 : Int32) * 10 = nI (m % 10) from pk_rem (d := 10) hm (by decide) (by decide), show nI m / (10 : Int32) = nI (m / 10) from pk_div (d := 10) hm (by decide) (by decide)]
    have s9 := stp9 C.H.ok
    by_cases c : m % 10 < stp T
    · rw [if_pos c] at hQ
      refine C.H.hs (by omega) c ⟨fun _ => ⟨hs, ?_⟩, fun y => absurd y (by decide)⟩
      obtain ⟨n, rfl⟩ := xsucc (show 1 ≤ n by omega)
      have cl : (nI (m % 10)).toNatClampNeg = m % 10 := nI_clamp (by omega)
      have k9 : m % 10 < 9 := by omega
      refine w_Walk_detailOfStop ⟨fun y => ⟨hs, 142, C.L.r 141 8 142, C.L.x 142 (n := 9) k9, ?_⟩, fun y1 => ⟨fun y => ⟨hs, 143, C.L.r 141 9 143, C.L.x 143 (n := 9) k9, ?_⟩, fun y2 => ⟨fun y => ⟨hs, 144, C.L.r 141 10 144, C.L.x 144 (n := 9) k9, ?_⟩, fun y3 => ?_⟩⟩⟩
      · have e := (nI_eq (b := 1) (by omega) (by decide)).mp y
        rw [if_pos e] at hQ
        rw [cl, show xI h 142 (m % 10) = W (10 + m % 10) from C.a 0 k9]
        exact hQ
      · have e := (nI_eq (b := 2) (by omega) (by decide)).mp y
        rw [if_neg (by omega), if_pos e] at hQ
        rw [cl, show xI h 143 (m % 10) = W (20 + m % 10) from C.a 1 k9]
        exact hQ
      · have e := (nI_eq (b := 3) (by omega) (by decide)).mp y
        rw [if_neg (by omega), if_neg (by omega), if_pos e] at hQ
        rw [cl, show xI h 144 (m % 10) = W (30 + m % 10) from C.a 2 k9]
        exact hQ
      · have b : ∀ i : Nat, m / 10 = i → nI (m / 10) = nI i := fun i e => by rw [e]
        rwa [if_neg (fun e => y1 (b 1 e)), if_neg (fun e => y2 (b 2 e)), if_neg (fun e => y3 (b 3 e))] at hQ
    · rw [if_neg c] at hQ
      exact C.H.hs0 (by omega) (fun k hk e => by have := (nI_eq (by omega) (by omega)).mp e; omega) ⟨fun y => absurd rfl y, fun _ => hQ⟩
