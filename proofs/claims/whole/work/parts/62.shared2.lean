/-! shared: the calls -/
def dy (x t : Int32) : Prop := xbw x 0 127 ∧ xbw t 0 7
theorem c_So_areDays {n : Nat} (hn : 1 ≤ n) {h : xh} {x t : Int32} {Q : Int32 → xh → Prop} (h1 : ∀ V m, V < 128 → m ≤ 7 → x = nI V → t = nI m → Q 1 h) (h0 : ¬ dy x t → Q 0 h) : xci (xMC n) 202 [.int x, .int t] h Q := by
  obtain ⟨n, rfl⟩ := xsucc hn
  have e127 : (127 : Int32).toInt = 127 := rfl
  have e128 : (128 : Int32).toInt = 128 := rfl
  refine w_So_areDays ⟨fun z => h0 (fun y => y.1.1 z), fun z => ⟨fun y => h0 (fun w => w.1.2 ?_), fun y => ⟨fun q => h0 (fun w => w.2.1 q), fun q => ⟨fun r => h0 (fun w => w.2.2 r), fun r => ?_⟩⟩⟩⟩
  · rw [Int32.le_iff_toInt_le] at y
    rw [Int32.lt_iff_toInt_lt]
    omega
  · obtain ⟨V, hV, eV⟩ := nI_of z
    subst eV
    obtain ⟨m, hm, em⟩ := nI_of2 (M := 7) (n := 7) rfl q (Int32.not_lt.mp r)
    have v : V < 128 := by
      by_cases c : V < 128
      · exact c
      · exact absurd (nI_le (a := 128) (by omega) hV) y
    exact h1 V m v hm rfl em
def sShr (V C n m : Nat) (w : Int32) : Int32 := if w = 0 then nI (7 - cov C m (vD V C n m 128).1) else if w = 1 then 0 else if w = 2 then nI (vD V C n m 128).1 else nI (lb (sdf C (vD V C n m 128).1) m 7)
theorem cov7 {C m d : Nat} (hC : C < 128) (hd : d < 128) : cov C m d ≤ 7 := by
  have e1 := pcn_union d C 9
  have h : ∀ Z, Z < 128 → pcn 9 Z ≤ 7 := by decide +kernel
  have := h (d ||| C) (or_lt (k := 7) hd hC)
  unfold cov
  omega
theorem c_So_shared {k : Nat} (hk : 3 ≤ k) {h : xh} {p q a b w : Int32} {Q : Int32 → xh → Prop} (h1 : ∀ V C n m, V < 128 → C < 128 → n ≤ 7 → m ≤ 7 → p = nI V → q = nI C → a = nI n → b = nI m → xbw w 0 3 → Q (sShr V C n m w) h) (h0 : ¬ (dy p a ∧ dy q b ∧ xbw w 0 3) → Q (-1) h) : xci (xMC k) 201 [.ref 64, .int p, .int q, .int a, .int b, .int w] h Q := by
  obtain ⟨k, rfl⟩ := xsucc (show 1 ≤ k by omega)
  refine w_So_shared (c_So_areDays (by omega) (fun V n hV hn eV en => ⟨fun y => absurd y (by decide), fun _ => c_So_areDays (by omega) (fun C m hC hm eC em => ⟨fun y => absurd y (by decide), fun _ => ⟨fun z => h0 (fun y => y.2.2.1 z), fun z => ⟨fun z3 => ?_, fun z3 => h0 (fun y => y.2.2.2 (Int32.not_le.mp z3))⟩⟩⟩) (fun z => ⟨fun _ => h0 (fun y => z y.2.1), fun y => absurd rfl y⟩)⟩) (fun z => ⟨fun _ => h0 (fun y => z y.1), fun y => absurd rfl y⟩))
  have hQ := h1 V C n m hV hC hn hm eV eC en em ⟨z, Int32.not_lt.mpr z3⟩
  subst eV
  subst eC
  subst en
  subst em
  obtain ⟨s1, s2, s3, s4, s5, s6, s7, s8, s9, _⟩ := shr_p (V := V) (n := n) hC hm
  have c7 := cov7 (m := m) hC s1
  unfold sShr at hQ
  refine c_So_vanDays (by omega) hV hC hn hm ?_
  rw [bt_sdf]
  refine c_So_lowestBits (by omega) (sdf_lt (k := 7) hC) hm ?_
  rw [nI_or, nI_and]
  refine ⟨fun y => c_Integer_bitCount (by omega) ?_ ?_, fun y0 => ⟨fun y => c_Integer_bitCount (by omega) ?_ ?_, fun y1 => ⟨fun y => ?_, fun y2 => ?_⟩⟩⟩
  · have := or_lt (k := 7) s1 s5
    omega
  · rw [if_pos y] at hQ
    rw [s8, show (7 : Int32) - nI (cov C m (vD V C n m 128).1) = nI (7 - cov C m (vD V C n m 128).1) from pk_sub (a := 7) c7]
    exact hQ
  · have : (vD V C n m 128).1 &&& lb (sdf C (vD V C n m 128).1) m 7 ≤ (vD V C n m 128).1 := Nat.and_le_left
    omega
  · rw [if_neg y0, if_pos y] at hQ
    rw [s9]
    exact hQ
  · rwa [if_neg y0, if_neg y1, if_pos y] at hQ
  · rwa [if_neg y0, if_neg y1, if_neg y2] at hQ
theorem c_Mo_shared {k : Nat} (hk : 3 ≤ k) {h : xh} (L : Lay h) {p q a b w : Int32} {Q : Int32 → xh → Prop} (h1 : ∀ V C n m, V < 128 → C < 128 → n ≤ 7 → m ≤ 7 → p = nI V → q = nI C → a = nI n → b = nI m → xbw w 0 3 → ∀ h', Fr PM h h' → Q (sShr V C n m w) h') (h0 : ¬ (dy p a ∧ dy q b ∧ xbw w 0 3) → ∀ h', Fr PM h h' → Q (-1) h') : xci (xMC k) 330 [.ref 166, .int p, .int q, .int a, .int b, .int w] h Q := by
  obtain ⟨k, rfl⟩ := xsucc (show 1 ≤ k by omega)
  have hs := L.s 166 (p := (11, 0))
  have F0 : Fr PM h (xsI h 166 0 0) := Fr.rf.wI mP
  refine w_Mo_shared ⟨⟨by decide, hs⟩, b_Mo_shared_5 (c_Mo_in (by omega) (fun z1 => ⟨fun y => absurd y (by decide), fun _ => c_Mo_in (by omega) (fun z2 => ⟨fun y => absurd y (by decide), fun _ => c_Mo_in (by omega) (fun z3 => ⟨fun y => absurd y (by decide), fun _ => c_Mo_in (by omega) (fun z4 => ⟨fun y => absurd y (by decide), fun _ => c_Mo_in (by omega) (fun z5 => ⟨fun _ => ?_, fun y => absurd y (by decide)⟩) (fun z => ⟨fun y => absurd rfl y, fun _ => h0 (fun y => z y.2.2) _ F0⟩)⟩) (fun z => ⟨fun _ => h0 (fun y => z y.2.1.2) _ F0, fun y => absurd rfl y⟩)⟩) (fun z => ⟨fun _ => h0 (fun y => z y.1.2) _ F0, fun y => absurd rfl y⟩)⟩) (fun z => ⟨fun _ => h0 (fun y => z y.2.1.1) _ F0, fun y => absurd rfl y⟩)⟩) (fun z => ⟨fun _ => h0 (fun y => z y.1.1) _ F0, fun y => absurd rfl y⟩))⟩
  obtain ⟨V, hV, eV⟩ := xbw_of (m := 127) rfl z1
  obtain ⟨C, hC, eC⟩ := xbw_of (m := 127) rfl z2
  obtain ⟨n, hn, en⟩ := xbw_of (m := 7) rfl z3
  obtain ⟨m, hm, em⟩ := xbw_of (m := 7) rfl z4
  have hQ := h1 V C n m (by omega) (by omega) hn hm eV eC en em z5 _ F0
  subst eV
  subst eC
  subst en
  subst em
  generalize xsI h 166 0 0 = g at hQ ⊢
  obtain ⟨s1, s2, s3, s4, s5, s6, s7, s8, s9, s10⟩ := shr_p (V := V) (n := n) (show C < 128 by omega) hm
  have c7 := cov7 (m := m) (show C < 128 by omega) s1
  unfold sShr at hQ
  generalize hD : (vD V C n m 128).1 = D at *
  generalize hL : lb (sdf C D) m 7 = M at *
  have key : ∀ d i, i + d = 16384 → ∀ (v6 v7 : Int32), (i ≤ 128 * D + M → ∃ l : Nat, v7 = nI l ∧ 8 * (7 - cov C m D) < l ∧ l ≤ 1000000) → (128 * D + M < i → v6 = nI (128 * D + M) ∧ v7 = nI (8 * (7 - cov C m D))) → ∀ o0 o9 o10 o11 : Option Value, K_Mo_shared k Q 69 [o0, some (.int (nI V)), some (.int (nI C)), some (.int (nI n)), some (.int (nI m)), some (.int w), some (.int v6), some (.int v7), some (.int (nI i)), o9, o10, o11] [] g := by
    intro d
    induction d with
    | zero =>
      intro i hi v6 v7 i1 i2 o0 o9 o10 o11
      have : i = 16384 := by omega
      subst this
      obtain ⟨e6, e7⟩ := i2 (by omega)
      subst e6
      subst e7
      refine b_Mo_shared_69 ⟨fun _ => ⟨fun y0 => ⟨fun y1 => ⟨fun y2 => ?_, fun y => ?_⟩, fun y => ?_⟩, fun y => ?_⟩, fun z => absurd (Int32.le_refl _) z⟩
      · rw [if_neg y0, if_neg y1, if_neg y2] at hQ
        rw [show nI (128 * D + M) - nI (128 * D + M) / (128 : Int32) * 128 = nI ((128 * D + M) % 128) from pk_rem (d := 128) (by omega) (by decide) (by decide), show (128 * D + M) % 128 = M by omega]
        exact hQ
      · rw [if_neg y0, if_neg y1, if_pos y] at hQ
        rw [show nI (128 * D + M) / (128 : Int32) = nI ((128 * D + M) / 128) from pk_div (d := 128) (by omega) (by decide) (by decide), show (128 * D + M) / 128 = D by omega]
        exact hQ
      · rw [if_neg y0, if_pos y] at hQ
        rw [show nI (8 * (7 - cov C m D)) - nI (8 * (7 - cov C m D)) / (8 : Int32) * 8 = nI ((8 * (7 - cov C m D)) % 8) from pk_rem (d := 8) (by omega) (by decide) (by decide), show (8 * (7 - cov C m D)) % 8 = 0 by omega]
        exact hQ
      · rw [if_pos y] at hQ
        rw [show nI (8 * (7 - cov C m D)) / (8 : Int32) = nI ((8 * (7 - cov C m D)) / 8) from pk_div (d := 8) (by omega) (by decide) (by decide), show (8 * (7 - cov C m D)) / 8 = 7 - cov C m D by omega]
        exact hQ
    | succ d ih =>
      intro i hi v6 v7 i1 i2 o0 o9 o10 o11
      have dm : nI i - nI i / (128 : Int32) * 128 = nI (i % 128) := pk_rem (d := 128) (by omega) (by decide) (by decide)
      have dv : nI i / (128 : Int32) = nI (i / 128) := pk_div (d := 128) (by omega) (by decide) (by decide)
      have b1 : i / 128 < 128 := by omega
      have b2 : i % 128 < 128 := by omega
      have sp := s10 (i / 128) (i % 128) b1 b2
      have skip : ¬ (sdf (i / 128) V = 0 ∧ sdf (i % 128) C = 0 ∧ pcn 9 (i / 128) ≤ n ∧ pcn 9 (i % 128) ≤ m) → ∀ o9 o10 o11 : Option Value, K_Mo_shared k Q 69 [o0, some (.int (nI V)), some (.int (nI C)), some (.int (nI n)), some (.int (nI m)), some (.int w), some (.int v6), some (.int v7), some (.int (nI i + 1)), o9, o10, o11] [] g := by
        intro ns o9 o10 o11
        rw [nI_1]
        refine ih (i + 1) (by omega) v6 v7 (fun y => i1 (by omega)) (fun y => ?_) _ _ _ _
        by_cases e : i = 128 * D + M
        · exfalso
          have e1 : i / 128 = D := by omega
          have e2 : i % 128 = M := by omega
          rw [e1, e2] at ns
          exact ns ⟨s3, s6, s4, s7⟩
        · exact i2 (by omega)
      refine b_Mo_shared_69 ⟨fun z => absurd z (nI_ge (b := 16384) (by omega) (by decide)), fun _ => ?_⟩
      rw [dm, dv, bt_sdf, bt_sdf, nI_or, nI_and]
      have t1 : sdf (i / 128) V < 128 := sdf_lt (k := 7) b1
      have t2 : sdf (i % 128) C < 128 := sdf_lt (k := 7) b2
      refine ⟨fun z => skip (fun y => z (by rw [y.1]; rfl)) _ _ _, fun z => ?_⟩
      have q1 : sdf (i / 128) V = 0 := (nI_eq (b := 0) (by omega) (by decide)).mp z
      refine ⟨fun z => skip (fun y => z (by rw [y.2.1]; rfl)) _ _ _, fun z => ?_⟩
      have q2 : sdf (i % 128) C = 0 := (nI_eq (b := 0) (by omega) (by decide)).mp z
      have l1 := pcn_le 9 (i / 128)
      have l2 := pcn_le 9 (i % 128)
      refine c_Mo_ones (by omega) (by omega) ?_
      rw [nI_ltI (by omega) (by omega)]
      refine ⟨fun z => skip (fun y => by have := y.2.2.1; omega) _ _ _, fun z3 => c_Mo_ones (by omega) (by omega) ?_⟩
      rw [nI_ltI (by omega) (by omega)]
      refine ⟨fun z => skip (fun y => by have := y.2.2.2; omega) _ _ _, fun z4 => ?_⟩
      obtain ⟨g1, g2⟩ := sp q1 q2 (by omega) (by omega)
      have u1 : (i / 128 ||| i % 128) < 128 := or_lt (k := 7) b1 b2
      have u2 : (i / 128 &&& i % 128) ≤ i / 128 := Nat.and_le_left
      have l4 := pcn_le 9 (i / 128 &&& i % 128)
      refine c_Mo_ones (by omega) (by omega) (c_Mo_ones (by omega) (by omega) ?_)
      have eb : (8 : Int32) * (7 - nI (pcn 9 (i / 128 ||| i % 128))) + nI (pcn 9 (i / 128 &&& i % 128)) = nI (8 * (7 - pcn 9 (i / 128 ||| i % 128)) + pcn 9 (i / 128 &&& i % 128)) := by
        rw [show (7 : Int32) - nI (pcn 9 (i / 128 ||| i % 128)) = nI (7 - pcn 9 (i / 128 ||| i % 128)) from pk_sub (a := 7) (by omega), show (8 : Int32) * nI (7 - pcn 9 (i / 128 ||| i % 128)) = nI (8 * (7 - pcn 9 (i / 128 ||| i % 128))) from pk_mul 8 _, nI_add]
      rw [eb]
      generalize hu : pcn 9 (i / 128 ||| i % 128) = u at *
      generalize ho : pcn 9 (i / 128 &&& i % 128) = o at *
      have fin : ∀ t0 : Int32, (i < 128 * D + M → True) → (i = 128 * D + M → t0 = nI (128 * D + M)) → (128 * D + M < i → t0 = v6) → ∀ o6 o9 o10 : Option Value, K_Mo_shared k Q 169 [o0, some (.int (nI V)), some (.int (nI C)), some (.int (nI n)), some (.int (nI m)), some (.int w), o6, some (.int v7), some (.int (nI i)), o9, o10, some (.int (nI (8 * (7 - u) + o)))] [.int t0] g := by
        intro t0 _ f2 f3 o6 o9 o10
        refine b_Mo_shared_169 (c_Mo_lesser (by omega) ?_)
        rw [nI_1]
        by_cases cc : i ≤ 128 * D + M
        · obtain ⟨l, el, l7, l8⟩ := i1 cc
          clear i1 i2
          subst el
          rw [mn_n (by omega) (by omega)]
          refine ih (i + 1) (by omega) t0 _ (fun y => ⟨_, rfl, ?_, by omega⟩) (fun y => ?_) _ _ _ _
          · by_cases eu : u = cov C m D
            · by_cases eo : o = 0
              · have := g2 eu eo
                omega
              · omega
            · omega
          · have ei : i = 128 * D + M := by omega
            have e1 : i / 128 = D := by omega
            have e2 : i % 128 = M := by omega
            rw [e1, e2] at hu ho
            refine ⟨f2 ei, ?_⟩
            congr 1
            omega
        · obtain ⟨e6, e7⟩ := i2 (by omega)
          clear i1 i2
          subst e7
          rw [mn_n (by omega) (by omega)]
          refine ih (i + 1) (by omega) t0 _ (fun y => by omega) (fun y => ⟨(f3 (by omega)).trans e6, ?_⟩) _ _ _ _
          congr 1
          omega
      refine ⟨fun z => fin v6 (fun _ => trivial) (fun e => ?_) (fun _ => rfl) _ _ _, fun z => fin (nI i) (fun _ => trivial) (fun e => by rw [e]) (fun e => ?_) _ _ _⟩
      · exfalso
        obtain ⟨l, el, l7, l8⟩ := i1 (by omega)
        clear i1 i2
        subst el
        rw [nI_leI (by omega) (by omega)] at z
        have e1 : i / 128 = D := by omega
        have e2 : i % 128 = M := by omega
        rw [e1, e2] at hu ho
        omega
      · exfalso
        obtain ⟨e6, e7⟩ := i2 (by omega)
        clear i1 i2
        subst e7
        rw [nI_leI (by omega) (by omega)] at z
        omega
  exact key 16384 0 (by omega) (-1) 1000000 (fun _ => ⟨1000000, rfl, by omega, by omega⟩) (fun y => absurd y (Nat.not_lt_zero _)) _ _ _ _
