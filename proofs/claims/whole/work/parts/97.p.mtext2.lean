/-! A TEXT in the reference: readText, text -/
def P176 (c : Nat) : Prop := c = 176
theorem c_Mo_blank {n : Nat} (hn : 2 ≤ n) {h : xh} (L : Lay h) {q : Nat} (hq : q < 4) {Q : xh → Prop} (hQ : ∀ g, Fr P176 h g → Td g (bln q) → Q g) : xcv (xMC n) 215 [.ref 166, .int (nI q)] h Q := by
  obtain ⟨n, rfl⟩ := xsucc (show 1 ≤ n by omega)
  have key : ∀ d k, k + d = 81 → ∀ g, Fr P176 h g → (∀ i, i < k → xI g 176 i = if q = 0 ∧ 61 ≤ i ∧ i ≤ 69 then -1 else 0) → K_Mo_blank n Q 2 [some (.ref 166), some (.int (nI q)), some (.int (nI k))] [] g := by
    intro d
    induction d with
    | zero =>
      intro k hk g G c1
      have : k = 81 := by omega
      subst this
      have Lg := G.lay L
      refine b_Mo_blank_2 ⟨fun _ => ?_, fun z => absurd (Int32.le_refl _) z⟩
      rw [nI_e0 (by omega)]
      refine ⟨fun q0 => hQ g G (fun i hi => ?_), fun q0 => ⟨Lg.s 166, 176, Lg.r 166 19 176, ⟨by decide, Lg.x 176 (i := 2) (n := 81) (by omega)⟩, ?_⟩⟩
      · rw [c1 i hi, if_neg (fun z => q0 z.1)]
        unfold bln
        rw [if_neg q0]
      · subst q0
        have L1 : Lay (xsI g 176 2 60) := Lg
        have L2 : Lay (xsI (xsI g 176 2 60) 176 3 2) := Lg
        have L3 : Lay (xsI (xsI (xsI g 176 2 60) 176 3 2) 176 4 60) := Lg
        refine b_Mo_blank_52 ⟨L1.s 166, 176, L1.r 166 19 176, ⟨by decide, L1.x 176 (i := 3) (n := 81) (by omega)⟩, b_Mo_blank_59 ⟨L2.s 166, 176, L2.r 166 19 176, ⟨by decide, L2.x 176 (i := 4) (n := 81) (by omega)⟩, b_Mo_blank_67 ⟨L3.s 166, 176, L3.r 166 19 176, ⟨by decide, L3.x 176 (i := 5) (n := 81) (by omega)⟩, ?_⟩⟩⟩
        refine hQ _ ((((G.wI rfl).wI rfl).wI rfl).wI rfl) (fun i hi => ?_)
        rw [show (2 : Int32).toNatClampNeg = 2 from rfl, show (3 : Int32).toNatClampNeg = 3 from rfl, show (4 : Int32).toNatClampNeg = 4 from rfl, show (5 : Int32).toNatClampNeg = 5 from rfl, upI, upI, upI, upI]
        unfold bln
        rw [if_pos rfl]
        by_cases e5 : i = 5
        · subst e5; rfl
        · rw [if_neg e5]
          by_cases e4 : i = 4
          · subst e4; rfl
          · rw [if_neg e4]
            by_cases e3 : i = 3
            · subst e3; rfl
            · rw [if_neg e3]
              by_cases e2 : i = 2
              · subst e2; rfl
              · rw [if_neg e2, c1 i hi]
                by_cases w : 61 ≤ i ∧ i < 70
                · rw [if_pos ⟨rfl, by omega, by omega⟩, if_pos w]
                · rw [if_neg (fun z => w ⟨z.2.1, by omega⟩), if_neg w, if_neg (by omega), if_neg e3, if_neg e5]
    | succ d ih =>
      intro k hk g G c1
      have Lg := G.lay L
      have wr : ∀ v : Int32, v = (if q = 0 ∧ 61 ≤ k ∧ k ≤ 69 then -1 else 0) → ((64 ≤ 176 ∧ xar g 176 20 (nI k)) ∧ K_Mo_blank n Q 34 [some (.ref 166), some (.int (nI q)), some (.int (nI k))] [] (xsI g 176 (nI k).toNatClampNeg v)) := fun v hv => by
        refine ⟨⟨by decide, Lg.x 176 (n := 81) (by omega)⟩, b_Mo_blank_34 ?_⟩
        rw [nI_1, nI_clamp (by omega)]
        refine ih (k + 1) (by omega) _ (G.wI rfl) (fun i hi => ?_)
        rw [upI]
        by_cases e : i = k
        · rw [if_pos e, e]; exact hv
        · rw [if_neg e]; exact c1 i (by omega)
      refine b_Mo_blank_2 ⟨fun z => absurd z (nI_ge (b := 81) (by omega) (by decide)), fun _ => ⟨Lg.s 166, 176, Lg.r 166 19 176, ?_⟩⟩
      rw [nI_e0 (by omega)]
      refine ⟨fun q0 => wr 0 (by rw [if_neg (fun z => q0 z.1)]), fun q0 => c_Mo_in (by omega) (fun z => ⟨fun y => absurd y (by decide), fun _ => wr (-1) ?_⟩) (fun z => ⟨fun _ => wr 0 ?_, fun y => absurd rfl y⟩)⟩
      · have a : 61 ≤ k := Nat.le_of_not_lt (fun y => z.1 (nI_lt (b := 61) y (by decide)))
        have b : k ≤ 69 := Nat.le_of_not_lt (fun y => z.2 (nI_lt (a := 69) y (by omega)))
        rw [if_pos ⟨q0, a, b⟩]
      · rw [if_neg (fun y => z ⟨nI_nlt (b := 61) y.2.1 (by omega), nI_nlt (a := 69) y.2.2 (by decide)⟩)]
  exact w_Mo_blank (key 81 0 (by omega) h Fr.rf (fun i hi => absurd hi (Nat.not_lt_zero _)))
def Pw (c : Nat) : Prop := c = 166 ∨ c = 169 ∨ c = 170 ∨ c = 176 ∨ c = 177
theorem kd_0 {B : Nat → Nat} {len s : Nat} (h : kd B len s = 0) (hs : s ≤ len) : s = len := by
  unfold kd at h
  by_cases c : len ≤ s
  · omega
  · rw [if_neg c] at h
    exfalso
    by_cases c1 : isL (B s) = true
    · rw [if_pos c1] at h; exact absurd h (by decide)
    · rw [if_neg c1] at h
      by_cases c2 : isD (B s) = true
      · rw [if_pos c2] at h
        split at h <;> exact absurd h (by decide)
      · rw [if_neg c2] at h
        split at h <;> exact absurd h (by decide)
theorem c_Mo_readText {n : Nat} (hn : 10 ≤ n) {h : xh} (L : Lay h) {B : Nat → Nat} (T : TpM h B) {len : Nat} (l6 : len ≤ 600) (e11 : xI h 166 11 = nI len) {q : Nat} (hq : q < 4) {Q : Int32 → xh → Prop} (hQ : ∀ g r, rdR B len q = r → Fr Pw h g → (∀ i, i ≠ 0 → xI g 169 i = xI h 169 i ∧ xI g 170 i = xI h 170 i) → xI g 169 0 = nI (rdF q r) → xI g 170 0 = rdP len q r → (rdF q r = 0 → Td g r.2.2.2.1) → Q (if rdF q r = 0 then 1 else 0) g) : xci (xMC n) 214 [.ref 166, .int (nI q)] h Q := by
  obtain ⟨n, rfl⟩ := xsucc (show 1 ≤ n by omega)
  refine w_Mo_readText ⟨L.s 166, c_Mo_blank (by omega) L hq (fun g0 G0 td0 => ⟨⟨by decide, (G0.lay L).s 166⟩, ?_⟩)⟩
  have L0 := G0.lay L
  have L1 : Lay (xsI g0 166 21 (-1)) := L0
  have L2 : Lay (xsI (xsI g0 166 21 (-1)) 166 10 0) := L0
  have L3 : Lay (xsI (xsI (xsI g0 166 21 (-1)) 166 10 0) 166 17 0) := L0
  refine b_Mo_readText_10 ⟨⟨by decide, L1.s 166⟩, b_Mo_readText_15 ⟨⟨by decide, L2.s 166⟩, b_Mo_readText_20 ⟨L3.s 166, ?_⟩⟩⟩
  have G3 : Fr Pn h (xsI (xsI (xsI g0 166 21 (-1)) 166 10 0) 166 17 0) := (((G0.mo (fun c z => by unfold P176 at z; unfold Pn; omega)).wI (Or.inl rfl)).wI (Or.inl rfl)).wI (Or.inl rfl)
  have a11 : xI (xsI (xsI (xsI g0 166 21 (-1)) 166 10 0) 166 17 0) 166 11 = nI len := by rw [upI_o _ _ _ _ (by decide), upI_o _ _ _ _ (by decide), upI_o _ _ _ _ (by decide), G0.i 166 (fun z => by unfold P176 at z; omega)]; exact e11
  have a10 : xI (xsI (xsI (xsI g0 166 21 (-1)) 166 10 0) 166 17 0) 166 10 = nI 0 := by rw [upI_o _ _ _ _ (by decide), upI_s]; rfl
  have a17 : xI (xsI (xsI (xsI g0 166 21 (-1)) 166 10 0) 166 17 0) 166 17 = 0 := upI_s _ _ _ _
  have a21 : xI (xsI (xsI (xsI g0 166 21 (-1)) 166 10 0) 166 17 0) 166 21 = -1 := by rw [upI_o _ _ _ _ (by decide), upI_o _ _ _ _ (by decide), upI_s]
  have td3 : Td (xsI (xsI (xsI g0 166 21 (-1)) 166 10 0) 166 17 0) (bln q) := fun i hi => by rw [xsI_ne _ _ _ (by decide), xsI_ne _ _ _ (by decide), xsI_ne _ _ _ (by decide)]; exact td0 i hi
  have T3 : TpM (xsI (xsI (xsI g0 166 21 (-1)) 166 10 0) 166 17 0) B := fun i hi => by rw [G3.i 167 (fun z => by unfold Pn at z; omega)]; exact T i hi
  generalize xsI (xsI (xsI g0 166 21 (-1)) 166 10 0) 166 17 0 = g3 at *
  refine c_Mo_token (by omega) L3 T3 l6 (Nat.zero_le _) a11 a10 (fun g4 f4 C4 => ⟨(f4.1.lay L3).s 166, ?_⟩)
  have L4 := f4.1.lay L3
  have M4 : ML g4 q B len (tS B len 0) (0, 0) (bln q) 0 := ⟨⟨L4, f4.tp T3, l6⟩, ⟨⟨C4, by rw [f4.2 17 (by omega)]; exact a17, by decide, fun z => absurd rfl z⟩, Or.inl rfl, (tS_b (Nat.zero_le _)).2⟩, ⟨td3.fm f4.m, by rw [f4.m.2, a21]; rfl, by decide, (bln_ok hq).c hq⟩⟩
  have G4 : Fr Pn h g4 := G3.tr f4.m.n
  have toW : ∀ {g}, Fr Pn h g → Fr Pw h g := fun G => G.mo (fun c z => by unfold Pn at z; unfold Pw; omega)
  have last : ∀ g r v2 f (p : Int32), Fr Pn h g → rdR B len q = r → f = rdF q r → p = rdP len q r → (rdF q r = 0 → Td g r.2.2.2.1) → f ≤ 5 → (v2 = 0 → f = 1 ∧ xI g 166 16 = p) → (¬ v2 = 0 → xI g 166 17 = nI f ∧ (f = 0 → p = -1) ∧ (f ≠ 0 → xI g 166 18 = p)) → ∀ o1 : Option Value, K_Mo_readText n Q 68 [some (.ref 166), o1, some (.int v2)] [] g := fun g r v2 f p G er ef ep td f5 w0 w1 o1 => by
    have Lg := G.lay L
    have k85 : ∀ o1 : Option Value, K_Mo_readText n Q 85 [some (.ref 166), o1, some (.int v2)] [.int (nI f), .int 0, .ref 169] g := fun o1 => by
      refine b_Mo_readText_85 ⟨⟨by decide, Lg.x 169 (i := 0) (n := 4) (by omega)⟩, ?_⟩
      rw [show (0 : Int32).toNatClampNeg = 0 from rfl]
      have L5 : Lay (xsI g 169 0 (nI f)) := Lg
      have k117 : ∀ o1 : Option Value, K_Mo_readText n Q 117 [some (.ref 166), o1, some (.int v2)] [.int p, .int 0, .ref 170] (xsI g 169 0 (nI f)) := fun o1 => by
        refine b_Mo_readText_117 ⟨⟨by decide, L5.x 170 (i := 0) (n := 4) (by omega)⟩, ?_⟩
        rw [show (0 : Int32).toNatClampNeg = 0 from rfl]
        have L6 : Lay (xsI (xsI g 169 0 (nI f)) 170 0 p) := Lg
        refine b_Mo_readText_118 ⟨L6.s 166, 169, L6.r 166 3 169, L6.x 169 (i := 0) (n := 4) (by omega), ?_⟩
        have e9 : xI (xsI (xsI g 169 0 (nI f)) 170 0 p) 169 0 = nI f := by rw [xsI_ne _ _ _ (by decide), upI_s]
        rw [show (0 : Int32).toNatClampNeg = 0 from rfl, e9, nI_e0 (by omega)]
        have fin := hQ (xsI (xsI g 169 0 (nI f)) 170 0 p) r er (((toW G).wI (Or.inr (Or.inl rfl))).wI (Or.inr (Or.inr (Or.inl rfl)))) (fun i hi => by
          rw [xsI_ne _ _ _ (show 169 ≠ 170 by decide), upI_o _ _ _ _ hi, upI_o _ _ _ _ hi, xsI_ne _ _ _ (show 170 ≠ 169 by decide), G.i 169 (fun z => by unfold Pn at z; omega), G.i 170 (fun z => by unfold Pn at z; omega)]; exact ⟨rfl, rfl⟩) (by rw [e9, ef]) (by rw [upI_s, ep]) (fun z i hi => by rw [xsI_ne _ _ _ (by decide), xsI_ne _ _ _ (by decide)]; exact td z i hi)
        rw [← ef] at fin
        refine ⟨fun z => ?_, fun z => ?_⟩
        · rw [if_neg z] at fin; exact fin
        · rw [if_pos z] at fin; exact fin
      refine b_Mo_readText_86 ⟨L5.s 166, 170, L5.r 166 4 170, ?_⟩
      rw [xsI_ne _ _ _ (show 166 ≠ 169 by decide)]
      refine ⟨fun z => ?_, fun z => ?_⟩
      · obtain ⟨q1, q2, q3⟩ := w1 z
        rw [q1]
        refine ⟨fun y => ?_, fun y => ?_⟩
        · have f0 : f = 0 := Classical.byContradiction (fun w => nI_nle (by omega) (by omega) y)
          have := k117
          rw [q2 f0] at this
          exact this _
        · have f0 : f ≠ 0 := fun w => y (by rw [w]; decide)
          rw [q3 f0]
          exact k117 _
      · rw [(w0 z).2]
        exact k117 _
    refine b_Mo_readText_68 ⟨Lg.s 166, 169, Lg.r 166 3 169, fun z => ?_, fun z => ?_⟩
    · have := k85
      rw [(w0 z).1] at this
      exact this _
    · rw [(w1 z).1]
      exact k85 _
  refine c_Mo_lines (r := rdR B len q) (d := 601) (by omega) hq M4 (by omega) rfl (fun r1 g5 G5 M5 k0 => ?_) (fun r0 g5 G5 e16 => ⟨fun _ => ?_, fun z => absurd rfl z⟩)
  · generalize hr : rdR B len q = r at r1 M5 k0
    obtain ⟨ok, s, F, D, far⟩ := r
    have r1 : ok = true := r1
    subst r1
    obtain ⟨⟨L5, T5, _⟩, ⟨C5, o5, hs5⟩, ⟨td5, e21, f100, cn⟩⟩ := M5
    have hs5 : s ≤ len := hs5
    have es : s = len := kd_0 k0 hs5
    have G5' := G4.tr G5
    have norm : (F.1 = 0 → ¬ (q = 0 ∧ bN D 6 < far)) → K_Mo_readText n Q 68 [some (.ref 166), some (.int (nI q)), some (.int 1)] [] g5 := fun hn => by
      have eF : rdF q (true, s, F, D, far) = F.1 := by
        unfold rdF
        rw [if_pos rfl]
        show (if F.1 = 0 then (if q = 0 ∧ bN D 6 < far then 5 else 0) else F.1) = F.1
        by_cases f0 : F.1 = 0
        · rw [if_pos f0, if_neg (hn f0), f0]
        · rw [if_neg f0]
      have eP : rdP len q (true, s, F, D, far) = if F.1 = 0 then -1 else nI F.2 := by
        unfold rdP
        rw [if_pos rfl]
        show (if F.1 = 0 then (if q = 0 ∧ bN D 6 < far then nI len else -1) else nI F.2) = _
        by_cases f0 : F.1 = 0
        · rw [if_pos f0, if_pos f0, if_neg (hn f0)]
        · rw [if_neg f0, if_neg f0]
      refine last g5 _ 1 F.1 (if F.1 = 0 then -1 else nI F.2) G5' hr eF.symm eP.symm (fun _ => td5) C5.2.2.1 (fun z => absurd z (by decide)) (fun _ => ⟨C5.2.1, fun z => by rw [if_pos z], fun z => by rw [if_neg z]; exact (C5.2.2.2 z).1⟩) _
    refine ⟨fun z => absurd z (by decide), fun _ => ?_⟩
    rw [nI_e0 (by omega)]
    refine ⟨fun q0 => norm (fun _ y => q0 y.1), fun q0 => ⟨L5.s 166, ?_⟩⟩
    have c17 : xI g5 166 17 = nI F.1 := C5.2.1
    have f5 : F.1 ≤ 5 := C5.2.2.1
    rw [c17, nI_e0 (by omega)]
    refine ⟨fun f0 => norm (fun z => absurd z f0), fun f0 => ⟨176, L5.r 166 19 176, L5.x 176 (i := 6) (n := 81) (by omega), ?_⟩⟩
    subst q0
    obtain ⟨cn1, cn2⟩ : D 6 = nI (bN D 6) ∧ bN D 6 ≤ 9 := cn
    have e21' : xI g5 166 21 = nI far - 1 := e21
    have f100' : far ≤ 100 := f100
    have ec : (nI far - 1 < nI (bN D 6)) ↔ far ≤ bN D 6 := by
      by_cases c0 : far = 0
      · subst c0
        exact ⟨fun _ => by omega, fun _ => Int32.lt_of_lt_of_le (by decide) (nI_pos' (by omega))⟩
      · rw [show nI far - (1 : Int32) = nI (far - 1) from pk_sub (b := 1) (by omega), nI_ltI (by omega) (by omega)]
        omega
    rw [show (6 : Int32).toNatClampNeg = 6 from rfl, show xI g5 176 6 = D 6 from td5 6 (by decide), cn1, e21', ec]
    refine ⟨fun z => norm (fun _ y => by omega), fun z => ?_⟩
    have c12 : xI g5 166 12 = nI s := C5.1.2.1
    rw [c12, es]
    rw [es] at C5
    have o5' : ord F len := Or.inl f0
    refine c_Mo_later (f := 5) (by omega) L5 l6 C5 (by decide) (by decide) o5' (Nat.le_refl _) (fun g6 G6 i6 e6 C6 => ?_)
    have en : nt F 5 len = (5, len) := by unfold nt; rw [if_pos f0]
    rw [en] at C6
    have eF : rdF 0 (true, s, F, D, far) = 5 := by
      unfold rdF
      rw [if_pos rfl]
      show (if F.1 = 0 then (if 0 = 0 ∧ bN D 6 < far then 5 else 0) else F.1) = 5
      rw [if_pos f0, if_pos ⟨rfl, by omega⟩]
    have eP : rdP len 0 (true, s, F, D, far) = nI len := by
      unfold rdP
      rw [if_pos rfl]
      show (if F.1 = 0 then (if 0 = 0 ∧ bN D 6 < far then nI len else -1) else nI F.2) = _
      rw [if_pos f0, if_pos ⟨rfl, by omega⟩]
    exact last g6 _ 1 5 (nI len) (G5'.tr (G6.mo (fun c z => by unfold Pt at z; unfold Pn; omega))) hr eF.symm eP.symm (fun z => by rw [eF] at z; exact absurd z (by decide)) (by decide) (fun z => absurd z (by decide)) (fun _ => ⟨C6.2.1, fun z => absurd z (by decide), fun _ => (C6.2.2.2 (show (5 : Nat) ≠ 0 by decide)).1⟩) _
  · generalize hr : rdR B len q = r at r0 e16
    obtain ⟨ok, s, F, D, far⟩ := r
    have r0 : ok = false := r0
    subst r0
    exact last g5 _ 0 1 (nI s) (G4.tr G5) hr rfl rfl (fun z => absurd z (show ¬ (1 : Nat) = 0 by decide)) (by decide) (fun _ => ⟨rfl, e16⟩) (fun z => absurd rfl z) _
def stW (q : Nat) : Nat := if q = 0 then 70 else if q = 1 then 81 else if q = 2 then 51 else 49
theorem c_Mo_store {n : Nat} (hn : 1 ≤ n) {h : xh} (L : Lay h) {D : Nat → Int32} (td : Td h D) {a w k N : Nat} (hs : xS h a = (20, N)) (ha : 64 ≤ a) (a6 : a ≠ 176) (a66 : a ≠ 166) (w81 : w ≤ 81) (hk : k < 2) (hN : w * k + w ≤ N) (hN2 : N < 2 ^ 31) {Q : xh → Prop} (hQ : ∀ g, Fr (fun c => c = a) h g → (∀ i, i < w → xI g a (w * k + i) = D i) → (∀ i, (i < w * k ∨ w * k + w ≤ i) → xI g a i = xI h a i) → Q g) : xcv (xMC n) 243 [.ref 166, .ref a, .int (nI w), .int (nI k)] h Q := by
  obtain ⟨n, rfl⟩ := xsucc hn
  have key : ∀ d i, i + d = w → ∀ g, Fr (fun c => c = a) h g → (∀ j, j < i → xI g a (w * k + j) = D j) → (∀ j, (j < w * k ∨ w * k + w ≤ j) → xI g a j = xI h a j) → K_Mo_store n Q 3 [some (.ref 166), some (.ref a), some (.int (nI w)), some (.int (nI k)), some (.int (nI i))] [] g := by
    intro d
    induction d with
    | zero =>
      intro i hi g G c1 c2
      have : i = w := by omega
      subst this
      exact b_Mo_store_3 ⟨fun _ => hQ g G c1 c2, fun z => absurd (Int32.le_refl _) z⟩
    | succ d ih =>
      intro i hi g G c1 c2
      have Lg := G.lay L
      refine b_Mo_store_3 ⟨fun z => absurd z (nI_ge (by omega) (by omega)), fun _ => ⟨Lg.s 166, 176, Lg.r 166 19 176, Lg.x 176 (n := 81) (by omega), ?_⟩⟩
      rw [pk_mul, nI_add, nI_clamp (by omega), nI_clamp (by omega), G.i 176 (fun z => a6 z.symm), td i (by omega)]
      refine ⟨⟨ha, xarN (by rw [G.1]; exact hs) (by omega) hN2⟩, b_Mo_store_24 ?_⟩
      rw [nI_1]
      refine ih (i + 1) (by omega) _ (G.wI rfl) (fun j hj => ?_) (fun j hj => ?_)
      · rw [upI]
        by_cases e : w * k + j = w * k + i
        · rw [if_pos e, show j = i by omega]
        · rw [if_neg e]; exact c1 j (by omega)
      · rw [upI_o _ _ _ _ (by omega)]; exact c2 j hj
  exact w_Mo_store (key w 0 (by omega) h Fr.rf (fun j hj => absurd hj (Nat.not_lt_zero _)) (fun _ _ => rfl))
