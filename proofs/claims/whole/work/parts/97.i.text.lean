/-! A TEXT in the class: begin, readText -/
theorem bln_ok {q : Nat} (hq : q < 4) : pOK q (bln q) 0 := by
  have : q = 0 ∨ q = 1 ∨ q = 2 ∨ q = 3 := by omega
  rcases this with e | e | e | e <;> subst e
  · show TnP (bln 0) 0
    refine ⟨fun i => if i = 2 ∨ i = 4 then 60 else if i = 3 then 2 else if i = 5 then 9 else 0, ⟨fun i hi => ?_, fun s hs => ?_⟩, by decide, fun s hs => absurd hs (Nat.not_lt_zero _), fun s hs => ?_, by decide⟩
    · have := (by decide : ∀ i, i < 61 → bln 0 i = nI (if i = 2 ∨ i = 4 then 60 else if i = 3 then 2 else if i = 5 then 9 else 0)) i hi
      exact this
    · have := (by decide : ∀ s, s < 9 → bln 0 (61 + s) = nI (if 61 + s = 2 ∨ 61 + s = 4 then 60 else if 61 + s = 3 then 2 else if 61 + s = 5 then 9 else 0) - 1) s hs
      exact this
    · have := (by decide : ∀ s, s < 9 → (if 52 + s = 2 ∨ 52 + s = 4 then 60 else if 52 + s = 3 then 2 else if 52 + s = 5 then 9 else 0) ≤ 9 ∧ (if 61 + s = 2 ∨ 61 + s = 4 then 60 else if 61 + s = 3 then 2 else if 61 + s = 5 then 9 else 0) ≤ 0 ∧ ((if 61 + s = 2 ∨ 61 + s = 4 then 60 else if 61 + s = 3 then 2 else if 61 + s = 5 then 9 else 0) ≠ 0 → s < 0)) s hs
      exact this
  · exact ⟨rfl, by decide⟩
  · refine ⟨⟨fun i _ => rfl, by decide, fun k hk => absurd hk (Nat.not_lt_zero _)⟩, fun i _ _ => rfl⟩
  · exact ⟨fun i _ => rfl, by decide, fun k hk => absurd hk (Nat.not_lt_zero _), fun k hk => absurd hk (Nat.not_lt_zero _), fun k hk => absurd hk (Nat.not_lt_zero _)⟩
theorem c_Reader_begin {n : Nat} (hn : 4 ≤ n) {h : xh} (L : Lay h) {B : Nat → Nat} (T : TpC h B) {len : Nat} (l6 : len ≤ 600) {q : Nat} (hq : q < 4) {Q : xh → Prop} (hQ : ∀ g, Fr PRd h g → CL g q B len (tS B len 0) (0, 0) (bln q) 0 → Q g) : xcv (xMC n) 128 [.ref 117, .int (nI len)] h Q := by
  obtain ⟨n, rfl⟩ := xsucc (show 1 ≤ n by omega)
  have pr : ∀ c, 117 ≤ c → c ≤ 140 → PRd c := fun c h1 h2 => ⟨h1, h2⟩
  refine w_Reader_begin ⟨L.s 117, 66, L.r 117 0 66, ?_⟩
  rw [L.s 66 (p := (21, 600))]
  refine ⟨⟨show 20 ≤ 21 by decide, show 21 ≤ 28 by decide⟩, c_Math_min (by omega) ⟨⟨by decide, L.s 117⟩, ?_⟩⟩
  rw [show (if nI 600 < nI len then nI 600 else nI len) = nI len from if_neg (nI_nlt l6 (by decide))]
  have L1 : Lay (xsI h 117 1 (nI len)) := L
  have L2 : Lay (xsI (xsI h 117 1 (nI len)) 117 2 0) := L
  have L3 : Lay (xsI (xsI (xsI h 117 1 (nI len)) 117 2 0) 117 8 0) := L
  have L4 : Lay (xsI (xsI (xsI (xsI h 117 1 (nI len)) 117 2 0) 117 8 0) 117 9 0) := L
  have L5 : Lay (xsI (xsI (xsI (xsI (xsI h 117 1 (nI len)) 117 2 0) 117 8 0) 117 9 0) 117 10 (-1)) := L
  refine b_Reader_begin_13 ⟨⟨by decide, L1.s 117⟩, b_Reader_begin_18 ⟨⟨by decide, L2.s 117⟩, b_Reader_begin_23 ⟨⟨by decide, L3.s 117⟩, b_Reader_begin_28 ⟨⟨by decide, L4.s 117⟩, b_Reader_begin_33 ⟨L5.s 117, 119, L5.r 117 11 119, L5.s 119, ?_⟩⟩⟩⟩⟩
  have F5 : Fr PRd h (xsI (xsI (xsI (xsI (xsI h 117 1 (nI len)) 117 2 0) 117 8 0) 117 9 0) 117 10 (-1)) := (((((Fr.rf.wI (pr 117 (by decide) (by decide))).wI (pr 117 (by decide) (by decide))).wI (pr 117 (by decide) (by decide))).wI (pr 117 (by decide) (by decide))).wI (pr 117 (by decide) (by decide)))
  have a1 : xI (xsI (xsI (xsI (xsI (xsI h 117 1 (nI len)) 117 2 0) 117 8 0) 117 9 0) 117 10 (-1)) 117 1 = nI len := by rw [upI_o _ _ _ _ (by decide), upI_o _ _ _ _ (by decide), upI_o _ _ _ _ (by decide), upI_o _ _ _ _ (by decide), upI_s]
  have a2 : xI (xsI (xsI (xsI (xsI (xsI h 117 1 (nI len)) 117 2 0) 117 8 0) 117 9 0) 117 10 (-1)) 117 2 = nI 0 := by rw [upI_o _ _ _ _ (by decide), upI_o _ _ _ _ (by decide), upI_o _ _ _ _ (by decide), upI_s]; rfl
  have a8 : xI (xsI (xsI (xsI (xsI (xsI h 117 1 (nI len)) 117 2 0) 117 8 0) 117 9 0) 117 10 (-1)) 117 8 = 0 := by rw [upI_o _ _ _ _ (by decide), upI_o _ _ _ _ (by decide), upI_s]
  have a9 : xI (xsI (xsI (xsI (xsI (xsI h 117 1 (nI len)) 117 2 0) 117 8 0) 117 9 0) 117 10 (-1)) 117 9 = 0 := by rw [upI_o _ _ _ _ (by decide), upI_s]
  have a10 : xI (xsI (xsI (xsI (xsI (xsI h 117 1 (nI len)) 117 2 0) 117 8 0) 117 9 0) 117 10 (-1)) 117 10 = -1 := upI_s _ _ _ _
  generalize xsI (xsI (xsI (xsI (xsI h 117 1 (nI len)) 117 2 0) 117 8 0) 117 9 0) 117 10 (-1) = g at *
  refine c_Town_clear (by omega) L5 (fun g1 F1 i1 t1 t2 t3 => ⟨(F1.1.lay L5).s 117, 127, (F1.1.lay L5).r 117 12 127, ⟨by decide, (F1.1.lay L5).s 127⟩, ?_⟩)
  have M1 := F1.1.lay L5
  have M2 : Lay (xsI g1 127 0 0) := M1
  have M3 : Lay (xsI (xsI g1 127 0 0) 130 0 0) := M1
  refine b_Reader_begin_48 ⟨M2.s 117, 130, M2.r 117 13 130, ⟨by decide, M2.s 130⟩, b_Reader_begin_56 ⟨M3.s 117, 134, M3.r 117 14 134, M3.s 134, ?_⟩⟩
  obtain ⟨n, rfl⟩ := xsucc (show 1 ≤ n by omega)
  have M4 : Lay (xsI (xsI (xsI g1 127 0 0) 130 0 0) 134 0 0) := M1
  have M5 : Lay (xsI (xsI (xsI (xsI g1 127 0 0) 130 0 0) 134 0 0) 134 1 0) := M1
  have M6 : Lay (xsI (xsI (xsI (xsI (xsI g1 127 0 0) 130 0 0) 134 0 0) 134 1 0) 134 2 0) := M1
  refine w_Sheet_clear ⟨⟨by decide, M3.s 134⟩, b_Sheet_clear_5 ⟨⟨by decide, M4.s 134⟩, b_Sheet_clear_10 ⟨⟨by decide, M5.s 134⟩, M6.s 117, ?_⟩⟩⟩
  have F6 : Fr PRd h (xsI (xsI (xsI (xsI (xsI g1 127 0 0) 130 0 0) 134 0 0) 134 1 0) 134 2 0) := ((((((F5.tr (F1.1.mo (fun c z => by unfold PD at z; unfold PRd; omega))).wI (pr 127 (by decide) (by decide))).wI (pr 130 (by decide) (by decide))).wI (pr 134 (by decide) (by decide))).wI (pr 134 (by decide) (by decide))).wI (pr 134 (by decide) (by decide)))
  have b117 : xI (xsI (xsI (xsI (xsI (xsI g1 127 0 0) 130 0 0) 134 0 0) 134 1 0) 134 2 0) 117 = xI g 117 := by rw [xsI_ne _ _ _ (by decide), xsI_ne _ _ _ (by decide), xsI_ne _ _ _ (by decide), xsI_ne _ _ _ (by decide), xsI_ne _ _ _ (by decide)]; exact i1
  have b119 : xI (xsI (xsI (xsI (xsI (xsI g1 127 0 0) 130 0 0) 134 0 0) 134 1 0) 134 2 0) 119 = xI g1 119 := by rw [xsI_ne _ _ _ (by decide), xsI_ne _ _ _ (by decide), xsI_ne _ _ _ (by decide), xsI_ne _ _ _ (by decide), xsI_ne _ _ _ (by decide)]
  have b125 : xI (xsI (xsI (xsI (xsI (xsI g1 127 0 0) 130 0 0) 134 0 0) 134 1 0) 134 2 0) 125 = xI g1 125 := by rw [xsI_ne _ _ _ (by decide), xsI_ne _ _ _ (by decide), xsI_ne _ _ _ (by decide), xsI_ne _ _ _ (by decide), xsI_ne _ _ _ (by decide)]
  have b126 : xI (xsI (xsI (xsI (xsI (xsI g1 127 0 0) 130 0 0) 134 0 0) 134 1 0) 134 2 0) 126 = xI g1 126 := by rw [xsI_ne _ _ _ (by decide), xsI_ne _ _ _ (by decide), xsI_ne _ _ _ (by decide), xsI_ne _ _ _ (by decide), xsI_ne _ _ _ (by decide)]
  have b127 : xI (xsI (xsI (xsI (xsI (xsI g1 127 0 0) 130 0 0) 134 0 0) 134 1 0) 134 2 0) 127 0 = 0 := by rw [xsI_ne _ _ _ (by decide), xsI_ne _ _ _ (by decide), xsI_ne _ _ _ (by decide), xsI_ne _ _ _ (by decide), upI_s]
  have b130 : xI (xsI (xsI (xsI (xsI (xsI g1 127 0 0) 130 0 0) 134 0 0) 134 1 0) 134 2 0) 130 0 = 0 := by rw [xsI_ne _ _ _ (by decide), xsI_ne _ _ _ (by decide), xsI_ne _ _ _ (by decide), upI_s]
  have b134 : ∀ i, i < 3 → xI (xsI (xsI (xsI (xsI (xsI g1 127 0 0) 130 0 0) 134 0 0) 134 1 0) 134 2 0) 134 i = 0 := fun i hi => by
    rw [upI, upI, upI]
    have : i = 0 ∨ i = 1 ∨ i = 2 := by omega
    rcases this with e | e | e <;> subst e <;> rfl
  generalize xsI (xsI (xsI (xsI (xsI g1 127 0 0) 130 0 0) 134 0 0) 134 1 0) 134 2 0 = g2 at *
  have T2 : TpC g2 B := fun i hi => by rw [F6.i 66 (fun z => by unfold PRd at z; omega)]; exact T i hi
  refine c_Reader_advance (by omega) M6 T2 l6 (Nat.zero_le _) (by rw [b117]; exact a1) (by rw [b117]; exact a2) (fun g3 f3 C3 => hQ g3 (F6.tr (f3.1.mo (fun c z => by unfold P117 at z; unfold PRd; omega))) ⟨⟨C3, ?_, ?_, by decide⟩, ?_, fun _ => ⟨?_, bln_ok hq, fun _ => ?_⟩, fun _ => ⟨?_, ?_⟩⟩)
  · rw [f3.2 9 (by omega), b117, a9]; rfl
  · rw [f3.2 10 (by omega), b117, a10]; rfl
  · refine Sf.kp ⟨⟨0, by decide, ?_⟩, ⟨0, by decide, b127⟩, ⟨0, by decide, b130⟩, ⟨0, by decide, b134 0 (by decide)⟩, ⟨0, by decide, b134 1 (by decide)⟩, ⟨0, by decide, b134 2 (by decide)⟩⟩ f3.kp
    rw [b119, t1 6 (by decide)]; rfl
  · refine DR.kp ?_ f3.kp
    have : q = 0 ∨ q = 1 ∨ q = 2 ∨ q = 3 := by omega
    rcases this with e | e | e | e <;> subst e
    · refine ⟨fun i hi => by rw [b119]; exact t1 i hi, fun j s hj hs hb => ?_⟩
      have b0 : bN (bln 0) 6 = 0 := rfl
      have : j = 5 ∨ j = 6 := by omega
      rcases this with e | e <;> subst e
      · rw [show 120 + 5 = 125 from rfl, b125, (t2 s hs).1]
        have := (by decide : ∀ s, s < 9 → bln 0 (7 + 9 * 5 + s) = 0) s hs
        exact this.symm
      · rw [show 120 + 6 = 126 from rfl, b126, (t2 s hs).2]
        have := (by decide : ∀ s, s < 9 → bln 0 (7 + 9 * 6 + s) = -1) s hs
        exact this.symm
    · exact ⟨b127, fun k hk => absurd hk (Nat.not_lt_zero _)⟩
    · exact ⟨b130, fun k hk => absurd hk (Nat.not_lt_zero _)⟩
    · exact ⟨fun i hi => b134 i hi, fun k hk => absurd hk (Nat.not_lt_zero _), fun k hk => absurd hk (Nat.not_lt_zero _), fun k hk => absurd hk (Nat.not_lt_zero _)⟩
  · refine ⟨0, by decide, ?_, fun k hk => ?_, fun z => absurd rfl z⟩
    · rw [f3.kp.2, b117, a8]; rfl
    · rw [Nat.zero_testBit] at hk; exact absurd hk (by decide)
  · rw [f3.kp.1 119 (by decide) (by decide), b119, t1 6 (by decide)]; rfl
  · rw [f3.kp.2, b117, a8]
theorem shr_t : ∀ Z, Z < 512 → ∀ k, k < 10 → nI Z >>> (nI k &&& 31) = nI (Z >>> k) := by decide +kernel
theorem TO.sh {h : xh} {far k : Nat} (t : TO h far) (hk : k ≤ 9) : (xI h 117 8) >>> (nI k &&& 31) = 0 ↔ far ≤ k := by
  obtain ⟨Z, h1, h2, h3, h4⟩ := t
  rw [h2, shr_t Z h1 k (by omega)]
  have lt : Z >>> k < 2 ^ 31 := by
    rw [Nat.shiftRight_eq_div_pow]
    exact Nat.lt_of_le_of_lt (Nat.div_le_self _ _) (by omega)
  rw [nI_e0 lt]
  constructor
  · intro z
    apply Nat.le_of_not_lt
    intro y
    have b := h4 (by omega)
    have e : (Z >>> k).testBit (far - 1 - k) = Z.testBit (far - 1) := by
      rw [Nat.testBit_shiftRight, show k + (far - 1 - k) = far - 1 by omega]
    rw [z, Nat.zero_testBit, b] at e
    exact absurd e (by decide)
  · intro z
    apply Nat.eq_of_testBit_eq
    intro i
    rw [Nat.zero_testBit, Nat.testBit_shiftRight]
    cases c : Z.testBit (k + i)
    · rfl
    · have := h3 _ c
      omega
theorem c_Reader_readText {n : Nat} (hn : 8 ≤ n) {h : xh} (L : Lay h) {N : Nat} {xs : Nat → Int32} (S : St0 h N xs) {B : Nat → Nat} (T : TpC h B) {len : Nat} (l6 : len ≤ 600) {q : Nat} (hq : q < 4) {Q : xh → Prop} (hQ : ∀ g r, rdR B len q = r → Fr PRd h g → xI g 117 9 = nI (rdF q r) → xI g 117 10 = rdP len q r → (rdF q r = 0 → DR q g r.2.2.2.1 ∧ pOK q r.2.2.2.1 r.2.2.2.2 ∧ (q = 0 → r.2.2.2.2 ≤ bN r.2.2.2.1 6)) → rdF q r ≤ 5 → Q g) : xcv (xMC n) 127 [.ref 117, .int (nI q), .int (nI len)] h Q := by
  obtain ⟨n, rfl⟩ := xsucc (show 1 ≤ n by omega)
  refine w_Reader_readText ⟨L.s 117, c_Reader_begin (by omega) L T l6 hq (fun g0 G0 C0 => ?_)⟩
  have fin : ∀ g s F D far, Fr PRd h g → CL g q B len s F D far → rdR B len q = (true, s, F, D, far) → ∀ o1 o2 o3 : Option Value, K_Reader_readText n Q 49 [some (.ref 117), o1, o2, o3] [] g := fun g s F D far G C er o1 o2 o3 => by
    have Lg := G.lay L
    obtain ⟨C1, Z, dd, dz⟩ := C
    obtain ⟨z0, y0, e0⟩ := Z.1
    refine b_Reader_readText_49 ⟨Lg.s 117, 119, Lg.r 117 11 119, Lg.s 119, ?_⟩
    have noq : ∀ F', (F.1 = 0 → ¬ (q = 0 ∧ bN D 6 < far)) → F' = F → ∀ g', Fr PRd h g' → xI g' 117 9 = nI F'.1 → xI g' 117 10 = (if F'.1 = 0 then -1 else nI F'.2) → (F.1 = 0 → DR q g' D) → Q g' := fun F' hn eF g' G' c9 c10 dg => by
      subst eF
      have eF : rdF q (true, s, F', D, far) = F'.1 := by
        unfold rdF
        rw [if_pos rfl]
        by_cases f0 : F'.1 = 0
        · show (if F'.1 = 0 then (if q = 0 ∧ bN D 6 < far then 5 else 0) else F'.1) = F'.1
          rw [if_pos f0, if_neg (hn f0), f0]
        · show (if F'.1 = 0 then (if q = 0 ∧ bN D 6 < far then 5 else 0) else F'.1) = F'.1
          rw [if_neg f0]
      have eP : rdP len q (true, s, F', D, far) = if F'.1 = 0 then -1 else nI F'.2 := by
        unfold rdP
        rw [if_pos rfl]
        show (if F'.1 = 0 then (if q = 0 ∧ bN D 6 < far then nI len else -1) else nI F'.2) = _
        by_cases f0 : F'.1 = 0
        · rw [if_pos f0, if_pos f0, if_neg (hn f0)]
        · rw [if_neg f0, if_neg f0]
      refine hQ g' _ er G' (by rw [eF]; exact c9) (by rw [eP]; exact c10) (fun z => ?_) (by rw [eF]; exact C1.2.2.2)
      rw [eF] at z
      refine ⟨dg z, (dd z).2.1, fun q0 => ?_⟩
      apply Nat.le_of_not_lt
      intro y
      exact hn z ⟨q0, y⟩
    by_cases f0 : F.1 = 0
    · obtain ⟨d1, d2, d3⟩ := dd f0
      by_cases q0 : q = 0
      · have cn := d2.c hq
        subst q0
        have eb : xI g 119 6 = nI (bN D 6) := d1.c0.trans cn.1
        have b9 : bN D 6 ≤ 9 := cn.2
        rw [eb, (d3 rfl).sh b9]
        refine ⟨fun z => noq F (fun _ y => by omega) rfl g G C1.2.1 C1.2.2.1 (fun _ => d1), fun z => ?_⟩
        rw [C1.1.1]
        refine c_Reader_noteFault (f := 5) (by omega) Lg C1 (by decide) (by decide) (fun g' G' i' C' e' => ?_)
        have en : nt F 5 len = (5, len) := by unfold nt; rw [if_pos f0]
        rw [en] at C'
        have eF : rdF 0 (true, s, F, D, far) = 5 := by
          unfold rdF
          rw [if_pos rfl]
          show (if F.1 = 0 then (if 0 = 0 ∧ bN D 6 < far then 5 else 0) else F.1) = 5
          rw [if_pos f0, if_pos ⟨rfl, by omega⟩]
        have eP : rdP len 0 (true, s, F, D, far) = nI len := by
          unfold rdP
          rw [if_pos rfl]
          show (if F.1 = 0 then (if 0 = 0 ∧ bN D 6 < far then nI len else -1) else nI F.2) = _
          rw [if_pos f0, if_pos ⟨rfl, by omega⟩]
        exact hQ g' _ er (G.tr (G'.mo (fun c z => by unfold PE at z; unfold PRd; omega))) (by rw [eF]; exact C'.2.1) (by rw [eP]; exact C'.2.2.1) (fun y => by rw [eF] at y; exact absurd y (by decide)) (by rw [eF]; decide)
      · obtain ⟨w1, w2⟩ := dz q0
        rw [w1, w2]
        exact ⟨fun _ => noq F (fun _ y => q0 y.1) rfl g G C1.2.1 C1.2.2.1 (fun _ => d1), fun z => absurd (by decide) z⟩
    · refine ⟨fun _ => noq F (fun y => absurd y f0) rfl g G C1.2.1 C1.2.2.1 (fun y => absurd y f0), fun _ => ?_⟩
      rw [C1.1.1]
      refine c_Reader_noteFault (f := 5) (by omega) Lg C1 (by decide) (by decide) (fun g' G' i' C' e' => ?_)
      rw [nt_k f0] at C'
      exact noq F (fun y => absurd y f0) rfl g' (G.tr (G'.mo (fun c z => by unfold PE at z; unfold PRd; omega))) C'.2.1 C'.2.2.1 (fun y => absurd y f0)
  have key : ∀ d i, i + d = 601 → ∀ s F D far, s ≤ len → ∀ g, Fr PRd h g → CL g q B len s F D far → rdR B len q = lsR B len q d s F D far → ∀ o2 : Option Value, K_Reader_readText n Q 7 [some (.ref 117), some (.int (nI q)), o2, some (.int (nI i))] [] g := by
    intro d
    induction d with
    | zero =>
      intro i hi s F D far hs g G C er o2
      have : i = 601 := by omega
      subst this
      exact b_Reader_readText_7 ⟨fun _ => fin g s F D far G C er _ _ _, fun z => absurd (by decide) z⟩
    | succ d ih =>
      intro i hi s F D far hs g G C er o2
      have Lg := G.lay L
      have k5 := kd_5 B len s
      have Tg : TpC g B := fun i hi => by rw [G.i 66 (fun z => by unfold PRd at z; omega)]; exact T i hi
      have Sg : St0 g N xs := S.fr G (fun c z => by unfold PRd at z; omega)
      refine b_Reader_readText_7 ⟨fun z => absurd z (nI_nlt (a := 600) (by omega) (by decide)), fun _ => ⟨Lg.s 117, ?_⟩⟩
      rw [C.1.1.2.2.2.1, nI_e0 (by omega)]
      refine ⟨fun k0 => fin g s F D far G C (by rw [er, lsR, if_pos k0]) _ _ _, fun k0 => ?_⟩
      have sl := kd_lt k0
      refine c_Reader_readLine (by omega) Lg Sg Tg l6 sl hq C (fun g2 ok s' F' D' far' el G2 hs' hy hno => ?_)
      rw [lsR, if_neg k0, el] at er
      have GG := G.tr G2
      cases ok
      · refine ⟨fun z => absurd rfl z, fun _ => ⟨⟨by decide, (GG.lay L).s 117⟩, ?_⟩⟩
        have er' : rdR B len q = (false, s', F', D', far') := er
        have L3 : Lay (xsI g2 117 9 1) := GG.lay L
        refine b_Reader_readText_34 ⟨L3.s 117, ⟨by decide, L3.s 117⟩, hQ _ _ er' ((GG.wI ⟨by decide, by decide⟩).wI ⟨by decide, by decide⟩) ?_ ?_ (fun z => absurd z (show ¬ (1 : Nat) = 0 by decide)) (show (1 : Nat) ≤ 5 by decide)⟩
        · rw [upI_o _ _ _ _ (by decide), upI_s]; rfl
        · rw [upI_s, upI_o _ _ _ _ (by decide), hno rfl]; rfl
      · refine ⟨fun _ => ?_, fun z => absurd z (by decide)⟩
        rw [nI_1]
        exact ih (i + 1) (by omega) s' F' D' far' hs' g2 GG (hy rfl).1 er _
  exact key 601 0 (by omega) (tS B len 0) (0, 0) (bln q) 0 (tS_b (Nat.zero_le _)).2 g0 G0 C0 rfl _
