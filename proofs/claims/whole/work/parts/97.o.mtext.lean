/-! A TEXT in the reference -/
theorem cnO_up {q c th : Nat} {D : Nat → Int32} {R : Nat → Nat} (P : cnO q D) (hc : cq q c) : cnO q (tl c th R D) := by
  unfold cq at hc
  unfold tl
  rcases hc with ⟨e, e1⟩ | ⟨e, e1, e2⟩ | ⟨e, e1, e2⟩ | ⟨e, e1, e2⟩ <;> subst e
  · rw [if_pos e1]
    have P' : D 6 = nI (bN D 6) ∧ bN D 6 ≤ 9 := P
    show tl0 c R D 6 = nI (bN (tl0 c R D) 6) ∧ bN (tl0 c R D) 6 ≤ 9
    have keep : tl0 c R D 6 = D 6 → tl0 c R D 6 = nI (bN (tl0 c R D) 6) ∧ bN (tl0 c R D) 6 ≤ 9 := fun z => by
      have : bN (tl0 c R D) 6 = bN D 6 := by unfold bN; rw [z]
      rw [this, z]; exact P'
    by_cases c4 : c < 4
    · by_cases k : bN D 6 < 9
      · have e : tl0 c R D 6 = nI (bN D 6 + 1) := by
          unfold tl0
          rw [if_pos c4, if_pos k, uw_s]
        have := bN_nI e (by omega)
        rw [this]
        exact ⟨e, by omega⟩
      · refine keep ?_
        unfold tl0
        rw [if_pos c4, if_neg k]
    · refine keep ?_
      unfold tl0
      rw [if_neg c4]
      by_cases c4' : c = 4
      · rw [if_pos c4']
        split
        · rw [uw_o (by omega), uw_o (by omega)]
        · rfl
      · rw [if_neg c4']
        by_cases c5 : c = 5
        · rw [if_pos c5, uw_o (by omega), uw_o (by omega)]
        · rw [if_neg c5]
          refine uw_o ?_
          split
          · decide
          · split
            · decide
            · split <;> decide
  · rw [if_neg (by omega), if_pos e2]
    have P' : D 0 = nI (bN D 0) ∧ bN D 0 ≤ 40 := P
    show tl1 c R D 0 = nI (bN (tl1 c R D) 0) ∧ bN (tl1 c R D) 0 ≤ 40
    by_cases k : bN D 0 < 40
    · have e : tl1 c R D 0 = nI (bN D 0 + 1) := by unfold tl1; rw [if_pos k, uw_s]
      have := bN_nI e (by omega)
      rw [this]
      exact ⟨e, by omega⟩
    · have e : tl1 c R D = D := by unfold tl1; rw [if_neg k]
      rw [e]; exact P'
  · rw [if_neg (by omega), if_neg (by omega), if_pos e2]
    have P' : D 0 = nI (bN D 0) ∧ bN D 0 ≤ 10 := P
    show tl2 c th R D 0 = nI (bN (tl2 c th R D) 0) ∧ bN (tl2 c th R D) 0 ≤ 10
    have keep : tl2 c th R D 0 = D 0 → tl2 c th R D 0 = nI (bN (tl2 c th R D) 0) ∧ bN (tl2 c th R D) 0 ≤ 10 := fun z => by
      have : bN (tl2 c th R D) 0 = bN D 0 := by unfold bN; rw [z]
      rw [this, z]; exact P'
    by_cases c15 : c = 15
    · by_cases k : bN D 0 < 10
      · have e : tl2 c th R D 0 = nI (bN D 0 + 1) := by unfold tl2; rw [if_pos c15, if_pos k, uw_s]
        have := bN_nI e (by omega)
        rw [this]
        exact ⟨e, by omega⟩
      · exact keep (by unfold tl2; rw [if_pos c15, if_neg k])
    · refine keep ?_
      unfold tl2
      rw [if_neg c15]
      split
      · exact uw_o (by omega)
      · rfl
  · rw [if_neg (by omega), if_neg (by omega), if_neg (by omega)]
    obtain ⟨⟨a1, a2⟩, ⟨b1, b2⟩, ⟨c1, c2⟩⟩ : (D 0 = nI (bN D 0) ∧ bN D 0 ≤ 6) ∧ (D 1 = nI (bN D 1) ∧ bN D 1 ≤ 8) ∧ (D 2 = nI (bN D 2) ∧ bN D 2 ≤ 8) := P
    show (tl3 c R D 0 = nI (bN (tl3 c R D) 0) ∧ bN (tl3 c R D) 0 ≤ 6) ∧ (tl3 c R D 1 = nI (bN (tl3 c R D) 1) ∧ bN (tl3 c R D) 1 ≤ 8) ∧ (tl3 c R D 2 = nI (bN (tl3 c R D) 2) ∧ bN (tl3 c R D) 2 ≤ 8)
    have keep : ∀ i m, D i = nI (bN D i) → bN D i ≤ m → tl3 c R D i = D i → tl3 c R D i = nI (bN (tl3 c R D) i) ∧ bN (tl3 c R D) i ≤ m := fun i m w1 w2 z => by
      have : bN (tl3 c R D) i = bN D i := by unfold bN; rw [z]
      rw [this, z]; exact ⟨w1, w2⟩
    have nw : ∀ i m, bN D i < m → m ≤ 8 → tl3 c R D i = nI (bN D i + 1) → tl3 c R D i = nI (bN (tl3 c R D) i) ∧ bN (tl3 c R D) i ≤ m := fun i m w1 w2 z => by
      have := bN_nI z (by omega)
      rw [this]
      exact ⟨z, by omega⟩
    by_cases c17 : c = 17
    · by_cases k : bN D 0 < 6
      · have e : tl3 c R D = uw (uw D (3 + bN D 0) (nI (R 0))) 0 (nI (bN D 0 + 1)) := by unfold tl3; rw [if_pos c17, if_pos k]
        exact ⟨nw 0 6 k (by decide) (by rw [e, uw_s]), keep 1 8 b1 b2 (by rw [e, uw_o (by omega), uw_o (by omega)]), keep 2 8 c1 c2 (by rw [e, uw_o (by omega), uw_o (by omega)])⟩
      · have e : tl3 c R D = D := by unfold tl3; rw [if_pos c17, if_neg k]
        exact ⟨keep 0 6 a1 a2 (by rw [e]), keep 1 8 b1 b2 (by rw [e]), keep 2 8 c1 c2 (by rw [e])⟩
    · by_cases c18 : c = 18
      · by_cases k : bN D 1 < 8
        · have e : tl3 c R D = uw (uw (uw D (9 + bN D 1) (nI (R 0))) (17 + bN D 1) (nI (R 1))) 1 (nI (bN D 1 + 1)) := by unfold tl3; rw [if_neg c17, if_pos c18, if_pos k]
          exact ⟨keep 0 6 a1 a2 (by rw [e, uw_o (by omega), uw_o (by omega), uw_o (by omega)]), nw 1 8 k (by decide) (by rw [e, uw_s]), keep 2 8 c1 c2 (by rw [e, uw_o (by omega), uw_o (by omega), uw_o (by omega)])⟩
        · have e : tl3 c R D = D := by unfold tl3; rw [if_neg c17, if_pos c18, if_neg k]
          exact ⟨keep 0 6 a1 a2 (by rw [e]), keep 1 8 b1 b2 (by rw [e]), keep 2 8 c1 c2 (by rw [e])⟩
      · by_cases k : bN D 2 < 8
        · have e : tl3 c R D = uw (uw (uw (uw D (25 + bN D 2) (nI (R 0))) (33 + bN D 2) (nI (R 1))) (41 + bN D 2) (nI (R 2))) 2 (nI (bN D 2 + 1)) := by unfold tl3; rw [if_neg c17, if_neg c18, if_pos k]
          exact ⟨keep 0 6 a1 a2 (by rw [e, uw_o (by omega), uw_o (by omega), uw_o (by omega), uw_o (by omega)]), keep 1 8 b1 b2 (by rw [e, uw_o (by omega), uw_o (by omega), uw_o (by omega), uw_o (by omega)]), nw 2 8 k (by decide) (by rw [e, uw_s])⟩
        · have e : tl3 c R D = D := by unfold tl3; rw [if_neg c17, if_neg c18, if_neg k]
          exact ⟨keep 0 6 a1 a2 (by rw [e]), keep 1 8 b1 b2 (by rw [e]), keep 2 8 c1 c2 (by rw [e])⟩
theorem c_Mo_lineOf {n : Nat} (hn : 8 ≤ n) {g : xh} {q : Nat} (hq : q < 4) {B : Nat → Nat} {len s : Nat} {F : Nat × Nat} {D : Nat → Int32} {far : Nat} (M : ML g q B len s F D far) (sl : s < len) (g22 : xI g 166 22 = 1) {Q : Int32 → xh → Prop} (lq : LQ B len q s F D far g Q) : xci (xMC n) 219 [.ref 166, .int (nI q), .long (lN (wv B len s)), .int (nI s)] g Q := by
  obtain ⟨n, rfl⟩ := xsucc (show 1 ≤ n by omega)
  have L := M.1.1
  have ce : ∀ k : Nat, k < 20 → (nI q = nI k) = (q = k) := fun k hk => propext (nI_eq (by omega) (by omega))
  refine w_Mo_lineOf ?_
  rw [show (nI q = (0 : Int32)) = (q = 0) from ce 0 (by decide), show (nI q = (1 : Int32)) = (q = 1) from ce 1 (by decide), show (nI q = (2 : Int32)) = (q = 2) from ce 2 (by decide)]
  refine ⟨fun e => ⟨L.s 166, ?_⟩, fun n0 => ⟨fun e => ⟨L.s 166, ?_⟩, fun n1 => ⟨fun e => ⟨L.s 166, ?_⟩, fun n2 => ⟨L.s 166, ?_⟩⟩⟩⟩
  · subst e; exact c_Mo_townLine (by omega) M sl g22 lq.nar
  · subst e; exact c_Mo_dayLine (by omega) M sl lq.nar
  · subst e; exact c_Mo_bookLine (by omega) M sl lq.nar
  · have e : q = 3 := by omega
    subst e; exact c_Mo_listLine (by omega) M sl lq.nar
theorem c_Mo_lines {n : Nat} (hn : 9 ≤ n) {g : xh} {q : Nat} (hq : q < 4) {B : Nat → Nat} {len s : Nat} {F : Nat × Nat} {D : Nat → Int32} {far : Nat} (M : ML g q B len s F D far) {d : Nat} (hd : len - s < d) {Q : Int32 → xh → Prop} {r : Bool × Nat × (Nat × Nat) × (Nat → Int32) × Nat} (er : lsR B len q d s F D far = r) (h1 : r.1 = true → ∀ g', Fr Pn g g' → ML g' q B len r.2.1 r.2.2.1 r.2.2.2.1 r.2.2.2.2 → kd B len r.2.1 = 0 → Q 1 g') (h0 : r.1 = false → ∀ g', Fr Pn g g' → xI g' 166 16 = nI r.2.1 → Q 0 g') : xci (xMC n) 218 [.ref 166, .int (nI q)] g Q := by
  obtain ⟨n, rfl⟩ := xsucc (show 1 ≤ n by omega)
  have key : ∀ d s F D far, len - s < d → lsR B len q d s F D far = r → ∀ g', Fr Pn g g' → ML g' q B len s F D far → ∀ o3 : Option Value, K_Mo_lines n Q 2 [some (.ref 166), some (.int (nI q)), some (.int 1), o3] [] g' := by
    intro d
    induction d with
    | zero => intro s F D far hd; exact absurd hd (Nat.not_lt_zero _)
    | succ d ih =>
      intro s F D far hd er g' G' M' o3
      have hM := M'
      obtain ⟨⟨L, T, l6⟩, ⟨C, o, hs⟩, ⟨td, e21, f100, cn⟩⟩ := hM
      have k5 := kd_5 B len s
      have km := kM_i _ k5
      have stop : ∀ g2 s', Fr Pn g g2 → r.1 = false → r.2.1 = s' → xI g2 166 16 = nI s' → ∀ o3 : Option Value, K_Mo_lines n Q 63 [some (.ref 166), some (.int (nI q)), some (.int 0), o3] [] g2 := fun g2 s' G2 e1 e2 e3 o3 => b_Mo_lines_63 ⟨fun _ => b_Mo_lines_2 ⟨fun _ => ⟨Or.inl rfl, h0 e1 g2 G2 (by rw [e2]; exact e3)⟩, fun z => absurd rfl z⟩, fun z => absurd rfl z⟩
      refine b_Mo_lines_2 ⟨fun z => absurd z (by decide), fun _ => ⟨L.s 166, ?_⟩⟩
      rw [C.1.2.2.2.1, C.1.2.1, nI_e0 (by omega), km.2.1]
      refine ⟨fun k0 => ⟨Or.inr rfl, ?_⟩, fun k0 => ⟨⟨⟨by decide, L.s 166⟩, Or.inr rfl⟩, ?_⟩⟩
      · rw [lsR, if_pos k0] at er
        subst er
        exact h1 rfl g' G' M' k0
      · have sl := kd_lt k0
        rw [lsR, if_neg k0] at er
        have L2 : Lay (xsI g' 166 22 1) := L
        have M2 : ML (xsI g' 166 22 1) q B len s F D far := ⟨⟨L2, fun i hi => by rw [xsI_ne _ _ _ (by decide)]; exact T i hi, l6⟩, ⟨C.w (by omega), o, hs⟩, ⟨fun i hi => by rw [xsI_ne _ _ _ (by decide)]; exact td i hi, by rw [upI_o _ _ _ _ (by decide)]; exact e21, f100, cn⟩⟩
        have G2 : Fr Pn g (xsI g' 166 22 1) := G'.wI (Or.inl rfl)
        have e22 : xI (xsI g' 166 22 1) 166 22 = 1 := upI_s _ _ _ _
        generalize xsI g' 166 22 1 = g2 at L2 M2 G2 e22 ⊢
        have C2 := M2.2.1.1
        have lo : xci (xMC n) 219 [.ref 166, .int (nI q), .long (lN (wv B len s)), .int (nI s)] g2 (fun r1 h1 => ((r1 = 0 → K_Mo_lines n Q 63 [some (.ref 166), some (.int (nI q)), some (.int r1), some (.int (nI s))] [] h1) ∧ (¬ r1 = 0 → (xS h1 166 = (11, 0) ∧ (((xI h1 166 13) = (4 : Int32) → K_Mo_lines n Q 63 [some (.ref 166), some (.int (nI q)), some (.int r1), some (.int (nI s))] [] h1) ∧ (¬ (xI h1 166 13) = (4 : Int32) → (xci (xMC n) 222 [.ref 166] h1 (fun r2 h2 => K_Mo_lines n Q 63 [some (.ref 166), some (.int (nI q)), some (.int r2), some (.int (nI s))] [] h2)))))))) := by
          refine c_Mo_lineOf (by omega) hq M2 sl e22 ⟨fun g3 c th s2 F2 R el G3 C3 o3' s2l ss T3 e3 hc f3 => ⟨fun z => absurd z (by decide), fun _ => ⟨(G3.lay L2).s 166, ?_⟩⟩, fun g3 s' F' D' far' el G3 e16 s'l => ⟨fun _ => ?_, fun z => absurd rfl z⟩⟩
          · have L3 := G3.lay L2
            have T3' : TpM g3 B := fun i hi => by rw [G3.i 167 (fun z => by unfold Pn at z; omega)]; exact M2.1.2.1 i hi
            have k52 := kd_5 B len s2
            have km2 := kM_i _ k52
            rw [C3.1.2.2.2.1, show (nI (kM (kd B len s2)) = (4 : Int32)) = (kM (kd B len s2) = 4) from propext (nI_eq (b := 4) (by omega) (by decide)), km2.2.2.2.2]
            refine ⟨fun k3 => ?_, fun k3 => c_Mo_fails (by omega) L3 C3.1.2.1 (stop _ s2 ((G2.tr G3).wI (Or.inl rfl)) ?_ ?_ (upI_s _ _ _ _) _)⟩
            · have el' : lnR B len q s F D far = (true, nxt B len s2, F2, tl c th R D, frU c R far) := by
                rw [el]; unfold lnF; rw [if_pos ⟨rfl, k3⟩]
              rw [el'] at er
              have nb := nxt_b (B := B) (len := len) (s := s2) s2l
              have sl2 := kd_lt (B := B) (len := len) (s := s2) (by omega)
              have n2 := nb.2 sl2
              refine b_Mo_lines_63 ⟨fun z => absurd z (by decide), fun _ => ⟨L3.s 166, C3.tok (by omega) L3 T3' l6 s2l (fun g4 f4 C4 => ?_)⟩⟩
              refine ih (nxt B len s2) F2 (tl c th R D) (frU c R far) (by omega) er g4 ((G2.tr G3).tr f4.m.n) ⟨⟨f4.1.lay L3, f4.tp T3', l6⟩, ⟨C4, o3'.mo (by omega), nb.1⟩, ⟨T3.fm f4.m, by rw [f4.m.2]; exact e3, f3, cnO_up cn hc⟩⟩ _
            · have el' : lnR B len q s F D far = (false, s2, F2, D, far) := by
                rw [el]; unfold lnF; rw [if_neg (fun z => k3 z.2)]
              rw [el'] at er
              rw [← er]; rfl
            · have el' : lnR B len q s F D far = (false, s2, F2, D, far) := by
                rw [el]; unfold lnF; rw [if_neg (fun z => k3 z.2)]
              rw [el'] at er
              rw [← er]; rfl
          · rw [el] at er
            refine stop g3 s' (G2.tr G3) (by rw [← er]; rfl) (by rw [← er]; rfl) e16 _
        refine b_Mo_lines_23 ⟨L2.s 166, ?_⟩
        rw [C2.1.2.2.2.1, show (nI (kM (kd B len s)) = (2 : Int32)) = (kM (kd B len s) = 2) from propext (nI_eq (b := 2) (by omega) (by decide)), km.2.2.1]
        refine ⟨fun k1 => b_Mo_lines_41 ⟨L2.s 166, ?_⟩, fun k1 => b_Mo_lines_41 ⟨L2.s 166, ?_⟩⟩
        · have ew : (0 : Int64) = lN (wv B len s) := by unfold wv; rw [if_neg k1]; rfl
          rw [ew]
          exact lo
        · have ew : xL g2 166 15 = lN (wv B len s) := by
            rw [C2.1.2.2.2.2.2 k1]
            unfold wv
            rw [if_pos k1]
          rw [ew]
          exact lo
  exact w_Mo_lines (key d s F D far hd er g Fr.rf M _)
