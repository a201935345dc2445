/-! LINES in the reference: by their words -/
def ML (g : xh) (q : Nat) (B : Nat → Nat) (len s : Nat) (F : Nat × Nat) (D : Nat → Int32) (far : Nat) : Prop := (Lay g ∧ TpM g B ∧ len ≤ 600) ∧ (MR g B len s F ∧ ord F s ∧ s ≤ len) ∧ (Td g D ∧ xI g 166 21 = nI far - 1 ∧ far ≤ 100 ∧ cnO q D)
theorem LQ.nar {B : Nat → Nat} {len q s : Nat} {F : Nat × Nat} {D : Nat → Int32} {far : Nat} {h : xh} {Q : Int32 → xh → Prop} (lq : LQ B len q s F D far h Q) : LQ B len q s F D far h (fun r h => xnar 1 r ∧ Q r h) := ⟨fun g c th s2 F2 R a1 a2 a3 a4 a5 a6 a7 a8 a9 a10 => ⟨Or.inr rfl, lq.1 g c th s2 F2 R a1 a2 a3 a4 a5 a6 a7 a8 a9 a10⟩, fun g s' F' D' far' a1 a2 a3 a4 => ⟨Or.inl rfl, lq.2 g s' F' D' far' a1 a2 a3 a4⟩⟩
theorem cdf_i {B : Nat → Nat} {len q s c : Nat} (hq : q < 4) (h1 : FC q ≤ c) (h2 : c < FC (q + 1)) : (kd B len s = 1 ∧ Wd B s (tE B len s) (stx c)) ↔ cdf B len q s = c := by
  constructor
  · exact cdf_w hq h1 h2
  · intro e
    have cb := cdf_b B len hq s
    by_cases k1 : kd B len s = 1
    · have e2 : cdf B len q s = fsx (fun c => decide (Wd B s (tE B len s) (stx c))) (FC (q + 1) - FC q) (FC q) := by unfold cdf; rw [if_pos k1]
      have := fsx_lt (p := fun c => decide (Wd B s (tE B len s) (stx c))) (d := FC (q + 1) - FC q) (i := FC q) (by omega)
      rw [← e2, e] at this
      exact ⟨k1, of_decide_eq_true this⟩
    · have e2 : cdf B len q s = FC (q + 1) := by unfold cdf; rw [if_neg k1]
      omega
theorem tst {B : Nat → Nat} {len q s c : Nat} (hq : q < 4) (h1 : FC q ≤ c) (h2 : c < FC (q + 1)) {x : Int64} (e : x = lN (wcon (stx c))) : (lN (wv B len s) = x) = (cdf B len q s = c) := by
  have c20 := (FC_t q hq).2.1
  rw [e, ← propext (cdf_i hq h1 h2)]
  exact propext (wv_i (stx_t c (by omega)))
theorem lnR_e {B : Nat → Nat} {len q s c : Nat} (e : cdf B len q s = c) (F : Nat × Nat) (D : Nat → Int32) (far : Nat) : lnR B len q s F D far = if c < FC (q + 1) then lnG B len c s (if fuB c D = true then nt F (fuN c) s else F) D far else (false, s, F, D, far) := by
  unfold lnR; rw [e]
theorem c_Mo_full {n : Nat} (hn : 2 ≤ n) {g : xh} {q : Nat} {B : Nat → Nat} {len s : Nat} {F : Nat × Nat} {D : Nat → Int32} {far : Nat} (M : ML g q B len s F D far) {k : Nat} (hk : k < 81) {m : Int32} {Q : xh → Prop} (hQ : ∀ g', Fr Pt g g' → xI g' 166 22 = xI g 166 22 → xI g' 177 = xI g 177 → Lay g' ∧ TpM g' B → Td g' D → xI g' 166 21 = nI far - 1 → MR g' B len s (if D k = m then nt F 3 s else F) → Q g') : xcv (xMC n) 223 [.ref 166, .int (nI k), .int m, .int (nI s)] g Q := by
  obtain ⟨n, rfl⟩ := xsucc (show 1 ≤ n by omega)
  obtain ⟨⟨L, T, l6⟩, ⟨C, o, hs⟩, ⟨td, e21, f100, cn⟩⟩ := M
  refine w_Mo_full ⟨L.s 166, 176, L.r 166 19 176, L.x 176 (n := 81) hk, ?_⟩
  rw [nI_clamp (by omega), td k hk]
  refine ⟨fun z => hQ g Fr.rf rfl rfl ⟨L, T⟩ td e21 (by rw [if_neg z]; exact C), fun z => c_Mo_later (f := 3) (by omega) L l6 C (by decide) (by decide) o hs (fun g' G' i' e' C' => hQ g' G' (i' 22 (by decide) (by decide)) e' ⟨G'.lay L, fun i hi => ?_⟩ (fun i hi => ?_) (by rw [i' 21 (by decide) (by decide)]; exact e21) (by rw [if_pos z]; exact C'))⟩
  · rw [G'.i 167 (fun z => by unfold Pt at z; omega)]; exact T i hi
  · rw [G'.i 176 (fun z => by unfold Pt at z; omega)]; exact td i hi
theorem ord_if {F : Nat × Nat} {b : Prop} [Decidable b] {f s s' : Nat} (o : ord F s) (h : s < s') : ord (if b then nt F f s else F) s' := by
  split
  · exact ord_nt o h
  · exact o.mo (by omega)
/-- ahead of a line's numbers -/
theorem ML.pre {g g' : xh} {q : Nat} {B : Nat → Nat} {len s : Nat} {F : Nat × Nat} {D : Nat → Int32} {far : Nat} (M : ML g q B len s F D far) (sl : s < len) {c : Nat} (e : cdf B len q s = c) (hc : cq q c) (c16 : c ≠ 16) {F1 : Nat × Nat} (eF : (if fuB c D = true then nt F (fuN c) s else F) = F1) (lt : c < FC (q + 1)) (G : Fr Pt g g') (L : Lay g' ∧ TpM g' B) (td : Td g' D) (e21 : xI g' 166 21 = nI far - 1) (C : MR g' B len (nxt B len s) F1) : Pre g g' B len q s F D far c 0 (nxt B len s) F1 := by
  obtain ⟨⟨_, _, l6⟩, ⟨_, o, hs⟩, ⟨_, _, f100, cn⟩⟩ := M
  have nb := nxt_b (B := B) (len := len) (s := s) hs
  refine ⟨⟨L.1, L.2, l6⟩, ⟨C, ?_, nb.1, nb.2 sl⟩, ⟨td, e21, f100, cn⟩, ?_, G.mo (fun c z => by unfold Pt at z; unfold Pn; omega), hc, by decide⟩
  · rw [← eF]; exact ord_if o (nb.2 sl)
  · rw [lnR_e e, if_pos lt, lnG_t c16, eF]
theorem c_Mo_townLine {n : Nat} (hn : 6 ≤ n) {g : xh} {B : Nat → Nat} {len s : Nat} {F : Nat × Nat} {D : Nat → Int32} {far : Nat} (M : ML g 0 B len s F D far) (sl : s < len) (g22 : xI g 166 22 = 1) {Q : Int32 → xh → Prop} (lq : LQ B len 0 s F D far g Q) : xci (xMC n) 220 [.ref 166, .long (lN (wv B len s)), .int (nI s)] g Q := by
  obtain ⟨n, rfl⟩ := xsucc (show 1 ≤ n by omega)
  obtain ⟨⟨w0, w1, w2, w3⟩, ⟨w4, w5, w6, w7, w8, w9⟩, _⟩ := wct
  have t : ∀ {c : Nat} (hc : c < 10) {x : Int64} (e : x = lN (wcon (stx c))), (lN (wv B len s) = x) = (cdf B len 0 s = c) := fun {c} hc {x} e => tst (q := 0) (by decide) (by show 0 ≤ c; omega) (by show c < 10; exact hc) e
  have cb := cdf_b B len (q := 0) (by decide) s
  have c10 : cdf B len 0 s ≤ 10 := cb.2
  have lqn := lq.nar
  generalize hcd : cdf B len 0 s = c at t c10
  have t0 := t (c := 0) (by decide) w0
  have t1 := t (c := 1) (by decide) w1
  have t2 := t (c := 2) (by decide) w2
  have t3 := t (c := 3) (by decide) w3
  have t4 := t (c := 4) (by decide) w4
  have t5 := t (c := 5) (by decide) w5
  have t6 := t (c := 6) (by decide) w6
  have t7 := t (c := 7) (by decide) w7
  have t8 := t (c := 8) (by decide) w8
  have t9 := t (c := 9) (by decide) w9
  have hM := M
  obtain ⟨⟨L, T, l6⟩, ⟨C, o, hs⟩, ⟨td, e21, f100, cn⟩⟩ := hM
  obtain ⟨m, rfl⟩ := xsucc (show 1 ≤ n by omega)
  have kb : ∀ {Q : Int32 → xh → Prop}, Q (if c < 4 then nI c else -1) g → xci (xMC (m + 1)) 221 [.long (lN (wv B len s))] g Q := fun {Q} hq => by
    refine w_Mo_kindBy ?_
    rw [t0, t1, t2, t3]
    refine ⟨fun n0 => ⟨fun n1 => ⟨fun n2 => ⟨fun n3 => by rw [if_neg (by omega)] at hq; exact hq, fun n3 => by rw [n3] at hq; exact hq⟩, fun n2 => by rw [n2] at hq; exact hq⟩, fun n1 => by rw [n1] at hq; exact hq⟩, fun n0 => by rw [n0] at hq; exact hq⟩
  refine w_Mo_townLine (kb ?_)
  by_cases c4 : c < 4
  · rw [if_pos c4]
    have hc : cq 0 c := Or.inl ⟨rfl, by omega⟩
    refine ⟨fun _ => b_Mo_townLine_65 ⟨fun z => absurd z (nI_m1 (by omega)), fun _ => ⟨L.s 166, c_Mo_full (k := 6) (m := 9) (by omega) M (by decide) (fun g1 G1 _ _ LT td1 e1 C1 => b_Mo_townLine_80 ⟨LT.1.s 166, ?_⟩)⟩⟩, fun z => absurd z (nI_m1 (by omega))⟩
    refine C1.tok (by omega) LT.1 LT.2 l6 hs (fun g2 f2 C2 => ⟨fun z => absurd z (nI_m1 (by omega)), fun _ => ⟨(f2.1.lay LT.1).s 166, m_stop (by omega) (M.pre sl hcd hc (by omega) ?_ (by show c < 10; omega) (G1.tr (f2.1.mo (fun c z => Or.inl z))) ⟨f2.1.lay LT.1, f2.tp LT.2⟩ (td1.fm f2.m) (by rw [f2.m.2]; exact e1) C2) c4 lqn⟩⟩)
    have ef : fuB c D = decide (D 6 = 9) := by unfold fuB; rw [if_pos c4]
    have en : fuN c = 3 := by unfold fuN; rw [if_neg (by omega)]
    rw [ef, en]
    by_cases d9 : D 6 = 9
    · rw [decide_eq_true d9, if_pos rfl, if_pos d9]
    · rw [decide_eq_false d9, if_neg (by decide), if_neg d9]
  · rw [if_neg c4]
    refine ⟨fun z => absurd rfl z, fun _ => ?_⟩
    rw [t4, t5, t6, t7, t8, t9]
    have k65 : c < 10 → K_Mo_townLine (m + 1) Q 65 [some (.ref 166), some (.long (lN (wv B len s))), none, some (.int (nI s)), some (.int (-1))] [] g := fun lt => by
      have hc : cq 0 c := Or.inl ⟨rfl, by omega⟩
      have ef : (if fuB c D = true then nt F (fuN c) s else F) = F := by
        unfold fuB
        rw [if_neg c4, if_pos lt, if_neg (by decide)]
      refine b_Mo_townLine_65 ⟨fun _ => b_Mo_townLine_80 ⟨L.s 166, C.tok (by omega) L T l6 hs (fun g2 f2 C2 => ⟨fun _ => ?_, fun z => absurd rfl z⟩)⟩, fun z => absurd rfl z⟩
      have L2 := f2.1.lay L
      have P := M.pre sl hcd hc (by omega) ef (by show c < 10; exact lt) (f2.1.mo (fun c z => Or.inl z)) ⟨L2, f2.tp T⟩ (td.fm f2.m) (by rw [f2.m.2]; exact e21) C2
      rw [t4, t5, t6, t7, t8]
      have k113 : c = 4 ∨ c = 5 → ∀ o3 o4 : Option Value, K_Mo_townLine (m + 1) Q 113 [some (.ref 166), some (.long (lN (wv B len s))), none, o3, o4] [] g2 := fun h45 o3 o4 => by
        refine b_Mo_townLine_113 ?_
        rw [t4]
        refine ⟨fun n4 => ⟨L2.s 166, ?_⟩, fun n4 => ⟨L2.s 166, ?_⟩⟩
        · have c5 : c = 5 := by omega
          subst c5
          exact m_home (by omega) P lqn
        · subst n4
          exact m_follow (by omega) P (by rw [f2.2 22 (by omega)]; exact g22) lqn
      have k149 : c = 6 ∨ c = 8 → ∀ o3 o4 : Option Value, K_Mo_townLine (m + 1) Q 149 [some (.ref 166), some (.long (lN (wv B len s))), none, o3, o4] [] g2 := fun h68 o3 o4 => by
        refine b_Mo_townLine_149 ?_
        rw [t6]
        exact ⟨fun n6 => ⟨L2.s 166, m_plain (j := 4) (a := 0) (b := 99) (by omega) P lqn (by omega)⟩, fun n6 => ⟨L2.s 166, m_plain (j := 2) (a := 0) (b := 99) (by omega) P lqn (by omega)⟩⟩
      exact ⟨fun n4 => k113 (by omega) _ _, fun n4 => ⟨fun n5 => ⟨fun n6 => k149 (by omega) _ _, fun n6 => ⟨fun n8 => ⟨fun n7 => ⟨L2.s 166, m_plain (j := 5) (a := 1) (b := 30) (by omega) P lqn (by omega)⟩, fun n7 => ⟨L2.s 166, m_plain (j := 3) (a := 1) (b := 9) (by omega) P lqn (by omega)⟩⟩, fun n8 => k149 (by omega) _ _⟩⟩, fun n5 => k113 (by omega) _ _⟩⟩
    refine ⟨fun z => k65 (by omega), fun z4 => ⟨fun z => k65 (by omega), fun z5 => ⟨fun z => k65 (by omega), fun z6 => ⟨fun z => k65 (by omega), fun z7 => ⟨fun z => k65 (by omega), fun z8 => ⟨fun z => k65 (by omega), fun z9 => ⟨L.s 166, c_Mo_fails (by omega) L C.1.2.1 (lqn.2 _ s F D far ?_ (Fr.rf.wI (Or.inl rfl)) (upI_s _ _ _ _) hs)⟩⟩⟩⟩⟩⟩⟩
    rw [lnR_e hcd, if_neg (by show ¬ c < 10; omega)]
theorem c_Mo_dayLine {n : Nat} (hn : 6 ≤ n) {g : xh} {B : Nat → Nat} {len s : Nat} {F : Nat × Nat} {D : Nat → Int32} {far : Nat} (M : ML g 1 B len s F D far) (sl : s < len) {Q : Int32 → xh → Prop} (lq : LQ B len 1 s F D far g Q) : xci (xMC n) 232 [.ref 166, .long (lN (wv B len s)), .int (nI s)] g Q := by
  obtain ⟨n, rfl⟩ := xsucc (show 1 ≤ n by omega)
  obtain ⟨_, ⟨_, _, _, _, _, w12⟩, ⟨w13, w14, w15, w16⟩, _⟩ := wct
  have t : ∀ {c : Nat} (h1 : 10 ≤ c) (hc : c < 15) {x : Int64} (e : x = lN (wcon (stx c))), (lN (wv B len s) = x) = (cdf B len 1 s = c) := fun {c} h1 hc {x} e => tst (q := 1) (by decide) (by show 10 ≤ c; exact h1) (by show c < 15; exact hc) e
  have cb := cdf_b B len (q := 1) (by decide) s
  have c15 : cdf B len 1 s ≤ 15 := cb.2
  have c10 : 10 ≤ cdf B len 1 s := cb.1
  generalize hcd : cdf B len 1 s = c at t c10 c15
  have t0 := t (c := 10) (by decide) (by decide) w13
  have t1 := t (c := 11) (by decide) (by decide) w14
  have t2 := t (c := 12) (by decide) (by decide) w15
  have t3 := t (c := 13) (by decide) (by decide) w12
  have t4 := t (c := 14) (by decide) (by decide) w16
  have hM := M
  obtain ⟨⟨L, T, l6⟩, ⟨C, o, hs⟩, ⟨td, e21, f100, cn⟩⟩ := hM
  obtain ⟨m, rfl⟩ := xsucc (show 1 ≤ n by omega)
  have kb : ∀ {Q : Int32 → xh → Prop}, Q (if c < 15 then nI (c - 10) else -1) g → xci (xMC (m + 1)) 233 [.long (lN (wv B len s))] g Q := fun {Q} hq => by
    refine w_Mo_deedBy ?_
    rw [t0, t1, t2, t3, t4]
    refine ⟨fun n0 => ⟨fun n1 => ⟨fun n2 => ⟨fun n3 => ⟨fun n4 => by rw [if_neg (by omega)] at hq; exact hq, fun n4 => by rw [n4] at hq; exact hq⟩, fun n3 => by rw [n3] at hq; exact hq⟩, fun n2 => by rw [n2] at hq; exact hq⟩, fun n1 => by rw [n1] at hq; exact hq⟩, fun n0 => by rw [n0] at hq; exact hq⟩
  refine w_Mo_dayLine (kb ?_)
  by_cases lt : c < 15
  · rw [if_pos lt]
    have hc : cq 1 c := Or.inr (Or.inl ⟨rfl, by omega, lt⟩)
    refine ⟨fun _ => ⟨L.s 166, c_Mo_full (k := 0) (m := 40) (by omega) M (by decide) (fun g1 G1 _ _ LT td1 e1 C1 => ⟨LT.1.s 166, ?_⟩)⟩, fun z => absurd z (nI_m1 (by omega))⟩
    refine C1.tok (by omega) LT.1 LT.2 l6 hs (fun g2 f2 C2 => ⟨(f2.1.lay LT.1).s 166, 177, (f2.1.lay LT.1).r 166 20 177, ⟨by decide, (f2.1.lay LT.1).x 177 (i := 1) (n := 4) (by omega)⟩, ?_⟩)
    have L2 := f2.1.lay LT.1
    have T3 : TpM (xsI g2 177 1 (-1)) B := fun i hi => by rw [xsI_ne _ _ _ (by decide)]; exact f2.tp LT.2 i hi
    have td3 : Td (xsI g2 177 1 (-1)) D := fun i hi => by rw [xsI_ne _ _ _ (by decide)]; exact td1.fm f2.m i hi
    refine m_deed (by omega) (M.pre sl hcd hc (by omega) ?_ (by show c < 15; omega) ((G1.tr (f2.1.mo (fun c z => Or.inl z))).wI (Or.inr rfl)) ⟨L2, T3⟩ td3 (by rw [xsI_ne _ _ _ (by decide), f2.m.2]; exact e1) (C2.wa (by decide))) lq (upI_s _ _ _ _) _ _ _
    have ef : fuB c D = decide (D 0 = 40) := by unfold fuB; rw [if_neg (by omega), if_neg (by omega), if_pos lt]
    have en : fuN c = 3 := by unfold fuN; rw [if_neg (by omega)]
    rw [ef, en]
    by_cases d9 : D 0 = 40
    · rw [decide_eq_true d9, if_pos rfl, if_pos d9]
    · rw [decide_eq_false d9, if_neg (by decide), if_neg d9]
  · rw [if_neg lt]
    refine ⟨fun z => absurd rfl z, fun _ => ⟨L.s 166, c_Mo_fails (by omega) L C.1.2.1 (lq.nar.2 _ s F D far ?_ (Fr.rf.wI (Or.inl rfl)) (upI_s _ _ _ _) hs)⟩⟩
    rw [lnR_e hcd, if_neg (by show ¬ c < 15; omega)]
theorem c_Mo_thingBy {n : Nat} (hn : 1 ≤ n) {g : xh} {B : Nat → Nat} {len s : Nat} (k1 : kd B len s = 1) {Q : Int32 → xh → Prop} (hQ : Q (if thg B len s < 3 then nI (thg B len s) else -1) g) : xci (xMC n) 237 [.long (lN (wv B len s))] g Q := by
  obtain ⟨n, rfl⟩ := xsucc hn
  obtain ⟨_, _, _, _, ⟨w0, w1, w2⟩, _⟩ := wct
  have et : thg B len s = fsx (fun t => decide (Wd B s (tE B len s) t)) 3 0 := by unfold thg; rw [if_pos k1]
  have t : ∀ {j : Nat} (hj : j < 22) {x : Int64} (e : x = lN (wcon j)), (lN (wv B len s) = x) = Wd B s (tE B len s) j := fun {j} hj {x} e => by
    rw [e]
    exact propext ⟨fun z => ((wv_i hj).mp z).2, fun z => (wv_i hj).mpr ⟨k1, z⟩⟩
  generalize thg B len s = x at hQ et
  obtain ⟨a1, a2⟩ := fsx_1 (d := 2) et.symm
  refine w_Mo_thingBy ?_
  rw [t (j := 0) (by decide) w0, t (j := 1) (by decide) w1, t (j := 2) (by decide) w2]
  refine ⟨fun n0 => ?_, fun n0 => by rw [a1 (decide_eq_true n0)] at hQ; exact hQ⟩
  obtain ⟨b1, b2⟩ := fsx_1 (d := 1) (a2 (decide_eq_false n0))
  refine ⟨fun n1 => ?_, fun n1 => by rw [b1 (decide_eq_true n1)] at hQ; exact hQ⟩
  obtain ⟨c1, c2⟩ := fsx_1 (d := 0) (b2 (decide_eq_false n1))
  refine ⟨fun n2 => ?_, fun n2 => by rw [c1 (decide_eq_true n2)] at hQ; exact hQ⟩
  have e3 : 3 = x := c2 (decide_eq_false n2)
  rw [if_neg (by omega)] at hQ
  exact hQ
theorem c_Mo_bookLine {n : Nat} (hn : 7 ≤ n) {g : xh} {B : Nat → Nat} {len s : Nat} {F : Nat × Nat} {D : Nat → Int32} {far : Nat} (M : ML g 2 B len s F D far) (sl : s < len) {Q : Int32 → xh → Prop} (lq : LQ B len 2 s F D far g Q) : xci (xMC n) 235 [.ref 166, .long (lN (wv B len s)), .int (nI s)] g Q := by
  obtain ⟨n, rfl⟩ := xsucc (show 1 ≤ n by omega)
  obtain ⟨_, _, _, ⟨w17, w18⟩, _⟩ := wct
  have t : ∀ {c : Nat} (h1 : 15 ≤ c) (hc : c < 17) {x : Int64} (e : x = lN (wcon (stx c))), (lN (wv B len s) = x) = (cdf B len 2 s = c) := fun {c} h1 hc {x} e => tst (q := 2) (by decide) (by show 15 ≤ c; exact h1) (by show c < 17; exact hc) e
  have cb := cdf_b B len (q := 2) (by decide) s
  have c17 : cdf B len 2 s ≤ 17 := cb.2
  have c15 : 15 ≤ cdf B len 2 s := cb.1
  generalize hcd : cdf B len 2 s = c at t c15 c17
  have t0 := t (c := 15) (by decide) (by decide) w17
  have t1 := t (c := 16) (by decide) (by decide) w18
  have hM := M
  obtain ⟨⟨L, T, l6⟩, ⟨C, o, hs⟩, ⟨td, e21, f100, cn⟩⟩ := hM
  have nb := nxt_b (B := B) (len := len) (s := s) hs
  refine w_Mo_bookLine ?_
  rw [t0, t1]
  refine ⟨fun e15 => ?_, fun n15 => ⟨fun e16 => ?_, fun n16 => ⟨L.s 166, c_Mo_fails (by omega) L C.1.2.1 (lq.nar.2 _ s F D far ?_ (Fr.rf.wI (Or.inl rfl)) (upI_s _ _ _ _) hs)⟩⟩⟩
  · subst e15
    have hc : cq 2 15 := Or.inr (Or.inr (Or.inl ⟨rfl, by decide, by decide⟩))
    refine b_Mo_bookLine_21 ?_
    rw [t0]
    refine ⟨fun z => absurd rfl z, fun _ => ⟨L.s 166, c_Mo_full (k := 0) (m := 10) (by omega) M (by decide) (fun g1 G1 _ _ LT td1 e1 C1 => b_Mo_bookLine_37 ⟨LT.1.s 166, ?_⟩)⟩⟩
    refine C1.tok (by omega) LT.1 LT.2 l6 hs (fun g2 f2 C2 => ?_)
    rw [t1]
    refine ⟨fun _ => ⟨(f2.1.lay LT.1).s 166, m_night (by omega) (M.pre sl hcd hc (by decide) ?_ (by show 15 < 17; decide) (G1.tr (f2.1.mo (fun c z => Or.inl z))) ⟨f2.1.lay LT.1, f2.tp LT.2⟩ (td1.fm f2.m) (by rw [f2.m.2]; exact e1) C2) lq⟩, fun z => absurd z (by decide)⟩
    have ef : fuB 15 D = decide (D 0 = 10) := rfl
    have en : fuN 15 = 3 := rfl
    rw [ef, en]
    by_cases d9 : D 0 = 10
    · rw [decide_eq_true d9, if_pos rfl, if_pos d9]
    · rw [decide_eq_false d9, if_neg (by decide), if_neg d9]
  · subst e16
    have hc : cq 2 16 := Or.inr (Or.inr (Or.inl ⟨rfl, by decide, by decide⟩))
    have e0 : lnR B len 2 s F D far = lnG B len 16 s (if fuB 16 D = true then nt F (fuN 16) s else F) D far := by
      rw [lnR_e hcd, if_pos (show 16 < FC (2 + 1) from by show 16 < 17; decide)]
    refine b_Mo_bookLine_21 ?_
    rw [t0]
    refine ⟨fun _ => b_Mo_bookLine_37 ⟨L.s 166, C.tok (by omega) L T l6 hs (fun g2 f2 C2 => ?_)⟩, fun z => absurd z (by decide)⟩
    rw [t1]
    have L2 := f2.1.lay L
    have T2 := f2.tp T
    have td2 := td.fm f2.m
    refine ⟨fun z => absurd rfl z, fun _ => ⟨L2.s 166, ?_⟩⟩
    have lqn := lq.nar
    generalize (fun r (h : xh) => xnar 1 r ∧ Q r h) = Q2 at lqn
    obtain ⟨n, rfl⟩ := xsucc (show 1 ≤ n by omega)
    have lqn2 := lqn.nar
    have k15 : ∀ g3 F1, Fr Pt g g3 → Lay g3 → TpM g3 B → Td g3 D → xI g3 166 21 = nI far - 1 → MR g3 B len (nxt B len s) F1 → (if fuB 16 D = true then nt F (fuN 16) s else F) = F1 → ∀ o1 o2 : Option Value, K_Mo_askedLine n Q2 15 [some (.ref 166), o1, o2] [] g3 := fun g3 F1 G3 L3 T3 td3 e3 C3 eF o1 o2 => by
      rw [eF] at e0
      have o3 : ord F1 (nxt B len s) := by rw [← eF]; exact ord_if o (nb.2 sl)
      have k5 := kd_5 B len (nxt B len s)
      have km := kM_i _ k5
      have G3n : Fr Pn g g3 := G3.mo (fun c z => by unfold Pt at z; unfold Pn; omega)
      have none' : ¬ thg B len (nxt B len s) < 3 → K_Mo_askedLine n Q2 34 [some (.ref 166), o1, o2] [.int (-1)] g3 := fun th3 => by
        refine b_Mo_askedLine_34 ⟨fun z => absurd rfl z, fun _ => ⟨L3.s 166, c_Mo_fails (by omega) L3 C3.1.2.1 (lqn2.2 _ (nxt B len s) F1 D far ?_ (G3n.wI (Or.inl rfl)) (upI_s _ _ _ _) nb.1)⟩⟩
        rw [e0]
        unfold lnG
        rw [if_pos rfl, if_neg th3]
      refine b_Mo_askedLine_15 ⟨L3.s 166, ?_⟩
      rw [C3.1.2.2.2.1, show (nI (kM (kd B len (nxt B len s))) = (2 : Int32)) = (kM (kd B len (nxt B len s)) = 2) from propext (nI_eq (b := 2) (by omega) (by decide)), km.2.2.1]
      refine ⟨fun k1 => none' ?_, fun k1 => ?_⟩
      · have : thg B len (nxt B len s) = 3 := by unfold thg; rw [if_neg k1]
        omega
      · have ew : xL g3 166 15 = lN (wv B len (nxt B len s)) := by
          rw [C3.1.2.2.2.2.2 k1]
          unfold wv
          rw [if_pos k1]
        rw [ew]
        refine c_Mo_thingBy (by omega) k1 ?_
        by_cases th3 : thg B len (nxt B len s) < 3
        · rw [if_pos th3]
          have nb2 := nxt_b (B := B) (len := len) (s := nxt B len s) nb.1
          have sl2 := kd_lt (B := B) (len := len) (s := nxt B len s) (by omega)
          refine b_Mo_askedLine_34 ⟨fun _ => ⟨L3.s 166, C3.tok (by omega) L3 T3 l6 nb.1 (fun g4 f4 C4 => ⟨(f4.1.lay L3).s 166, ?_⟩)⟩, fun z => absurd z (nI_m1 (by omega))⟩
          refine m_asked (by omega) ⟨⟨f4.1.lay L3, f4.tp T3, l6⟩, ⟨C4, o3.mo (by have := nb2.2 sl2; omega), nb2.1, by have := nb2.2 sl2; have := nb.2 sl; omega⟩, ⟨td3.fm f4.m, by rw [f4.m.2]; exact e3, f100, cn⟩, ?_, G3n.tr f4.m.n, hc, th3⟩ lqn
          rw [e0]
          unfold lnG
          rw [if_pos rfl, if_pos th3]
        · rw [if_neg th3]
          exact none' th3
    refine w_Mo_askedLine ⟨L2.s 166, 176, L2.r 166 19 176, L2.x 176 (i := 0) (n := 81) (by omega), ?_⟩
    rw [show (0 : Int32).toNatClampNeg = 0 from rfl, td2 0 (by decide)]
    have ef : fuB 16 D = decide (D 0 = 0) := rfl
    have en : fuN 16 = 4 := rfl
    have e21' : xI g2 166 21 = nI far - 1 := by rw [f2.m.2]; exact e21
    refine ⟨fun z => k15 g2 F (f2.1.mo (fun c z => Or.inl z)) L2 T2 td2 e21' C2 (by rw [ef, decide_eq_false z, if_neg (by decide)]) _ _, fun z => c_Mo_later (f := 4) (by omega) L2 l6 C2 (by decide) (by decide) o hs (fun g3 G3 i3 e3 C3 => k15 g3 _ ((f2.1.mo (fun c z => Or.inl z)).tr G3) (G3.lay L2) (fun i hi => by rw [G3.i 167 (fun z => by unfold Pt at z; omega)]; exact T2 i hi) (fun i hi => by rw [G3.i 176 (fun z => by unfold Pt at z; omega)]; exact td2 i hi) (by rw [i3 21 (by decide) (by decide)]; exact e21') C3 (by rw [ef, decide_eq_true z, if_pos rfl, en]) _ _)⟩
  · rw [lnR_e hcd, if_neg (by show ¬ c < 17; omega)]
theorem c_Mo_listLine {n : Nat} (hn : 6 ≤ n) {g : xh} {B : Nat → Nat} {len s : Nat} {F : Nat × Nat} {D : Nat → Int32} {far : Nat} (M : ML g 3 B len s F D far) (sl : s < len) {Q : Int32 → xh → Prop} (lq : LQ B len 3 s F D far g Q) : xci (xMC n) 238 [.ref 166, .long (lN (wv B len s)), .int (nI s)] g Q := by
  obtain ⟨n, rfl⟩ := xsucc (show 1 ≤ n by omega)
  obtain ⟨_, _, _, _, _, ⟨w19, w20, w21⟩⟩ := wct
  have t : ∀ {c : Nat} (h1 : 17 ≤ c) (hc : c < 20) {x : Int64} (e : x = lN (wcon (stx c))), (lN (wv B len s) = x) = (cdf B len 3 s = c) := fun {c} h1 hc {x} e => tst (q := 3) (by decide) (by show 17 ≤ c; exact h1) (by show c < 20; exact hc) e
  have cb := cdf_b B len (q := 3) (by decide) s
  have c20 : cdf B len 3 s ≤ 20 := cb.2
  have c17 : 17 ≤ cdf B len 3 s := cb.1
  generalize hcd : cdf B len 3 s = c at t c17 c20
  have t0 := t (c := 17) (by decide) (by decide) w19
  have t1 := t (c := 18) (by decide) (by decide) w20
  have t2 := t (c := 19) (by decide) (by decide) w21
  have hM := M
  obtain ⟨⟨L, T, l6⟩, ⟨C, o, hs⟩, ⟨td, e21, f100, cn⟩⟩ := hM
  have lqn := lq.nar
  have k70 : ∀ k m, k < 81 → c < 20 → fuB c D = decide (D k = m) → K_Mo_listLine n Q 70 [some (.ref 166), some (.long (lN (wv B len s))), none, some (.int (nI s))] [.int m, .int (nI k), .ref 166] g := fun k m hk lt ef => by
    have hc : cq 3 c := Or.inr (Or.inr (Or.inr ⟨rfl, c17, lt⟩))
    refine b_Mo_listLine_70 ⟨L.s 166, c_Mo_full (by omega) M hk (fun g1 G1 _ _ LT td1 e1 C1 => ⟨LT.1.s 166, ?_⟩)⟩
    refine C1.tok (by omega) LT.1 LT.2 l6 hs (fun g2 f2 C2 => ?_)
    have L2 := f2.1.lay LT.1
    have en : fuN c = 3 := by unfold fuN; rw [if_neg (by omega)]
    have P := M.pre sl hcd hc (by omega) (F1 := if D k = m then nt F 3 s else F) (by
      rw [ef, en]
      by_cases d9 : D k = m
      · rw [decide_eq_true d9, if_pos rfl, if_pos d9]
      · rw [decide_eq_false d9, if_neg (by decide), if_neg d9]) (by show c < 20; exact lt) (G1.tr (f2.1.mo (fun c z => Or.inl z))) ⟨L2, f2.tp LT.2⟩ (td1.fm f2.m) (by rw [f2.m.2]; exact e1) C2
    rw [t0, t1]
    refine ⟨fun n17 => ⟨fun n18 => ⟨L2.s 166, ?_⟩, fun n18 => ⟨L2.s 166, ?_⟩⟩, fun n17 => ⟨L2.s 166, ?_⟩⟩
    · have c19 : c = 19 := by omega
      rw [c19] at P
      exact m_hide (by omega) P lqn
    · rw [n18] at P
      exact m_foot (by omega) P lqn
    · rw [n17] at P
      exact m_shoe (by omega) P lqn
  have k29 : c < 20 → K_Mo_listLine n Q 29 [some (.ref 166), some (.long (lN (wv B len s))), none, some (.int (nI s))] [] g := fun lt => by
    refine b_Mo_listLine_29 ?_
    rw [t0, t1]
    refine ⟨fun n17 => ⟨fun n18 => b_Mo_listLine_55 ?_, fun n18 => b_Mo_listLine_55 ?_⟩, fun n17 => b_Mo_listLine_55 ?_⟩
    · rw [t0]
      have c19 : c = 19 := by omega
      exact ⟨fun _ => k70 2 8 (by decide) lt (by rw [c19]; rfl), fun z => absurd z n17⟩
    · rw [t0]
      exact ⟨fun _ => k70 1 8 (by decide) lt (by rw [n18]; rfl), fun z => absurd z n17⟩
    · rw [t0]
      exact ⟨fun z => absurd n17 z, fun _ => k70 0 6 (by decide) lt (by rw [n17]; rfl)⟩
  refine w_Mo_listLine ?_
  rw [t0, t1, t2]
  refine ⟨fun e => k29 (by omega), fun n17 => ⟨fun e => k29 (by omega), fun n18 => ⟨fun e => k29 (by omega), fun n19 => ⟨L.s 166, c_Mo_fails (by omega) L C.1.2.1 (lqn.2 _ s F D far ?_ (Fr.rf.wI (Or.inl rfl)) (upI_s _ _ _ _) hs)⟩⟩⟩⟩
  rw [lnR_e hcd, if_neg (by show ¬ c < 20; omega)]
