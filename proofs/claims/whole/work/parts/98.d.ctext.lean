/-! text in the class -/
def iA (q : Nat) : Nat := if q = 0 then 3 else if q = 1 then 20 else if q = 2 then 27 else 36
def TSh (h : xh) (b : Nat) : Prop := (xS h b = (1, 0) ∧ xS h (b + 1) = (21, 600) ∧ xS h (b + 2) = (20, 4)) ∧ (xR h b 0 = some (b + 1) ∧ xR h b 4 = some (b + 2) ∧ ∀ q, q < 4 → xR h b (5 + q) = some (b + iA q)) ∧ ∀ q, q < 4 → xS h (b + iA q) = (25 + q, 2) ∧ ∀ k, k < 2 → xR h (b + iA q) k = some (b + iO q k) ∧ IS q h (b + iO q k)
theorem j7 {j : Nat} (hj : j < 7) : j = 0 ∨ j = 1 ∨ j = 2 ∨ j = 3 ∨ j = 4 ∨ j = 5 ∨ j = 6 := by omega
theorem j6 {j : Nat} (hj : j < 6) : j = 0 ∨ j = 1 ∨ j = 2 ∨ j = 3 ∨ j = 4 ∨ j = 5 := by omega
theorem Lay.tn {h : xh} (L : Lay h) (t : Nat) (h1 : 64 ≤ t) (h2 : t + 7 < 193) (es : shL.getD (t - 64) (99, 0) = (2, 0)) (ej : ∀ j, j < 7 → (rfL.getD (t - 64) []).getD (7 + j) none = some (t + 1 + j) ∧ shL.getD (t + 1 + j - 64) (99, 0) = (20, 9)) : TnS h t :=
  ⟨L.s t es h1 (by omega), fun j hj => ⟨L.r t _ _ (ej j hj).1 h1 (by omega), L.s (t + 1 + j) (ej j hj).2 (by omega) (by omega)⟩⟩
theorem Lay.ev {h : xh} (L : Lay h) (t : Nat) (h1 : 64 ≤ t) (h2 : t + 7 < 193) (es : shL.getD (t - 64) (99, 0) = (3, 0)) (ej : ∀ j, j < 2 → (rfL.getD (t - 64) []).getD (1 + j) none = some (t + 1 + j) ∧ shL.getD (t + 1 + j - 64) (99, 0) = (20, ([40, 40] : List Nat).getD j 0)) : EvS h t :=
  ⟨L.s t es h1 (by omega), fun j hj => ⟨L.r t _ _ (ej j hj).1 h1 (by omega), L.s (t + 1 + j) (ej j hj).2 (by omega) (by omega)⟩⟩
theorem Lay.bo {h : xh} (L : Lay h) (t : Nat) (h1 : 64 ≤ t) (h2 : t + 7 < 193) (es : shL.getD (t - 64) (99, 0) = (4, 0)) (ej : ∀ j, j < 3 → (rfL.getD (t - 64) []).getD (1 + j) none = some (t + 1 + j) ∧ shL.getD (t + 1 + j - 64) (99, 0) = (20, ([10, 10, 30] : List Nat).getD j 0)) : BoS h t :=
  ⟨L.s t es h1 (by omega), fun j hj => ⟨L.r t _ _ (ej j hj).1 h1 (by omega), L.s (t + 1 + j) (ej j hj).2 (by omega) (by omega)⟩⟩
theorem Lay.sh {h : xh} (L : Lay h) (t : Nat) (h1 : 64 ≤ t) (h2 : t + 7 < 193) (es : shL.getD (t - 64) (99, 0) = (5, 0)) (ej : ∀ j, j < 6 → (rfL.getD (t - 64) []).getD (3 + j) none = some (t + 1 + j) ∧ shL.getD (t + 1 + j - 64) (99, 0) = (20, ([6, 8, 8, 8, 8, 8] : List Nat).getD j 0)) : ShS h t :=
  ⟨L.s t es h1 (by omega), fun j hj => ⟨L.r t _ _ (ej j hj).1 h1 (by omega), L.s (t + 1 + j) (ej j hj).2 (by omega) (by omega)⟩⟩
theorem Lay.is {h : xh} (L : Lay h) {q k : Nat} (hq : q < 4) (hk : k < 2) : IS q h (65 + iO q k) := by
  have k2 : k = 0 ∨ k = 1 := by omega
  rcases q4 hq with z | z | z | z <;> rcases k2 with y | y <;> subst z <;> subst y
  · exact L.tn 69 (by decide) (by decide) rfl (by decide)
  · exact L.tn 77 (by decide) (by decide) rfl (by decide)
  · exact L.ev 86 (by decide) (by decide) rfl (by decide)
  · exact L.ev 89 (by decide) (by decide) rfl (by decide)
  · exact L.bo 93 (by decide) (by decide) rfl (by decide)
  · exact L.bo 97 (by decide) (by decide) rfl (by decide)
  · exact L.sh 102 (by decide) (by decide) rfl (by decide)
  · exact L.sh 109 (by decide) (by decide) rfl (by decide)
theorem Lay.dr {h : xh} (L : Lay h) {q : Nat} (hq : q < 4) : IS q h (iD q) := by
  rcases q4 hq with z | z | z | z <;> subst z
  · exact L.tn 119 (by decide) (by decide) rfl (by decide)
  · exact L.ev 127 (by decide) (by decide) rfl (by decide)
  · exact L.bo 130 (by decide) (by decide) rfl (by decide)
  · exact L.sh 134 (by decide) (by decide) rfl (by decide)
theorem Lay.tsh {h : xh} (L : Lay h) : TSh h 65 := by
  refine ⟨⟨L.s 65, L.s 66, L.s 67⟩, ⟨L.r 65 0 66, L.r 65 4 67, fun q hq => ?_⟩, fun q hq => ⟨?_, fun k hk => ⟨?_, L.is hq hk⟩⟩⟩
  · rcases q4 hq with z | z | z | z <;> subst z
    · exact L.r 65 5 68
    · exact L.r 65 6 85
    · exact L.r 65 7 92
    · exact L.r 65 8 101
  · rcases q4 hq with z | z | z | z <;> subst z
    · exact L.s 68
    · exact L.s 85
    · exact L.s 92
    · exact L.s 101
  · have k2 : k = 0 ∨ k = 1 := by omega
    rcases q4 hq with z | z | z | z <;> rcases k2 with y | y <;> subst z <;> subst y
    · exact L.r 68 0 69
    · exact L.r 68 1 77
    · exact L.r 85 0 86
    · exact L.r 85 1 89
    · exact L.r 92 0 93
    · exact L.r 92 1 97
    · exact L.r 101 0 102
    · exact L.r 101 1 109
theorem DR.it {h : xh} (L : Lay h) {q : Nat} (hq : q < 4) {D : Nat → Int32} {far : Nat} (d : DR q h D) (p : pOK q D far) (f : q = 0 → far ≤ bN D 6) : IT q h (iD q) D := by
  have S := L.dr hq
  rcases q4 hq with z | z | z | z <;> subst z
  · have p : TnP D far := p
    have S : TnS h 119 := S
    exact ⟨S.1, S.2, d.1, fun j s hj hs hd => d.2 j s hj hs hd, p.ok (f rfl)⟩
  · have p : EvOK D := p
    have S : EvS h 127 := S
    exact ⟨S.1, ⟨(S.2 0 (by decide)).1, (S.2 1 (by decide)).1, (S.2 0 (by decide)).2, (S.2 1 (by decide)).2⟩, d.1, d.2, p⟩
  · have p : BkOK D := And.left p
    have S : BoS h 130 := S
    exact ⟨S.1, ⟨(S.2 0 (by decide)).1, (S.2 1 (by decide)).1, (S.2 2 (by decide)).1, (S.2 0 (by decide)).2, (S.2 1 (by decide)).2, (S.2 2 (by decide)).2⟩, d.1, d.2, p⟩
  · have p : ShOK D := p
    have S : ShS h 134 := S
    refine ⟨S.1, fun j hj => (S.2 j hj).1, ⟨(S.2 0 (by decide)).2, fun i hi => ?_⟩, d.1, d.2.1, d.2.2.1, d.2.2.2, p⟩
    have z : i = 0 ∨ i = 1 ∨ i = 2 ∨ i = 3 ∨ i = 4 := by omega
    rcases z with z | z | z | z | z <;> subst z
    · exact (S.2 1 (by decide)).2
    · exact (S.2 2 (by decide)).2
    · exact (S.2 3 (by decide)).2
    · exact (S.2 4 (by decide)).2
    · exact (S.2 5 (by decide)).2
def Nn (h : xh) : Prop := xR h 146 0 = none ∧ xR h 150 0 = none ∧ xR h 159 0 = none
def Pc3 (c : Nat) : Prop := c = 146 ∨ c = 150 ∨ c = 159
/-- nothing but the first fields of the three caches -/
def Fn (h g : xh) : Prop := Fg Pc3 h g ∧ xI g = xI h ∧ xL g = xL h ∧ Nn g ∧ (Lay h → Lay g)
theorem c_So_forgetAll {n : Nat} (hn : 2 ≤ n) {h : xh} (L : Lay h) {Q : xh → Prop} (hQ : ∀ g, Fn h g → Q g) : xcv (xMC n) 158 [.ref 64] h Q := by
  obtain ⟨n, rfl⟩ := xsucc (show 1 ≤ n by omega)
  obtain ⟨n, rfl⟩ := xsucc (show 1 ≤ n by omega)
  have L1 : Lay (xsR h 146 0 none) := L.wR 146 none
  have L2 : Lay (xsR (xsR h 146 0 none) 150 0 none) := L1.wR 150 none
  have L3 : Lay (xsR (xsR (xsR h 146 0 none) 150 0 none) 159 0 none) := L2.wR 159 none
  refine w_So_forgetAll ⟨L.s 64, 146, L.r 64 4 146, L.s 146, w_Bowls_forget ⟨⟨by decide, L.s 146⟩, L1.s 64, 150, L1.r 64 5 150, L1.s 150, w_Routes_forget ⟨⟨by decide, L1.s 150⟩, L2.s 64, 159, L2.r 64 6 159, L2.s 159, w_Search_forget ⟨⟨by decide, L2.s 159⟩, hQ _ ⟨?_, rfl, rfl, ⟨?_, ?_, ?_⟩, fun _ => L3⟩⟩⟩⟩⟩
  · exact ((Fg.rf.wR (Or.inl rfl)).wR (Or.inr (Or.inl rfl))).wR (Or.inr (Or.inr rfl))
  · rw [xR_at, if_neg (by decide), xR_at, if_neg (by decide), xR_at, if_pos ⟨rfl, rfl⟩]
  · rw [xR_at, if_neg (by decide), xR_at, if_pos ⟨rfl, rfl⟩]
  · rw [xR_at, if_pos ⟨rfl, rfl⟩]
def Pk (q k c : Nat) : Prop := c = 67 ∨ Bl (65 + iO q k) (iL q) c ∨ Pc3 c
theorem iO_b {q k : Nat} (hq : q < 4) (hk : k < 2) : 4 ≤ iO q k ∧ iO q k + iL q ≤ 50 := by
  have k2 : k = 0 ∨ k = 1 := by omega
  rcases q4 hq with z | z | z | z <;> rcases k2 with y | y <;> subst z <;> subst y <;> decide
theorem iD_b {q : Nat} (hq : q < 4) : 119 ≤ iD q ∧ iD q + iL q ≤ 140 := by
  rcases q4 hq with z | z | z | z <;> subst z <;> decide
theorem nI_max (a b : Nat) (ha : a < 100) (hb : b < 100) : (if nI a < nI b then nI b else nI a) = nI (max a b) := by
  by_cases e : a < b
  · rw [if_pos (nI_lt e (by omega)), show max a b = b by omega]
  · rw [if_neg (nI_nlt (by omega) (by omega)), show max a b = a by omega]
theorem c_So_keepDraft {n : Nat} (hn : 3 ≤ n) {h : xh} (L : Lay h) {q k c : Nat} (hq : q < 4) (hk : k < 2) (hc : c ≤ 2) (e : xI h 67 q = nI c) {Q : xh → Prop} (hQ : ∀ g, Fg (Pk q k) h g → Lay g → Nn g → (∀ i, xI g 67 i = if i = q then nI (max c (k + 1)) else xI h 67 i) → (∀ D, IT q h (iD q) D → IT q g (65 + iO q k) D) → Q g) : xcv (xMC n) 157 [.ref 64, .int (nI q), .int (nI k)] h Q := by
  obtain ⟨n, rfl⟩ := xsucc (show 1 ≤ n by omega)
  have b1 := iO_b hq hk
  have b2 := iD_b hq
  have ce : ∀ k : Nat, k < 20 → (nI q = nI k) = (q = k) := fun k hk => propext (nI_eq (by omega) (by omega))
  have rest : ∀ g, Fr (Bl (65 + iO q k) (iL q)) h g → (∀ D, IT q h (iD q) D → IT q g (65 + iO q k) D) → K_So_keepDraft n Q 113 [some (.ref 64), some (.int (nI q)), some (.int (nI k))] [] g := fun g G t => by
    have L1 := G.lay L
    have e1 : xI g 67 = xI h 67 := G.i 67 (fun z => by unfold Bl at z; omega)
    refine b_So_keepDraft_113 ⟨L1.s 64, 65, L1.r 64 0 65, L1.s 65, 67, L1.r 65 4 67, L1.x 67 (n := 4) hq, c_Math_max (by omega) ⟨⟨by decide, L1.x 67 (n := 4) hq⟩, ?_⟩⟩
    rw [nI_clamp (by omega), e1, e, nI_1, nI_max _ _ (by omega) (by omega)]
    have L2 : Lay (xsI g 67 q (nI (max c (k + 1)))) := L1
    refine b_So_keepDraft_137 ⟨L2.s 64, c_So_forgetAll (by omega) L2 (fun g2 ⟨F1, F2, F3, F4, F5⟩ => hQ g2 ?_ (F5 L2) F4 (fun i => ?_) (fun D H => ?_))⟩
    · exact (((G.mo (R := Pk q k) (fun c z => Or.inr (Or.inl z))).wI (Or.inl rfl)).g).tr (F1.mo (fun c z => Or.inr (Or.inr z)))
    · rw [F2, upI, e1]
    · refine IT.sm hq (t D H) (fun c c1 c2 => ⟨by rw [F1.2.1]; rfl, (F1.2.2 c (fun z => by unfold Pc3 at z; omega)).2.1, ?_, ?_⟩)
      · rw [F2]; exact xsI_ne _ _ _ (by omega)
      · rw [F3]; rfl
  have cp : ∀ {Q : xh → Prop}, (∀ g, Fr (Bl (65 + iO q k) (iL q)) h g → (∀ D, IT q h (iD q) D → IT q g (65 + iO q k) D) → Q g) → xcv (xMC n) (iM q) [.ref (65 + iO q k), .ref (iD q)] h Q := fun {Q} H => c_item_copy (by omega) hq (L.is hq hk) (L.dr hq) (by omega) (by omega) (by omega) H
  have TS := L.tsh
  have rr := (TS.2.2 q hq).2 k hk
  have sq : xS h (65 + iO q k) = ([(2, 0), (3, 0), (4, 0), (5, 0)] : List (Nat × Nat)).getD q (0, 0) := by
    have S := rr.2
    rcases q4 hq with z | z | z | z <;> subst z <;> exact S.1
  refine w_So_keepDraft ?_
  rw [nI_clamp (show k < 2 ^ 31 by omega), show (nI q = (0 : Int32)) = (q = 0) from ce 0 (by decide), show (nI q = (1 : Int32)) = (q = 1) from ce 1 (by decide), show (nI q = (2 : Int32)) = (q = 2) from ce 2 (by decide)]
  refine ⟨fun z => ⟨L.s 64, 65, L.r 64 0 65, L.s 65, 68, L.r 65 5 68, L.x 68 (n := 2) hk, 65 + iO q k, ?_⟩, fun n0 => ⟨fun z => ⟨L.s 64, 65, L.r 64 0 65, L.s 65, 85, L.r 65 6 85, L.x 85 (n := 2) hk, 65 + iO q k, ?_⟩, fun n1 => ⟨fun z => ⟨L.s 64, 65, L.r 64 0 65, L.s 65, 92, L.r 65 7 92, L.x 92 (n := 2) hk, 65 + iO q k, ?_⟩, fun n2 => ⟨L.s 64, 65, L.r 64 0 65, L.s 65, 101, L.r 65 8 101, L.x 101 (n := 2) hk, 65 + iO q k, ?_⟩⟩⟩⟩
  · subst z
    exact ⟨rr.1, 117, L.r 64 2 117, L.s 117, 119, L.r 117 11 119, sq, cp rest⟩
  · subst z
    exact ⟨rr.1, 117, L.r 64 2 117, L.s 117, 127, L.r 117 12 127, sq, cp rest⟩
  · subst z
    exact ⟨rr.1, 117, L.r 64 2 117, L.s 117, 130, L.r 117 13 130, sq, cp rest⟩
  · have z : q = 3 := by omega
    subst z
    exact ⟨rr.1, 117, L.r 64 2 117, L.s 117, 134, L.r 117 14 134, sq, cp rest⟩
