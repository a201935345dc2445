/-! new objects -/
theorem nFd_N (a : Nat) (h : xh) (t z i : Nat) : xN (nFd a h t z i) = xN h + 1 := rfl
theorem nFd_S (a : Nat) (h : xh) (t z i c : Nat) : xS (nFd a h t z i) c = if c = xN h then (t, z) else xS h c := xnw_S h t z c
theorem nw_sm (h : xh) (t z : Nat) {c : Nat} (hc : c < xN h) : Sm h (xnw h t z) c :=
  ⟨by rw [xnw_S, if_neg (by omega)], va_upn _ _ _ (fun z => by omega), va_upn _ _ _ (fun z => by omega), va_upn _ _ _ (fun z => by omega)⟩
theorem Sm.tr {a b c : xh} {k : Nat} (f : Sm a b k) (g : Sm b c k) : Sm a c k := ⟨g.1.trans f.1, g.2.1.trans f.2.1, g.2.2.1.trans f.2.2.1, g.2.2.2.trans f.2.2.2⟩
theorem Sm.rf {a : xh} {k : Nat} : Sm a a k := ⟨rfl, rfl, rfl, rfl⟩
theorem sR_sm (h : xh) (a i : Nat) (v : Option Nat) {c : Nat} (hc : c ≠ a) : Sm h (xsR h a i v) c := ⟨rfl, xsR_ne h i v hc, rfl, rfl⟩
theorem sI_sm (h : xh) (a i : Nat) (v : Int32) {c : Nat} (hc : c ≠ a) : Sm h (xsI h a i v) c := ⟨rfl, rfl, xsI_ne h i v hc, rfl⟩
theorem nFd_sm (a : Nat) (h : xh) (t z i : Nat) {c : Nat} (hc : c < xN h) (ca : c ≠ a) : Sm h (nFd a h t z i) c := (nw_sm h t z hc).tr (sR_sm _ _ _ _ ca)
theorem nFd_R (a : Nat) (h : xh) (t z i k : Nat) (ha : a < xN h) : xR (nFd a h t z i) a k = if k = i then some (xN h) else xR h a k := by
  unfold nFd
  rw [xR_at]
  by_cases e : k = i
  · rw [if_pos ⟨rfl, e⟩, if_pos e]
  · rw [if_neg (fun z => e z.2), if_neg e, (nw_sm h t z ha).2.1]
def nFs (a : Nat) : xh → Nat → List (Nat × Nat) → xh
  | h, _, [] => h
  | h, i, (t, z) :: r => nFs a (nFd a h t z i) (i + 1) r
theorem nFs_ok (a : Nat) : ∀ (l : List (Nat × Nat)) (h : xh) (i : Nat), a < xN h → xN (nFs a h i l) = xN h + l.length ∧ (∀ c, c < xN h → c ≠ a → Sm h (nFs a h i l) c) ∧ (xS (nFs a h i l) a = xS h a ∧ xI (nFs a h i l) a = xI h a ∧ ∀ k, k < i ∨ i + l.length ≤ k → xR (nFs a h i l) a k = xR h a k) ∧ ∀ j, j < l.length → xR (nFs a h i l) a (i + j) = some (xN h + j) ∧ xS (nFs a h i l) (xN h + j) = l.getD j (0, 0)
  | [], h, i, ha => ⟨rfl, fun _ _ _ => Sm.rf, ⟨rfl, rfl, fun _ _ => rfl⟩, fun j hj => absurd hj (Nat.not_lt_zero _)⟩
  | (t, z) :: r, h, i, ha => by
    obtain ⟨h1, h2, ⟨h3, h4, h5⟩, h6⟩ := nFs_ok a r (nFd a h t z i) (i + 1) (by rw [nFd_N]; omega)
    rw [nFd_N] at h1 h2 h6
    show xN (nFs a (nFd a h t z i) (i + 1) r) = xN h + (r.length + 1) ∧ _
    refine ⟨by omega, fun c hc ca => (nFd_sm a h t z i hc ca).tr (h2 c (by omega) ca), ⟨?_, ?_, fun k hk => ?_⟩, fun j hj => ?_⟩
    · show xS (nFs a (nFd a h t z i) (i + 1) r) a = xS h a
      rw [h3, nFd_S, if_neg (by omega)]
    · show xI (nFs a (nFd a h t z i) (i + 1) r) a = xI h a
      rw [h4]
      exact (nw_sm h t z ha).2.2.1
    · show xR (nFs a (nFd a h t z i) (i + 1) r) a k = xR h a k
      have hk : k < i ∨ i + (r.length + 1) ≤ k := hk
      rw [h5 k (by omega), nFd_R _ _ _ _ _ _ ha, if_neg (by omega)]
    · have hj : j < r.length + 1 := hj
      show xR (nFs a (nFd a h t z i) (i + 1) r) a (i + j) = _ ∧ xS (nFs a (nFd a h t z i) (i + 1) r) (xN h + j) = _
      cases j with
      | zero =>
        rw [h5 (i + 0) (by omega), nFd_R _ _ _ _ _ _ ha, if_pos (by omega)]
        refine ⟨rfl, ?_⟩
        rw [(h2 (xN h + 0) (by omega) (by omega)).1, nFd_S, if_pos (by omega)]
        rfl
      | succ j =>
        have := h6 j (by omega)
        rw [show i + 1 + j = i + (j + 1) by omega, show xN h + 1 + j = xN h + (j + 1) by omega] at this
        exact this
/-- what a maker of an object of kind q does -/
def Mk (q : Nat) (nX : Nat → xh → xh) : Prop := ∀ a h, a < xN h → xN (nX a h) = xN h + iL q ∧ (∀ c, c < xN h → c ≠ a → Sm h (nX a h) c) ∧ (xN h = a + 1 → xS h a = (2 + q, 0) → IS q (nX a h) a)
theorem Mk_T : Mk 0 nTown := fun a h ha => by
  obtain ⟨h1, h2, ⟨h3, h4, h5⟩, h6⟩ := nFs_ok a [(20, 9), (20, 9), (20, 9), (20, 9), (20, 9), (20, 9), (20, 9)] h 7 ha
  refine ⟨h1, h2, fun e s => ⟨h3.trans s, fun j hj => ?_⟩⟩
  have := h6 j hj
  rw [e] at this
  refine ⟨this.1, this.2.trans ?_⟩
  rcases j7 hj with z | z | z | z | z | z | z <;> subst z <;> rfl
theorem Mk_E : Mk 1 nEvening := fun a h ha => by
  obtain ⟨h1, h2, ⟨h3, h4, h5⟩, h6⟩ := nFs_ok a [(20, 40), (20, 40)] h 1 ha
  refine ⟨h1, h2, fun e s => ⟨h3.trans s, fun j hj => ?_⟩⟩
  have := h6 j hj
  rw [e] at this
  refine ⟨this.1, this.2.trans ?_⟩
  have z : j = 0 ∨ j = 1 := by omega
  rcases z with z | z <;> subst z <;> rfl
theorem Mk_B : Mk 2 nBook := fun a h ha => by
  obtain ⟨h1, h2, ⟨h3, h4, h5⟩, h6⟩ := nFs_ok a [(20, 10), (20, 10), (20, 30)] h 1 ha
  refine ⟨h1, h2, fun e s => ⟨h3.trans s, fun j hj => ?_⟩⟩
  have := h6 j hj
  rw [e] at this
  refine ⟨this.1, this.2.trans ?_⟩
  have z : j = 0 ∨ j = 1 ∨ j = 2 := by omega
  rcases z with z | z | z <;> subst z <;> rfl
theorem Mk_S : Mk 3 nSheet := fun a h ha => by
  obtain ⟨h1, h2, ⟨h3, h4, h5⟩, h6⟩ := nFs_ok a [(20, 6), (20, 8), (20, 8), (20, 8), (20, 8), (20, 8)] h 3 ha
  refine ⟨h1, h2, fun e s => ⟨h3.trans s, fun j hj => ?_⟩⟩
  have := h6 j hj
  rw [e] at this
  refine ⟨this.1, this.2.trans ?_⟩
  rcases j6 hj with z | z | z | z | z | z <;> subst z <;> rfl
theorem nPr_ok {q : Nat} (hq : q < 4) {nX : Nat → xh → xh} (hX : Mk q nX) (a : Nat) (h : xh) (i m : Nat) (em : xN h = m) (ha : a < m) : xN (nPr nX (25 + q) (2 + q) a h i) = m + (3 + 2 * iL q) ∧ (∀ c, c < m → c ≠ a → Sm h (nPr nX (25 + q) (2 + q) a h i) c) ∧ (xS (nPr nX (25 + q) (2 + q) a h i) a = xS h a ∧ ∀ k, xR (nPr nX (25 + q) (2 + q) a h i) a k = if k = i then some m else xR h a k) ∧ xS (nPr nX (25 + q) (2 + q) a h i) m = (25 + q, 2) ∧ (xR (nPr nX (25 + q) (2 + q) a h i) m 0 = some (m + 1) ∧ xR (nPr nX (25 + q) (2 + q) a h i) m 1 = some (m + 2 + iL q)) ∧ IS q (nPr nX (25 + q) (2 + q) a h i) (m + 1) ∧ IS q (nPr nX (25 + q) (2 + q) a h i) (m + 2 + iL q) := by
  subst em
  unfold nPr
  have nA : xN (xnw h (25 + q) 2) = xN h + 1 := rfl
  have sA : ∀ c, c < xN h → Sm h (xnw h (25 + q) 2) c := fun c hc => nw_sm _ _ _ hc
  have tA : xS (xnw h (25 + q) 2) (xN h) = (25 + q, 2) := xnw_at h _ _
  generalize xnw h (25 + q) 2 = A at nA sA tA ⊢
  have nB0 : xN (xnw A (2 + q) 0) = xN A + 1 := rfl
  have sB0 : ∀ c, c < xN A → Sm A (xnw A (2 + q) 0) c := fun c hc => nw_sm _ _ _ hc
  have tB0 : xS (xnw A (2 + q) 0) (xN A) = (2 + q, 0) := xnw_at A _ _
  generalize xnw A (2 + q) 0 = B0 at nB0 sB0 tB0 ⊢
  obtain ⟨nB, sB, iB⟩ := hX (xN A) B0 (by omega)
  have iB := iB nB0 tB0
  generalize nX (xN A) B0 = B at nB sB iB ⊢
  have nC : xN (xsR B (xN h) 0 (some (xN A))) = xN B := rfl
  have sC : ∀ c, c ≠ xN h → Sm B (xsR B (xN h) 0 (some (xN A))) c := fun c hc => sR_sm _ _ _ _ hc
  have tC : xS (xsR B (xN h) 0 (some (xN A))) = xS B := rfl
  have rC : xR (xsR B (xN h) 0 (some (xN A))) (xN h) 0 = some (xN A) := by rw [xR_at, if_pos ⟨rfl, rfl⟩]
  generalize xsR B (xN h) 0 (some (xN A)) = C at nC sC tC rC ⊢
  have nD0 : xN (xnw C (2 + q) 0) = xN C + 1 := rfl
  have sD0 : ∀ c, c < xN C → Sm C (xnw C (2 + q) 0) c := fun c hc => nw_sm _ _ _ hc
  have tD0 : xS (xnw C (2 + q) 0) (xN C) = (2 + q, 0) := xnw_at C _ _
  generalize xnw C (2 + q) 0 = D0 at nD0 sD0 tD0 ⊢
  obtain ⟨nD, sD, iD⟩ := hX (xN C) D0 (by omega)
  have iD := iD nD0 tD0
  generalize nX (xN C) D0 = D at nD sD iD ⊢
  have nE : xN (xsR D (xN h) 1 (some (xN C))) = xN D := rfl
  have sE : ∀ c, c ≠ xN h → Sm D (xsR D (xN h) 1 (some (xN C))) c := fun c hc => sR_sm _ _ _ _ hc
  have tE : xS (xsR D (xN h) 1 (some (xN C))) = xS D := rfl
  have rE : ∀ k, xR (xsR D (xN h) 1 (some (xN C))) (xN h) k = if k = 1 then some (xN C) else xR D (xN h) k := fun k => by
    rw [xR_at]
    by_cases e : k = 1
    · rw [if_pos ⟨rfl, e⟩, if_pos e]
    · rw [if_neg (fun z => e z.2), if_neg e]
  generalize xsR D (xN h) 1 (some (xN C)) = E at nE sE tE rE ⊢
  have nF : xN (xsR E a i (some (xN h))) = xN E := rfl
  have sF : ∀ c, c ≠ a → Sm E (xsR E a i (some (xN h))) c := fun c hc => sR_sm _ _ _ _ hc
  have tF : xS (xsR E a i (some (xN h))) = xS E := rfl
  have rF : ∀ k, xR (xsR E a i (some (xN h))) a k = if k = i then some (xN h) else xR E a k := fun k => by
    rw [xR_at]
    by_cases e : k = i
    · rw [if_pos ⟨rfl, e⟩, if_pos e]
    · rw [if_neg (fun z => e z.2), if_neg e]
  generalize xsR E a i (some (xN h)) = F at nF sF tF rF ⊢
  have low : ∀ c, c < xN h → Sm h E c := fun c hc => ((((((sA c hc).tr (sB0 c (by omega))).tr (sB c (by omega) (by omega))).tr (sC c (by omega))).tr (sD0 c (by omega))).tr (sD c (by omega) (by omega))).tr (sE c (by omega))
  refine ⟨by omega, fun c hc ca => (low c hc).tr (sF c ca), ⟨by rw [tF]; exact (low a ha).1, fun k => by rw [rF, (low a ha).2.1]⟩, ?_, ⟨?_, ?_⟩, ?_, ?_⟩
  · rw [tF, tE, (sD _ (by omega) (by omega)).1, (sD0 _ (by omega)).1, tC, (sB _ (by omega) (by omega)).1, (sB0 _ (by omega)).1]
    exact tA
  · rw [(sF _ (by omega)).2.1, rE, if_neg (by decide), (sD _ (by omega) (by omega)).2.1, (sD0 _ (by omega)).2.1, rC, nA]
  · rw [(sF _ (by omega)).2.1, rE, if_pos rfl, nC, nB, nB0, nA]
  · rw [← nA]
    exact IT_IS hq iB (fun c h1 h2 => (((sC c (by omega)).tr (sD0 c (by omega))).tr (sD c (by omega) (by omega))).tr ((sE c (by omega)).tr (sF c (by omega))))
  · rw [show xN h + 2 + iL q = xN C by omega]
    exact IT_IS hq iD (fun c h1 h2 => (sE c (by omega)).tr (sF c (by omega)))
theorem nTold_ok (h : xh) (b : Nat) (e : xN h = b) : xN (nTold b (xnw h 1 0)) = b + 51 ∧ (∀ c, c < b → Sm h (nTold b (xnw h 1 0)) c) ∧ TSh (nTold b (xnw h 1 0)) b := by
  subst e
  unfold nTold
  have n0 : xN (xnw h 1 0) = xN h + 1 := rfl
  have s0 : ∀ c, c < xN h → Sm h (xnw h 1 0) c := fun c hc => nw_sm _ _ _ hc
  have t0 : xS (xnw h 1 0) (xN h) = (1, 0) := xnw_at h _ _
  generalize xnw h 1 0 = h0 at n0 s0 t0 ⊢
  have n1 : xN (nFd (xN h) h0 21 600 0) = xN h0 + 1 := rfl
  have s1 : ∀ c, c < xN h0 → c ≠ xN h → Sm h0 (nFd (xN h) h0 21 600 0) c := fun c hc ca => nFd_sm _ _ _ _ _ hc ca
  have r1 : ∀ k, xR (nFd (xN h) h0 21 600 0) (xN h) k = if k = 0 then some (xN h0) else xR h0 (xN h) k := fun k => nFd_R _ _ _ _ _ _ (by omega)
  have t1 : ∀ c, xS (nFd (xN h) h0 21 600 0) c = if c = xN h0 then (21, 600) else xS h0 c := fun c => nFd_S _ _ _ _ _ _
  generalize nFd (xN h) h0 21 600 0 = h1 at n1 s1 r1 t1 ⊢
  have n2 : xN (xsI h1 (xN h) 3 (-1)) = xN h1 := rfl
  have s2 : ∀ c, c ≠ xN h → Sm h1 (xsI h1 (xN h) 3 (-1)) c := fun c hc => sI_sm _ _ _ _ hc
  have r2 : xR (xsI h1 (xN h) 3 (-1)) = xR h1 := rfl
  have t2 : xS (xsI h1 (xN h) 3 (-1)) = xS h1 := rfl
  generalize xsI h1 (xN h) 3 (-1) = h2 at n2 s2 r2 t2 ⊢
  have n3 : xN (nFd (xN h) h2 20 4 4) = xN h2 + 1 := rfl
  have s3 : ∀ c, c < xN h2 → c ≠ xN h → Sm h2 (nFd (xN h) h2 20 4 4) c := fun c hc ca => nFd_sm _ _ _ _ _ hc ca
  have r3 : ∀ k, xR (nFd (xN h) h2 20 4 4) (xN h) k = if k = 4 then some (xN h2) else xR h2 (xN h) k := fun k => nFd_R _ _ _ _ _ _ (by omega)
  have t3 : ∀ c, xS (nFd (xN h) h2 20 4 4) c = if c = xN h2 then (20, 4) else xS h2 c := fun c => nFd_S _ _ _ _ _ _
  generalize nFd (xN h) h2 20 4 4 = h3 at n3 s3 r3 t3 ⊢
  obtain ⟨a1, a2, ⟨a3, a4⟩, a5, ⟨a6, a7⟩, a8, a9⟩ := nPr_ok (q := 0) (by decide) Mk_T (xN h) h3 5 (xN h + 3) (by omega) (by omega)
  change xN (nPr nTown 25 2 (xN h) h3 5) = xN h + 3 + 17 at a1
  change ∀ c, c < xN h + 3 → c ≠ xN h → Sm h3 (nPr nTown 25 2 (xN h) h3 5) c at a2
  change xS (nPr nTown 25 2 (xN h) h3 5) (xN h) = xS h3 (xN h) at a3
  change ∀ k, xR (nPr nTown 25 2 (xN h) h3 5) (xN h) k = if k = 5 then some (xN h + 3) else xR h3 (xN h) k at a4
  change xS (nPr nTown 25 2 (xN h) h3 5) (xN h + 3) = (25, 2) at a5
  change xR (nPr nTown 25 2 (xN h) h3 5) (xN h + 3) 0 = some (xN h + 3 + 1) at a6
  change xR (nPr nTown 25 2 (xN h) h3 5) (xN h + 3) 1 = some (xN h + 3 + 2 + 7) at a7
  change IS 0 (nPr nTown 25 2 (xN h) h3 5) (xN h + 3 + 1) at a8
  change IS 0 (nPr nTown 25 2 (xN h) h3 5) (xN h + 3 + 2 + 7) at a9
  generalize nPr nTown 25 2 (xN h) h3 5 = h4 at a1 a2 a3 a4 a5 a6 a7 a8 a9 ⊢
  obtain ⟨b1, b2, ⟨b3, b4⟩, b5, ⟨b6, b7⟩, b8, b9⟩ := nPr_ok (q := 1) (by decide) Mk_E (xN h) h4 6 (xN h + 20) (by omega) (by omega)
  change xN (nPr nEvening 26 3 (xN h) h4 6) = xN h + 20 + 7 at b1
  change ∀ c, c < xN h + 20 → c ≠ xN h → Sm h4 (nPr nEvening 26 3 (xN h) h4 6) c at b2
  change xS (nPr nEvening 26 3 (xN h) h4 6) (xN h) = xS h4 (xN h) at b3
  change ∀ k, xR (nPr nEvening 26 3 (xN h) h4 6) (xN h) k = if k = 6 then some (xN h + 20) else xR h4 (xN h) k at b4
  change xS (nPr nEvening 26 3 (xN h) h4 6) (xN h + 20) = (26, 2) at b5
  change xR (nPr nEvening 26 3 (xN h) h4 6) (xN h + 20) 0 = some (xN h + 20 + 1) at b6
  change xR (nPr nEvening 26 3 (xN h) h4 6) (xN h + 20) 1 = some (xN h + 20 + 2 + 2) at b7
  change IS 1 (nPr nEvening 26 3 (xN h) h4 6) (xN h + 20 + 1) at b8
  change IS 1 (nPr nEvening 26 3 (xN h) h4 6) (xN h + 20 + 2 + 2) at b9
  generalize nPr nEvening 26 3 (xN h) h4 6 = h5 at b1 b2 b3 b4 b5 b6 b7 b8 b9 ⊢
  obtain ⟨c1, c2, ⟨c3, c4⟩, c5, ⟨c6, c7⟩, c8, c9⟩ := nPr_ok (q := 2) (by decide) Mk_B (xN h) h5 7 (xN h + 27) (by omega) (by omega)
  change xN (nPr nBook 27 4 (xN h) h5 7) = xN h + 27 + 9 at c1
  change ∀ c, c < xN h + 27 → c ≠ xN h → Sm h5 (nPr nBook 27 4 (xN h) h5 7) c at c2
  change xS (nPr nBook 27 4 (xN h) h5 7) (xN h) = xS h5 (xN h) at c3
  change ∀ k, xR (nPr nBook 27 4 (xN h) h5 7) (xN h) k = if k = 7 then some (xN h + 27) else xR h5 (xN h) k at c4
  change xS (nPr nBook 27 4 (xN h) h5 7) (xN h + 27) = (27, 2) at c5
  change xR (nPr nBook 27 4 (xN h) h5 7) (xN h + 27) 0 = some (xN h + 27 + 1) at c6
  change xR (nPr nBook 27 4 (xN h) h5 7) (xN h + 27) 1 = some (xN h + 27 + 2 + 3) at c7
  change IS 2 (nPr nBook 27 4 (xN h) h5 7) (xN h + 27 + 1) at c8
  change IS 2 (nPr nBook 27 4 (xN h) h5 7) (xN h + 27 + 2 + 3) at c9
  generalize nPr nBook 27 4 (xN h) h5 7 = h6 at c1 c2 c3 c4 c5 c6 c7 c8 c9 ⊢
  obtain ⟨d1, d2, ⟨d3, d4⟩, d5, ⟨d6, d7⟩, d8, d9⟩ := nPr_ok (q := 3) (by decide) Mk_S (xN h) h6 8 (xN h + 36) (by omega) (by omega)
  change xN (nPr nSheet 28 5 (xN h) h6 8) = xN h + 36 + 15 at d1
  change ∀ c, c < xN h + 36 → c ≠ xN h → Sm h6 (nPr nSheet 28 5 (xN h) h6 8) c at d2
  change xS (nPr nSheet 28 5 (xN h) h6 8) (xN h) = xS h6 (xN h) at d3
  change ∀ k, xR (nPr nSheet 28 5 (xN h) h6 8) (xN h) k = if k = 8 then some (xN h + 36) else xR h6 (xN h) k at d4
  change xS (nPr nSheet 28 5 (xN h) h6 8) (xN h + 36) = (28, 2) at d5
  change xR (nPr nSheet 28 5 (xN h) h6 8) (xN h + 36) 0 = some (xN h + 36 + 1) at d6
  change xR (nPr nSheet 28 5 (xN h) h6 8) (xN h + 36) 1 = some (xN h + 36 + 2 + 6) at d7
  change IS 3 (nPr nSheet 28 5 (xN h) h6 8) (xN h + 36 + 1) at d8
  change IS 3 (nPr nSheet 28 5 (xN h) h6 8) (xN h + 36 + 2 + 6) at d9
  generalize nPr nSheet 28 5 (xN h) h6 8 = h7 at d1 d2 d3 d4 d5 d6 d7 d8 d9 ⊢
  have m3 : ∀ c, c < xN h + 3 → c ≠ xN h → Sm h3 h7 c := fun c hc ca => (((a2 c hc ca).tr (b2 c (by omega) ca)).tr (c2 c (by omega) ca)).tr (d2 c (by omega) ca)
  have m4 : ∀ c, c < xN h + 20 → c ≠ xN h → Sm h4 h7 c := fun c hc ca => ((b2 c hc ca).tr (c2 c (by omega) ca)).tr (d2 c (by omega) ca)
  have m5 : ∀ c, c < xN h + 27 → c ≠ xN h → Sm h5 h7 c := fun c hc ca => (c2 c hc ca).tr (d2 c (by omega) ca)
  refine ⟨by omega, fun c hc => ?_, ⟨⟨?_, ?_, ?_⟩, ⟨?_, ?_, fun q hq => ?_⟩, fun q hq => ?_⟩⟩
  · exact (((((s0 c hc).tr (s1 c (by omega) (by omega))).tr (s2 c (by omega))).tr (s3 c (by omega) (by omega))).tr (m3 c (by omega) (by omega)))
  · rw [d3, c3, b3, a3, t3, if_neg (by omega), t2, t1, if_neg (by omega)]; exact t0
  · rw [(m3 (xN h + 1) (by omega) (by omega)).1, t3, if_neg (by omega), t2, t1, if_pos (by omega)]
  · rw [(m3 (xN h + 2) (by omega) (by omega)).1, t3, if_pos (by omega)]
  · rw [d4, if_neg (by decide), c4, if_neg (by decide), b4, if_neg (by decide), a4, if_neg (by decide), r3, if_neg (by decide), r2, r1, if_pos rfl, n0]
  · rw [d4, if_neg (by decide), c4, if_neg (by decide), b4, if_neg (by decide), a4, if_neg (by decide), r3, if_pos rfl, n2, n1, n0]
  · have z : q = 0 ∨ q = 1 ∨ q = 2 ∨ q = 3 := by omega
    rcases z with z | z | z | z <;> subst z
    · rw [d4, if_neg (by decide), c4, if_neg (by decide), b4, if_neg (by decide), a4, if_pos rfl]; rfl
    · rw [d4, if_neg (by decide), c4, if_neg (by decide), b4, if_pos rfl]; rfl
    · rw [d4, if_neg (by decide), c4, if_pos rfl]; rfl
    · rw [d4, if_pos rfl]; rfl
  · have z : q = 0 ∨ q = 1 ∨ q = 2 ∨ q = 3 := by omega
    have kk : ∀ k, k < 2 → k = 0 ∨ k = 1 := fun k hk => by omega
    rcases z with z | z | z | z <;> subst z
    · refine ⟨(m4 (xN h + 3) (by omega) (by omega)).1.trans a5, fun k hk => ?_⟩
      rcases kk k hk with y | y <;> subst y
      · exact ⟨(congrFun (m4 (xN h + 3) (by omega) (by omega)).2.1 0).trans a6, IT_IS (a := xN h + 3 + 1) hq a8 (fun c h1 h2 => m4 c (by have : c ≤ xN h + 3 + 1 + 7 := h2; omega) (by omega))⟩
      · exact ⟨(congrFun (m4 (xN h + 3) (by omega) (by omega)).2.1 1).trans a7, IT_IS (a := xN h + 3 + 2 + 7) hq a9 (fun c h1 h2 => m4 c (by have : c ≤ xN h + 3 + 2 + 7 + 7 := h2; omega) (by omega))⟩
    · refine ⟨(m5 (xN h + 20) (by omega) (by omega)).1.trans b5, fun k hk => ?_⟩
      rcases kk k hk with y | y <;> subst y
      · exact ⟨(congrFun (m5 (xN h + 20) (by omega) (by omega)).2.1 0).trans b6, IT_IS (a := xN h + 20 + 1) hq b8 (fun c h1 h2 => m5 c (by have : c ≤ xN h + 20 + 1 + 2 := h2; omega) (by omega))⟩
      · exact ⟨(congrFun (m5 (xN h + 20) (by omega) (by omega)).2.1 1).trans b7, IT_IS (a := xN h + 20 + 2 + 2) hq b9 (fun c h1 h2 => m5 c (by have : c ≤ xN h + 20 + 2 + 2 + 2 := h2; omega) (by omega))⟩
    · refine ⟨(d2 (xN h + 27) (by omega) (by omega)).1.trans c5, fun k hk => ?_⟩
      rcases kk k hk with y | y <;> subst y
      · exact ⟨(congrFun (d2 (xN h + 27) (by omega) (by omega)).2.1 0).trans c6, IT_IS (a := xN h + 27 + 1) hq c8 (fun c h1 h2 => d2 c (by have : c ≤ xN h + 27 + 1 + 3 := h2; omega) (by omega))⟩
      · exact ⟨(congrFun (d2 (xN h + 27) (by omega) (by omega)).2.1 1).trans c7, IT_IS (a := xN h + 27 + 2 + 3) hq c9 (fun c h1 h2 => d2 c (by have : c ≤ xN h + 27 + 2 + 3 + 3 := h2; omega) (by omega))⟩
    · refine ⟨d5, fun k hk => ?_⟩
      rcases kk k hk with y | y <;> subst y
      · exact ⟨d6, d8⟩
      · exact ⟨d7, d9⟩
