/-! ITEMS of the four kinds -/
def iL (q : Nat) : Nat := if q = 0 then 7 else if q = 1 then 2 else if q = 2 then 3 else 6
def iO (q k : Nat) : Nat := if q = 0 then 4 + 8 * k else if q = 1 then 21 + 3 * k else if q = 2 then 28 + 4 * k else 37 + 7 * k
def iD (q : Nat) : Nat := if q = 0 then 119 else if q = 1 then 127 else if q = 2 then 130 else 134
def iM (q : Nat) : Nat := if q = 0 then 42 else if q = 1 then 26 else if q = 2 then 59 else 33
def IT (q : Nat) (h : xh) (a : Nat) (D : Nat → Int32) : Prop := if q = 0 then Tn h a D else if q = 1 then Ev h a D else if q = 2 then Bk h a D else Sh h a D
def IS (q : Nat) (h : xh) (a : Nat) : Prop := if q = 0 then TnS h a else if q = 1 then EvS h a else if q = 2 then BoS h a else ShS h a
theorem TnOK.cg {D E : Nat → Int32} (H : TnOK D) (e : ∀ i, i < 70 → E i = D i) : TnOK E := by
  obtain ⟨N, h1, h2, h3⟩ := H
  exact ⟨N, fun i hi => (e i (by omega)).trans (h1 i hi), fun s hs => (e _ (by omega)).trans (h2 s hs), h3⟩
theorem Tn.cg {h : xh} {a : Nat} {D E : Nat → Int32} (H : Tn h a D) (e : ∀ i, i < 70 → E i = D i) : Tn h a E := by
  have es : stp E = stp D := by unfold stp; rw [e 6 (by decide)]
  refine ⟨H.1, H.2.1, fun i hi => (H.2.2.1 i hi).trans (e i (by omega)).symm, fun j s hj hs hd => ?_, H.ok.cg e⟩
  rw [es] at hd
  rw [H.2.2.2.1 j s hj hs hd, e _ (by omega)]
theorem Ev.cg {h : xh} {a : Nat} {D E : Nat → Int32} (H : Ev h a D) (e : ∀ i, i < 81 → E i = D i) : Ev h a E := by
  have es : dds E = dds D := by unfold dds; rw [e 0 (by decide)]
  obtain ⟨h1, h2, h3, h4, h5, h6⟩ := H
  refine ⟨h1, h2, h3.trans (e 0 (by decide)).symm, fun k hk => ?_, (e 0 (by decide)).trans (h5.trans (by rw [es])), by rw [es]; exact h6⟩
  rw [es] at hk
  rw [e _ (by omega), e _ (by omega)]
  exact h4 k hk
theorem BkOK.cg {D E : Nat → Int32} (H : BkOK D) (e : ∀ i, i < 51 → E i = D i) : BkOK E := by
  have es : ∀ i, i < 51 → bN E i = bN D i := fun i hi => by unfold bN; rw [e i hi]
  obtain ⟨h1, h2, h3⟩ := H
  refine ⟨fun i hi => by rw [e i hi, es i hi]; exact h1 i hi, by rw [es 0 (by decide)]; exact h2, fun k hk => ?_⟩
  rw [es 0 (by decide)] at hk
  rw [es _ (by omega), es _ (by omega)]
  exact ⟨(h3 k hk).1, (h3 k hk).2.1, fun t ht => by rw [es _ (by omega)]; exact (h3 k hk).2.2 t ht⟩
theorem Bk.cg {h : xh} {a : Nat} {D E : Nat → Int32} (H : Bk h a D) (e : ∀ i, i < 51 → E i = D i) : Bk h a E := by
  have es : bN E 0 = bN D 0 := by unfold bN; rw [e 0 (by decide)]
  obtain ⟨h1, h2, h3, h4, h5⟩ := H
  have d10 := h5.2.1
  refine ⟨h1, h2, h3.trans (e 0 (by decide)).symm, fun k hk => ?_, h5.cg e⟩
  rw [es] at hk
  rw [e _ (by omega), e _ (by omega)]
  exact ⟨(h4 k hk).1, (h4 k hk).2.1, fun t ht => by rw [e _ (by omega)]; exact (h4 k hk).2.2 t ht⟩
theorem ShOK.cg {D E : Nat → Int32} (H : ShOK D) (e : ∀ i, i < 49 → E i = D i) : ShOK E := by
  have es : ∀ i, i < 49 → bN E i = bN D i := fun i hi => by unfold bN; rw [e i hi]
  obtain ⟨h1, h2, h3, h4, h5⟩ := H
  refine ⟨fun i hi => by rw [e i hi, es i hi]; exact h1 i hi, by rw [es 0 (by decide), es 1 (by decide), es 2 (by decide)]; exact h2, fun k hk => ?_, fun k hk => ?_, fun k hk => ?_⟩
  · rw [es 0 (by decide)] at hk
    rw [es _ (by omega)]; exact h3 k hk
  · rw [es 1 (by decide)] at hk
    rw [es _ (by omega), es _ (by omega)]; exact h4 k hk
  · rw [es 2 (by decide)] at hk
    rw [es _ (by omega), es _ (by omega), es _ (by omega)]; exact h5 k hk
theorem Sh.cg {h : xh} {a : Nat} {D E : Nat → Int32} (H : Sh h a D) (e : ∀ i, i < 49 → E i = D i) : Sh h a E := by
  have es : ∀ i, i < 49 → bN E i = bN D i := fun i hi => by unfold bN; rw [e i hi]
  obtain ⟨h1, h2, h3, h4, h5, h6, h7, h8⟩ := H
  have d := h8.2.1
  refine ⟨h1, h2, h3, fun i hi => (h4 i hi).trans (e i (by omega)).symm, fun k hk => ?_, fun k hk => ?_, fun k hk => ?_, h8.cg e⟩
  · rw [es 0 (by decide)] at hk
    rw [e _ (by omega)]; exact h5 k hk
  · rw [es 1 (by decide)] at hk
    rw [e _ (by omega), e _ (by omega)]; exact h6 k hk
  · rw [es 2 (by decide)] at hk
    rw [e _ (by omega), e _ (by omega), e _ (by omega)]; exact h7 k hk
theorem q4 {q : Nat} (hq : q < 4) : q = 0 ∨ q = 1 ∨ q = 2 ∨ q = 3 := by omega
theorem IT.cg {q : Nat} (hq : q < 4) {h : xh} {a : Nat} {D E : Nat → Int32} (H : IT q h a D) (e : ∀ i, i < stW q → E i = D i) : IT q h a E := by
  rcases q4 hq with z | z | z | z <;> subst z
  · exact Tn.cg H e
  · exact Ev.cg H e
  · exact Bk.cg H e
  · exact Sh.cg H e
theorem Ev.sm {h h' : xh} {t : Nat} {E : Nat → Int32} (H : Ev h t E) (hp : ∀ c, t ≤ c → c ≤ t + 2 → Sm h h' c) : Ev h' t E := by
  obtain ⟨s0, r0, i0, _⟩ := hp t (by omega) (by omega)
  obtain ⟨s1, r1, i1, _⟩ := hp (t + 1) (by omega) (by omega)
  obtain ⟨s2, r2, i2, _⟩ := hp (t + 2) (by omega) (by omega)
  unfold Ev
  rw [s0, r0, s1, s2, i0, i1, i2]
  exact H
theorem Bk.sm {h h' : xh} {t : Nat} {B : Nat → Int32} (H : Bk h t B) (hp : ∀ c, t ≤ c → c ≤ t + 3 → Sm h h' c) : Bk h' t B := by
  obtain ⟨s0, r0, i0, _⟩ := hp t (by omega) (by omega)
  obtain ⟨s1, r1, i1, _⟩ := hp (t + 1) (by omega) (by omega)
  obtain ⟨s2, r2, i2, _⟩ := hp (t + 2) (by omega) (by omega)
  obtain ⟨s3, r3, i3, _⟩ := hp (t + 3) (by omega) (by omega)
  unfold Bk
  rw [s0, r0, s1, s2, s3, i0, i1, i2, i3]
  exact H
theorem IT.sm {q : Nat} (hq : q < 4) {h g : xh} {a : Nat} {D : Nat → Int32} (H : IT q h a D) (hp : ∀ c, a ≤ c → c ≤ a + iL q → Sm h g c) : IT q g a D := by
  rcases q4 hq with z | z | z | z <;> subst z
  · exact Tn.sm H hp
  · exact Ev.sm H hp
  · exact Bk.sm H hp
  · exact Sh.sm H hp
theorem IS.sh {q : Nat} {h g : xh} {a : Nat} (H : IS q h a) (e1 : ∀ c, a ≤ c → c ≤ a + 7 → xS g c = xS h c) (e2 : xR g a = xR h a) : IS q g a := by
  unfold IS TnS EvS BoS ShS at H ⊢
  rw [e1 a (by omega) (by omega), e2]
  have k : ∀ j, j < 7 → xS g (a + 1 + j) = xS h (a + 1 + j) := fun j hj => e1 _ (by omega) (by omega)
  by_cases q0 : q = 0
  · rw [if_pos q0] at H ⊢
    exact ⟨H.1, fun j hj => by rw [k j (by omega)]; exact H.2 j hj⟩
  · rw [if_neg q0] at H ⊢
    by_cases q1 : q = 1
    · rw [if_pos q1] at H ⊢
      exact ⟨H.1, fun j hj => by rw [k j (by omega)]; exact H.2 j hj⟩
    · rw [if_neg q1] at H ⊢
      by_cases q2 : q = 2
      · rw [if_pos q2] at H ⊢
        exact ⟨H.1, fun j hj => by rw [k j (by omega)]; exact H.2 j hj⟩
      · rw [if_neg q2] at H ⊢
        exact ⟨H.1, fun j hj => by rw [k j (by omega)]; exact H.2 j hj⟩
theorem c_item_copy {n : Nat} (hn : 1 ≤ n) {q : Nat} (hq : q < 4) {h : xh} {a p : Nat} (Sa : IS q h a) (Sp : IS q h p) (ha : 64 ≤ a) (hp : 64 ≤ p) (dj : a + iL q < p ∨ p + iL q < a) {Q : xh → Prop} (hQ : ∀ g, Fr (Bl a (iL q)) h g → (∀ D, IT q h p D → IT q g a D) → Q g) : xcv (xMC n) (iM q) [.ref a, .ref p] h Q := by
  rcases q4 hq with z | z | z | z <;> subst z
  · refine c_Town_copyFrom hn Sa Sp ha hp dj (fun g G e1 e2 => hQ g G (fun D H => ?_))
    have H : Tn h p D := H
    have Sa : TnS h a := Sa
    refine ⟨by rw [G.1]; exact Sa.1, fun j hj => by rw [G.1, G.2.2.1]; exact Sa.2 j hj, fun i hi => (e1 i hi).trans (H.2.2.1 i hi), fun j s hj hs hd => (e2 j s hj hs).trans (H.2.2.2.1 j s hj hs hd), H.ok⟩
  · refine c_Evening_copyFrom hn Sa Sp ha hp dj (fun g G e1 e2 => hQ g G (fun D H => ?_))
    have H : Ev h p D := H
    have Sa : EvS h a := Sa
    obtain ⟨h1, h2, h3, h4, h5⟩ := H
    have d := h5.2
    refine ⟨by rw [G.1]; exact Sa.1, by rw [G.1, G.2.2.1]; exact ⟨(Sa.2 0 (by decide)).1, (Sa.2 1 (by decide)).1, (Sa.2 0 (by decide)).2, (Sa.2 1 (by decide)).2⟩, (e1 0 (by decide)).trans h3, fun k hk => ⟨(e2 0 k (by decide) (show k < 40 by omega)).trans (h4 k hk).1, (e2 1 k (by decide) (show k < 40 by omega)).trans (h4 k hk).2⟩, h5⟩
  · refine c_Book_copyFrom hn Sa Sp ha hp dj (fun g G e1 e2 => hQ g G (fun D H => ?_))
    have H : Bk h p D := H
    have Sa : BoS h a := Sa
    obtain ⟨h1, h2, h3, h4, h5⟩ := H
    have d := h5.2.1
    refine ⟨by rw [G.1]; exact Sa.1, by rw [G.1, G.2.2.1]; exact ⟨(Sa.2 0 (by decide)).1, (Sa.2 1 (by decide)).1, (Sa.2 2 (by decide)).1, (Sa.2 0 (by decide)).2, (Sa.2 1 (by decide)).2, (Sa.2 2 (by decide)).2⟩, (e1 0 (by decide)).trans h3, fun k hk => ⟨(e2 0 k (by decide) (show k < 10 by omega)).trans (h4 k hk).1, (e2 1 k (by decide) (show k < 10 by omega)).trans (h4 k hk).2.1, fun t ht => (e2 2 (k * 3 + t) (by decide) (show k * 3 + t < 30 by omega)).trans ((h4 k hk).2.2 t ht)⟩, h5⟩
  · refine c_Sheet_copyFrom hn Sa Sp ha hp dj (fun g G e1 e2 => hQ g G (fun D H => ?_))
    have H : Sh h p D := H
    have Sa : ShS h a := Sa
    obtain ⟨h1, h2, h3, h4, h5, h6, h7, h8⟩ := H
    have d := h8.2.1
    refine ⟨by rw [G.1]; exact Sa.1, fun j hj => by rw [G.2.2.1]; exact (Sa.2 j hj).1, ⟨by rw [G.1]; exact (Sa.2 0 (by decide)).2, fun i hi => ?_⟩, fun i hi => (e1 i hi).trans (h4 i hi), fun k hk => (e2 0 k (by decide) (show k < 6 by omega)).trans (h5 k hk), fun k hk => ⟨(e2 1 k (by decide) (show k < 8 by omega)).trans (h6 k hk).1, (e2 2 k (by decide) (show k < 8 by omega)).trans (h6 k hk).2⟩, fun k hk => ⟨(e2 3 k (by decide) (show k < 8 by omega)).trans (h7 k hk).1, (e2 4 k (by decide) (show k < 8 by omega)).trans (h7 k hk).2.1, (e2 5 k (by decide) (show k < 8 by omega)).trans (h7 k hk).2.2⟩, h8⟩
    have z : i = 0 ∨ i = 1 ∨ i = 2 ∨ i = 3 ∨ i = 4 := by omega
    rw [G.1]
    rcases z with z | z | z | z | z <;> subst z
    · exact (Sa.2 1 (by decide)).2
    · exact (Sa.2 2 (by decide)).2
    · exact (Sa.2 3 (by decide)).2
    · exact (Sa.2 4 (by decide)).2
    · exact (Sa.2 5 (by decide)).2
