/-! A TOWN in the reference -/
theorem bwk {p : Int32} {c : Nat} (hc : c < 2 ^ 31) : xbw p 0 (nI c - 1) ↔ ∃ k, k < c ∧ p = nI k := by
  constructor
  · intro z
    obtain ⟨j, hj, e⟩ := nI_of z.1
    subst e
    refine ⟨j, ?_, rfl⟩
    by_cases h0 : c = 0
    · subst h0
      exfalso
      refine z.2 ?_
      have e1 : nI 0 - 1 = (-1 : Int32) := by decide
      rw [e1, Int32.lt_iff_toInt_lt, nI_toInt hj]
      have : (-1 : Int32).toInt = -1 := by decide
      omega
    · have e1 : nI c - (1 : Int32) = nI (c - 1) := pk_sub (a := c) (b := 1) (by omega)
      by_cases hh : j < c
      · exact hh
      · exfalso
        refine z.2 ?_
        rw [e1]
        exact nI_lt (by omega) hj
  · rintro ⟨k, hk, e⟩
    subst e
    refine ⟨nI_pos (by omega), ?_⟩
    have e1 : nI c - (1 : Int32) = nI (c - 1) := pk_sub (a := c) (b := 1) (by omega)
    rw [e1]
    exact nI_nlt (by omega) (by omega)
theorem xnar01 {r : Int32} (h : r = 0 ∨ r = 1) : xnar 1 r := h
theorem c_Mo_inN {n : Nat} (hn : 1 ≤ n) {h : xh} {p : Int32} {c : Nat} (hc : c < 2 ^ 31) {Q : Int32 → xh → Prop} (h1 : ∀ k, k < c → p = nI k → Q 1 h) (h0 : (∀ k, k < c → ¬ p = nI k) → Q 0 h) : xci (xMC n) 211 [.int p, .int 0, .int (nI c - 1)] h Q :=
  c_Mo_in hn (fun z => by obtain ⟨k, hk, e⟩ := (bwk hc).mp z; exact h1 k hk e) (fun z => h0 (fun k hk e => z ((bwk hc).mpr ⟨k, hk, e⟩)))
theorem c_Mo_is {n : Nat} (hn : 2 ≤ n) {h : xh} (L : Lay h) {j c : Nat} (hj : j < 16) (hc : c < 2 ^ 31) (e : xI h 171 j = nI c) {p : Int32} {Q : Int32 → xh → Prop} (h1 : ∀ k, k < c → p = nI k → Q 1 h) (h0 : (∀ k, k < c → ¬ p = nI k) → Q 0 h) : xci (xMC n) 213 [.ref 166, .int (nI j), .int p] h Q := by
  obtain ⟨n, rfl⟩ := xsucc (show 1 ≤ n by omega)
  refine w_Mo_is ⟨L.s 166, 171, L.r 166 5 171, L.x 171 hj, ?_⟩
  rw [nI_clamp (by omega), e]
  exact c_Mo_inN (by omega) hc (fun k hk e => ⟨Or.inr rfl, h1 k hk e⟩) (fun z => ⟨Or.inl rfl, h0 z⟩)
/-- the cells that the reference uses while it works -/
def PM (c : Nat) : Prop := c = 166 ∨ 176 ≤ c ∧ c ≤ 191
/-- a town in hand -/
def Mt (h : xh) (T : Nat → Int32) : Prop := Lay h ∧ (∃ k, k < 2 ∧ xI h 166 23 = nI k ∧ ∀ i, xI h 172 (70 * k + i) = T i) ∧ (xI h 166 24 = T 6 ∧ xI h 166 25 = T 3 ∧ xI h 166 26 = T 4) ∧ TnOK T
theorem Mt.wf {h : xh} {T : Nat → Int32} (M : Mt h T) {i : Nat} {v : Int32} (hi : i < 23 ∨ 26 < i) : Mt (xsI h 166 i v) T := by
  obtain ⟨L, ⟨k, hk, e, d⟩, ⟨e1, e2, e3⟩, ok⟩ := M
  refine ⟨L, ⟨k, hk, ?_, ?_⟩, ⟨?_, ?_, ?_⟩, ok⟩
  · rw [upI_o _ _ _ _ (by omega)]; exact e
  · intro j; rw [xsI_ne _ _ _ (by omega)]; exact d j
  · rw [upI_o _ _ _ _ (by omega)]; exact e1
  · rw [upI_o _ _ _ _ (by omega)]; exact e2
  · rw [upI_o _ _ _ _ (by omega)]; exact e3
theorem Mt.wa {h : xh} {T : Nat → Int32} (M : Mt h T) {a i : Nat} {v : Int32} (ha : a ≠ 166 ∧ a ≠ 172) : Mt (xsI h a i v) T := by
  obtain ⟨L, ⟨k, hk, e, d⟩, ⟨e1, e2, e3⟩, ok⟩ := M
  refine ⟨L, ⟨k, hk, ?_, ?_⟩, ⟨?_, ?_, ?_⟩, ok⟩
  · rw [xsI_ne _ _ _ (by omega)]; exact e
  · intro j; rw [xsI_ne _ _ _ (by omega)]; exact d j
  · rw [xsI_ne _ _ _ (by omega)]; exact e1
  · rw [xsI_ne _ _ _ (by omega)]; exact e2
  · rw [xsI_ne _ _ _ (by omega)]; exact e3
theorem Mt.wl {h : xh} {T : Nat → Int32} (M : Mt h T) {a i : Nat} {v : Int64} : Mt (xsL h a i v) T := M
theorem Mt.L {h : xh} {T : Nat → Int32} (M : Mt h T) : Lay h := M.1
theorem Mt.ok {h : xh} {T : Nat → Int32} (M : Mt h T) : TnOK T := M.2.2.2
theorem Mt.sp {h : xh} {T : Nat → Int32} (M : Mt h T) : xI h 166 24 = nI (stp T) := M.2.2.1.1.trans M.ok.s6.1
theorem c_Mo_of {n : Nat} (hn : 1 ≤ n) {h : xh} {T : Nat → Int32} (M : Mt h T) {x : Int32} {i : Nat} (hx : x = nI i) (hi : i < 70) {Q : Int32 → xh → Prop} (hQ : Q (T i) h) : xci (xMC n) 247 [.ref 166, .int x] h Q := by
  obtain ⟨n, rfl⟩ := xsucc hn
  obtain ⟨L, ⟨k, hk, e, d⟩, _, _⟩ := M
  subst hx
  have e2 : (70 : Int32) * nI k + nI i = nI (70 * k + i) := by
    have := pk_mul 70 k
    rw [show (70 : Int32) * nI k = nI (70 * k) from this, nI_add]
  refine w_Mo_of ⟨L.s 166, 172, L.r 166 6 172, ?_⟩
  rw [e, e2]
  refine ⟨L.x 172 (n := 560) (by omega), ?_⟩
  rw [nI_clamp (by omega), d]
  exact hQ
theorem c_Mo_isStop {n : Nat} (hn : 2 ≤ n) {h : xh} {T : Nat → Int32} (M : Mt h T) {p : Int32} {Q : Int32 → xh → Prop} (h1 : ∀ k, k < stp T → p = nI k → Q 1 h) (h0 : (∀ k, k < stp T → ¬ p = nI k) → Q 0 h) : xci (xMC n) 248 [.ref 166, .int p] h Q := by
  obtain ⟨n, rfl⟩ := xsucc (show 1 ≤ n by omega)
  have s9 := stp9 M.ok
  refine w_Mo_isStop ⟨M.L.s 166, ?_⟩
  rw [M.sp]
  exact c_Mo_inN (by omega) (by omega) (fun k hk e => ⟨Or.inr rfl, h1 k hk e⟩) (fun z => ⟨Or.inl rfl, h0 z⟩)
theorem Mt.iS {n : Nat} (hn : 2 ≤ n) {h : xh} {T : Nat → Int32} (M : Mt h T) {k : Nat} (hk : k < stp T) {Q : Int32 → xh → Prop} (hQ : Q 1 h) : xci (xMC n) 248 [.ref 166, .int (nI k)] h Q := c_Mo_isStop hn M (fun _ _ _ => hQ) (fun z => absurd rfl (z k hk))
theorem c_Mo_middle {n : Nat} (hn : 2 ≤ n) {h : xh} {T : Nat → Int32} (M : Mt h T) {k : Nat} (hk : k < stp T) {Q : Int32 → xh → Prop} (hQ : Q (mid T k) h) : xci (xMC n) 257 [.ref 166, .int (nI k)] h Q := by
  obtain ⟨n, rfl⟩ := xsucc (show 1 ≤ n by omega)
  have s9 := stp9 M.ok
  have hs := M.L.s 166 (p := (11, 0))
  unfold mid at hQ
  refine w_Mo_middle ⟨hs, c_Mo_of (by omega) M (nI_add 7 k) (by omega) ⟨fun c1 => ⟨fun c2 => ⟨hs, c_Mo_of (by omega) M (nI_add 34 k) (by omega) ⟨hs, c_Mo_of (by omega) M (nI_add 43 k) (by omega) ?_⟩⟩, fun c2 => ⟨hs, c_Mo_of (by omega) M (nI_add 34 k) (by omega) ?_⟩⟩, fun c1 => ⟨hs, c_Mo_of (by omega) M (nI_add 43 k) (by omega) ?_⟩⟩⟩
  · rwa [if_neg c1, if_neg c2] at hQ
  · rwa [if_neg c1, if_pos c2] at hQ
  · rwa [if_pos c1] at hQ
theorem c_Mo_weight {n : Nat} (hn : 2 ≤ n) {h : xh} {T : Nat → Int32} (M : Mt h T) {k : Nat} (hk : k < stp T) {Q : Int32 → xh → Prop} (hQ : Q (wgt T k) h) : xci (xMC n) 277 [.ref 166, .int (nI k)] h Q := by
  obtain ⟨n, rfl⟩ := xsucc (show 1 ≤ n by omega)
  have s9 := stp9 M.ok
  unfold wgt at hQ
  refine w_Mo_weight ⟨M.L.s 166, c_Mo_of (by omega) M (nI_add 7 k) (by omega) ⟨fun c => ?_, fun c => ?_⟩⟩
  · rwa [if_neg c] at hQ
  · rwa [if_pos c] at hQ
theorem c_Mo_placeX {n : Nat} (hn : 2 ≤ n) {h : xh} {T : Nat → Int32} (M : Mt h T) {s : Int32} (hs : pl T s) {Q : Int32 → xh → Prop} (hQ : Q (colT T s) h) : xci (xMC n) 261 [.ref 166, .int s] h Q := by
  obtain ⟨n, rfl⟩ := xsucc (show 1 ≤ n by omega)
  have s9 := stp9 M.ok
  refine w_Mo_placeX ⟨fun c => ⟨M.L.s 166, ?_⟩, fun c => ⟨M.L.s 166, ?_⟩⟩
  · rcases hs with e | ⟨k, hk, e⟩
    · exact absurd e c
    · subst e
      rw [colT_k T (by omega)] at hQ
      exact c_Mo_of (by omega) M (nI_add 16 k) (by omega) hQ
  · subst c
    exact c_Mo_of (by omega) M (i := 0) rfl (by omega) hQ
theorem c_Mo_placeY {n : Nat} (hn : 2 ≤ n) {h : xh} {T : Nat → Int32} (M : Mt h T) {s : Int32} (hs : pl T s) {Q : Int32 → xh → Prop} (hQ : Q (rowT T s) h) : xci (xMC n) 263 [.ref 166, .int s] h Q := by
  obtain ⟨n, rfl⟩ := xsucc (show 1 ≤ n by omega)
  have s9 := stp9 M.ok
  refine w_Mo_placeY ⟨fun c => ⟨M.L.s 166, ?_⟩, fun c => ⟨M.L.s 166, ?_⟩⟩
  · rcases hs with e | ⟨k, hk, e⟩
    · exact absurd e c
    · subst e
      rw [rowT_k T (by omega)] at hQ
      exact c_Mo_of (by omega) M (nI_add 25 k) (by omega) hQ
  · subst c
    exact c_Mo_of (by omega) M (i := 1) rfl (by omega) hQ
theorem c_Mo_drives {n : Nat} (hn : 3 ≤ n) {h : xh} {T : Nat → Int32} (M : Mt h T) {a b : Int32} (ha : pl T a) (hb : pl T b) {Q : Int32 → xh → Prop} (hQ : Q (drv T a b) h) : xci (xMC n) 260 [.ref 166, .int a, .int b] h Q := by
  obtain ⟨n, rfl⟩ := xsucc (show 1 ≤ n by omega)
  have hs := M.L.s 166 (p := (11, 0))
  refine w_Mo_drives ⟨hs, c_Mo_placeX (by omega) M ha ⟨hs, c_Mo_placeX (by omega) M hb (c_Mo_apart (by omega) ⟨hs, c_Mo_placeY (by omega) M ha ⟨hs, c_Mo_placeY (by omega) M hb (c_Mo_apart (by omega) ?_)⟩⟩)⟩⟩
  rw [M.2.2.1.2.1]
  exact hQ
theorem c_Mo_mayCome {n : Nat} (hn : 2 ≤ n) {h : xh} {T : Nat → Int32} (M : Mt h T) {k : Nat} (hk : k < stp T) {d : Int32} {Q : Int32 → xh → Prop} (h1 : mayC T (nI k) d → Q 1 h) (h0 : ¬ mayC T (nI k) d → Q 0 h) : xci (xMC n) 273 [.ref 166, .int (nI k), .int d] h Q := by
  obtain ⟨n, rfl⟩ := xsucc (show 1 ≤ n by omega)
  have s9 := stp9 M.ok
  have hs := M.L.s 166 (p := (11, 0))
  refine w_Mo_mayCome ⟨hs, c_Mo_of (by omega) M (nI_add 34 k) (by omega) ⟨hs, c_Mo_of (by omega) M (nI_add 43 k) (by omega) (c_Mo_in (by omega) (fun z => ⟨Or.inr rfl, h1 ⟨k, hk, rfl, z.1, z.2⟩⟩) (fun z => ⟨Or.inl rfl, h0 (fun y => ?_)⟩))⟩⟩
  obtain ⟨k', hk', e, c1, c2⟩ := y
  have e' := (nI_eq (by omega) (by omega)).mp e
  subst e'
  exact z ⟨c1, c2⟩
def mT (h : xh) (k : Nat) : Nat → Int32 := fun i => xI h 172 (70 * k + i)
/-- the reference's towns -/
def TwM (h : xh) (c : Nat) : Prop := xI h 171 0 = nI c ∧ c ≤ 2 ∧ ∀ k, k < c → TnOK (mT h k)
theorem c_Mo_hand {n : Nat} (hn : 3 ≤ n) {h : xh} (L : Lay h) {c : Nat} (W : TwM h c) {p : Int32} {Q : Int32 → xh → Prop} (h1 : ∀ k, k < c → p = nI k → ∀ h', Fr PM h h' → Mt h' (mT h k) → Q 1 h') (h0 : (∀ k, k < c → ¬ p = nI k) → ∀ h', Fr PM h h' → Q 0 h') : xci (xMC n) 246 [.ref 166, .int p] h Q := by
  obtain ⟨n, rfl⟩ := xsucc (show 1 ≤ n by omega)
  have hs := L.s 166 (p := (11, 0))
  have c2 := W.2.1
  have P0 : PM 166 := Or.inl rfl
  refine w_Mo_hand ⟨⟨by decide, hs⟩, b_Mo_hand_5 ⟨hs, c_Mo_is (n := n) (j := 0) (c := c) (by omega) (h := xsI h 166 23 p) L (by omega) (by omega) ?_ (fun k hk e => ⟨fun _ => ⟨hs, ?_⟩, fun z => absurd z (by decide)⟩) (fun z => ⟨fun y => absurd rfl y, fun _ => h0 z _ (Fr.rf.wI P0)⟩)⟩⟩
  · rw [xsI_ne _ _ _ (by decide)]; exact W.1
  · subst e
    have ofx : ∀ (h' : xh), Lay h' → xI h' 172 = xI h 172 → xI h' 166 23 = nI k → ∀ (x : Int32) (i : Nat), x = nI i → i < 70 → ∀ (R : Int32 → xh → Prop), R (mT h k i) h' → xci (xMC n) 247 [.ref 166, .int x] h' R := by
      intro h' L' e1 e2 x i hx hi R hR
      obtain ⟨n, rfl⟩ := xsucc (show 1 ≤ n by omega)
      subst hx
      have e3 : (70 : Int32) * nI k + nI i = nI (70 * k + i) := by
        have := pk_mul 70 k
        rw [show (70 : Int32) * nI k = nI (70 * k) from this, nI_add]
      refine w_Mo_of ⟨L'.s 166, 172, L'.r 166 6 172, ?_⟩
      rw [e2, e3]
      refine ⟨L'.x 172 (n := 560) (by omega), ?_⟩
      rw [nI_clamp (by omega), e1]
      exact hR
    refine ofx _ (by exact L) (by rw [xsI_ne _ _ _ (by decide)]) (upI_s _ _ _ _) _ 6 rfl (by omega) _ ⟨⟨by decide, hs⟩, b_Mo_hand_26 ⟨hs, ?_⟩⟩
    refine ofx _ (by exact L) (by rw [xsI_ne _ _ _ (by decide), xsI_ne _ _ _ (by decide)]) (by rw [upI_o _ _ _ _ (by decide), upI_s]) _ 3 rfl (by omega) _ ⟨⟨by decide, hs⟩, b_Mo_hand_35 ⟨hs, ?_⟩⟩
    refine ofx _ (by exact L) (by rw [xsI_ne _ _ _ (by decide), xsI_ne _ _ _ (by decide), xsI_ne _ _ _ (by decide)]) (by rw [upI_o _ _ _ _ (by decide), upI_o _ _ _ _ (by decide), upI_s]) _ 4 rfl (by omega) _ ⟨⟨by decide, hs⟩, b_Mo_hand_44 ?_⟩
    refine h1 k hk rfl _ ((((Fr.rf.wI P0).wI P0).wI P0).wI P0) ⟨L, ⟨k, by omega, ?_, ?_⟩, ⟨?_, ?_, ?_⟩, W.2.2 k hk⟩
    · rw [upI_o _ _ _ _ (by decide), upI_o _ _ _ _ (by decide), upI_o _ _ _ _ (by decide), upI_s]
    · intro i
      rw [xsI_ne _ _ _ (by decide), xsI_ne _ _ _ (by decide), xsI_ne _ _ _ (by decide), xsI_ne _ _ _ (by decide)]; rfl
    · rw [upI_o _ _ _ _ (by decide), upI_o _ _ _ _ (by decide), upI_s]
    · rw [upI_o _ _ _ _ (by decide), upI_s]
    · rw [upI_s]
