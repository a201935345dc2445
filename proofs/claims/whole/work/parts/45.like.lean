/-! like -/
theorem nI_z (a : Nat) : nI a + (0 : Int32) = nI a := nI_add a 0
/-- couples of nights that asked for as many -/
def lik (B C : Nat → Int32) (t : Nat) : Nat → Nat
  | 0 => 0
  | i + 1 => lik B C t i + cnt (fun j => decide (B (3 + 5 * i + t) = C (3 + 5 * j + t))) (bN C 0)
theorem c_Book_couplesWith {n : Nat} (hn : 1 ≤ n) {h : xh} {b c : Nat} {B C : Nat → Int32} (H : Bk h b B) (G : Bk h c C) {t : Nat} (ht : t < 3) {Q : Int32 → xh → Prop} (hQ : Q (nI (lik B C t (bN B 0))) h) : xci (xMC n) 70 [.ref b, .ref c, .int (nI t)] h Q := by
  obtain ⟨n, rfl⟩ := xsucc hn
  have n10 := H.n10
  have m10 := G.n10
  have key : ∀ d i, i + d = bN B 0 → ∀ o5 : Option Value, K_Book_couplesWith n Q 5 [some (.ref b), some (.ref c), some (.int (nI t)), some (.int (nI (lik B C t i))), some (.int (nI i)), o5] [] h := by
    intro d
    induction d with
    | zero =>
      intro i hi o5
      have : i = bN B 0 := by omega
      subst this
      refine b_Book_couplesWith_5 ⟨H.s, ?_⟩
      rw [H.n]
      exact ⟨fun _ => hQ, fun z => absurd (Int32.le_refl _) z⟩
    | succ d ih =>
      intro i hi o5
      refine b_Book_couplesWith_5 ⟨H.s, ?_⟩
      rw [H.n]
      refine ⟨fun z => absurd z (nI_ge (by omega) (by omega)), fun _ => ?_⟩
      have inner : ∀ e j, j + e = bN C 0 → K_Book_couplesWith n Q 17 [some (.ref b), some (.ref c), some (.int (nI t)), some (.int (nI (lik B C t i + cnt (fun j => decide (B (3 + 5 * i + t) = C (3 + 5 * j + t))) j))), some (.int (nI i)), some (.int (nI j))] [] h := by
        intro e
        induction e with
        | zero =>
          intro j hj
          have : j = bN C 0 := by omega
          subst this
          refine b_Book_couplesWith_17 ⟨G.s, ?_⟩
          rw [G.n, nI_1]
          exact ⟨fun _ => ih (i + 1) (by omega) _, fun z => absurd (Int32.le_refl _) z⟩
        | succ e ie =>
          intro j hj
          refine b_Book_couplesWith_17 ⟨G.s, ?_⟩
          rw [G.n, show ∀ k, nI k * (3 : Int32) = nI (k * 3) from fun k => pk_mul k 3, show ∀ k, nI k * (3 : Int32) = nI (k * 3) from fun k => pk_mul k 3, nI_add, nI_add]
          refine ⟨fun z => absurd z (nI_ge (by omega) (by omega)), fun _ => ⟨H.s, _, H.r3, H.x3 (by omega), _, G.r3, G.x3 (by omega), ?_⟩⟩
          rw [nI_clamp (by omega), nI_clamp (by omega), (H.2.2.2.1 i (by omega)).2.2 t ht, (G.2.2.2.1 j (by omega)).2.2 t ht, nI_z, nI_1, nI_1]
          have ie' := ie (j + 1) (by omega)
          unfold cnt at ie'
          refine ⟨fun z => ?_, fun z => ?_⟩
          · rw [decide_eq_false z, if_neg (by decide)] at ie'
            exact ie'
          · rw [decide_eq_true z, if_pos rfl] at ie'
            exact ie'
      exact inner (bN C 0) 0 (by omega)
  exact w_Book_couplesWith (key (bN B 0) 0 (by omega) none)
def sLike (B C : Nat → Int32) (t : Int32) : Int32 := if ¬ t < 0 ∧ ¬ 2 < t then nI (lik B C t.toNatClampNeg (bN B 0)) else -1
theorem sLike_t {B C : Nat → Int32} {t : Nat} (ht : t < 3) : sLike B C (nI t) = nI (lik B C t (bN B 0)) := by
  unfold sLike
  rw [if_pos (xbw3.mpr ⟨t, ht, rfl⟩), nI_clamp (by omega)]
theorem sLike_o {B C : Nat → Int32} {t : Int32} (ht : ¬ (¬ t < 0 ∧ ¬ 2 < t)) : sLike B C t = -1 := if_neg ht
theorem c_So_like {n : Nat} (hn : 2 ≤ n) {h : xh} (L : Lay h) {c : Nat} (W : BkC h c) {p q t : Int32} {Q : Int32 → xh → Prop} (h1 : ∀ j, j < c → p = nI j → ∀ i, i < c → q = nI i → Q (sLike (mB h j) (mB h i) t) h) (h0 : (∀ j, j < c → ¬ p = nI j) ∨ (∀ j, j < c → ¬ q = nI j) → Q (-1) h) : xci (xMC n) 187 [.ref 64, .int p, .int q, .int t] h Q := by
  obtain ⟨n, rfl⟩ := xsucc (show 1 ≤ n by omega)
  refine w_So_like ⟨L.s 64, 65, L.r 64 0 65, L.s 65, c_Told_bookAt (by omega) L W.1 W.2.1 (fun j hj e => ⟨fun a2 ea => ?_, fun z => nomatch z⟩) (fun z => ⟨fun a2 ea => (nomatch ea), fun _ => ⟨L.s 64, 65, L.r 64 0 65, L.s 65, c_Told_bookAt (by omega) L W.1 W.2.1 (fun i hi e2 => ⟨fun _ _ => h0 (Or.inl z), fun y => nomatch y⟩) (fun _ => ⟨fun _ _ => h0 (Or.inl z), fun _ => h0 (Or.inl z)⟩)⟩⟩)⟩
  cases ea
  refine ⟨L.s 64, 65, L.r 64 0 65, L.s 65, c_Told_bookAt (by omega) L W.1 W.2.1 (fun i hi e2 => ⟨fun a4 ea4 => ?_, fun y => nomatch y⟩) (fun z => ⟨fun _ ea => (nomatch ea), fun _ => h0 (Or.inr z)⟩)⟩
  cases ea4
  have hQ := h1 j hj e i hi e2
  refine c_So_isThing (by omega) (fun t' ht' et => ⟨fun _ => ⟨(W.2.2 j hj).1, ?_⟩, fun z => absurd z (by decide)⟩) (fun z => ⟨fun y => absurd rfl y, fun _ => ?_⟩)
  · subst et
    rw [sLike_t ht'] at hQ
    exact c_Book_couplesWith (by omega) (W.2.2 j hj) (W.2.2 i hi) ht' hQ
  · rwa [sLike_o (fun y => by obtain ⟨t', ht', et⟩ := xbw3.mp y; exact z t' ht' et)] at hQ
theorem c_Mo_like {n : Nat} (hn : 3 ≤ n) {h : xh} (L : Lay h) {c : Nat} (W : BkM h c) {p q t : Int32} {Q : Int32 → xh → Prop} (h1 : ∀ j, j < c → p = nI j → ∀ i, i < c → q = nI i → ∀ h', Fr PM h h' → Q (sLike (mB h j) (mB h i) t) h') (h0 : (∀ j, j < c → ¬ p = nI j) ∨ (∀ j, j < c → ¬ q = nI j) → ∀ h', Fr PM h h' → Q (-1) h') : xci (xMC n) 345 [.ref 166, .int p, .int q, .int t] h Q := by
  obtain ⟨n, rfl⟩ := xsucc (show 1 ≤ n by omega)
  have hs := L.s 166 (p := (11, 0))
  have P0 : PM 166 := Or.inl rfl
  have c2 := W.2.1
  have F : Fr PM h (xsI h 166 0 0) := Fr.rf.wI P0
  have L' : Lay (xsI h 166 0 0) := L
  have W1 : xI (xsI h 166 0 0) 171 2 = nI c := by rw [xsI_ne _ _ _ (by decide)]; exact W.1
  refine w_Mo_like ⟨⟨by decide, hs⟩, b_Mo_like_5 ⟨hs, c_Mo_is (j := 2) (by omega) L' (by omega) (by omega) W1 (fun j hj e => ⟨fun z => absurd z (by decide), fun _ => ⟨hs, c_Mo_is (j := 2) (by omega) L' (by omega) (by omega) W1 (fun i hi e2 => ⟨fun z => absurd z (by decide), fun _ => ?_⟩) (fun z => ⟨fun _ => h0 (Or.inr z) _ F, fun y => absurd rfl y⟩)⟩⟩) (fun z => ⟨fun _ => h0 (Or.inl z) _ F, fun y => absurd rfl y⟩)⟩⟩
  have hQ := h1 j hj e i hi e2 _ F
  have eB : ∀ k, xI (xsI h 166 0 0) 174 (51 * j + k) = mB h j k := fun k => by rw [xsI_ne _ _ _ (by decide)]; rfl
  have eC : ∀ k, xI (xsI h 166 0 0) 174 (51 * i + k) = mB h i k := fun k => by rw [xsI_ne _ _ _ (by decide)]; rfl
  have oB := W.2.2 j hj
  have oC := W.2.2 i hi
  generalize mB h j = B at hQ eB oB
  generalize mB h i = C at hQ eC oC
  generalize xsI h 166 0 0 = h' at hQ L' eB eC ⊢
  subst e
  subst e2
  have n10 := oB.n.2
  have m10 := oC.n.2
  refine c_Mo_in (by omega) (fun z => ⟨fun _ => ?_, fun y => absurd y (by decide)⟩) (fun z => ⟨fun y => absurd rfl y, fun _ => by rwa [sLike_o z] at hQ⟩)
  obtain ⟨t', ht', et⟩ := xbw3.mp z
  subst et
  rw [sLike_t ht'] at hQ
  have e51 : ∀ k, (51 : Int32) * nI k = nI (51 * k) := fun k => pk_mul 51 k
  have ex : ∀ k m, (51 : Int32) * nI k + 3 + 5 * nI m + nI t' = nI (51 * k + (3 + 5 * m + t')) := fun k m => by
    rw [e51, show nI (51 * k) + (3 : Int32) = nI (51 * k + 3) from nI_add _ 3, show (5 : Int32) * nI m = nI (5 * m) from pk_mul 5 m, nI_add, nI_add]
    congr 1
    omega
  have hs' := L'.s 166 (p := (11, 0))
  have eB0 : xI h' 174 (51 * j) = B 0 := eB 0
  have eC0 : xI h' 174 (51 * i) = C 0 := eC 0
  have key : ∀ d k, k + d = bN B 0 → ∀ o6 : Option Value, K_Mo_like n Q 40 [some (.ref 166), some (.int (nI j)), some (.int (nI i)), some (.int (nI t')), some (.int (nI (lik B C t' k))), some (.int (nI k)), o6] [] h' := by
    intro d
    induction d with
    | zero =>
      intro k hk o5
      have : k = bN B 0 := by omega
      subst this
      refine b_Mo_like_40 ⟨hs', 174, L'.r 166 8 174, ?_⟩
      rw [e51]
      refine ⟨L'.x 174 (n := 408) (by omega), ?_⟩
      rw [nI_clamp (by omega), eB0, oB.n.1]
      exact ⟨fun _ => hQ, fun z => absurd (Int32.le_refl _) z⟩
    | succ d ih =>
      intro k hk o5
      refine b_Mo_like_40 ⟨hs', 174, L'.r 166 8 174, ?_⟩
      rw [e51]
      refine ⟨L'.x 174 (n := 408) (by omega), ?_⟩
      rw [nI_clamp (by omega), eB0, oB.n.1]
      refine ⟨fun z => absurd z (nI_ge (by omega) (by omega)), fun _ => ?_⟩
      have inner : ∀ e m, m + e = bN C 0 → K_Mo_like n Q 57 [some (.ref 166), some (.int (nI j)), some (.int (nI i)), some (.int (nI t')), some (.int (nI (lik B C t' k + cnt (fun j => decide (B (3 + 5 * k + t') = C (3 + 5 * j + t'))) m))), some (.int (nI k)), some (.int (nI m))] [] h' := by
        intro e
        induction e with
        | zero =>
          intro m hm
          have : m = bN C 0 := by omega
          subst this
          refine b_Mo_like_57 ⟨hs', 174, L'.r 166 8 174, ?_⟩
          rw [e51 i]
          refine ⟨L'.x 174 (n := 408) (by omega), ?_⟩
          rw [nI_clamp (show 51 * i < 2 ^ 31 by omega), eC0, oC.n.1, nI_1]
          exact ⟨fun _ => ih (k + 1) (by omega) _, fun z => absurd (Int32.le_refl _) z⟩
        | succ e ie =>
          intro m hm
          refine b_Mo_like_57 ⟨hs', 174, L'.r 166 8 174, ?_⟩
          rw [ex, ex, e51 i]
          refine ⟨L'.x 174 (n := 408) (by omega), ?_⟩
          rw [nI_clamp (show 51 * i < 2 ^ 31 by omega), eC0, oC.n.1]
          refine ⟨fun z => absurd z (nI_ge (by omega) (by omega)), fun _ => ⟨L'.x 174 (n := 408) (by omega), L'.x 174 (n := 408) (by omega), ?_⟩⟩
          rw [nI_clamp (by omega), nI_clamp (by omega), eB, eC, nI_z, nI_1, nI_1]
          have ie' := ie (m + 1) (by omega)
          unfold cnt at ie'
          refine ⟨fun z => ?_, fun z => ?_⟩
          · rw [decide_eq_false z, if_neg (by decide)] at ie'
            exact ie'
          · rw [decide_eq_true z, if_pos rfl] at ie'
            exact ie'
      exact inner (bN C 0) 0 (by omega)
  exact key (bN B 0) 0 (by omega) _
