/-! BOOKS: book, bring, span, like -/
def bN (B : Nat → Int32) (i : Nat) : Nat := (B i).toNatClampNeg
def BkOK (B : Nat → Int32) : Prop := (∀ i, i < 51 → B i = nI (bN B i)) ∧ bN B 0 ≤ 10 ∧ ∀ k, k < bN B 0 → bN B (1 + 5 * k) ≤ 99 ∧ bN B (2 + 5 * k) ≤ bN B (1 + 5 * k) ∧ ∀ t, t < 3 → bN B (3 + 5 * k + t) ≤ 99
def Bk (h : xh) (b : Nat) (B : Nat → Int32) : Prop := xS h b = (4, 0) ∧ (xR h b 1 = some (b + 1) ∧ xR h b 2 = some (b + 2) ∧ xR h b 3 = some (b + 3) ∧ xS h (b + 1) = (20, 10) ∧ xS h (b + 2) = (20, 10) ∧ xS h (b + 3) = (20, 30)) ∧ xI h b 0 = B 0 ∧ (∀ k, k < bN B 0 → xI h (b + 1) k = B (1 + 5 * k) ∧ xI h (b + 2) k = B (2 + 5 * k) ∧ ∀ t, t < 3 → xI h (b + 3) (k * 3 + t) = B (3 + 5 * k + t)) ∧ BkOK B
theorem Bk.fr {P : Nat → Prop} {h h' : xh} {t : Nat} {B : Nat → Int32} (H : Bk h t B) (f : Fr P h h') (hp : ∀ c, t ≤ c → c ≤ t + 3 → ¬ P c) : Bk h' t B := by
  obtain ⟨h1, ⟨h2, h3, h4, h5, h6, h7⟩, h8, h9, h10⟩ := H
  refine ⟨by rw [f.1]; exact h1, ⟨by rw [f.2.2.1]; exact h2, by rw [f.2.2.1]; exact h3, by rw [f.2.2.1]; exact h4, by rw [f.1]; exact h5, by rw [f.1]; exact h6, by rw [f.1]; exact h7⟩, ?_, fun k hk => ?_, h10⟩
  · rw [f.i t (hp t (by omega) (by omega))]; exact h8
  · rw [f.i (t + 1) (hp _ (by omega) (by omega)), f.i (t + 2) (hp _ (by omega) (by omega)), f.i (t + 3) (hp _ (by omega) (by omega))]; exact h9 k hk
theorem BkOK.n {B : Nat → Int32} (ok : BkOK B) : B 0 = nI (bN B 0) ∧ bN B 0 ≤ 10 := ⟨ok.1 0 (by omega), ok.2.1⟩
theorem Bk.s {h : xh} {b : Nat} {B : Nat → Int32} (H : Bk h b B) : xS h b = (4, 0) := H.1
theorem Bk.ok {h : xh} {b : Nat} {B : Nat → Int32} (H : Bk h b B) : BkOK B := H.2.2.2.2
theorem Bk.n {h : xh} {b : Nat} {B : Nat → Int32} (H : Bk h b B) : xI h b 0 = nI (bN B 0) := H.2.2.1.trans H.ok.n.1
theorem Bk.n10 {h : xh} {b : Nat} {B : Nat → Int32} (H : Bk h b B) : bN B 0 ≤ 10 := H.ok.n.2
theorem Bk.r1 {h : xh} {b : Nat} {B : Nat → Int32} (H : Bk h b B) : xR h b 1 = some (b + 1) := H.2.1.1
theorem Bk.r2 {h : xh} {b : Nat} {B : Nat → Int32} (H : Bk h b B) : xR h b 2 = some (b + 2) := H.2.1.2.1
theorem Bk.r3 {h : xh} {b : Nat} {B : Nat → Int32} (H : Bk h b B) : xR h b 3 = some (b + 3) := H.2.1.2.2.1
theorem Bk.x1 {h : xh} {b : Nat} {B : Nat → Int32} (H : Bk h b B) {k : Nat} (hk : k < 10) : xar h (b + 1) 20 (nI k) := xarN H.2.1.2.2.2.1 hk
theorem Bk.x2 {h : xh} {b : Nat} {B : Nat → Int32} (H : Bk h b B) {k : Nat} (hk : k < 10) : xar h (b + 2) 20 (nI k) := xarN H.2.1.2.2.2.2.1 hk
theorem Bk.x3 {h : xh} {b : Nat} {B : Nat → Int32} (H : Bk h b B) {k : Nat} (hk : k < 30) : xar h (b + 3) 20 (nI k) := xarN H.2.1.2.2.2.2.2 hk
theorem Bk.v1 {h : xh} {b : Nat} {B : Nat → Int32} (H : Bk h b B) {k : Nat} (hk : k < bN B 0) : xI h (b + 1) k = nI (bN B (1 + 5 * k)) := by
  have := H.n10
  exact (H.2.2.2.1 k hk).1.trans (H.ok.1 _ (by omega))
theorem Bk.v2 {h : xh} {b : Nat} {B : Nat → Int32} (H : Bk h b B) {k : Nat} (hk : k < bN B 0) : xI h (b + 2) k = nI (bN B (2 + 5 * k)) := by
  have := H.n10
  exact (H.2.2.2.1 k hk).2.1.trans (H.ok.1 _ (by omega))
theorem Bk.v3 {h : xh} {b : Nat} {B : Nat → Int32} (H : Bk h b B) {k t : Nat} (hk : k < bN B 0) (ht : t < 3) : xI h (b + 3) (k * 3 + t) = nI (bN B (3 + 5 * k + t)) := by
  have := H.n10
  exact ((H.2.2.2.1 k hk).2.2 t ht).trans (H.ok.1 _ (by omega))
def mB (h : xh) (k : Nat) : Nat → Int32 := fun i => xI h 174 (51 * k + i)
def BkC (h : xh) (c : Nat) : Prop := xI h 67 2 = nI c ∧ c ≤ 2 ∧ ∀ k, k < c → Bk h (93 + 4 * k) (mB h k)
def BkM (h : xh) (c : Nat) : Prop := xI h 171 2 = nI c ∧ c ≤ 2 ∧ ∀ k, k < c → BkOK (mB h k)
/-- a book in the reference's hand -/
def Mb (h : xh) (B : Nat → Int32) : Prop := Lay h ∧ (∃ k, k < 2 ∧ xI h 166 48 = nI k ∧ ∀ i, xI h 174 (51 * k + i) = B i) ∧ BkOK B
theorem c_Mo_hasBook {n : Nat} (hn : 3 ≤ n) {h : xh} (L : Lay h) {c : Nat} (W : BkM h c) {p : Int32} {Q : Int32 → xh → Prop} (h1 : ∀ k, k < c → p = nI k → Mb (xsI h 166 48 p) (mB h k) → Q 1 (xsI h 166 48 p)) (h0 : (∀ k, k < c → ¬ p = nI k) → Q 0 (xsI h 166 48 p)) : xci (xMC n) 298 [.ref 166, .int p] h Q := by
  obtain ⟨n, rfl⟩ := xsucc (show 1 ≤ n by omega)
  have hs := L.s 166 (p := (11, 0))
  have c2 := W.2.1
  refine w_Mo_hasBook ⟨⟨by decide, hs⟩, b_Mo_hasBook_5 ⟨hs, c_Mo_is (n := n) (j := 2) (c := c) (by omega) (h := xsI h 166 48 p) L (by omega) (by omega) ?_ (fun k hk e => ⟨Or.inr rfl, ?_⟩) (fun z => ⟨Or.inl rfl, h0 z⟩)⟩⟩
  · rw [xsI_ne _ _ _ (by decide)]; exact W.1
  · refine h1 k hk e ⟨L, ⟨k, by omega, ?_, fun i => ?_⟩, W.2.2 k hk⟩
    · rw [upI_s]; exact e
    · rw [xsI_ne _ _ _ (by decide)]; rfl
theorem c_Mo_nights {n : Nat} (hn : 1 ≤ n) {h : xh} {B : Nat → Int32} (M : Mb h B) {Q : Int32 → xh → Prop} (hQ : Q (nI (bN B 0)) h) : xci (xMC n) 299 [.ref 166] h Q := by
  obtain ⟨n, rfl⟩ := xsucc hn
  obtain ⟨L, ⟨k, hk, e, d⟩, ok⟩ := M
  refine w_Mo_nights ⟨L.s 166, 174, L.r 166 8 174, ?_⟩
  rw [e, show (51 : Int32) * nI k = nI (51 * k) from pk_mul 51 k]
  refine ⟨L.x 174 (n := 408) (by omega), ?_⟩
  rw [nI_clamp (by omega), show 51 * k = 51 * k + 0 from rfl, d 0, ok.n.1]
  exact hQ
theorem c_Mo_nightOf {n : Nat} (hn : 1 ≤ n) {h : xh} {B : Nat → Int32} (M : Mb h B) {k w : Nat} (hk : k < 10) (hw : w < 5) {x y : Int32} (hy : y = nI k) (hx : x = nI w) {Q : Int32 → xh → Prop} (hQ : Q (nI (bN B (1 + 5 * k + w))) h) : xci (xMC n) 300 [.ref 166, .int y, .int x] h Q := by
  obtain ⟨n, rfl⟩ := xsucc hn
  obtain ⟨L, ⟨j, hj, e, d⟩, ok⟩ := M
  subst hx
  subst hy
  have ex : (51 : Int32) * nI j + 1 + 5 * nI k + nI w = nI (51 * j + (1 + 5 * k + w)) := by
    rw [show (51 : Int32) * nI j = nI (51 * j) from pk_mul 51 j, show (5 : Int32) * nI k = nI (5 * k) from pk_mul 5 k, nI_1, nI_add, nI_add]
    congr 1
    omega
  refine w_Mo_nightOf ⟨L.s 166, 174, L.r 166 8 174, ?_⟩
  rw [e, ex]
  refine ⟨L.x 174 (n := 408) (by omega), ?_⟩
  rw [nI_clamp (by omega), d, ok.1 _ (by omega)]
  exact hQ
def sBook (B : Nat → Int32) (k w : Int32) : Int32 := if k = -1 then (if w = 0 then nI (bN B 0) else -1) else if (¬ k < 0 ∧ k.toNatClampNeg < bN B 0) ∧ (¬ w < 0 ∧ ¬ 4 < w) then nI (bN B (1 + 5 * k.toNatClampNeg + w.toNatClampNeg)) else -1
theorem sBook_m {B : Nat → Int32} {w : Int32} : sBook B (-1) w = if w = 0 then nI (bN B 0) else -1 := if_pos rfl
theorem sBook_n {B : Nat → Int32} {k : Nat} {w : Int32} (hk : k < 2 ^ 31) : sBook B (nI k) w = if k < bN B 0 ∧ (¬ w < 0 ∧ ¬ 4 < w) then nI (bN B (1 + 5 * k + w.toNatClampNeg)) else -1 := by
  unfold sBook
  rw [if_neg (nI_m1 hk), nI_clamp hk]
  by_cases c : k < bN B 0 ∧ (¬ w < 0 ∧ ¬ 4 < w)
  · rw [if_pos c, if_pos ⟨⟨nI_pos hk, c.1⟩, c.2⟩]
  · rw [if_neg c, if_neg (fun z => c ⟨z.1.2, z.2⟩)]
theorem sBook_o {B : Nat → Int32} {k w : Int32} (h1 : ¬ k = -1) (h2 : k < 0) : sBook B k w = -1 := by
  unfold sBook
  rw [if_neg h1, if_neg (fun z => z.1.1 h2)]
theorem c_Book_detail {n : Nat} (hn : 1 ≤ n) {h : xh} {e : Nat} {B : Nat → Int32} (H : Bk h e B) {k w : Int32} {Q : Int32 → xh → Prop} (hQ : Q (sBook B k w) h) : xci (xMC n) 60 [.ref e, .int k, .int w] h Q := by
  obtain ⟨n, rfl⟩ := xsucc hn
  have n10 := H.n10
  refine w_Book_detail ⟨fun z => ⟨fun y => ?_, fun y => ⟨H.s, ?_⟩⟩, fun z => ⟨fun y => ?_, fun y => ⟨H.s, ?_⟩⟩⟩
  · rwa [sBook_o z y] at hQ
  · obtain ⟨j, hj, ej⟩ := nI_of y
    subst ej
    rw [H.n, nI_leI (by omega) hj]
    rw [sBook_n hj] at hQ
    refine ⟨fun q => ?_, fun q => ⟨fun r => ?_, fun r => ⟨fun s => ?_, fun s => ?_⟩⟩⟩
    · rwa [if_neg (by omega)] at hQ
    · rwa [if_neg (fun z => z.2.1 r)] at hQ
    · rw [if_pos ⟨by omega, r, Int32.not_lt.mpr s⟩] at hQ
      obtain ⟨i, hi, ei⟩ := nI_of2 (M := 4) (n := 4) rfl r s
      subst ei
      rw [nI_clamp (by omega)] at hQ
      refine ⟨fun t => ?_, fun t => ⟨fun u => ⟨_, H.r2, H.x2 (by omega), ?_⟩, fun u => ⟨_, H.r1, H.x1 (by omega), ?_⟩⟩⟩
      · have hi2 : 2 ≤ i := (nI_leI (a := 2) (b := i) (by decide) (by omega)).mp t
        have ex : nI j * (3 : Int32) + nI i - (2 : Int32) = nI (j * 3 + (i - 2)) := by
          rw [show nI j * (3 : Int32) = nI (j * 3) from pk_mul j 3, nI_add, show nI (j * 3 + i) - (2 : Int32) = nI (j * 3 + i - 2) from pk_sub (a := j * 3 + i) (b := 2) (by omega)]
          congr 1
          omega
        rw [ex]
        refine ⟨_, H.r3, H.x3 (by omega), ?_⟩
        rw [nI_clamp (by omega), H.v3 (by omega) (by omega), show 3 + 5 * j + (i - 2) = 1 + 5 * j + i by omega]
        exact hQ
      · have hi2 : ¬ 2 ≤ i := fun v => t (nI_le (a := 2) (b := i) v (by omega))
        have hi0 : ¬ i = 0 := fun v => u (by rw [v]; rfl)
        have : i = 1 := by omega
        subst this
        rw [nI_clamp hj, H.v2 (by omega), show 2 + 5 * j = 1 + 5 * j + 1 by omega]
        exact hQ
      · have hi0 : i = 0 := (nI_eq (b := 0) (by omega) (by decide)).mp u
        subst hi0
        rw [nI_clamp hj, H.v1 (by omega)]
        exact hQ
    · rwa [if_neg (fun z => z.2.2 (Int32.not_le.mp s))] at hQ
  · subst z
    rwa [sBook_m, if_neg y] at hQ
  · subst z
    rw [sBook_m, if_pos y] at hQ
    rwa [H.n]
theorem c_So_book {n : Nat} (hn : 2 ≤ n) {h : xh} (L : Lay h) {c : Nat} (W : BkC h c) {p k w : Int32} {Q : Int32 → xh → Prop} (h1 : ∀ j, j < c → p = nI j → Q (sBook (mB h j) k w) h) (h0 : (∀ j, j < c → ¬ p = nI j) → Q (-1) h) : xci (xMC n) 182 [.ref 64, .int p, .int k, .int w] h Q := by
  obtain ⟨n, rfl⟩ := xsucc (show 1 ≤ n by omega)
  refine w_So_book ⟨L.s 64, 65, L.r 64 0 65, L.s 65, c_Told_bookAt (by omega) L W.1 W.2.1 (fun j hj e => ⟨fun a2 ea => ?_, fun z => nomatch z⟩) (fun z => ⟨fun a2 ea => (nomatch ea), fun _ => h0 z⟩)⟩
  cases ea
  exact ⟨(W.2.2 j hj).1, c_Book_detail (by omega) (W.2.2 j hj) (h1 j hj e)⟩
theorem c_Mo_book {n : Nat} (hn : 4 ≤ n) {h : xh} (L : Lay h) {c : Nat} (W : BkM h c) {p k w : Int32} {Q : Int32 → xh → Prop} (h1 : ∀ j, j < c → p = nI j → ∀ h', Fr PM h h' → Q (sBook (mB h j) k w) h') (h0 : (∀ j, j < c → ¬ p = nI j) → ∀ h', Fr PM h h' → Q (-1) h') : xci (xMC n) 297 [.ref 166, .int p, .int k, .int w] h Q := by
  obtain ⟨n, rfl⟩ := xsucc (show 1 ≤ n by omega)
  have hs := L.s 166 (p := (11, 0))
  have P0 : PM 166 := Or.inl rfl
  refine w_Mo_book ⟨⟨by decide, hs⟩, b_Mo_book_5 ⟨hs, c_Mo_hasBook (by omega) (h := xsI h 166 0 0) L (c := c) W (fun j hj e M => ⟨fun _ => ?_, fun z => absurd z (by decide)⟩) (fun z => ⟨fun y => absurd rfl y, fun _ => h0 z _ ((Fr.rf.wI P0).wI P0)⟩)⟩⟩
  have hQ := h1 j hj e _ ((Fr.rf.wI (h := h) (i := 0) (v := 0) P0).wI (i := 48) (v := p) P0)
  generalize xsI (xsI h 166 0 0) 166 48 p = h' at hQ M ⊢
  have M' : Mb h' (mB h j) := M
  generalize mB h j = B at hQ M'
  have hs' := M'.1.s 166 (p := (11, 0))
  have ok := M'.2.2
  have o2 := ok.n.2
  refine ⟨fun z => ⟨hs', c_Mo_nights (by omega) M' (c_Mo_inN (by omega) (by omega) (fun k' hk' ek => ⟨fun y => absurd y (by decide), fun _ => ?_⟩) (fun y => ⟨fun _ => ?_, fun q => absurd rfl q⟩))⟩, fun z => ⟨fun y => ?_, fun y => ⟨hs', c_Mo_nights (by omega) M' ?_⟩⟩⟩
  · subst ek
    rw [sBook_n (by omega)] at hQ
    refine c_Mo_in (by omega) (fun q => ⟨fun y => absurd y (by decide), fun _ => ⟨hs', ?_⟩⟩) (fun q => ⟨fun _ => ?_, fun r => absurd rfl r⟩)
    · obtain ⟨w', hw', ew⟩ := xbw_of (m := 4) rfl q
      subst ew
      rw [if_pos ⟨hk', q⟩, nI_clamp (by omega)] at hQ
      exact c_Mo_nightOf (by omega) M' (by omega) (show w' < 5 by omega) rfl rfl hQ
    · rwa [if_neg (fun r => q r.2)] at hQ
  · by_cases h0 : k < 0
    · rwa [sBook_o z h0] at hQ
    · obtain ⟨i, hi, ei⟩ := nI_of h0
      subst ei
      rwa [sBook_n hi, if_neg (fun r => y i r.1 rfl)] at hQ
  · subst z
    rwa [sBook_m, if_neg y] at hQ
  · subst z
    rwa [sBook_m, if_pos y] at hQ
