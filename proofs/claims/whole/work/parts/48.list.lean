/-! LISTS: list -/
def ShOK (S : Nat → Int32) : Prop := (∀ i, i < 49 → S i = nI (bN S i)) ∧ (bN S 0 ≤ 6 ∧ bN S 1 ≤ 8 ∧ bN S 2 ≤ 8) ∧ (∀ k, k < bN S 0 → bN S (3 + k) ≤ 20) ∧ (∀ k, k < bN S 1 → bN S (9 + k) ≤ 20 ∧ bN S (17 + k) ≤ 9) ∧ ∀ k, k < bN S 2 → bN S (25 + k) ≤ 9 ∧ bN S (33 + k) ≤ 9 ∧ bN S (41 + k) ≤ 20
def Sh (h : xh) (s : Nat) (S : Nat → Int32) : Prop := xS h s = (5, 0) ∧ (∀ i, i < 6 → xR h s (3 + i) = some (s + 1 + i)) ∧ (xS h (s + 1) = (20, 6) ∧ ∀ i, i < 5 → xS h (s + 2 + i) = (20, 8)) ∧ (∀ i, i < 3 → xI h s i = S i) ∧ (∀ k, k < bN S 0 → xI h (s + 1) k = S (3 + k)) ∧ (∀ k, k < bN S 1 → xI h (s + 2) k = S (9 + k) ∧ xI h (s + 3) k = S (17 + k)) ∧ (∀ k, k < bN S 2 → xI h (s + 4) k = S (25 + k) ∧ xI h (s + 5) k = S (33 + k) ∧ xI h (s + 6) k = S (41 + k)) ∧ ShOK S
theorem Sh.fr {P : Nat → Prop} {h h' : xh} {t : Nat} {S : Nat → Int32} (H : Sh h t S) (f : Fr P h h') (hp : ∀ c, t ≤ c → c ≤ t + 6 → ¬ P c) : Sh h' t S := by
  obtain ⟨h1, h2, ⟨h3, h4⟩, h5, h6, h7, h8, h9⟩ := H
  refine ⟨by rw [f.1]; exact h1, fun i hi => by rw [f.2.2.1]; exact h2 i hi, ⟨by rw [f.1]; exact h3, fun i hi => by rw [f.1]; exact h4 i hi⟩, fun i hi => ?_, fun k hk => ?_, fun k hk => ?_, fun k hk => ?_, h9⟩
  · rw [f.i t (hp t (by omega) (by omega))]; exact h5 i hi
  · rw [f.i (t + 1) (hp _ (by omega) (by omega))]; exact h6 k hk
  · rw [f.i (t + 2) (hp _ (by omega) (by omega)), f.i (t + 3) (hp _ (by omega) (by omega))]; exact h7 k hk
  · rw [f.i (t + 4) (hp _ (by omega) (by omega)), f.i (t + 5) (hp _ (by omega) (by omega)), f.i (t + 6) (hp _ (by omega) (by omega))]; exact h8 k hk
theorem Sh.s {h : xh} {s : Nat} {S : Nat → Int32} (H : Sh h s S) : xS h s = (5, 0) := H.1
theorem Sh.ok {h : xh} {s : Nat} {S : Nat → Int32} (H : Sh h s S) : ShOK S := H.2.2.2.2.2.2.2
theorem Sh.r {h : xh} {s : Nat} {S : Nat → Int32} (H : Sh h s S) (i : Nat) (hi : i < 6 := by decide) : xR h s (3 + i) = some (s + 1 + i) := H.2.1 i hi
theorem Sh.x1 {h : xh} {s : Nat} {S : Nat → Int32} (H : Sh h s S) {k : Nat} (hk : k < 6) : xar h (s + 1) 20 (nI k) := xarN H.2.2.1.1 hk
theorem Sh.x {h : xh} {s : Nat} {S : Nat → Int32} (H : Sh h s S) (i : Nat) {k : Nat} (hk : k < 8) (hi : i < 5 := by decide) : xar h (s + 2 + i) 20 (nI k) := xarN (H.2.2.1.2 i hi) hk
theorem Sh.n {h : xh} {s : Nat} {S : Nat → Int32} (H : Sh h s S) (i : Nat) (hi : i < 3 := by decide) : xI h s i = nI (bN S i) := (H.2.2.2.1 i hi).trans (H.ok.1 i (by omega))
theorem ShOK.n {S : Nat → Int32} (ok : ShOK S) : bN S 0 ≤ 6 ∧ bN S 1 ≤ 8 ∧ bN S 2 ≤ 8 := ok.2.1
theorem Sh.v1 {h : xh} {s : Nat} {S : Nat → Int32} (H : Sh h s S) {k : Nat} (hk : k < bN S 0) : xI h (s + 1) k = S (3 + k) := H.2.2.2.2.1 k hk
theorem Sh.v2 {h : xh} {s : Nat} {S : Nat → Int32} (H : Sh h s S) {k : Nat} (hk : k < bN S 1) : xI h (s + 2) k = S (9 + k) := (H.2.2.2.2.2.1 k hk).1
theorem Sh.v3 {h : xh} {s : Nat} {S : Nat → Int32} (H : Sh h s S) {k : Nat} (hk : k < bN S 1) : xI h (s + 3) k = S (17 + k) := (H.2.2.2.2.2.1 k hk).2
theorem Sh.v4 {h : xh} {s : Nat} {S : Nat → Int32} (H : Sh h s S) {k : Nat} (hk : k < bN S 2) : xI h (s + 4) k = S (25 + k) := (H.2.2.2.2.2.2.1 k hk).1
theorem Sh.v5 {h : xh} {s : Nat} {S : Nat → Int32} (H : Sh h s S) {k : Nat} (hk : k < bN S 2) : xI h (s + 5) k = S (33 + k) := (H.2.2.2.2.2.2.1 k hk).2.1
theorem Sh.v6 {h : xh} {s : Nat} {S : Nat → Int32} (H : Sh h s S) {k : Nat} (hk : k < bN S 2) : xI h (s + 6) k = S (41 + k) := (H.2.2.2.2.2.2.1 k hk).2.2
def mS (h : xh) (k : Nat) : Nat → Int32 := fun i => xI h 175 (49 * k + i)
def ShC (h : xh) (c : Nat) : Prop := xI h 67 3 = nI c ∧ c ≤ 2 ∧ ∀ k, k < c → Sh h (102 + 7 * k) (mS h k)
def ShM (h : xh) (c : Nat) : Prop := xI h 171 3 = nI c ∧ c ≤ 2 ∧ ∀ k, k < c → ShOK (mS h k)
/-- a list in the reference's hand -/
def Ms (h : xh) (S : Nat → Int32) : Prop := Lay h ∧ (∃ k, k < 2 ∧ xI h 166 49 = nI k ∧ ∀ i, xI h 175 (49 * k + i) = S i) ∧ ShOK S
theorem Ms.wf {h : xh} {S : Nat → Int32} (M : Ms h S) {i : Nat} {v : Int32} (hi : i ≠ 49) : Ms (xsI h 166 i v) S := by
  obtain ⟨L, ⟨k, hk, e, d⟩, ok⟩ := M
  refine ⟨L, ⟨k, hk, ?_, fun j => ?_⟩, ok⟩
  · rw [upI_o _ _ _ _ (by omega)]; exact e
  · rw [xsI_ne _ _ _ (by omega)]; exact d j
theorem Ms.wa {h : xh} {S : Nat → Int32} (M : Ms h S) {a i : Nat} {v : Int32} (ha : a ≠ 166 ∧ a ≠ 175) : Ms (xsI h a i v) S := by
  obtain ⟨L, ⟨k, hk, e, d⟩, ok⟩ := M
  refine ⟨L, ⟨k, hk, ?_, fun j => ?_⟩, ok⟩
  · rw [xsI_ne _ _ _ (by omega)]; exact e
  · rw [xsI_ne _ _ _ (by omega)]; exact d j
theorem c_Mo_hasList {n : Nat} (hn : 3 ≤ n) {h : xh} (L : Lay h) {c : Nat} (W : ShM h c) {p : Int32} {Q : Int32 → xh → Prop} (h1 : ∀ k, k < c → p = nI k → Ms (xsI h 166 49 p) (mS h k) → Q 1 (xsI h 166 49 p)) (h0 : (∀ k, k < c → ¬ p = nI k) → Q 0 (xsI h 166 49 p)) : xci (xMC n) 310 [.ref 166, .int p] h Q := by
  obtain ⟨n, rfl⟩ := xsucc (show 1 ≤ n by omega)
  have hs := L.s 166 (p := (11, 0))
  have c2 := W.2.1
  refine w_Mo_hasList ⟨⟨by decide, hs⟩, b_Mo_hasList_5 ⟨hs, c_Mo_is (n := n) (j := 3) (c := c) (by omega) (h := xsI h 166 49 p) L (by omega) (by omega) ?_ (fun k hk e => ⟨Or.inr rfl, ?_⟩) (fun z => ⟨Or.inl rfl, h0 z⟩)⟩⟩
  · rw [xsI_ne _ _ _ (by decide)]; exact W.1
  · refine h1 k hk e ⟨L, ⟨k, by omega, ?_, fun i => ?_⟩, W.2.2 k hk⟩
    · rw [upI_s]; exact e
    · rw [xsI_ne _ _ _ (by decide)]; rfl
theorem c_Mo_listOf {n : Nat} (hn : 1 ≤ n) {h : xh} {S : Nat → Int32} (M : Ms h S) {x : Int32} {i : Nat} (hx : x = nI i) (hi : i < 49) {Q : Int32 → xh → Prop} (hQ : Q (S i) h) : xci (xMC n) 311 [.ref 166, .int x] h Q := by
  obtain ⟨n, rfl⟩ := xsucc hn
  obtain ⟨L, ⟨k, hk, e, d⟩, ok⟩ := M
  subst hx
  refine w_Mo_listOf ⟨L.s 166, 175, L.r 166 9 175, ?_⟩
  rw [e, show (49 : Int32) * nI k = nI (49 * k) from pk_mul 49 k, nI_add]
  refine ⟨L.x 175 (n := 392) (by omega), ?_⟩
  rw [nI_clamp (by omega), d]
  exact hQ
theorem c_Mo_listN {n : Nat} (hn : 1 ≤ n) {h : xh} {S : Nat → Int32} (M : Ms h S) {x : Int32} {i : Nat} (hx : x = nI i) (hi : i < 49) {Q : Int32 → xh → Prop} (hQ : Q (nI (bN S i)) h) : xci (xMC n) 311 [.ref 166, .int x] h Q := c_Mo_listOf hn M hx hi (by rw [M.2.2.1 i hi]; exact hQ)
def sLo (S : Nat → Int32) (a k : Nat) : Int32 := if a = 1 then (if k < bN S 0 then S (3 + k) else -1) else if a = 2 then (if k < bN S 1 then S (9 + k) else -1) else if a = 3 then (if k < bN S 1 then S (17 + k) else -1) else if a = 4 then (if k < bN S 2 then S (25 + k) else -1) else if a = 5 then (if k < bN S 2 then S (33 + k) else -1) else if a = 6 then (if k < bN S 2 then S (41 + k) else -1) else -1
def sList (S : Nat → Int32) (w : Int32) : Int32 := if w < 0 then -1 else if w.toNatClampNeg < 3 then S w.toNatClampNeg else if w.toNatClampNeg < 10 then -1 else sLo S (w.toNatClampNeg / 10) (w.toNatClampNeg % 10)
theorem c_Sheet_detailOf {n : Nat} (hn : 1 ≤ n) {h : xh} {s : Nat} {S : Nat → Int32} (H : Sh h s S) {a k : Nat} (ha : a < 2 ^ 31) (hk : k < 10) {Q : Int32 → xh → Prop} (hQ : Q (sLo S a k) h) : xci (xMC n) 35 [.ref s, .int (nI a), .int (nI k)] h Q := by
  obtain ⟨n, rfl⟩ := xsucc hn
  have o := H.ok.n
  unfold sLo at hQ
  have ne : ∀ {m : Nat} {x : Int32}, x = nI m → ¬ nI a = x → ¬ a = m := fun hx z e => z (by rw [e, hx])
  have eq : ∀ {m : Nat} {x : Int32}, x = nI m → m < 2 ^ 31 → nI a = x → a = m := fun hx hm z => (nI_eq ha hm).mp (z.trans hx)
  have f34 : a = 2 ∨ a = 3 → K_Sheet_detailOf n Q 34 [some (.ref s), some (.int (nI a)), some (.int (nI k))] [] h := by
    intro ha2
    refine b_Sheet_detailOf_34 ⟨H.s, ?_⟩
    rw [H.n 1, nI_ltI (by omega) (by omega)]
    refine ⟨fun y => ⟨fun z => ⟨_, H.r 2, H.x 1 (by omega), ?_⟩, fun z => ⟨_, H.r 1, H.x 0 (by omega), ?_⟩⟩, fun y => ?_⟩
    · have e3 : a = 3 := by rcases ha2 with e | e; exact absurd (by rw [e]; rfl) z; exact e
      subst e3
      rw [if_neg (by decide), if_neg (by decide), if_pos rfl, if_pos y] at hQ
      rw [nI_clamp (by omega), show s + 2 + 1 = s + 3 from rfl, H.v3 y]
      exact hQ
    · have e2 := eq (m := 2) rfl (by decide) z
      subst e2
      rw [if_neg (by decide), if_pos rfl, if_pos y] at hQ
      rw [nI_clamp (by omega), show s + 2 + 0 = s + 2 from rfl, H.v2 y]
      exact hQ
    · rcases ha2 with e | e
      · subst e
        rwa [if_neg (by decide), if_pos rfl, if_neg y] at hQ
      · subst e
        rwa [if_neg (by decide), if_neg (by decide), if_pos rfl, if_neg y] at hQ
  refine w_Sheet_detailOf ⟨fun z1 => ⟨fun z2 => f34 (Or.inl (eq rfl (by decide) z2)), fun z2 => ⟨fun z3 => ⟨H.s, ?_⟩, fun z3 => f34 (Or.inr (eq rfl (by decide) z3))⟩⟩, fun z1 => ⟨H.s, ?_⟩⟩
  · rw [if_neg (ne (m := 1) rfl z1), if_neg (ne (m := 2) rfl z2), if_neg (ne (m := 3) rfl z3)] at hQ
    rw [H.n 2, nI_ltI (by omega) (by omega)]
    refine ⟨fun y => ⟨fun z4 => ⟨_, H.r 3, H.x 2 (by omega), ?_⟩, fun z4 => ⟨fun z5 => ⟨_, H.r 4, H.x 3 (by omega), ?_⟩, fun z5 => ⟨fun z6 => ⟨_, H.r 5, H.x 4 (by omega), ?_⟩, fun z6 => ?_⟩⟩⟩, fun y => ?_⟩
    · rw [if_pos (eq (m := 4) rfl (by decide) z4), if_pos y] at hQ
      rw [nI_clamp (by omega), show s + 2 + 2 = s + 4 from rfl, H.v4 y]
      exact hQ
    · rw [if_neg (ne (m := 4) rfl z4), if_pos (eq (m := 5) rfl (by decide) z5), if_pos y] at hQ
      rw [nI_clamp (by omega), show s + 2 + 3 = s + 5 from rfl, H.v5 y]
      exact hQ
    · rw [if_neg (ne (m := 4) rfl z4), if_neg (ne (m := 5) rfl z5), if_pos (eq (m := 6) rfl (by decide) z6), if_pos y] at hQ
      rw [nI_clamp (by omega), show s + 2 + 4 = s + 6 from rfl, H.v6 y]
      exact hQ
    · rwa [if_neg (ne (m := 4) rfl z4), if_neg (ne (m := 5) rfl z5), if_neg (ne (m := 6) rfl z6)] at hQ
    · rw [if_neg y, if_neg y, if_neg y] at hQ
      by_cases e4 : a = 4
      · rwa [if_pos e4] at hQ
      · rw [if_neg e4] at hQ
        by_cases e5 : a = 5
        · rwa [if_pos e5] at hQ
        · rw [if_neg e5] at hQ
          by_cases e6 : a = 6
          · rwa [if_pos e6] at hQ
          · rwa [if_neg e6] at hQ
  · rw [if_pos (eq (m := 1) rfl (by decide) z1)] at hQ
    rw [H.n 0, nI_leI (by omega) (by omega)]
    refine ⟨fun y => ?_, fun y => ⟨_, H.r 0, H.x1 (by omega), ?_⟩⟩
    · rwa [if_neg (by omega)] at hQ
    · rw [if_pos (by omega)] at hQ
      rw [nI_clamp (by omega), H.v1 (by omega)]
      exact hQ
theorem sList_n {S : Nat → Int32} {m : Nat} (hm : m < 2 ^ 31) : sList S (nI m) = if m < 3 then S m else if m < 10 then -1 else sLo S (m / 10) (m % 10) := by
  unfold sList
  rw [if_neg (nI_pos hm), nI_clamp hm]
theorem sList_o {S : Nat → Int32} {w : Int32} (h : w < 0) : sList S w = -1 := if_pos h
theorem c_Sheet_detail {n : Nat} (hn : 2 ≤ n) {h : xh} {s : Nat} {S : Nat → Int32} (H : Sh h s S) {w : Int32} {Q : Int32 → xh → Prop} (hQ : Q (sList S w) h) : xci (xMC n) 34 [.ref s, .int w] h Q := by
  obtain ⟨n, rfl⟩ := xsucc (show 1 ≤ n by omega)
  refine w_Sheet_detail ⟨fun z => ⟨H.s, ?_⟩, fun z0 => ⟨fun z => ⟨H.s, ?_⟩, fun z1 => ⟨fun z => ⟨H.s, ?_⟩, fun z2 => ⟨fun z => ⟨H.s, ?_⟩, fun z => ?_⟩⟩⟩⟩
  · subst z
    rw [show (0 : Int32) = nI 0 from rfl, sList_n (by decide), if_pos (by decide)] at hQ
    rw [H.2.2.2.1 0 (by decide)]
    exact hQ
  · subst z
    rw [show (1 : Int32) = nI 1 from rfl, sList_n (by decide), if_pos (by decide)] at hQ
    rw [H.2.2.2.1 1 (by decide)]
    exact hQ
  · subst z
    rw [show (2 : Int32) = nI 2 from rfl, sList_n (by decide), if_pos (by decide)] at hQ
    rw [H.2.2.2.1 2 (by decide)]
    exact hQ
  · have w0 : ¬ w < 0 := fun y => by
      have := Int32.lt_of_lt_of_le y (Int32.le_trans (show (0 : Int32) ≤ 10 by decide) z)
      exact Int32.lt_irrefl this
    obtain ⟨m, hm, e⟩ := nI_of w0
    subst e
    have m10 : 10 ≤ m := (nI_leI (a := 10) (by decide) hm).mp z
    rw [sList_n hm, if_neg (by omega), if_neg (by omega)] at hQ
    rw [show nI m - nI m / (10 : Int32) * 10 = nI (m % 10) from pk_rem (d := 10) hm (by decide) (by decide), show nI m / (10 : Int32) = nI (m / 10) from pk_div (d := 10) hm (by decide) (by decide)]
    exact c_Sheet_detailOf (by omega) H (by omega) (by omega) hQ
  · by_cases w0 : w < 0
    · rwa [sList_o w0] at hQ
    · obtain ⟨m, hm, e⟩ := nI_of w0
      subst e
      have m10 : ¬ 10 ≤ m := fun y => z (nI_le (a := 10) y hm)
      have a0 : m ≠ 0 := fun e => z0 (by rw [e]; rfl)
      have a1 : m ≠ 1 := fun e => z1 (by rw [e]; rfl)
      have a2 : m ≠ 2 := fun e => z2 (by rw [e]; rfl)
      rwa [sList_n hm, if_neg (by omega), if_pos (by omega)] at hQ
theorem c_So_list {n : Nat} (hn : 3 ≤ n) {h : xh} (L : Lay h) {c : Nat} (W : ShC h c) {p w : Int32} {Q : Int32 → xh → Prop} (h1 : ∀ j, j < c → p = nI j → Q (sList (mS h j) w) h) (h0 : (∀ j, j < c → ¬ p = nI j) → Q (-1) h) : xci (xMC n) 188 [.ref 64, .int p, .int w] h Q := by
  obtain ⟨n, rfl⟩ := xsucc (show 1 ≤ n by omega)
  refine w_So_list ⟨L.s 64, 65, L.r 64 0 65, L.s 65, c_Told_sheetAt (by omega) L W.1 W.2.1 (fun j hj e => ⟨fun a2 ea => ?_, fun z => nomatch z⟩) (fun z => ⟨fun a2 ea => (nomatch ea), fun _ => h0 z⟩)⟩
  cases ea
  exact ⟨(W.2.2 j hj).1, c_Sheet_detail (by omega) (W.2.2 j hj) (h1 j hj e)⟩
