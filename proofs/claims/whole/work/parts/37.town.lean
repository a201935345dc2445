/-! A TOWN as 70 numbers, in the class -/
def stp (T : Nat → Int32) : Nat := (T 6).toNatClampNeg
def TnOK (T : Nat → Int32) : Prop := ∃ N : Nat → Nat, (∀ i, i < 61 → T i = nI (N i)) ∧ (∀ s, s < 9 → T (61 + s) = nI (N (61 + s)) - 1) ∧ (N 0 ≤ 9 ∧ N 1 ≤ 9 ∧ N 2 ≤ 99 ∧ 1 ≤ N 3 ∧ N 3 ≤ 9 ∧ N 4 ≤ 99 ∧ 1 ≤ N 5 ∧ N 5 ≤ 30 ∧ N 6 ≤ 9) ∧ (∀ s, s < N 6 → N (7 + s) ≤ 3 ∧ N (16 + s) ≤ 9 ∧ N (25 + s) ≤ 9 ∧ N (34 + s) ≤ N (43 + s) ∧ N (43 + s) ≤ 20) ∧ (∀ s, s < 9 → N (52 + s) ≤ 9 ∧ N (61 + s) ≤ N 6 ∧ (N (61 + s) ≠ 0 → s < N 6))
theorem TnOK.s6 {T : Nat → Int32} (ok : TnOK T) : T 6 = nI (stp T) ∧ stp T ≤ 9 := by
  obtain ⟨N, h1, _, h3, _⟩ := ok
  have e := h1 6 (by omega)
  have b : N 6 ≤ 9 := h3.2.2.2.2.2.2.2.2
  unfold stp
  rw [e, nI_clamp (by omega)]
  exact ⟨rfl, b⟩
def Tn (h : xh) (t : Nat) (T : Nat → Int32) : Prop := xS h t = (2, 0) ∧ (∀ j, j < 7 → xR h t (7 + j) = some (t + 1 + j) ∧ xS h (t + 1 + j) = (20, 9)) ∧ (∀ i, i < 7 → xI h t i = T i) ∧ (∀ j s, j < 7 → s < 9 → (s < stp T ∨ 5 ≤ j) → xI h (t + 1 + j) s = T (7 + 9 * j + s)) ∧ TnOK T
theorem Tn.s {h : xh} {t : Nat} {T : Nat → Int32} (H : Tn h t T) : xS h t = (2, 0) := H.1
theorem Tn.ok {h : xh} {t : Nat} {T : Nat → Int32} (H : Tn h t T) : TnOK T := H.2.2.2.2
theorem Tn.i {h : xh} {t : Nat} {T : Nat → Int32} (H : Tn h t T) (i : Nat) (hi : i < 7 := by decide) : xI h t i = T i := H.2.2.1 i hi
theorem Tn.r {h : xh} {t : Nat} {T : Nat → Int32} (H : Tn h t T) (j : Nat) (hj : j < 7 := by decide) : xR h t (7 + j) = some (t + 1 + j) := (H.2.1 j hj).1
theorem Tn.x {h : xh} {t : Nat} {T : Nat → Int32} (H : Tn h t T) (j : Nat) {s : Nat} (hs : s < 9) (hj : j < 7 := by decide) : xar h (t + 1 + j) 20 (nI s) := xarN (H.2.1 j hj).2 hs
theorem Tn.v {h : xh} {t : Nat} {T : Nat → Int32} (H : Tn h t T) (j : Nat) {s : Nat} (hs : s < stp T) (hj : j < 7 := by decide) : xI h (t + 1 + j) s = T (7 + 9 * j + s) := H.2.2.2.1 j s hj (Nat.lt_of_lt_of_le hs H.ok.s6.2) (Or.inl hs)
theorem Tn.f {h : xh} {t : Nat} {T : Nat → Int32} (H : Tn h t T) (j : Nat) {s : Nat} (hs : s < 9) (hj : j < 7 := by decide) (h5 : 5 ≤ j := by decide) : xI h (t + 1 + j) s = T (7 + 9 * j + s) := H.2.2.2.1 j s hj hs (Or.inr h5)
theorem Tn.fr {P : Nat → Prop} {h h' : xh} {t : Nat} {T : Nat → Int32} (H : Tn h t T) (f : Fr P h h') (hp : ∀ c, t ≤ c → c ≤ t + 7 → ¬ P c) : Tn h' t T := by
  refine ⟨by rw [f.1]; exact H.1, fun j hj => ⟨by rw [f.2.2.1]; exact (H.2.1 j hj).1, by rw [f.1]; exact (H.2.1 j hj).2⟩, fun i hi => ?_, fun j s hj hs hd => ?_, H.ok⟩
  · rw [f.i t (hp t (by omega) (by omega))]; exact H.2.2.1 i hi
  · rw [f.i (t + 1 + j) (hp _ (by omega) (by omega))]; exact H.2.2.2.1 j s hj hs hd
theorem stp9 {T : Nat → Int32} (ok : TnOK T) : stp T ≤ 9 := ok.s6.2
theorem c_Town_hasStop {n : Nat} (hn : 1 ≤ n) {h : xh} {t : Nat} {T : Nat → Int32} (H : Tn h t T) {s : Int32} {Q : Int32 → xh → Prop} (h1 : ∀ k, k < stp T → s = nI k → Q 1 h) (h0 : (∀ k, k < stp T → ¬ s = nI k) → Q 0 h) : xci (xMC n) 44 [.ref t, .int s] h Q := by
  obtain ⟨n, rfl⟩ := xsucc hn
  have e := H.ok.s6
  have e9 := e.2
  refine w_Town_hasStop ⟨fun c => h0 (fun k hk z => ?_), fun c => ⟨H.s, ?_⟩⟩
  · rw [z] at c
    exact nI_pos (by omega) c
  · rw [H.i 6, e.1]
    refine ⟨fun d => h0 (fun k hk z => ?_), fun d => ?_⟩
    · rw [z] at d
      exact nI_ge hk (by omega) d
    · obtain ⟨j, hj, hx, _⟩ := pk_mu c d (by omega)
      exact h1 j hj hx
theorem Tn.hs {n : Nat} (hn : 1 ≤ n) {h : xh} {t : Nat} {T : Nat → Int32} (H : Tn h t T) {k : Nat} (hk : k < stp T) {Q : Int32 → xh → Prop} (hQ : Q 1 h) : xci (xMC n) 44 [.ref t, .int (nI k)] h Q :=
  c_Town_hasStop hn H (fun _ _ _ => hQ) (fun z => absurd rfl (z k hk))
theorem Tn.hs0 {n : Nat} (hn : 1 ≤ n) {h : xh} {t : Nat} {T : Nat → Int32} (H : Tn h t T) {s : Int32} (hs : ∀ k, k < stp T → ¬ s = nI k) {Q : Int32 → xh → Prop} (hQ : Q 0 h) : xci (xMC n) 44 [.ref t, .int s] h Q :=
  c_Town_hasStop hn H (fun k hk z => absurd z (hs k hk)) (fun _ => hQ)
/-- who comes in the middle -/
def mid (T : Nat → Int32) (s : Nat) : Int32 := if T (7 + s) = 1 then T (43 + s) else if T (7 + s) = 2 then T (34 + s) else (T (34 + s) + T (43 + s)) / 2
theorem c_Town_middle {n : Nat} (hn : 2 ≤ n) {h : xh} {t : Nat} {T : Nat → Int32} (H : Tn h t T) {k : Nat} (hk : k < stp T) {Q : Int32 → xh → Prop} (hQ : Q (mid T k) h) : xci (xMC n) 46 [.ref t, .int (nI k)] h Q := by
  obtain ⟨n, rfl⟩ := xsucc (show 1 ≤ n by omega)
  have k9 : k < 9 := Nat.lt_of_lt_of_le hk (stp9 H.ok)
  refine w_Town_middle ⟨H.s, H.hs (by omega) hk ⟨fun _ => ⟨H.s, _, H.r 0, H.x 0 k9, ?_⟩, fun z => absurd z (by decide)⟩⟩
  rw [nI_clamp (by omega), H.v 0 hk]
  unfold mid at hQ
  refine ⟨fun c1 => ⟨fun c2 => ⟨_, H.r 3, H.x 3 k9, _, H.r 4, H.x 4 k9, ?_⟩, fun c2 => ⟨_, H.r 3, H.x 3 k9, ?_⟩⟩, fun c1 => ⟨_, H.r 4, H.x 4 k9, ?_⟩⟩
  · rw [H.v 3 hk, H.v 4 hk]
    rwa [if_neg c1, if_neg c2] at hQ
  · rw [H.v 3 hk]
    rwa [if_neg c1, if_pos c2] at hQ
  · rw [H.v 4 hk]
    rwa [if_pos c1] at hQ
theorem c_Town_middle0 {n : Nat} (hn : 2 ≤ n) {h : xh} {t : Nat} {T : Nat → Int32} (H : Tn h t T) {s : Int32} (hs : ∀ k, k < stp T → ¬ s = nI k) {Q : Int32 → xh → Prop} (hQ : Q 0 h) : xci (xMC n) 46 [.ref t, .int s] h Q := by
  obtain ⟨n, rfl⟩ := xsucc (show 1 ≤ n by omega)
  exact w_Town_middle ⟨H.s, H.hs0 (by omega) hs ⟨fun z => absurd rfl z, fun _ => hQ⟩⟩
def wgt (T : Nat → Int32) (s : Nat) : Int32 := if T (7 + s) = 3 then 2 else 1
theorem c_Town_weight {n : Nat} (hn : 2 ≤ n) {h : xh} {t : Nat} {T : Nat → Int32} (H : Tn h t T) {k : Nat} (hk : k < stp T) {Q : Int32 → xh → Prop} (hQ : Q (wgt T k) h) : xci (xMC n) 51 [.ref t, .int (nI k)] h Q := by
  obtain ⟨n, rfl⟩ := xsucc (show 1 ≤ n by omega)
  have k9 : k < 9 := Nat.lt_of_lt_of_le hk (stp9 H.ok)
  refine w_Town_weight ⟨H.s, H.hs (by omega) hk ⟨fun z => absurd z (by decide), fun _ => ⟨H.s, _, H.r 0, H.x 0 k9, ?_⟩⟩⟩
  rw [nI_clamp (by omega), H.v 0 hk]
  unfold wgt at hQ
  refine ⟨fun c => ?_, fun c => ?_⟩
  · rwa [if_neg c] at hQ
  · rwa [if_pos c] at hQ
def mayC (T : Nat → Int32) (s d : Int32) : Prop := ∃ k, k < stp T ∧ s = nI k ∧ ¬ d < T (34 + k) ∧ ¬ T (43 + k) < d
theorem c_Town_mayCome {n : Nat} (hn : 2 ≤ n) {h : xh} {t : Nat} {T : Nat → Int32} (H : Tn h t T) {s d : Int32} {Q : Int32 → xh → Prop} (h1 : mayC T s d → Q 1 h) (h0 : ¬ mayC T s d → Q 0 h) : xci (xMC n) 50 [.ref t, .int s, .int d] h Q := by
  obtain ⟨n, rfl⟩ := xsucc (show 1 ≤ n by omega)
  refine w_Town_mayCome ⟨H.s, c_Town_hasStop (by omega) H (fun k hk e => ⟨fun z => absurd z (by decide), fun _ => ⟨H.s, ?_⟩⟩) (fun z => ⟨fun _ => h0 (fun y => ?_), fun z => absurd rfl z⟩)⟩
  · subst e
    have k9 : k < 9 := Nat.lt_of_lt_of_le hk (stp9 H.ok)
    refine ⟨_, H.r 3, H.x 3 k9, ?_⟩
    rw [nI_clamp (by omega), H.v 3 hk]
    refine ⟨fun c => h0 (fun y => ?_), fun c => ⟨_, H.r 4, H.x 4 k9, ?_⟩⟩
    · obtain ⟨k', hk', e, c1, c2⟩ := y
      have s9 := stp9 H.ok
      have e' := (nI_eq (by omega) (by omega)).mp e
      subst e'
      exact c1 c
    · rw [H.v 4 hk]
      refine ⟨fun d => h0 (fun y => ?_), fun d => h1 ⟨k, hk, rfl, c, d⟩⟩
      obtain ⟨k', hk', e, c1, c2⟩ := y
      have s9 := stp9 H.ok
      have e' := (nI_eq (by omega) (by omega)).mp e
      subst e'
      exact c2 d
  · obtain ⟨k, hk, e, _⟩ := y
    exact z k hk e
/-- a sum over the first stops -/
def sumI (f : Nat → Int32) : Nat → Int32
  | 0 => 0
  | k + 1 => sumI f k + f k
theorem c_Town_mostInAll {n : Nat} (hn : 1 ≤ n) {h : xh} {t : Nat} {T : Nat → Int32} (H : Tn h t T) {Q : Int32 → xh → Prop} (hQ : Q (sumI (fun s => T (43 + s)) (stp T)) h) : xci (xMC n) 52 [.ref t] h Q := by
  obtain ⟨n, rfl⟩ := xsucc hn
  have e := H.ok.s6
  have e9 := e.2
  have key : ∀ (d i : Nat), i + d = stp T → K_Town_mostInAll n Q 4 [some (.ref t), some (.int (sumI (fun s => T (43 + s)) i)), some (.int (nI i))] [] h := by
    intro d
    induction d with
    | zero =>
      intro i hi
      refine b_Town_mostInAll_4 ⟨H.s, ?_⟩
      rw [H.i 6, e.1, ← hi]
      exact ⟨fun _ => by rw [← hi] at hQ; exact hQ, fun z => absurd (Int32.le_refl _) z⟩
    | succ d ih =>
      intro i hi
      refine b_Town_mostInAll_4 ⟨H.s, ?_⟩
      rw [H.i 6, e.1]
      refine ⟨fun c => absurd c (nI_ge (by omega) (by omega)), fun _ => ⟨_, H.r 4, H.x 4 (by omega), ?_⟩⟩
      rw [nI_clamp (by omega), H.v 4 (by omega), nI_1]
      exact ih (i + 1) (by omega)
  exact w_Town_mostInAll (key (stp T) 0 (by omega))
/-- where a stop, or HOME, lies -/
def colT (T : Nat → Int32) (s : Int32) : Int32 := if s = -1 then T 0 else T (16 + s.toNatClampNeg)
def rowT (T : Nat → Int32) (s : Int32) : Int32 := if s = -1 then T 1 else T (25 + s.toNatClampNeg)
/-- HOME or a stop -/
def pl (T : Nat → Int32) (s : Int32) : Prop := s = -1 ∨ ∃ k, k < stp T ∧ s = nI k
theorem nI_m1 {k : Nat} (h : k < 2 ^ 31) : ¬ nI k = -1 := fun z => by
  have := nI_pos h
  rw [z] at this
  exact this (by decide)
theorem colT_k (T : Nat → Int32) {k : Nat} (h : k < 2 ^ 31) : colT T (nI k) = T (16 + k) := by unfold colT; rw [if_neg (nI_m1 h), nI_clamp h]
theorem rowT_k (T : Nat → Int32) {k : Nat} (h : k < 2 ^ 31) : rowT T (nI k) = T (25 + k) := by unfold rowT; rw [if_neg (nI_m1 h), nI_clamp h]
theorem c_Town_columnOf {n : Nat} (hn : 2 ≤ n) {h : xh} {t : Nat} {T : Nat → Int32} (H : Tn h t T) {s : Int32} (hs : pl T s) {Q : Int32 → xh → Prop} (hQ : Q (colT T s) h) : xci (xMC n) 48 [.ref t, .int s] h Q := by
  obtain ⟨n, rfl⟩ := xsucc (show 1 ≤ n by omega)
  have e9 := stp9 H.ok
  rcases hs with e | ⟨k, hk, e⟩
  · subst e
    refine w_Town_columnOf ⟨H.s, H.hs0 (by omega) (fun k hk z => nI_m1 (by omega) z.symm) ⟨fun _ => ⟨H.s, ?_⟩, fun z => absurd rfl z⟩⟩
    rw [H.i 0]
    exact hQ
  · subst e
    refine w_Town_columnOf ⟨H.s, H.hs (by omega) hk ⟨fun z => absurd z (by decide), fun _ => ⟨H.s, _, H.r 1, H.x 1 (by omega), ?_⟩⟩⟩
    rw [nI_clamp (by omega), H.v 1 hk]
    rwa [colT_k T (by omega)] at hQ
theorem c_Town_rowOf {n : Nat} (hn : 2 ≤ n) {h : xh} {t : Nat} {T : Nat → Int32} (H : Tn h t T) {s : Int32} (hs : pl T s) {Q : Int32 → xh → Prop} (hQ : Q (rowT T s) h) : xci (xMC n) 49 [.ref t, .int s] h Q := by
  obtain ⟨n, rfl⟩ := xsucc (show 1 ≤ n by omega)
  have e9 := stp9 H.ok
  rcases hs with e | ⟨k, hk, e⟩
  · subst e
    refine w_Town_rowOf ⟨H.s, H.hs0 (by omega) (fun k hk z => nI_m1 (by omega) z.symm) ⟨fun _ => ⟨H.s, ?_⟩, fun z => absurd rfl z⟩⟩
    rw [H.i 1]
    exact hQ
  · subst e
    refine w_Town_rowOf ⟨H.s, H.hs (by omega) hk ⟨fun z => absurd z (by decide), fun _ => ⟨H.s, _, H.r 2, H.x 2 (by omega), ?_⟩⟩⟩
    rw [nI_clamp (by omega), H.v 2 hk]
    rwa [rowT_k T (by omega)] at hQ
/-- how far two numbers are apart -/
def apt (a b : Int32) : Int32 := if a < b then b - a else a - b
theorem apt_abs {a b : Int32} (h1 : 0 ≤ a) (h2 : a ≤ 9) (h3 : 0 ≤ b) (h4 : b ≤ 9) : (if 0 ≤ a - b then a - b else -(a - b)) = apt a b := by
  unfold apt
  grind
theorem b9 {T : Nat → Int32} (ok : TnOK T) (s : Int32) (hs : pl T s) : (0 ≤ colT T s ∧ colT T s ≤ 9) ∧ 0 ≤ rowT T s ∧ rowT T s ≤ 9 := by
  have e9 := stp9 ok
  have e6 := ok.s6.1
  obtain ⟨N, h1, _, h3, h4, _⟩ := ok
  have hN : N 6 = stp T := by
    have := h1 6 (by omega)
    rw [e6] at this
    have h9 := h3.2.2.2.2.2.2.2.2
    exact ((nI_eq (by omega) (by omega)).mp this).symm
  have key : ∀ x, x ≤ 9 → 0 ≤ nI x ∧ nI x ≤ 9 := fun x hx => ⟨nI_pos' (by omega), nI_le (a := x) (b := 9) hx (by decide)⟩
  rcases hs with e | ⟨k, hk, e⟩
  · subst e
    unfold colT rowT
    rw [if_pos rfl, if_pos rfl, h1 0 (by omega), h1 1 (by omega)]
    exact ⟨key _ h3.1, key _ h3.2.1⟩
  · subst e
    have h5 := h4 k (by omega)
    rw [colT_k T (by omega), rowT_k T (by omega), h1 (16 + k) (by omega), h1 (25 + k) (by omega)]
    exact ⟨key _ h5.2.1, key _ h5.2.2.1⟩
/-- minutes of a drive -/
def drv (T : Nat → Int32) (a b : Int32) : Int32 := T 3 * (apt (colT T a) (colT T b) + apt (rowT T a) (rowT T b))
theorem c_Town_minutes {n : Nat} (hn : 3 ≤ n) {h : xh} {t : Nat} {T : Nat → Int32} (H : Tn h t T) {a b : Int32} (ha : pl T a) (hb : pl T b) {Q : Int32 → xh → Prop} (hQ : Q (drv T a b) h) : xci (xMC n) 47 [.ref t, .int a, .int b] h Q := by
  obtain ⟨n, rfl⟩ := xsucc (show 1 ≤ n by omega)
  have qa := b9 H.ok a ha
  have qb := b9 H.ok b hb
  refine w_Town_minutes ⟨H.s, c_Town_columnOf (by omega) H ha ⟨H.s, c_Town_columnOf (by omega) H hb (c_Math_abs (by omega) ⟨H.s, c_Town_rowOf (by omega) H ha ⟨H.s, c_Town_rowOf (by omega) H hb (c_Math_abs (by omega) ?_)⟩⟩)⟩⟩
  rw [apt_abs qa.1.1 qa.1.2 qb.1.1 qb.1.2, apt_abs qa.2.1 qa.2.2 qb.2.1 qb.2.2, H.i 3]
  exact hQ
