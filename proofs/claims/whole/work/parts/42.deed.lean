/-! EVENINGS, BOOKS, LISTS: what was told -/
theorem Int32_m1 {k : Int32} (h : ¬ k < 0) : ¬ k = -1 := fun z => h (by rw [z]; decide)
def dds (E : Nat → Int32) : Nat := (E 0).toNatClampNeg
def EvOK (E : Nat → Int32) : Prop := E 0 = nI (dds E) ∧ dds E ≤ 40
def Ev (h : xh) (e : Nat) (E : Nat → Int32) : Prop := xS h e = (3, 0) ∧ (xR h e 1 = some (e + 1) ∧ xR h e 2 = some (e + 2) ∧ xS h (e + 1) = (20, 40) ∧ xS h (e + 2) = (20, 40)) ∧ xI h e 0 = E 0 ∧ (∀ k, k < dds E → xI h (e + 1) k = E (1 + 2 * k) ∧ xI h (e + 2) k = E (2 + 2 * k)) ∧ EvOK E
theorem Ev.fr {P : Nat → Prop} {h h' : xh} {t : Nat} {E : Nat → Int32} (H : Ev h t E) (f : Fr P h h') (hp : ∀ c, t ≤ c → c ≤ t + 2 → ¬ P c) : Ev h' t E := by
  obtain ⟨h1, ⟨h2, h3, h4, h5⟩, h6, h7, h8⟩ := H
  refine ⟨by rw [f.1]; exact h1, ⟨by rw [f.2.2.1]; exact h2, by rw [f.2.2.1]; exact h3, by rw [f.1]; exact h4, by rw [f.1]; exact h5⟩, ?_, fun k hk => ?_, h8⟩
  · rw [f.i t (hp t (by omega) (by omega))]; exact h6
  · rw [f.i (t + 1) (hp _ (by omega) (by omega)), f.i (t + 2) (hp _ (by omega) (by omega))]; exact h7 k hk
def sDeed (E : Nat → Int32) (k w : Int32) : Int32 := if k = -1 then (if w = 0 then E 0 else -2) else if (¬ k < 0 ∧ k.toNatClampNeg < dds E) ∧ (¬ w < 0 ∧ ¬ 1 < w) then (if w = 0 then E (1 + 2 * k.toNatClampNeg) else E (2 + 2 * k.toNatClampNeg)) else -2
theorem sDeed_m {E : Nat → Int32} {w : Int32} : sDeed E (-1) w = if w = 0 then E 0 else -2 := if_pos rfl
theorem sDeed_n {E : Nat → Int32} {k : Nat} {w : Int32} (hk : k < 2 ^ 31) : sDeed E (nI k) w = if k < dds E ∧ (¬ w < 0 ∧ ¬ 1 < w) then (if w = 0 then E (1 + 2 * k) else E (2 + 2 * k)) else -2 := by
  unfold sDeed
  rw [if_neg (nI_m1 hk), nI_clamp hk]
  by_cases c : k < dds E ∧ (¬ w < 0 ∧ ¬ 1 < w)
  · rw [if_pos c, if_pos ⟨⟨nI_pos hk, c.1⟩, c.2⟩]
  · rw [if_neg c, if_neg (fun z => c ⟨z.1.2, z.2⟩)]
theorem sDeed_o {E : Nat → Int32} {k w : Int32} (h1 : ¬ k = -1) (h2 : k < 0) : sDeed E k w = -2 := by
  unfold sDeed
  rw [if_neg h1, if_neg (fun z => z.1.1 h2)]
theorem c_Evening_detail {n : Nat} (hn : 1 ≤ n) {h : xh} {e : Nat} {E : Nat → Int32} (H : Ev h e E) {k w : Int32} {Q : Int32 → xh → Prop} (hQ : Q (sDeed E k w) h) : xci (xMC n) 27 [.ref e, .int k, .int w] h Q := by
  obtain ⟨n, rfl⟩ := xsucc hn
  obtain ⟨h1, ⟨h2, h3, h4, h5⟩, h6, h7, h8⟩ := H
  refine w_Evening_detail ⟨fun z => ⟨fun y => ?_, fun y => ⟨h1, ?_⟩⟩, fun z => ⟨fun y => ?_, fun y => ⟨h1, ?_⟩⟩⟩
  · rwa [sDeed_o z y] at hQ
  · obtain ⟨j, hj, ej⟩ := nI_of y
    subst ej
    rw [h6, h8.1, nI_leI (by have := h8.2; omega) hj]
    rw [sDeed_n hj] at hQ
    refine ⟨fun q => ?_, fun q => ⟨fun r => ?_, fun r => ⟨fun s => ⟨fun t => ⟨_, h3, xarN h5 (by have := h8.2; omega), ?_⟩, fun t => ⟨_, h2, xarN h4 (by have := h8.2; omega), ?_⟩⟩, fun s => ?_⟩⟩⟩
    · rwa [if_neg (by omega)] at hQ
    · rwa [if_neg (fun z => z.2.1 r)] at hQ
    · rw [if_pos ⟨by omega, r, Int32.not_lt.mpr s⟩, if_neg t] at hQ
      rw [nI_clamp hj, (h7 j (by omega)).2]; exact hQ
    · rw [if_pos ⟨by omega, r, Int32.not_lt.mpr s⟩, if_pos t] at hQ
      rw [nI_clamp hj, (h7 j (by omega)).1]; exact hQ
    · rwa [if_neg (fun z => z.2.2 (Int32.not_le.mp s))] at hQ
  · subst z
    rwa [sDeed_m, if_neg y] at hQ
  · subst z
    rw [sDeed_m, if_pos y] at hQ
    rwa [h6]
def mE (h : xh) (k : Nat) : Nat → Int32 := fun i => xI h 173 (81 * k + i)
def EvC (h : xh) (c : Nat) : Prop := xI h 67 1 = nI c ∧ c ≤ 2 ∧ ∀ k, k < c → Ev h (86 + 3 * k) (mE h k)
def EvM (h : xh) (c : Nat) : Prop := xI h 171 1 = nI c ∧ c ≤ 2 ∧ ∀ k, k < c → EvOK (mE h k)
theorem c_Told_eveningAt {n : Nat} (hn : 1 ≤ n) {h : xh} (L : Lay h) {c : Nat} (e : xI h 67 1 = nI c) (hc : c ≤ 2) {p : Int32} {Q : Option Nat → xh → Prop} (h1 : ∀ k, k < c → p = nI k → Q (some (86 + 3 * k)) h) (h0 : (∀ k, k < c → ¬ p = nI k) → Q none h) : xcr (xMC n) 148 [.ref 65, .int p] h Q := by
  obtain ⟨n, rfl⟩ := xsucc hn
  refine w_Told_eveningAt ⟨fun z => h0 (fun k hk e => ?_), fun z => ⟨L.s 65, 67, L.r 65 4 67, L.x 67 (i := 1) (n := 4) (by omega), fun y => ?_, fun y => h0 (fun k hk e2 => ?_)⟩⟩
  · subst e; exact nI_pos (by omega) z
  · obtain ⟨j, hj, e2⟩ := nI_of z
    subst e2
    have y' : nI j < nI c := by rw [← e]; exact y
    have hjc : j < c := (nI_ltI hj (by omega)).mp y'
    refine ⟨85, L.r 65 6 85, L.x 85 (n := 2) (by omega), ?_⟩
    rw [nI_clamp hj]
    refine ⟨86 + 3 * j, ?_, h1 j hjc rfl⟩
    rcases lt2 hjc hc with e3 | e3 <;> subst e3
    · exact L.r 85 0 86
    · exact L.r 85 1 89
  · subst e2
    refine y ?_
    show nI k < xI h 67 1
    rw [e]
    exact nI_lt hk (by omega)
theorem c_Told_bookAt {n : Nat} (hn : 1 ≤ n) {h : xh} (L : Lay h) {c : Nat} (e : xI h 67 2 = nI c) (hc : c ≤ 2) {p : Int32} {Q : Option Nat → xh → Prop} (h1 : ∀ k, k < c → p = nI k → Q (some (93 + 4 * k)) h) (h0 : (∀ k, k < c → ¬ p = nI k) → Q none h) : xcr (xMC n) 149 [.ref 65, .int p] h Q := by
  obtain ⟨n, rfl⟩ := xsucc hn
  refine w_Told_bookAt ⟨fun z => h0 (fun k hk e => ?_), fun z => ⟨L.s 65, 67, L.r 65 4 67, L.x 67 (i := 2) (n := 4) (by omega), fun y => ?_, fun y => h0 (fun k hk e2 => ?_)⟩⟩
  · subst e; exact nI_pos (by omega) z
  · obtain ⟨j, hj, e2⟩ := nI_of z
    subst e2
    have y' : nI j < nI c := by rw [← e]; exact y
    have hjc : j < c := (nI_ltI hj (by omega)).mp y'
    refine ⟨92, L.r 65 7 92, L.x 92 (n := 2) (by omega), ?_⟩
    rw [nI_clamp hj]
    refine ⟨93 + 4 * j, ?_, h1 j hjc rfl⟩
    rcases lt2 hjc hc with e3 | e3 <;> subst e3
    · exact L.r 92 0 93
    · exact L.r 92 1 97
  · subst e2
    refine y ?_
    show nI k < xI h 67 2
    rw [e]
    exact nI_lt hk (by omega)
theorem c_Told_sheetAt {n : Nat} (hn : 1 ≤ n) {h : xh} (L : Lay h) {c : Nat} (e : xI h 67 3 = nI c) (hc : c ≤ 2) {p : Int32} {Q : Option Nat → xh → Prop} (h1 : ∀ k, k < c → p = nI k → Q (some (102 + 7 * k)) h) (h0 : (∀ k, k < c → ¬ p = nI k) → Q none h) : xcr (xMC n) 150 [.ref 65, .int p] h Q := by
  obtain ⟨n, rfl⟩ := xsucc hn
  refine w_Told_sheetAt ⟨fun z => h0 (fun k hk e => ?_), fun z => ⟨L.s 65, 67, L.r 65 4 67, L.x 67 (i := 3) (n := 4) (by omega), fun y => ?_, fun y => h0 (fun k hk e2 => ?_)⟩⟩
  · subst e; exact nI_pos (by omega) z
  · obtain ⟨j, hj, e2⟩ := nI_of z
    subst e2
    have y' : nI j < nI c := by rw [← e]; exact y
    have hjc : j < c := (nI_ltI hj (by omega)).mp y'
    refine ⟨101, L.r 65 8 101, L.x 101 (n := 2) (by omega), ?_⟩
    rw [nI_clamp hj]
    refine ⟨102 + 7 * j, ?_, h1 j hjc rfl⟩
    rcases lt2 hjc hc with e3 | e3 <;> subst e3
    · exact L.r 101 0 102
    · exact L.r 101 1 109
  · subst e2
    refine y ?_
    show nI k < xI h 67 3
    rw [e]
    exact nI_lt hk (by omega)
theorem c_So_deed {n : Nat} (hn : 2 ≤ n) {h : xh} (L : Lay h) {c : Nat} (W : EvC h c) {p k w : Int32} {Q : Int32 → xh → Prop} (h1 : ∀ j, j < c → p = nI j → Q (sDeed (mE h j) k w) h) (h0 : (∀ j, j < c → ¬ p = nI j) → Q (-2) h) : xci (xMC n) 164 [.ref 64, .int p, .int k, .int w] h Q := by
  obtain ⟨n, rfl⟩ := xsucc (show 1 ≤ n by omega)
  refine w_So_deed ⟨L.s 64, 65, L.r 64 0 65, L.s 65, c_Told_eveningAt (by omega) L W.1 W.2.1 (fun j hj e => ⟨fun a2 ea => ?_, fun z => nomatch z⟩) (fun z => ⟨fun a2 ea => (nomatch ea), fun _ => h0 z⟩)⟩
  cases ea
  exact ⟨(W.2.2 j hj).1, c_Evening_detail (by omega) (W.2.2 j hj) (h1 j hj e)⟩
/-- an evening in the reference's hand -/
def Me (h : xh) (E : Nat → Int32) : Prop := Lay h ∧ (∃ k, k < 2 ∧ xI h 166 27 = nI k ∧ ∀ i, xI h 173 (81 * k + i) = E i) ∧ EvOK E
theorem Me.wf {h : xh} {E : Nat → Int32} (M : Me h E) {i : Nat} {v : Int32} (hi : i ≠ 27) : Me (xsI h 166 i v) E := by
  obtain ⟨L, ⟨k, hk, e, d⟩, ok⟩ := M
  refine ⟨L, ⟨k, hk, ?_, ?_⟩, ok⟩
  · rw [upI_o _ _ _ _ (by omega)]; exact e
  · intro j; rw [xsI_ne _ _ _ (by omega)]; exact d j
theorem Me.wa {h : xh} {E : Nat → Int32} (M : Me h E) {a i : Nat} {v : Int32} (ha : a ≠ 166 ∧ a ≠ 173) : Me (xsI h a i v) E := by
  obtain ⟨L, ⟨k, hk, e, d⟩, ok⟩ := M
  refine ⟨L, ⟨k, hk, ?_, ?_⟩, ok⟩
  · rw [xsI_ne _ _ _ (by omega)]; exact e
  · intro j; rw [xsI_ne _ _ _ (by omega)]; exact d j
theorem c_Mo_hasEvening {n : Nat} (hn : 3 ≤ n) {h : xh} (L : Lay h) {c : Nat} (W : EvM h c) {p : Int32} {Q : Int32 → xh → Prop} (h1 : ∀ k, k < c → p = nI k → Me (xsI h 166 27 p) (mE h k) → Q 1 (xsI h 166 27 p)) (h0 : (∀ k, k < c → ¬ p = nI k) → Q 0 (xsI h 166 27 p)) : xci (xMC n) 250 [.ref 166, .int p] h Q := by
  obtain ⟨n, rfl⟩ := xsucc (show 1 ≤ n by omega)
  have hs := L.s 166 (p := (11, 0))
  have c2 := W.2.1
  refine w_Mo_hasEvening ⟨⟨by decide, hs⟩, b_Mo_hasEvening_5 ⟨hs, c_Mo_is (n := n) (j := 1) (c := c) (by omega) (h := xsI h 166 27 p) L (by omega) (by omega) ?_ (fun k hk e => ⟨Or.inr rfl, ?_⟩) (fun z => ⟨Or.inl rfl, h0 z⟩)⟩⟩
  · rw [xsI_ne _ _ _ (by decide)]; exact W.1
  · refine h1 k hk e ⟨L, ⟨k, by omega, ?_, fun i => ?_⟩, W.2.2 k hk⟩
    · rw [upI_s]; exact e
    · rw [xsI_ne _ _ _ (by decide)]; rfl
theorem c_Mo_deeds {n : Nat} (hn : 1 ≤ n) {h : xh} {E : Nat → Int32} (M : Me h E) {Q : Int32 → xh → Prop} (hQ : Q (nI (dds E)) h) : xci (xMC n) 251 [.ref 166] h Q := by
  obtain ⟨n, rfl⟩ := xsucc hn
  obtain ⟨L, ⟨k, hk, e, d⟩, ok⟩ := M
  refine w_Mo_deeds ⟨L.s 166, 173, L.r 166 7 173, ?_⟩
  rw [e, show (81 : Int32) * nI k = nI (81 * k) from pk_mul 81 k]
  refine ⟨L.x 173 (n := 648) (by omega), ?_⟩
  have := d 0
  rw [nI_clamp (by omega), show 81 * k = 81 * k + 0 from rfl, d 0, ok.1]
  exact hQ
theorem c_Mo_deedOf {n : Nat} (hn : 1 ≤ n) {h : xh} {E : Nat → Int32} (M : Me h E) {k w : Nat} (hk : k < 40) (hw : w < 2) {x : Int32} (hx : x = nI w) {Q : Int32 → xh → Prop} (hQ : Q (E (1 + 2 * k + w)) h) : xci (xMC n) 252 [.ref 166, .int (nI k), .int x] h Q := by
  obtain ⟨n, rfl⟩ := xsucc hn
  obtain ⟨L, ⟨j, hj, e, d⟩, ok⟩ := M
  subst hx
  have ex : (81 : Int32) * nI j + 1 + 2 * nI k + nI w = nI (81 * j + (1 + 2 * k + w)) := by
    rw [show (81 : Int32) * nI j = nI (81 * j) from pk_mul 81 j, show (2 : Int32) * nI k = nI (2 * k) from pk_mul 2 k, nI_1, nI_add, nI_add]
    congr 1
    omega
  refine w_Mo_deedOf ⟨L.s 166, 173, L.r 166 7 173, ?_⟩
  rw [e, ex]
  refine ⟨L.x 173 (n := 648) (by omega), ?_⟩
  rw [nI_clamp (by omega), d]
  exact hQ
theorem c_Mo_deed {n : Nat} (hn : 4 ≤ n) {h : xh} (L : Lay h) {c : Nat} (W : EvM h c) {p k w : Int32} {Q : Int32 → xh → Prop} (h1 : ∀ j, j < c → p = nI j → ∀ h', Fr PM h h' → Q (sDeed (mE h j) k w) h') (h0 : (∀ j, j < c → ¬ p = nI j) → ∀ h', Fr PM h h' → Q (-2) h') : xci (xMC n) 249 [.ref 166, .int p, .int k, .int w] h Q := by
  obtain ⟨n, rfl⟩ := xsucc (show 1 ≤ n by omega)
  have hs := L.s 166 (p := (11, 0))
  have P0 : PM 166 := Or.inl rfl
  refine w_Mo_deed ⟨⟨by decide, hs⟩, b_Mo_deed_5 ⟨hs, c_Mo_hasEvening (by omega) (h := xsI h 166 0 0) L (c := c) W (fun j hj e M => ⟨fun _ => ?_, fun z => absurd z (by decide)⟩) (fun z => ⟨fun y => absurd rfl y, fun _ => h0 z _ ((Fr.rf.wI P0).wI P0)⟩)⟩⟩
  have hQ := h1 j hj e _ ((Fr.rf.wI (h := h) (i := 0) (v := 0) P0).wI (i := 27) (v := p) P0)
  generalize xsI (xsI h 166 0 0) 166 27 p = h' at hQ M ⊢
  have M' : Me h' (mE h j) := M
  generalize mE h j = E at hQ M'
  have hs' := M'.1.s 166 (p := (11, 0))
  have ok := M'.2.2
  have o2 := ok.2
  refine ⟨fun z => ⟨hs', c_Mo_deeds (by omega) M' (c_Mo_inN (by omega) (by omega) (fun k' hk' ek => ⟨fun y => absurd y (by decide), fun _ => ?_⟩) (fun y => ⟨fun _ => ?_, fun q => absurd rfl q⟩))⟩, fun z => ⟨fun y => ?_, fun y => ⟨hs', c_Mo_deeds (by omega) M' ?_⟩⟩⟩
  · subst ek
    rw [sDeed_n (by omega)] at hQ
    refine c_Mo_in (by omega) (fun q => ⟨fun y => absurd y (by decide), fun _ => ⟨hs', ?_⟩⟩) (fun q => ⟨fun _ => ?_, fun r => absurd rfl r⟩)
    · obtain ⟨w', hw', ew⟩ := xbw_of (m := 1) rfl q
      subst ew
      rw [if_pos ⟨hk', q⟩] at hQ
      refine c_Mo_deedOf (by omega) M' (by omega) (show w' < 2 by omega) rfl ?_
      have : w' = 0 ∨ w' = 1 := by omega
      rcases this with r | r <;> subst r
      · rw [if_pos (by decide)] at hQ
        exact hQ
      · rw [if_neg (by decide)] at hQ
        rw [show 1 + 2 * k' + 1 = 2 + 2 * k' by omega]
        exact hQ
    · rwa [if_neg (fun r => q r.2)] at hQ
  · by_cases h0 : k < 0
    · rwa [sDeed_o z h0] at hQ
    · obtain ⟨i, hi, ei⟩ := nI_of h0
      subst ei
      rwa [sDeed_n hi, if_neg (fun r => y i r.1 rfl)] at hQ
  · subst z
    rwa [sDeed_m, if_neg y] at hQ
  · subst z
    rwa [sDeed_m, if_pos y, ok.1] at hQ
