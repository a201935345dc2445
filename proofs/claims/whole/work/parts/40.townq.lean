/-! What is asked of towns: town, safe, depot, trail -/
/-- the class's towns -/
def TwC (h : xh) (c : Nat) : Prop := xI h 67 0 = nI c ∧ c ≤ 2 ∧ ∀ k, k < c → Tn h (69 + 8 * k) (mT h k)
theorem lt2 {k c : Nat} (hk : k < c) (hc : c ≤ 2) : k = 0 ∨ k = 1 := by omega
theorem c_Told_townAt {n : Nat} (hn : 1 ≤ n) {h : xh} (L : Lay h) {c : Nat} (e : xI h 67 0 = nI c) (hc : c ≤ 2) {p : Int32} {Q : Option Nat → xh → Prop} (h1 : ∀ k, k < c → p = nI k → Q (some (69 + 8 * k)) h) (h0 : (∀ k, k < c → ¬ p = nI k) → Q none h) : xcr (xMC n) 147 [.ref 65, .int p] h Q := by
  obtain ⟨n, rfl⟩ := xsucc hn
  refine w_Told_townAt ⟨fun z => h0 (fun k hk e => ?_), fun z => ⟨L.s 65, 67, L.r 65 4 67, L.x 67 (i := 0) (n := 4) (by omega), fun y => ?_, fun y => h0 (fun k hk e2 => ?_)⟩⟩
  · subst e; exact nI_pos (by omega) z
  · obtain ⟨j, hj, e2⟩ := nI_of z
    subst e2
    have y' : nI j < nI c := by rw [← e]; exact y
    have hjc : j < c := (nI_ltI hj (by omega)).mp y'
    refine ⟨68, L.r 65 5 68, L.x 68 (n := 2) (by omega), ?_⟩
    rw [nI_clamp hj]
    refine ⟨69 + 8 * j, ?_, h1 j hjc rfl⟩
    rcases lt2 hjc hc with e3 | e3 <;> subst e3
    · exact L.r 68 0 69
    · exact L.r 68 1 77
  · subst e2
    refine y ?_
    show nI k < xI h 67 0
    rw [e]
    exact nI_lt hk (by omega)
/-- how a question about a town is asked in the class -/
theorem TwC.t {h : xh} {c : Nat} (W : TwC h c) {k : Nat} (hk : k < c) : Tn h (69 + 8 * k) (mT h k) := W.2.2 k hk
def sTown (T : Nat → Int32) (w : Int32) : Int32 := if w < 0 then -2 else if w.toNatClampNeg < 7 then T w.toNatClampNeg else if 10 ≤ w.toNatClampNeg ∧ w.toNatClampNeg < 80 ∧ w.toNatClampNeg % 10 < stp T then T (7 + 9 * (w.toNatClampNeg / 10 - 1) + w.toNatClampNeg % 10) else -2
theorem sTown_n (T : Nat → Int32) {w : Nat} (hw : w < 2 ^ 31) : sTown T (nI w) = if w < 7 then T w else if 10 ≤ w ∧ w < 80 ∧ w % 10 < stp T then T (7 + 9 * (w / 10 - 1) + w % 10) else -2 := by
  unfold sTown
  rw [if_neg (nI_pos hw), nI_clamp hw]
theorem c_Town_detailOfStop {n : Nat} (hn : 1 ≤ n) {h : xh} {t : Nat} {T : Nat → Int32} (H : Tn h t T) {j k : Nat} (hj : j < 2 ^ 31) (hk : k < stp T) {Q : Int32 → xh → Prop} (hQ : Q (if 1 ≤ j ∧ j < 8 then T (7 + 9 * (j - 1) + k) else -2) h) : xci (xMC n) 45 [.ref t, .int (nI j), .int (nI k)] h Q := by
  obtain ⟨n, rfl⟩ := xsucc hn
  have s9 := stp9 H.ok
  have key : ∀ i, i < 7 → nI j = nI (i + 1) → Q (xI h (t + 1 + i) (nI k).toNatClampNeg) h := by
    intro i hi e
    have e' := (nI_eq hj (by omega)).mp e
    subst e'
    rw [if_pos (by omega)] at hQ
    rw [nI_clamp (by omega), H.v i hk hi]
    exact hQ
  have nk : ∀ i, ¬ nI j = nI i → j ≠ i := fun i z e => z (by rw [e])
  refine w_Town_detailOfStop ⟨fun e => ⟨H.s, _, H.r 0, H.x 0 (by omega), key 0 (by omega) e⟩, fun z1 => ⟨fun e => ⟨H.s, _, H.r 1, H.x 1 (by omega), key 1 (by omega) e⟩, fun z2 => ⟨fun e => ⟨H.s, _, H.r 2, H.x 2 (by omega), key 2 (by omega) e⟩, fun z3 => ⟨fun e => ⟨H.s, _, H.r 3, H.x 3 (by omega), key 3 (by omega) e⟩, fun z4 => ⟨fun e => ⟨H.s, _, H.r 4, H.x 4 (by omega), key 4 (by omega) e⟩, fun z5 => ⟨fun e => ⟨H.s, _, H.r 5, H.x 5 (by omega), key 5 (by omega) e⟩, fun z6 => ⟨fun e => ⟨H.s, _, H.r 6, H.x 6 (by omega), key 6 (by omega) e⟩, fun z7 => ?_⟩⟩⟩⟩⟩⟩⟩
  have := nk 1 z1
  have := nk 2 z2
  have := nk 3 z3
  have := nk 4 z4
  have := nk 5 z5
  have := nk 6 z6
  have := nk 7 z7
  rwa [if_neg (by omega)] at hQ
theorem c_Town_detail {n : Nat} (hn : 2 ≤ n) {h : xh} {t : Nat} {T : Nat → Int32} (H : Tn h t T) {w : Int32} {Q : Int32 → xh → Prop} (hQ : Q (sTown T w) h) : xci (xMC n) 43 [.ref t, .int w] h Q := by
  obtain ⟨n, rfl⟩ := xsucc (show 1 ≤ n by omega)
  have s9 := stp9 H.ok
  have key : ∀ i, i < 7 → w = nI i → Q (xI h t i) h := by
    intro i hi e
    subst e
    rw [sTown_n T (by omega), if_pos hi] at hQ
    rw [H.i i hi]
    exact hQ
  refine w_Town_detail ⟨fun e => ⟨H.s, key 0 (by omega) e⟩, fun z0 => ⟨fun e => ⟨H.s, key 1 (by omega) e⟩, fun z1 => ⟨fun e => ⟨H.s, key 2 (by omega) e⟩, fun z2 => ⟨fun e => ⟨H.s, key 3 (by omega) e⟩, fun z3 => ⟨fun e => ⟨H.s, key 4 (by omega) e⟩, fun z4 => ⟨fun e => ⟨H.s, key 5 (by omega) e⟩, fun z5 => ⟨fun e => ⟨H.s, key 6 (by omega) e⟩, fun z6 => ?_⟩⟩⟩⟩⟩⟩⟩
  have big : ∀ j, w = nI j → j < 2 ^ 31 → 7 ≤ j := by
    intro j e hj
    have nk : ∀ i, ¬ w = nI i → j ≠ i := fun i z e2 => z (by rw [e, e2])
    have := nk 0 z0
    have := nk 1 z1
    have := nk 2 z2
    have := nk 3 z3
    have := nk 4 z4
    have := nk 5 z5
    have := nk 6 z6
    omega
  refine ⟨fun z => ?_, fun z => ⟨H.s, ?_⟩⟩
  · by_cases hw : w < 0
    · unfold sTown at hQ
      rwa [if_pos hw] at hQ
    · obtain ⟨j, hj, e⟩ := nI_of hw
      have hb := big j e hj
      subst e
      have hj10 : j < 10 := (nI_ltI (a := j) (b := 10) hj (by decide)).mp z
      rwa [sTown_n T hj, if_neg (by omega), if_neg (by omega)] at hQ
  · have hw : ¬ w < 0 := fun y => z (by rw [Int32.lt_iff_toInt_lt] at y ⊢; have e1 : (10 : Int32).toInt = 10 := rfl; have e0 : (0 : Int32).toInt = 0 := rfl; omega)
    obtain ⟨j, hj, e⟩ := nI_of hw
    subst e
    have hj10 : 10 ≤ j := by
      by_cases y : 10 ≤ j
      · exact y
      · exact absurd (nI_lt (a := j) (b := 10) (by omega) (by decide)) z
    have er : nI j - nI j / (10 : Int32) * (10 : Int32) = nI (j % 10) := pk_rem (d := 10) hj (by decide) (by decide)
    have ed : nI j / (10 : Int32) = nI (j / 10) := pk_div (d := 10) hj (by decide) (by decide)
    rw [er, ed]
    rw [sTown_n T hj, if_neg (by omega)] at hQ
    refine c_Town_hasStop (by omega) H (fun k hk e => ⟨fun _ => ⟨H.s, ?_⟩, fun z => absurd z (by decide)⟩) (fun y => ⟨fun z => absurd rfl z, fun _ => ?_⟩)
    · have e' := (nI_eq (by omega) (by omega)).mp e
      refine c_Town_detailOfStop (by omega) H (by omega) (by omega) ?_
      by_cases y : j < 80
      · rw [if_pos (by omega)]
        rwa [if_pos (by omega)] at hQ
      · rw [if_neg (by omega)]
        rwa [if_neg (by omega)] at hQ
    · rwa [if_neg (fun q => y _ q.2.2 rfl)] at hQ
theorem c_So_town {n : Nat} (hn : 3 ≤ n) {h : xh} (L : Lay h) {c : Nat} (W : TwC h c) {p w : Int32} {Q : Int32 → xh → Prop} (h1 : ∀ k, k < c → p = nI k → Q (sTown (mT h k) w) h) (h0 : (∀ k, k < c → ¬ p = nI k) → Q (-2) h) : xci (xMC n) 163 [.ref 64, .int p, .int w] h Q := by
  obtain ⟨n, rfl⟩ := xsucc (show 1 ≤ n by omega)
  refine w_So_town ⟨L.s 64, 65, L.r 64 0 65, L.s 65, c_Told_townAt (by omega) L W.1 W.2.1 (fun k hk e => ⟨fun a2 ea => ?_, fun z => nomatch z⟩) (fun z => ⟨fun a2 ea => (nomatch ea), fun _ => h0 z⟩)⟩
  cases ea
  exact ⟨(W.t hk).s, c_Town_detail (by omega) (W.t hk) (h1 k hk e)⟩
theorem c_Mo_town {n : Nat} (hn : 4 ≤ n) {h : xh} (L : Lay h) {c : Nat} (W : TwM h c) {p w : Int32} {Q : Int32 → xh → Prop} (h1 : ∀ k, k < c → p = nI k → ∀ h', Fr PM h h' → Q (sTown (mT h k) w) h') (h0 : (∀ k, k < c → ¬ p = nI k) → ∀ h', Fr PM h h' → Q (-2) h') : xci (xMC n) 245 [.ref 166, .int p, .int w] h Q := by
  obtain ⟨n, rfl⟩ := xsucc (show 1 ≤ n by omega)
  have hs := L.s 166 (p := (11, 0))
  have P0 : PM 166 := Or.inl rfl
  refine w_Mo_town ⟨⟨by decide, hs⟩, b_Mo_town_5 ⟨hs, c_Mo_hand (by omega) (h := xsI h 166 0 0) L (c := c) W (fun k hk e h' f M => ⟨fun _ => ?_, fun z => absurd z (by decide)⟩) (fun z h' f => ⟨fun y => absurd rfl y, fun _ => h0 z h' ((Fr.rf.wI P0).tr f)⟩)⟩⟩
  have hQ := h1 k hk e h' ((Fr.rf.wI P0).tr f)
  have M' : Mt h' (mT h k) := M
  have s9 := stp9 M'.ok
  have hs' := M'.L.s 166 (p := (11, 0))
  refine c_Mo_in (by omega) (fun z => ⟨fun y => absurd y (by decide), fun _ => ⟨hs', ?_⟩⟩) (fun z => ⟨fun _ => c_Mo_in (by omega) (fun y => ⟨fun q => absurd q (by decide), fun _ => ⟨hs', ?_⟩⟩) (fun y => ⟨fun _ => ?_, fun q => absurd rfl q⟩), fun y => absurd rfl y⟩)
  · have hw : ¬ w < 0 := fun y => z.1 (by rw [Int32.lt_iff_toInt_lt] at y ⊢; have e1 : (10 : Int32).toInt = 10 := rfl; have e0 : (0 : Int32).toInt = 0 := rfl; omega)
    obtain ⟨j, hj, e⟩ := nI_of hw
    subst e
    have hj10 : 10 ≤ j := by
      by_cases y : 10 ≤ j
      · exact y
      · exact absurd (nI_lt (a := j) (b := 10) (by omega) (by decide)) z.1
    have hj79 : j ≤ 79 := by
      by_cases y : j ≤ 79
      · exact y
      · exact absurd (nI_lt (a := 79) (b := j) (by omega) hj) z.2
    have er : nI j - nI j / (10 : Int32) * (10 : Int32) = nI (j % 10) := pk_rem (d := 10) hj (by decide) (by decide)
    have ed : nI j / (10 : Int32) = nI (j / 10) := pk_div (d := 10) hj (by decide) (by decide)
    rw [er, ed]
    rw [sTown_n _ hj, if_neg (by omega)] at hQ
    refine c_Mo_isStop (by omega) M' (fun k2 hk2 e => ⟨fun q => absurd q (by decide), fun _ => ⟨hs', ?_⟩⟩) (fun y => ⟨fun _ => ?_, fun q => absurd rfl q⟩)
    · have e' := (nI_eq (by omega) (by omega)).mp e
      rw [if_pos (by omega)] at hQ
      refine c_Mo_of (by omega) M' ?_ (by omega) hQ
      rw [show nI (j / 10) - (1 : Int32) = nI (j / 10 - 1) from pk_sub (a := j / 10) (b := 1) (by omega), show (9 : Int32) * nI (j / 10 - 1) = nI (9 * (j / 10 - 1)) from pk_mul 9 _, show (7 : Int32) + nI (9 * (j / 10 - 1)) = nI (7 + 9 * (j / 10 - 1)) from nI_add 7 _, nI_add]
    · rwa [if_neg (fun q => y _ q.2.2 rfl)] at hQ
  · obtain ⟨j, hj, e⟩ := xbw_of (m := 6) rfl y
    subst e
    rw [sTown_n _ (by omega), if_pos (by omega)] at hQ
    exact c_Mo_of (by omega) M' rfl (by omega) hQ
  · by_cases hw : w < 0
    · unfold sTown at hQ
      rwa [if_pos hw] at hQ
    · obtain ⟨j, hj, e⟩ := nI_of hw
      subst e
      have g1 : ¬ j ≤ 6 := fun q => y ⟨nI_pos hj, nI_nlt (a := 6) (b := j) q (by decide)⟩
      have g2 : ¬ (10 ≤ j ∧ j ≤ 79) := fun q => z ⟨nI_nlt (a := j) (b := 10) q.1 hj, nI_nlt (a := 79) (b := j) q.2 (by decide)⟩
      rwa [sTown_n _ hj, if_neg (by omega), if_neg (by omega)] at hQ
def sSafe (T : Nat → Int32) : Int32 := sumI (fun s => T (43 + s)) (stp T)
theorem c_So_safe {n : Nat} (hn : 2 ≤ n) {h : xh} (L : Lay h) {c : Nat} (W : TwC h c) {p : Int32} {Q : Int32 → xh → Prop} (h1 : ∀ k, k < c → p = nI k → Q (sSafe (mT h k)) h) (h0 : (∀ k, k < c → ¬ p = nI k) → Q (-1) h) : xci (xMC n) 171 [.ref 64, .int p] h Q := by
  obtain ⟨n, rfl⟩ := xsucc (show 1 ≤ n by omega)
  refine w_So_safe ⟨L.s 64, 65, L.r 64 0 65, L.s 65, c_Told_townAt (by omega) L W.1 W.2.1 (fun k hk e => ⟨fun a2 ea => ?_, fun z => nomatch z⟩) (fun z => ⟨fun a2 ea => (nomatch ea), fun _ => h0 z⟩)⟩
  cases ea
  exact ⟨(W.t hk).s, c_Town_mostInAll (by omega) (W.t hk) (h1 k hk e)⟩
theorem c_Mo_safe {n : Nat} (hn : 4 ≤ n) {h : xh} (L : Lay h) {c : Nat} (W : TwM h c) {p : Int32} {Q : Int32 → xh → Prop} (h1 : ∀ k, k < c → p = nI k → ∀ h', Fr PM h h' → Q (sSafe (mT h k)) h') (h0 : (∀ k, k < c → ¬ p = nI k) → ∀ h', Fr PM h h' → Q (-1) h') : xci (xMC n) 281 [.ref 166, .int p] h Q := by
  obtain ⟨n, rfl⟩ := xsucc (show 1 ≤ n by omega)
  have hs := L.s 166 (p := (11, 0))
  have P0 : PM 166 := Or.inl rfl
  refine w_Mo_safe ⟨⟨by decide, hs⟩, b_Mo_safe_5 ⟨hs, c_Mo_hand (by omega) (h := xsI h 166 0 0) L (c := c) W (fun k hk e h' f M => ⟨fun _ => ?_, fun z => absurd z (by decide)⟩) (fun z h' f => ⟨fun y => absurd rfl y, fun _ => h0 z h' ((Fr.rf.wI P0).tr f)⟩)⟩⟩
  have hQ := h1 k hk e h' ((Fr.rf.wI P0).tr f)
  have M' : Mt h' (mT h k) := M
  generalize mT h k = T at hQ M'
  have s9 := stp9 M'.ok
  have key : ∀ (d i : Nat), i + d = stp T → ∀ o1 : Option Value, K_Mo_safe n Q 19 [some (.ref 166), o1, some (.int (sumI (fun s => T (43 + s)) i)), some (.int (nI i))] [] h' := by
    intro d
    induction d with
    | zero =>
      intro i hi o1
      refine b_Mo_safe_19 ⟨M'.L.s 166, ?_⟩
      rw [M'.sp, ← hi]
      exact ⟨fun _ => by unfold sSafe at hQ; rw [← hi] at hQ; exact hQ, fun z => absurd (Int32.le_refl _) z⟩
    | succ d ih =>
      intro i hi o1
      refine b_Mo_safe_19 ⟨M'.L.s 166, ?_⟩
      rw [M'.sp]
      refine ⟨fun c => absurd c (nI_ge (by omega) (by omega)), fun _ => c_Mo_of (by omega) M' (nI_add 43 i) (by omega) ?_⟩
      rw [nI_1]
      exact ih (i + 1) (by omega) _
  exact key (stp T) 0 (by omega) _
