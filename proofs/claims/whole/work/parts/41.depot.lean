/-! depot and trail -/
theorem apt_comm (a b : Int32) : apt a b = apt b a := by
  unfold apt
  by_cases h1 : a < b
  · rw [if_pos h1, if_neg (fun z => Int32.lt_irrefl (Int32.lt_trans h1 z))]
  · by_cases h2 : b < a
    · rw [if_neg h1, if_pos h2]
    · have e := Int32.le_antisymm (Int32.not_lt.mp h2) (Int32.not_lt.mp h1)
      subst e
      rfl
/-- minutes from a place to all stops, people counted -/
def dfn (T : Nat → Int32) (p : Nat) : Int32 := sumI (fun s => T 3 * (apt (nI (p % 10)) (T (16 + s)) + apt (nI (p / 10)) (T (25 + s))) * mid T s) (stp T)
def dpb (T : Nat → Int32) : Nat → Nat
  | 0 => 0
  | i + 1 => if dfn T i < dfn T (dpb T i) then i else dpb T i
theorem dpb_lt (T : Nat → Int32) : ∀ i, dpb T i < i + 1
  | 0 => by unfold dpb; omega
  | i + 1 => by
    have := dpb_lt T i
    unfold dpb
    split <;> omega
def sDepot (T : Nat → Int32) (m : Int32) : Int32 := if m = 0 then nI (dpb T 100) else dfn T (dpb T 100)
theorem b9k {T : Nat → Int32} (ok : TnOK T) {k : Nat} (hk : k < stp T) : (0 ≤ T (16 + k) ∧ T (16 + k) ≤ 9) ∧ 0 ≤ T (25 + k) ∧ T (25 + k) ≤ 9 := by
  have s9 := stp9 ok
  have := b9 ok (nI k) (Or.inr ⟨k, hk, rfl⟩)
  rwa [colT_k T (by omega), rowT_k T (by omega)] at this
theorem n9 {x : Nat} (hx : x ≤ 9) : 0 ≤ nI x ∧ nI x ≤ 9 := ⟨nI_pos' (by omega), nI_le (a := x) (b := 9) hx (by decide)⟩
theorem c_Town_minutesFromPlace {n : Nat} (hn : 3 ≤ n) {h : xh} {t : Nat} {T : Nat → Int32} (H : Tn h t T) {p : Nat} (hp : p < 100) {Q : Int32 → xh → Prop} (hQ : Q (dfn T p) h) : xci (xMC n) 53 [.ref t, .int (nI p)] h Q := by
  obtain ⟨n, rfl⟩ := xsucc (show 1 ≤ n by omega)
  have e := H.ok.s6
  have s9 := e.2
  have key : ∀ (d i : Nat), i + d = stp T → K_Town_minutesFromPlace n Q 4 [some (.ref t), some (.int (nI p)), some (.int (sumI (fun s => T 3 * (apt (nI (p % 10)) (T (16 + s)) + apt (nI (p / 10)) (T (25 + s))) * mid T s) i)), some (.int (nI i))] [] h := by
    intro d
    induction d with
    | zero =>
      intro i hi
      refine b_Town_minutesFromPlace_4 ⟨H.s, ?_⟩
      rw [H.i 6, e.1, ← hi]
      exact ⟨fun _ => by unfold dfn at hQ; rw [← hi] at hQ; exact hQ, fun z => absurd (Int32.le_refl _) z⟩
    | succ d ih =>
      intro i hi
      have hi' : i < stp T := by omega
      refine b_Town_minutesFromPlace_4 ⟨H.s, ?_⟩
      rw [H.i 6, e.1]
      refine ⟨fun c => absurd c (nI_ge hi' (by omega)), fun _ => c_Town_middle (by omega) H hi' ⟨H.s, _, H.r 1, H.x 1 (by omega), c_Math_abs (by omega) ⟨H.s, _, H.r 2, H.x 2 (by omega), c_Math_abs (by omega) ?_⟩⟩⟩
      have q := b9k H.ok hi'
      have q1 := n9 (show p % 10 ≤ 9 by omega)
      have q2 := n9 (show p / 10 ≤ 9 by omega)
      rw [show nI p - nI p / (10 : Int32) * (10 : Int32) = nI (p % 10) from pk_rem (d := 10) (by omega) (by decide) (by decide), show nI p / (10 : Int32) = nI (p / 10) from pk_div (d := 10) (by omega) (by decide) (by decide), nI_clamp (by omega), H.v 1 hi', H.v 2 hi', nI_1, H.i 3]
      rw [apt_abs q.1.1 q.1.2 q1.1 q1.2, apt_abs q.2.1 q.2.2 q2.1 q2.2]
      have ih' := ih (i + 1) (by omega)
      unfold sumI at ih'
      have em : mid T i * T 3 * (apt (T (16 + i)) (nI (p % 10)) + apt (T (25 + i)) (nI (p / 10))) = T 3 * (apt (nI (p % 10)) (T (16 + i)) + apt (nI (p / 10)) (T (25 + i))) * mid T i := by
        rw [apt_comm (T (16 + i)), apt_comm (T (25 + i)), Int32.mul_comm (mid T i) (T 3), Int32.mul_assoc, Int32.mul_assoc, Int32.mul_comm (mid T i)]
      have em' : mid T i * T 3 * (apt (T (7 + 9 * 1 + i)) (nI (p % 10)) + apt (T (7 + 9 * 2 + i)) (nI (p / 10))) = T 3 * (apt (nI (p % 10)) (T (16 + i)) + apt (nI (p / 10)) (T (25 + i))) * mid T i := em
      rw [em']
      exact ih'
  exact w_Town_minutesFromPlace (key (stp T) 0 (by omega))
theorem c_So_depot {n : Nat} (hn : 4 ≤ n) {h : xh} (L : Lay h) {c : Nat} (W : TwC h c) {p m : Int32} {Q : Int32 → xh → Prop} (h1 : ∀ k, k < c → p = nI k → Q (sDepot (mT h k) m) h) (h0 : (∀ k, k < c → ¬ p = nI k) → Q (-1) h) : xci (xMC n) 178 [.ref 64, .int p, .int m] h Q := by
  obtain ⟨n, rfl⟩ := xsucc (show 1 ≤ n by omega)
  refine w_So_depot ⟨L.s 64, 65, L.r 64 0 65, L.s 65, c_Told_townAt (by omega) L W.1 W.2.1 (fun k hk e => ⟨fun a2 ea => ?_, fun z => nomatch z⟩) (fun z => ⟨fun a2 ea => (nomatch ea), fun _ => h0 z⟩)⟩
  cases ea
  have H := W.t hk
  have hQ := h1 k hk e
  generalize mT h k = T at H hQ
  have key : ∀ (d i : Nat), i + d = 100 → 1 ≤ i → ∀ o0 o1 o7 : Option Value, K_So_depot n Q 28 [o0, o1, some (.int m), some (.ref (69 + 8 * k)), some (.int (nI (dpb T i))), some (.int (dfn T (dpb T i))), some (.int (nI i)), o7] [] h := by
    intro d
    induction d with
    | zero =>
      intro i hi _ o0 o1 o7
      have : i = 100 := by omega
      subst this
      unfold sDepot at hQ
      refine b_So_depot_28 ⟨fun _ => ⟨fun z => ?_, fun z => ?_⟩, fun z => absurd (Int32.le_refl _) z⟩
      · rwa [if_pos z] at hQ
      · rwa [if_neg z] at hQ
    | succ d ih =>
      intro i hi h1i o0 o1 o7
      refine b_So_depot_28 ⟨fun c => absurd c (nI_ge (a := i) (b := 100) (by omega) (by decide)), fun _ => ⟨H.s, c_Town_minutesFromPlace (by omega) H (by omega) ?_⟩⟩
      have ih' := ih (i + 1) (by omega) (by omega)
      unfold dpb at ih'
      rw [nI_1]
      refine ⟨fun z => ?_, fun z => ?_⟩
      · rw [if_neg (Int32.not_lt.mpr z)] at ih'
        exact ih' _ _ _
      · rw [if_pos (Int32.not_le.mp z)] at ih'
        exact ih' _ _ _
  refine ⟨H.s, c_Town_minutesFromPlace (p := 0) (by omega) H (by omega) ?_⟩
  have k1 := key 99 1 (by omega) (by omega) (some (.ref 64)) (some (.int p)) none
  have e1 : dpb T 1 = 0 := by
    show (if dfn T 0 < dfn T 0 then 0 else 0) = 0
    split <;> rfl
  rw [e1] at k1
  exact k1
theorem c_Mo_drivenFrom {n : Nat} (hn : 3 ≤ n) {h : xh} {T : Nat → Int32} (M : Mt h T) {p : Nat} {x y : Int32} (hx : x = nI (p % 10)) (hy : y = nI (p / 10)) {Q : Int32 → xh → Prop} (hQ : Q (dfn T p) h) : xci (xMC n) 338 [.ref 166, .int x, .int y] h Q := by
  obtain ⟨n, rfl⟩ := xsucc (show 1 ≤ n by omega)
  subst hx
  subst hy
  have s9 := stp9 M.ok
  have hs := M.L.s 166 (p := (11, 0))
  have key : ∀ (d i : Nat), i + d = stp T → K_Mo_drivenFrom n Q 5 [some (.ref 166), some (.int (nI (p % 10))), some (.int (nI (p / 10))), some (.int (sumI (fun s => T 3 * (apt (nI (p % 10)) (T (16 + s)) + apt (nI (p / 10)) (T (25 + s))) * mid T s) i)), some (.int (nI i))] [] h := by
    intro d
    induction d with
    | zero =>
      intro i hi
      refine b_Mo_drivenFrom_5 ⟨hs, ?_⟩
      rw [M.sp, ← hi]
      exact ⟨fun _ => by unfold dfn at hQ; rw [← hi] at hQ; exact hQ, fun z => absurd (Int32.le_refl _) z⟩
    | succ d ih =>
      intro i hi
      have hi' : i < stp T := by omega
      refine b_Mo_drivenFrom_5 ⟨hs, ?_⟩
      rw [M.sp]
      refine ⟨fun c => absurd c (nI_ge hi' (by omega)), fun _ => c_Mo_of (by omega) M (nI_add 16 i) (by omega) (c_Mo_apart (by omega) ⟨hs, c_Mo_of (by omega) M (nI_add 25 i) (by omega) (c_Mo_apart (by omega) ⟨hs, c_Mo_middle (by omega) M hi' ?_⟩)⟩)⟩
      rw [nI_1, M.2.2.1.2.1]
      exact ih (i + 1) (by omega)
  exact w_Mo_drivenFrom (key (stp T) 0 (by omega))
theorem c_Mo_depot {n : Nat} (hn : 4 ≤ n) {h : xh} (L : Lay h) {c : Nat} (W : TwM h c) {p m : Int32} {Q : Int32 → xh → Prop} (h1 : ∀ k, k < c → p = nI k → ∀ h', Fr PM h h' → Q (sDepot (mT h k) m) h') (h0 : (∀ k, k < c → ¬ p = nI k) → ∀ h', Fr PM h h' → Q (-1) h') : xci (xMC n) 337 [.ref 166, .int p, .int m] h Q := by
  obtain ⟨n, rfl⟩ := xsucc (show 1 ≤ n by omega)
  have hs := L.s 166 (p := (11, 0))
  have P0 : PM 166 := Or.inl rfl
  refine w_Mo_depot ⟨⟨by decide, hs⟩, b_Mo_depot_5 ⟨hs, c_Mo_hand (by omega) (h := xsI h 166 0 0) L (c := c) W (fun k hk e h' f M => ⟨fun _ => ?_, fun z => absurd z (by decide)⟩) (fun z h' f => ⟨fun y => absurd rfl y, fun _ => h0 z h' ((Fr.rf.wI P0).tr f)⟩)⟩⟩
  have hQ := h1 k hk e h' ((Fr.rf.wI P0).tr f)
  have M' : Mt h' (mT h k) := M
  generalize mT h k = T at hQ M'
  have hs' := M'.L.s 166 (p := (11, 0))
  have er : ∀ j, j < 100 → nI j - nI j / (10 : Int32) * (10 : Int32) = nI (j % 10) := fun j hj => pk_rem (d := 10) (by omega) (by decide) (by decide)
  have ed : ∀ j, j < 100 → nI j / (10 : Int32) = nI (j / 10) := fun j hj => pk_div (d := 10) (by omega) (by decide) (by decide)
  have key : ∀ (d i : Nat), i + d = 100 → 1 ≤ i → ∀ o1 : Option Value, K_Mo_depot n Q 20 [some (.ref 166), o1, some (.int m), some (.int (nI (dpb T i))), some (.int (nI i))] [] h' := by
    intro d
    induction d with
    | zero =>
      intro i hi _ o1
      have : i = 100 := by omega
      subst this
      unfold sDepot at hQ
      have b : dpb T 100 < 100 := by
        show (if dfn T 99 < dfn T (dpb T 99) then 99 else dpb T 99) < 100
        have := dpb_lt T 99
        split <;> omega
      refine b_Mo_depot_20 ⟨fun _ => ⟨fun z => ?_, fun z => ⟨hs', c_Mo_drivenFrom (by omega) M' (er _ b) (ed _ b) ?_⟩⟩, fun z => absurd (Int32.le_refl _) z⟩
      · rwa [if_pos z] at hQ
      · rwa [if_neg z] at hQ
    | succ d ih =>
      intro i hi h1i o1
      have b := dpb_lt T i
      have b2 : dpb T i < 100 := by
        obtain ⟨j, rfl⟩ : ∃ j, i = j + 1 := ⟨i - 1, by omega⟩
        show (if dfn T j < dfn T (dpb T j) then j else dpb T j) < 100
        have := dpb_lt T j
        split <;> omega
      refine b_Mo_depot_20 ⟨fun c => absurd c (nI_ge (a := i) (b := 100) (by omega) (by decide)), fun _ => ⟨hs', c_Mo_drivenFrom (by omega) M' (er i (by omega)) (ed i (by omega)) ⟨hs', c_Mo_drivenFrom (by omega) M' (er _ b2) (ed _ b2) ?_⟩⟩⟩
      have ih' := ih (i + 1) (by omega) (by omega)
      unfold dpb at ih'
      rw [nI_1]
      refine ⟨fun z => ?_, fun z => ?_⟩
      · rw [if_neg (Int32.not_lt.mpr z)] at ih'
        exact ih' _
      · rw [if_pos (Int32.not_le.mp z)] at ih'
        exact ih' _
  have k1 := key 99 1 (by omega) (by omega) (some (.int p))
  have e1 : dpb T 1 = 0 := by
    show (if dfn T 0 < dfn T 0 then 0 else 0) = 0
    split <;> rfl
  rw [e1] at k1
  exact k1
theorem gol {T : Nat → Int32} (ok : TnOK T) {s : Nat} (hs : s < 9) : pl T (T (61 + s)) := by
  have e6 := ok.s6
  have s9 := e6.2
  obtain ⟨N, h1, h2, h3, _, h5⟩ := ok
  have hN : N 6 = stp T := by
    have := h1 6 (by omega)
    rw [e6.1] at this
    have h9 := h3.2.2.2.2.2.2.2.2
    exact ((nI_eq (by omega) (by omega)).mp this).symm
  have q := h5 s hs
  rw [h2 s hs]
  by_cases z : N (61 + s) = 0
  · left
    rw [z]
    decide
  · right
    refine ⟨N (61 + s) - 1, by omega, ?_⟩
    exact pk_sub (a := N (61 + s)) (b := 1) (by omega)
/-- who goes on, from stop to stop -/
def trl (T : Nat → Int32) : Nat → Nat → Int32 → Nat × Int32
  | 0, V, a => (V, a)
  | f + 1, V, a => if a = -1 ∨ V.testBit a.toNatClampNeg = true then (V, a) else trl T f (V ||| 2 ^ a.toNatClampNeg) (T (61 + a.toNatClampNeg))
theorem trl_s {T : Nat → Int32} {f V : Nat} {a : Int32} (h : a = -1 ∨ V.testBit a.toNatClampNeg = true) : trl T (f + 1) V a = (V, a) := if_pos h
theorem trl_g {T : Nat → Int32} {f V : Nat} {k : Nat} (hk : k < 2 ^ 31) (h : V.testBit k = false) : trl T (f + 1) V (nI k) = trl T f (V ||| 2 ^ k) (T (61 + k)) := by
  show (if nI k = -1 ∨ V.testBit (nI k).toNatClampNeg = true then (V, nI k) else trl T f (V ||| 2 ^ (nI k).toNatClampNeg) (T (61 + (nI k).toNatClampNeg))) = _
  rw [nI_clamp hk, if_neg]
  rintro (z | z)
  · exact nI_m1 hk z
  · rw [h] at z
    exact absurd z (by decide)
def rTrail (r : Nat × Int32) (ag : Int32) : Int32 := if ag = 0 then nI (pcn 9 r.1) - 1 else if r.2 = -1 then 0 else 1
def sTrail (T : Nat → Int32) (s : Nat) (ag : Int32) : Int32 := rTrail (trl T 9 (2 ^ s) (T (61 + s))) ag
theorem p2lt : ∀ s, s < 9 → 2 ^ s < 512 := by decide
theorem pcn1 : ∀ s, s < 9 → pcn 9 (2 ^ s) = 1 := by decide
theorem c_Town_trailFrom {n : Nat} (hn : 2 ≤ n) {h : xh} {t : Nat} {T : Nat → Int32} (H : Tn h t T) {s : Nat} (hs : s < stp T) {ag : Int32} {Q : Int32 → xh → Prop} (hQ : Q (sTrail T s ag) h) : xci (xMC n) 54 [.ref t, .int (nI s), .int ag] h Q := by
  obtain ⟨n, rfl⟩ := xsucc (show 1 ≤ n by omega)
  have s9 := stp9 H.ok
  have fin : ∀ (V : Nat) (a : Int32) (o1 o5 : Option Value), V < 512 → pl T a → Q (rTrail (V, a) ag) h → K_Town_trailFrom n Q 62 [some (.ref t), o1, some (.int ag), some (.int (nI V)), some (.int a), o5] [] h := by
    intro V a o1 o5 hV ha hR
    unfold rTrail at hR
    refine b_Town_trailFrom_62 ⟨fun z => c_Integer_bitCount (by omega) hV ?_, fun z => ⟨H.s, ?_⟩⟩
    · rwa [if_pos z] at hR
    · rw [if_neg z] at hR
      rcases ha with e | ⟨k, hk, e⟩
      · subst e
        exact H.hs0 (by omega) (fun k hk z => nI_m1 (by omega) z.symm) ⟨fun _ => hR, fun z => absurd rfl z⟩
      · subst e
        rw [if_neg (nI_m1 (by omega))] at hR
        exact H.hs (by omega) hk ⟨fun z => absurd z (by decide), fun _ => hR⟩
  have key : ∀ (f V : Nat) (a : Int32), V < 512 → pl T a → pcn 9 V + f = 10 ∧ f ≤ 9 → ∀ o1 : Option Value, Q (rTrail (trl T f V a) ag) h → K_Town_trailFrom n Q 15 [some (.ref t), o1, some (.int ag), some (.int (nI V)), some (.int a), some (.int (nI (9 - f)))] [] h := by
    intro f
    induction f with
    | zero =>
      intro V a hV ha hf
      have := pcn_le 9 V
      omega
    | succ f ih =>
      intro V a hV ha hf o1 hR
      have hp := pcn_le 9 V
      refine b_Town_trailFrom_15 ⟨fun c => absurd c (nI_ge (a := 9 - (f + 1)) (b := 9) (by omega) (by decide)), fun _ => ⟨H.s, ?_⟩⟩
      rcases ha with e | ⟨k, hk, e⟩
      · subst e
        rw [trl_s (Or.inl rfl)] at hR
        exact H.hs0 (by omega) (fun k hk z => nI_m1 (by omega) z.symm) ⟨fun _ => fin _ _ _ _ hV (Or.inl rfl) hR, fun z => absurd rfl z⟩
      · subst e
        refine H.hs (by omega) hk ⟨fun z => absurd z (by decide), fun _ => ?_⟩
        rw [bt_has V hV k (by omega)]
        cases hb : V.testBit k
        · refine ⟨fun z => absurd rfl z, fun _ => ⟨H.s, _, H.r 6, H.x 6 (by omega), ?_⟩⟩
          rw [trl_g (by omega) hb] at hR
          rw [nI_clamp (by omega), H.f 6 (by omega), bt_set V (by omega), nI_1]
          have hlt : V ||| 2 ^ k < 512 := orb_lt (k := 9) hV (by omega)
          have hc := pcn_or hb 9
          rw [if_pos (by omega)] at hc
          by_cases hf0 : f = 0
          · subst hf0
            have := pcn_le 9 (V ||| 2 ^ k)
            omega
          · have e9 : 9 - (f + 1) + 1 = 9 - f := by omega
            rw [e9]
            exact ih _ _ hlt (gol H.ok (by omega)) ⟨by omega, by omega⟩ _ hR
        · rw [trl_s (Or.inr (by rw [nI_clamp (by omega)]; exact hb))] at hR
          exact ⟨fun _ => fin _ _ _ _ hV (Or.inr ⟨k, hk, rfl⟩) hR, fun z => absurd z (by decide)⟩
  refine w_Town_trailFrom ⟨H.s, _, H.r 6, H.x 6 (by omega), ?_⟩
  rw [nI_clamp (by omega), H.f 6 (by omega), bt_shl s (by omega)]
  exact key 9 (2 ^ s) _ (p2lt s (by omega)) (gol H.ok (by omega)) ⟨by rw [pcn1 s (by omega)], by omega⟩ _ hQ
theorem c_So_trail {n : Nat} (hn : 3 ≤ n) {h : xh} (L : Lay h) {c : Nat} (W : TwC h c) {p s ag : Int32} {Q : Int32 → xh → Prop} (h1 : ∀ k, k < c → p = nI k → ∀ s', s' < stp (mT h k) → s = nI s' → Q (sTrail (mT h k) s' ag) h) (h2 : ∀ k, k < c → p = nI k → (∀ s', s' < stp (mT h k) → ¬ s = nI s') → Q (-1) h) (h0 : (∀ k, k < c → ¬ p = nI k) → Q (-1) h) : xci (xMC n) 180 [.ref 64, .int p, .int s, .int ag] h Q := by
  obtain ⟨n, rfl⟩ := xsucc (show 1 ≤ n by omega)
  refine w_So_trail ⟨L.s 64, 65, L.r 64 0 65, L.s 65, c_Told_townAt (by omega) L W.1 W.2.1 (fun k hk e => ⟨fun a2 ea => ?_, fun z => nomatch z⟩) (fun z => ⟨fun a2 ea => (nomatch ea), fun _ => h0 z⟩)⟩
  cases ea
  refine ⟨(W.t hk).s, c_Town_hasStop (by omega) (W.t hk) (fun s' hs' es => ⟨fun _ => ⟨(W.t hk).s, ?_⟩, fun z => absurd z (by decide)⟩) (fun z => ⟨fun y => absurd rfl y, fun _ => h2 k hk e z⟩)⟩
  subst es
  exact c_Town_trailFrom (by omega) (W.t hk) hs' (h1 k hk e s' hs' rfl)
theorem c_Mo_trail {n : Nat} (hn : 4 ≤ n) {h : xh} (L : Lay h) {c : Nat} (W : TwM h c) {p s ag : Int32} {Q : Int32 → xh → Prop} (h1 : ∀ k, k < c → p = nI k → ∀ s', s' < stp (mT h k) → s = nI s' → ∀ h', Fr PM h h' → Q (sTrail (mT h k) s' ag) h') (h2 : ∀ k, k < c → p = nI k → (∀ s', s' < stp (mT h k) → ¬ s = nI s') → ∀ h', Fr PM h h' → Q (-1) h') (h0 : (∀ k, k < c → ¬ p = nI k) → ∀ h', Fr PM h h' → Q (-1) h') : xci (xMC n) 340 [.ref 166, .int p, .int s, .int ag] h Q := by
  obtain ⟨n, rfl⟩ := xsucc (show 1 ≤ n by omega)
  have hs := L.s 166 (p := (11, 0))
  have P0 : PM 166 := Or.inl rfl
  refine w_Mo_trail ⟨⟨by decide, hs⟩, b_Mo_trail_5 ⟨hs, c_Mo_hand (by omega) (h := xsI h 166 0 0) L (c := c) W (fun k hk e h' f M => ⟨fun z => absurd z (by decide), fun _ => ⟨M.L.s 166, ?_⟩⟩) (fun z h' f => ⟨fun _ => h0 z h' ((Fr.rf.wI P0).tr f), fun y => absurd rfl y⟩)⟩⟩
  have hQ1 := fun s' hs' es => h1 k hk e s' hs' es h' ((Fr.rf.wI P0).tr f)
  have hQ2 := fun z => h2 k hk e z h' ((Fr.rf.wI P0).tr f)
  have M' : Mt h' (mT h k) := M
  generalize mT h k = T at hQ1 hQ2 M'
  have s9 := stp9 M'.ok
  have hs' := M'.L.s 166 (p := (11, 0))
  refine c_Mo_isStop (by omega) M' (fun s' hs1 es => ⟨fun _ => ⟨hs', ?_⟩, fun z => absurd z (by decide)⟩) (fun z => ⟨fun y => absurd rfl y, fun _ => hQ2 z⟩)
  have hQ := hQ1 s' hs1 es
  subst es
  have fin : ∀ (V : Nat) (a : Int32) (o0 o1 o2 : Option Value), V < 512 → Q (rTrail (V, a) ag) h' → K_Mo_trail n Q 77 [o0, o1, o2, some (.int ag), some (.int (nI V)), some (.int a)] [] h' := by
    intro V a o0 o1 o2 hV hR
    unfold rTrail at hR
    refine b_Mo_trail_77 ⟨fun z => c_Mo_ones (by omega) hV ?_, fun z => ⟨fun y => ?_, fun y => ?_⟩⟩
    · rwa [if_pos z] at hR
    · rwa [if_neg z, if_neg y] at hR
    · rwa [if_neg z, if_pos y] at hR
  have key : ∀ (f V : Nat) (a : Int32), V < 512 → pl T a → pcn 9 V + f = 10 → ∀ o1 o2 : Option Value, Q (rTrail (trl T f V a) ag) h' → K_Mo_trail n Q 38 [some (.ref 166), o1, o2, some (.int ag), some (.int (nI V)), some (.int a)] [] h' := by
    intro f
    induction f with
    | zero =>
      intro V a hV ha hf
      have := pcn_le 9 V
      omega
    | succ f ih =>
      intro V a hV ha hf o1 o2 hR
      have hp := pcn_le 9 V
      rcases ha with e | ⟨k, hk, e⟩
      · subst e
        rw [trl_s (Or.inl rfl)] at hR
        exact b_Mo_trail_38 ⟨fun _ => fin _ _ _ _ _ hV hR, fun z => absurd rfl z⟩
      · subst e
        refine b_Mo_trail_38 ⟨fun z => absurd z (nI_m1 (by omega)), fun _ => c_Mo_has (by omega) hV (by omega) ?_⟩
        cases hb : V.testBit k
        · refine ⟨fun z => absurd rfl z, fun _ => ⟨hs', c_Mo_of (by omega) M' (nI_add 61 k) (by omega) ?_⟩⟩
          rw [trl_g (by omega) hb] at hR
          rw [bt_set V (by omega)]
          have hlt : V ||| 2 ^ k < 512 := orb_lt (k := 9) hV (by omega)
          have hc := pcn_or hb 9
          rw [if_pos (by omega)] at hc
          exact ih _ _ hlt (gol M'.ok (by omega)) (by omega) _ _ hR
        · rw [trl_s (Or.inr (by rw [nI_clamp (by omega)]; exact hb))] at hR
          exact ⟨fun _ => fin _ _ _ _ _ hV hR, fun z => absurd z (by decide)⟩
  refine c_Mo_of (by omega) M' (nI_add 61 s') (by omega) ?_
  rw [bt_shl s' (by omega)]
  exact key 9 (2 ^ s') _ (p2lt s' (by omega)) (gol M'.ok (by omega)) (by rw [pcn1 s' (by omega)]) _ _ hQ
