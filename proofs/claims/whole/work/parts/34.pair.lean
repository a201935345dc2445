/-! pair -/
def fm (t v r : Nat) : Nat := (t + 12 * r - v) % r
def fmI (x y : Int32) : Int32 := if 0 ≤ (x ^^^ y) then x - x / y * y else if x - x / y * y = 0 then x - x / y * y else x - x / y * y + y
theorem fm_c : ∀ t, t < 100 → ∀ v, v < 12 → ∀ r, r < 12 → r ≠ 0 → fmI (nI t - nI v) (nI r) = nI (fm t v r) := by decide +kernel
def fmR (t v r : Int32) : Int32 := (t - t / r * r - (v - v / r * r) + r) - (t - t / r * r - (v - v / r * r) + r) / r * r
theorem fm_r : ∀ t, t < 100 → ∀ v, v < 12 → ∀ r, r < 12 → r ≠ 0 → fmR (nI t) (nI v) (nI r) = nI (fm t v r) := by decide +kernel
theorem fm_2 : ∀ t, t < 100 → ∀ r, r < 12 → ∀ v, v < r → (fm t v r = v ↔ 2 * v % r = t % r) := by decide +kernel
theorem fm_x : ∀ t, t < 100 → ∀ r, r < 12 → r % 2 = 1 → ∃ v, v < r ∧ 2 * v % r = t % r := by decide +kernel
theorem c_Math_floorMod {n : Nat} (hn : 1 ≤ n) {h : xh} {t v r : Nat} (ht : t < 100) (hv : v < 12) (hr : r < 12) (hr0 : r ≠ 0) {Q : Int32 → xh → Prop} (hQ : Q (nI (fm t v r)) h) : xci (xMC n) 5 [.int (nI t - nI v), .int (nI r)] h Q := by
  obtain ⟨n, rfl⟩ := xsucc hn
  rw [← fm_c t ht v hv r hr hr0] at hQ
  unfold fmI at hQ
  refine w_Math_floorMod ⟨nI_ne0 (by omega) (by omega), fun c => ?_, fun c => ⟨fun c2 => ?_, fun c2 => ?_⟩⟩
  · rwa [if_pos c] at hQ
  · rwa [if_neg c, if_pos c2] at hQ
  · rwa [if_neg c, if_neg c2] at hQ
def rng (n : Nat) : Nat := if n % 2 = 0 then n - 1 else n
def pairN (n t v : Nat) : Int32 := if v = rng n then fst (fun w => decide (2 * w % rng n = t % rng n)) (rng n) 0 else if fm t v (rng n) = v then (if n % 2 = 0 then nI (rng n) else -1) else nI (fm t v (rng n))
def sPair (n t v : Int32) : Int32 := if (¬ n < 2 ∧ ¬ 12 < n) ∧ (¬ t < 0 ∧ ¬ 99 < t) ∧ (¬ v < 0 ∧ v < n) then pairN n.toNatClampNeg t.toNatClampNeg v.toNatClampNeg else -2
theorem sPair_no {n t v : Int32} (h : ¬ ((¬ n < 2 ∧ ¬ 12 < n) ∧ (¬ t < 0 ∧ ¬ 99 < t) ∧ (¬ v < 0 ∧ v < n))) : sPair n t v = -2 := if_neg h
theorem sPair_yes {n t v : Nat} (h2 : 2 ≤ n) (hn : n ≤ 12) (ht : t ≤ 99) (hv : v < n) : sPair (nI n) (nI t) (nI v) = pairN n t v := by
  have e : sPair (nI n) (nI t) (nI v) = pairN (nI n).toNatClampNeg (nI t).toNatClampNeg (nI v).toNatClampNeg := if_pos ⟨⟨nI_nlt (a := n) (b := 2) h2 (by omega), nI_nlt (a := 12) (b := n) hn (by omega)⟩, ⟨nI_pos (by omega), nI_nlt (a := 99) (b := t) ht (by omega)⟩, nI_pos (by omega), nI_lt hv (by omega)⟩
  rw [e, nI_clamp (by omega), nI_clamp (by omega), nI_clamp (by omega)]
theorem xof2 {x : Int32} (h1 : ¬ x < 2) (h2 : ¬ 12 < x) : ∃ j : Nat, 2 ≤ j ∧ j ≤ 12 ∧ x = nI j := by
  have h0 : ¬ x < 0 := fun z => h1 (by rw [Int32.lt_iff_toInt_lt] at z ⊢; have e1 : (2 : Int32).toInt = 2 := rfl; have e0 : (0 : Int32).toInt = 0 := rfl; omega)
  obtain ⟨j, hj, rfl⟩ := nI_of2 (M := 12) (n := 12) rfl h0 (Int32.not_lt.mp h2)
  refine ⟨j, ?_, hj, rfl⟩
  by_cases hz : 2 ≤ j
  · exact hz
  · exact absurd (nI_lt (a := j) (b := 2) (by omega) (by decide)) h1
theorem rem2 {n : Nat} (hn : n ≤ 12) : nI n - nI n / (2 : Int32) * (2 : Int32) = nI (n % 2) := pk_rem (d := 2) (by omega) (by decide) (by decide)
theorem k_So_alone {n : Nat} {h : xh} {r t : Nat} (hr : r < 12) (ht : t < 100) {Q : Int32 → xh → Prop} (hn : 1 ≤ n) : ∀ (d i : Nat), i + d = r → Q (fst (fun w => decide (2 * w % r = t % r)) d i) h → K_So_alone n Q 2 [some (.int (nI r)), some (.int (nI t)), some (.int (nI i))] [] h
  | 0, i, e, hQ => by
    have e' : i = r := by omega
    subst e'
    exact b_So_alone_2 ⟨fun _ => hQ, fun z => absurd (Int32.le_refl _) z⟩
  | d + 1, i, e, hQ => by
    refine b_So_alone_2 ⟨fun c => absurd ((nI_leI (by omega) (by omega)).mp c) (by omega), fun _ => c_Math_floorMod hn ht (by omega) hr (by omega) ?_⟩
    have h2 := fm_2 t ht r hr i (by omega)
    have hfl : fm t i r < r := Nat.mod_lt _ (by omega)
    refine ⟨fun z => ?_, fun z => ?_⟩
    · rw [nI_1]
      refine k_So_alone hr ht hn d (i + 1) (by omega) ?_
      have hne : ¬ (2 * i % r = t % r) := fun y => z (by rw [h2.mpr y])
      simp only [fst, decide_eq_false hne] at hQ
      exact hQ
    · have he : 2 * i % r = t % r := h2.mp ((nI_eq (by omega) (by omega)).mp z)
      simp only [fst, decide_eq_true he, if_pos] at hQ
      exact hQ
theorem c_So_pair {n : Nat} (hn : 3 ≤ n) {h : xh} {a0 : Nat} {k t v : Int32} {Q : Int32 → xh → Prop} (hQ : Q (sPair k t v) h) : xci (xMC n) 205 [.ref a0, .int k, .int t, .int v] h Q := by
  obtain ⟨n, rfl⟩ := xsucc (show 1 ≤ n by omega)
  refine w_So_pair ⟨fun z => ?_, fun z1 => ⟨fun z => ?_, fun z2 => ⟨fun z => ?_, fun z3 => ⟨fun z => ?_, fun z4 => ⟨fun z => ?_, fun z5 => ⟨fun z6 => ?_, fun z => ?_⟩⟩⟩⟩⟩⟩
  · rwa [sPair_no (fun y => y.1.1 z)] at hQ
  · rwa [sPair_no (fun y => y.1.2 z)] at hQ
  · rwa [sPair_no (fun y => y.2.1.1 z)] at hQ
  · rwa [sPair_no (fun y => y.2.1.2 z)] at hQ
  · rwa [sPair_no (fun y => y.2.2.1 z)] at hQ
  · obtain ⟨k, h2, hk, rfl⟩ := xof2 z1 z2
    obtain ⟨t, ht, rfl⟩ := nI_of2 (M := 99) (n := 99) rfl z3 (Int32.not_lt.mp z4)
    obtain ⟨v, hv31, rfl⟩ := nI_of z5
    have hv : v < k := (nI_ltI hv31 (by omega)).mp z6
    rw [sPair_yes h2 hk ht hv] at hQ
    rw [rem2 hk]
    have key : K_So_pair n Q 46 [some (.ref a0), some (.int (nI k)), some (.int (nI t)), some (.int (nI v)), none, none] [.int (nI (rng k))] h := by
      have hr1 : rng k < 12 ∧ rng k ≠ 0 ∧ rng k % 2 = 1 ∧ (rng k = k ↔ ¬ k % 2 = 0) := by unfold rng; split <;> omega
      unfold pairN at hQ
      refine b_So_pair_46 ⟨fun z => ?_, fun z => ?_⟩
      · have hne : ¬ v = rng k := fun y => z (by rw [y])
        rw [if_neg hne] at hQ
        refine c_Math_floorMod (by omega) (by omega) (by omega) hr1.1 hr1.2.1 ⟨fun y => ?_, fun y => ?_⟩
        · have hfl : fm t v (rng k) < rng k := Nat.mod_lt _ (by omega)
          rw [if_pos ((nI_eq (by omega) (by omega)).mp y)] at hQ
          refine ⟨fun w => ?_, fun w => ?_⟩
          · have hk2 : k % 2 = 0 := by
              by_cases hk2 : k % 2 = 0
              · exact hk2
              · exact absurd (by rw [hr1.2.2.2.mpr hk2]) w
            rwa [if_pos hk2] at hQ
          · have e := (nI_eq (by omega) (by omega)).mp w
            rwa [if_neg (hr1.2.2.2.mp e)] at hQ
        · rwa [if_neg (fun y2 => y (by rw [y2]))] at hQ
      · have e := (nI_eq (by omega) (by omega)).mp z
        rw [if_pos e] at hQ
        obtain ⟨n, rfl⟩ := xsucc (show 1 ≤ n by omega)
        exact w_So_alone (k_So_alone hr1.1 (by omega) (by omega) _ 0 (by omega) hQ)
    refine ⟨fun z => ?_, fun z => ?_⟩
    · have e : rng k = k := by
        unfold rng
        rw [if_neg (fun y => z (by rw [y]; rfl))]
      rw [e] at key
      exact key
    · have e0 : k % 2 = 0 := by
        have := (nI_eq (b := 0) (show k % 2 < 2 ^ 31 by omega) (by decide)).mp z
        exact this
      have e : rng k = k - 1 := by unfold rng; rw [if_pos e0]
      have e2 : nI k - (1 : Int32) = nI (k - 1) := pk_sub (a := k) (b := 1) (by omega)
      rw [e] at key
      rw [e2]
      exact key
  · rwa [sPair_no (fun y => z y.2.2.2)] at hQ
theorem k_Mo_pair {n : Nat} {h : xh} {r t w0 : Nat} (hr : r < 12) (hr0 : r ≠ 0) (hw : w0 < r) (hw2 : 2 * w0 % r = t % r) {Q : Int32 → xh → Prop} : ∀ (d i : Nat), i + d = r → i ≤ w0 → Q (fst (fun w => decide (2 * w % r = t % r)) d i) h → ∀ (o0 o1 o2 o3 : Option Value), K_Mo_pair n Q 69 [o0, o1, o2, o3, some (.int (nI r)), some (.int (nI (t % r))), some (.int (nI i))] [] h
  | 0, i, e, hi, hQ, o0, o1, o2, o3 => by omega
  | d + 1, i, e, hi, hQ, o0, o1, o2, o3 => by
    refine b_Mo_pair_69 ⟨nI_ne0 (by omega) (by omega), ?_⟩
    have e1 : (2 : Int32) * nI i = nI (2 * i) := pk_mul 2 i
    rw [e1, pk_rem (by omega) (by omega) (by omega)]
    have hlt : 2 * i % r < r := Nat.mod_lt _ (by omega)
    have hlt2 : t % r < r := Nat.mod_lt _ (by omega)
    refine ⟨fun z => ?_, fun z => ?_⟩
    · have he := (nI_eq (by omega) (by omega)).mp z
      simp only [fst, decide_eq_true he, if_pos] at hQ
      exact hQ
    · have hne : ¬ (2 * i % r = t % r) := fun y => z (by rw [y])
      simp only [fst, decide_eq_false hne] at hQ
      rw [nI_1]
      have hiw : i ≠ w0 := fun y => hne (by rw [y]; exact hw2)
      exact k_Mo_pair hr hr0 hw hw2 d (i + 1) (by omega) (by omega) hQ _ _ _ _
theorem c_Mo_pair {n : Nat} (hn : 3 ≤ n) {h : xh} {m0 : Nat} (hm : 64 ≤ m0 ∧ xS h m0 = (11, 0)) {k t v : Int32} {Q : Int32 → xh → Prop} (hQ : Q (sPair k t v) (xsI h m0 0 0)) : xci (xMC n) 332 [.ref m0, .int k, .int t, .int v] h Q := by
  obtain ⟨n, rfl⟩ := xsucc (show 1 ≤ n by omega)
  refine w_Mo_pair ⟨hm, b_Mo_pair_5 (c_Mo_in (by omega) (fun c1 => ⟨fun z => absurd z (by decide), fun _ => c_Mo_in (by omega) (fun c2 => ⟨fun z => absurd z (by decide), fun _ => ?_⟩) (fun c2 => ⟨fun _ => ?_, fun z => absurd rfl z⟩)⟩) (fun c1 => ⟨fun _ => ?_, fun z => absurd rfl z⟩))⟩
  · generalize xsI h m0 0 0 = h at hQ ⊢
    obtain ⟨k, h2, hk, rfl⟩ := xof2 c1.1 c1.2
    obtain ⟨t, ht, rfl⟩ := xbw_of (m := 99) rfl c2
    have e2 : nI k - (1 : Int32) = nI (k - 1) := pk_sub (a := k) (b := 1) (by omega)
    rw [e2]
    refine c_Mo_in (by omega) (fun c3 => ⟨fun _ => ?_, fun z => absurd z (by decide)⟩) (fun c3 => ⟨fun z => absurd rfl z, fun _ => ?_⟩)
    · obtain ⟨v, hv', rfl⟩ := xbw_of (m := k - 1) (nI_toInt (by omega)) c3
      have hv : v < k := by omega
      rw [sPair_yes h2 hk ht hv] at hQ
      rw [rem2 hk]
      have key : ∀ (o0 o4 o5 o6 : Option Value), K_Mo_pair n Q 52 [o0, some (.int (nI k)), some (.int (nI t)), some (.int (nI v)), o4, o5, o6] [.int (nI (rng k))] h := by
        intro o0 o4 o5 o6
        have hr1 : rng k < 12 ∧ rng k ≠ 0 ∧ rng k % 2 = 1 ∧ (rng k = k ↔ ¬ k % 2 = 0) := by unfold rng; split <;> omega
        unfold pairN at hQ
        have hfl : fm t v (rng k) < rng k := Nat.mod_lt _ (by omega)
        refine b_Mo_pair_52 ⟨nI_ne0 (by omega) (by omega), fun z => ?_, fun z => ?_⟩
        · have hne : ¬ v = rng k := fun y => z (by rw [y])
          rw [if_neg hne] at hQ
          have ef := fm_r t (by omega) v (by omega) (rng k) hr1.1 hr1.2.1
          unfold fmR at ef
          rw [ef, rem2 hk]
          refine ⟨fun y => ?_, fun y => ?_⟩
          · rw [if_pos ((nI_eq (by omega) (by omega)).mp y)] at hQ
            refine ⟨fun w => ?_, fun w => ?_⟩
            · rwa [if_neg (fun y2 => w (by rw [y2]; rfl))] at hQ
            · have e0 : k % 2 = 0 := (nI_eq (b := 0) (show k % 2 < 2 ^ 31 by omega) (by decide)).mp w
              rwa [if_pos e0] at hQ
          · rwa [if_neg (fun y2 => y (by rw [y2]))] at hQ
        · have e := (nI_eq (by omega) (by omega)).mp z
          rw [if_pos e] at hQ
          obtain ⟨w0, hw, hw2⟩ := fm_x t (by omega) (rng k) hr1.1 hr1.2.2.1
          rw [pk_rem (by omega) (by omega) (by omega)]
          exact k_Mo_pair hr1.1 hr1.2.1 hw hw2 (rng k) 0 (by omega) (by omega) hQ _ _ _ _
      refine ⟨fun z => ?_, fun z => ?_⟩
      · have e : rng k = k := by
          unfold rng
          rw [if_neg (fun y => z (by rw [y]; rfl))]
        rw [e] at key
        exact key _ _ _ _
      · have e0 : k % 2 = 0 := (nI_eq (b := 0) (show k % 2 < 2 ^ 31 by omega) (by decide)).mp z
        have e : rng k = k - 1 := by unfold rng; rw [if_pos e0]
        rw [e] at key
        exact key _ _ _ _
    · rwa [sPair_no (fun y => c3 ⟨y.2.2.1, fun w => by
        have h1 := y.2.2.2
        have e3 : (nI (k - 1)).toInt = ((k - 1 : Nat) : Int) := nI_toInt (by omega)
        have e4 : (nI k).toInt = (k : Int) := nI_toInt (by omega)
        rw [Int32.lt_iff_toInt_lt] at h1 w
        omega⟩)] at hQ
  · rwa [sPair_no (fun y => c2 y.2.1)] at hQ
  · rwa [sPair_no (fun y => c1 y.1)] at hQ
