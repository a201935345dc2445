/-! TALKS and CHAT: numbers -/
def wA (T : Nat → Int32) : Nat := ppl T (stp T)
theorem pplA {T : Nat → Int32} : ∀ i, (wA T).testBit i = true → 0 < mdN T i := fun i hi => by
  unfold wA at hi
  rw [ppl_bit] at hi
  simp only [Bool.and_eq_true, decide_eq_true_eq] at hi
  exact hi.2
theorem and_or {S V s : Nat} (h : V.testBit s = false) (hs : s < 9) : pcn 9 (S &&& (V ||| 2 ^ s)) = pcn 9 (S &&& V) + if S.testBit s = true then 1 else 0 := by
  by_cases c : S.testBit s = true
  · rw [if_pos c]
    have e : S &&& (V ||| 2 ^ s) = (S &&& V) ||| 2 ^ s := by
      apply Nat.eq_of_testBit_eq
      intro i
      rw [Nat.testBit_and, or_bit, or_bit, Nat.testBit_and]
      by_cases q : s = i
      · subst q; rw [c]; simp
      · simp [q]
    rw [e, pcn9_or (by rw [Nat.testBit_and, h, Bool.and_false]) hs]
  · rw [if_neg c]
    have e : S &&& (V ||| 2 ^ s) = S &&& V := by
      apply Nat.eq_of_testBit_eq
      intro i
      rw [Nat.testBit_and, or_bit, Nat.testBit_and]
      by_cases q : s = i
      · subst q
        have : S.testBit s = false := by cases w : S.testBit s <;> first | rfl | exact absurd w c
        rw [this]; rfl
      · simp [q]
    rw [e]; rfl
/-- the row's last stop; when she comes there; how many talks ahead of it -/
def laN (T : Nat → Int32) (A p m : Nat) : Nat := wk T A p m (wl T A p m - 1)
def coN (T : Nat → Int32) (A p m : Nat) : Nat := m - fdN T (laN T A p m)
def ahN (T : Nat → Int32) (A p m : Nat) : Nat := (wq T A p m (wl T A p m - 1)).1
def roN (T : Nat → Int32) (A p m : Nat) : Nat := (wq T A p m (wl T A p m)).1
def tkN (T : Nat → Int32) (A p m : Nat) : Nat := (clN T - 1 - coN T A p m) / bN T 5
theorem wq_st {T : Nat → Int32} (ok : TnOK T) {A p m i : Nat} (B : Best T A p m) (hi : i < wl T A p m) : dn T (wq T A p m (i + 1)).1 (wq T A p m (i + 1)).2 = dn T (wq T A p m i).1 (wq T A p m i).2 + dr T (wq T A p m i).2 (wk T A p m i) + fdN T (wk T A p m i) ∧ (wq T A p m i).1.testBit (wk T A p m i) = false := by
  obtain ⟨k1, k2⟩ := wk_w ok B hi
  obtain ⟨_, _, q3, q4⟩ := wst_s ok (wq_w ok B (by omega)).1 k1 k2
  rw [wq_s]
  exact ⟨q3, q4⟩
theorem co_p {T : Nat → Int32} (ok : TnOK T) {A p m : Nat} (hA : ∀ i, A.testBit i = true → 0 < mdN T i) (B : Best T A p m) (h0 : 0 < wl T A p m) : coN T A p m < clN T ∧ laN T A p m < stp T ∧ m = coN T A p m + fdN T (laN T A p m) ∧ coN T A p m = dn T (wq T A p m (wl T A p m - 1)).1 (wq T A p m (wl T A p m - 1)).2 + dr T (wq T A p m (wl T A p m - 1)).2 (laN T A p m) := by
  have e := wl_m ok hA B h0
  obtain ⟨s1, s2⟩ := wq_st ok B (i := wl T A p m - 1) (by omega)
  rw [show wl T A p m - 1 + 1 = wl T A p m by omega] at s1
  have k := wk_w ok B (i := wl T A p m - 1) (by omega)
  have w := (wq_w ok B (Nat.le_refl (wl T A p m))).1.gs ok B
  have el : (wq T A p m (wl T A p m)).2 = laN T A p m := by
    obtain ⟨j, hj⟩ : ∃ j, wl T A p m = j + 1 := ⟨wl T A p m - 1, by omega⟩
    unfold laN
    rw [hj, wq_s]; rfl
  have hl : laN T A p m < stp T := k.1
  have g := w.2.2
  rw [el] at g e s1
  rw [e] at g s1
  have s1' : m = dn T (wq T A p m (wl T A p m - 1)).1 (wq T A p m (wl T A p m - 1)).2 + dr T (wq T A p m (wl T A p m - 1)).2 (laN T A p m) + fdN T (laN T A p m) := s1
  rcases g with z | z
  · have s9 := stp9 ok
    omega
  · unfold coN
    exact ⟨by omega, hl, by omega, by omega⟩
theorem tk_i {T : Nat → Int32} (ok : TnOK T) {A p m x : Nat} (hA : ∀ i, A.testBit i = true → 0 < mdN T i) (B : Best T A p m) (h0 : 0 < wl T A p m) : coN T A p m + x * bN T 5 < clN T ↔ x ≤ tkN T A p m := by
  have l := (co_p ok hA B h0).1
  have h5 := ok.hm.2.2.2.2.2.1
  unfold tkN
  rw [Nat.le_div_iff_mul_le (by omega)]
  omega
theorem tk_b {T : Nat → Int32} (ok : TnOK T) {A p m : Nat} : tkN T A p m ≤ 99 := by
  have l4 : clN T ≤ 99 := ok.hm.2.2.2.1.2
  unfold tkN
  exact Nat.le_trans (Nat.div_le_self _ _) (by omega)
/-- all are WARM with so many talks at the stops of S, as far as the k first -/
theorem warm_k {T : Nat → Int32} (ok : TnOK T) {A p m S x : Nat} (hA : ∀ i, A.testBit i = true → 0 < mdN T i) (B : Best T A p m) (h0 : 0 < wl T A p m) : ∀ d k, k + d + 1 = wl T A p m → coN T A p m + (x * pcn 9 (S &&& ahN T A p m)) * bN T 5 < clN T → dn T (wq T A p m k).1 (wq T A p m k).2 + dr T (wq T A p m k).2 (wk T A p m k) + (x * pcn 9 (S &&& (wq T A p m k).1)) * bN T 5 < clN T
  | 0, k, hk, h => by
    have := (co_p ok hA B h0).2.2.2
    have ek : k = wl T A p m - 1 := by omega
    subst ek
    unfold laN at this
    unfold ahN at h
    omega
  | d + 1, k, hk, h => by
    have ih := warm_k ok (S := S) (x := x) hA B h0 d (k + 1) (by omega) h
    obtain ⟨s1, s2⟩ := wq_st ok B (i := k) (by omega)
    have k1 := (wk_w ok B (i := k) (by omega)).1
    have s9 := stp9 ok
    rw [s1] at ih
    have e : (wq T A p m (k + 1)).1 = (wq T A p m k).1 ||| 2 ^ wk T A p m k := by rw [wq_s]
    rw [e, and_or s2 (by omega)] at ih
    have mo : x * pcn 9 (S &&& (wq T A p m k).1) * bN T 5 ≤ x * (pcn 9 (S &&& (wq T A p m k).1) + if S.testBit (wk T A p m k) = true then 1 else 0) * bN T 5 := Nat.mul_le_mul_right _ (Nat.mul_le_mul_left _ (Nat.le_add_right _ _))
    omega
theorem row_in {T : Nat → Int32} {A p m : Nat} : ∀ {k j : Nat}, j < k → (wq T A p m k).1.testBit (wk T A p m j) = true
  | 0, j, h => absurd h (Nat.not_lt_zero _)
  | k + 1, j, h => by
    rw [wq_s]
    show ((wq T A p m k).1 ||| 2 ^ wk T A p m k).testBit _ = true
    by_cases e : j = k
    · subst e; exact or_has _ _
    · rw [or_bit, row_in (show j < k by omega), Bool.true_or]
/-- talks at the first stop -/
theorem fst_p {T : Nat → Int32} (ok : TnOK T) {A p m : Nat} (B : Best T A p m) : ∀ k, k < wl T A p m → pcn 9 (2 ^ wk T A p m 0 &&& (wq T A p m k).1) = if k = 0 then 0 else 1
  | 0, _ => by
    show pcn 9 (2 ^ wk T A p m 0 &&& 0) = 0
    rw [Nat.and_zero]; exact pcn0
  | k + 1, h => by
    have ih := fst_p ok B k (by omega)
    obtain ⟨s1, s2⟩ := wq_st ok B (i := k) (by omega)
    have k1 := (wk_w ok B (i := k) (by omega)).1
    have s9 := stp9 ok
    have e : (wq T A p m (k + 1)).1 = (wq T A p m k).1 ||| 2 ^ wk T A p m k := by rw [wq_s]
    rw [e, and_or s2 (by omega), ih, if_neg (show ¬ k + 1 = 0 by omega)]
    by_cases c : k = 0
    · subst c
      rw [if_pos rfl, Nat.testBit_two_pow, if_pos (decide_eq_true rfl)]
    · have n0 : ¬ (2 ^ wk T A p m 0).testBit (wk T A p m k) = true := fun z => by
        rw [Nat.testBit_two_pow] at z
        have z := of_decide_eq_true z
        have := row_in (T := T) (A := A) (p := p) (m := m) (k := k) (j := 0) (by omega)
        rw [z, s2] at this
        exact absurd this (by decide)
      rw [if_neg c, if_neg n0]
def cbk (T : Nat → Int32) (R H k : Nat) : Nat → Nat
  | 0 => 0
  | V + 1 => if sdf (V + 1) R = 0 ∧ pcn 9 ((V + 1) &&& H) ≤ k ∧ pp T (cbk T R H k V) < pp T (V + 1) then V + 1 else cbk T R H k V
theorem cbk_le (T : Nat → Int32) (R H k : Nat) : ∀ V, cbk T R H k V ≤ V
  | 0 => Nat.le_refl _
  | V + 1 => by
    have := cbk_le T R H k V
    unfold cbk
    split <;> omega
theorem sub_le {V R : Nat} (h : sdf V R = 0) : V ≤ R := by
  have e : V &&& R = V := by
    apply Nat.eq_of_testBit_eq
    intro i
    have := sdf0.mp h i
    rw [Nat.testBit_and]
    cases c : V.testBit i
    · rfl
    · rw [this c]; rfl
  rw [← e]
  exact Nat.and_le_right
theorem cbk_far (T : Nat → Int32) (R H k : Nat) : ∀ d, cbk T R H k (R + d) = cbk T R H k R
  | 0 => rfl
  | d + 1 => by
    have ih := cbk_far T R H k d
    show cbk T R H k (R + d + 1) = _
    unfold cbk
    rw [if_neg (fun z => by have := sub_le z.1; omega)]
    cases R with
    | zero => exact ih
    | succ R => rw [ih]; rfl
/-- most warm without a stop -/
def mwk (T : Nat → Int32) (A s : Nat) : Nat → Nat
  | 0 => 0
  | V + 1 => if sdf (V + 1) A = 0 ∧ (V + 1).testBit s = false ∧ mwk T A s V < pp T (V + 1) ∧ fw T (V + 1) < 1000000 then pp T (V + 1) else mwk T A s V
theorem mwk_e (T : Nat → Int32) (A s : Nat) : ∀ V, mwk T A s V = (bq T (sdf A (2 ^ s)) V).1
  | 0 => rfl
  | V + 1 => by
    have ih := mwk_e T A s V
    have e : sdf (V + 1) (sdf A (2 ^ s)) = 0 ↔ sdf (V + 1) A = 0 ∧ (V + 1).testBit s = false := by
      rw [sdf0, sdf0]
      constructor
      · intro h
        refine ⟨fun i hi => ?_, ?_⟩
        · have := h i hi
          rw [sdf_bit] at this
          simp only [Bool.and_eq_true] at this
          exact this.1
        · cases c : (V + 1).testBit s
          · rfl
          · have := h s c
            rw [sdf_self] at this
            exact absurd this (by decide)
      · intro h i hi
        rw [sdf_bit, h.1 i hi, Nat.testBit_two_pow]
        have : ¬ s = i := fun q => by rw [q, hi] at h; exact absurd h.2 (by decide)
        rw [decide_eq_false this]; rfl
    unfold mwk bq
    rw [ih]
    by_cases c : sdf (V + 1) A = 0 ∧ (V + 1).testBit s = false ∧ (bq T (sdf A (2 ^ s)) V).1 < pp T (V + 1) ∧ fw T (V + 1) < 1000000
    · rw [if_pos c, if_pos ⟨e.mpr ⟨c.1, c.2.1⟩, c.2.2.2, Or.inl c.2.2.1⟩]
    · rw [if_neg c]
      by_cases d : sdf (V + 1) (sdf A (2 ^ s)) = 0 ∧ fw T (V + 1) < 1000000 ∧ ((bq T (sdf A (2 ^ s)) V).1 < pp T (V + 1) ∨ (pp T (V + 1) = (bq T (sdf A (2 ^ s)) V).1 ∧ fw T (V + 1) < (bq T (sdf A (2 ^ s)) V).2))
      · rw [if_pos d]
        rcases d.2.2 with q | q
        · exact absurd ⟨(e.mp d.1).1, (e.mp d.1).2, q, d.2.1⟩ c
        · exact q.1.symm
      · rw [if_neg d]
