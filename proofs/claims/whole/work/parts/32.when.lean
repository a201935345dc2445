/-! when, sick, call -/
/-- the first of d numbers from i on at which f holds, else NONE -/
def fst (f : Nat → Bool) : Nat → Nat → Int32
  | 0, _ => -1
  | d + 1, i => if f i = true then nI i else fst f d (i + 1)
def sWhen (a q c : Int32) : Int32 := if (¬ a < 0 ∧ ¬ 10 < a) ∧ (¬ q < 0 ∧ ¬ 100 < q) ∧ (¬ c < 0 ∧ ¬ 10 < c) then fst (fun k => rch (q.toNatClampNeg * 10 ^ k) (q.toNatClampNeg * 10 ^ k + (100 - q.toNatClampNeg) * (10 - a.toNatClampNeg) ^ k) c.toNatClampNeg) 10 0 else -1
theorem sWhen_no {a q c : Int32} (h : ¬ (xbw a 0 10 ∧ xbw q 0 100 ∧ xbw c 0 10)) : sWhen a q c = -1 := if_neg h
theorem xbwN {j m : Nat} {M : Int32} (h1 : j ≤ m) (h2 : m < 2 ^ 31) (h3 : M = nI m) : xbw (nI j) 0 M := ⟨nI_pos (by omega), by rw [h3]; exact nI_nlt h1 (by omega)⟩
theorem sWhen_yes {a q c : Nat} (ha : a ≤ 10) (hq : q ≤ 100) (hc : c ≤ 10) : sWhen (nI a) (nI q) (nI c) = fst (fun k => rch (q * 10 ^ k) (q * 10 ^ k + (100 - q) * (10 - a) ^ k) c) 10 0 := by
  have e : sWhen (nI a) (nI q) (nI c) = fst (fun k => rch ((nI q).toNatClampNeg * 10 ^ k) ((nI q).toNatClampNeg * 10 ^ k + (100 - (nI q).toNatClampNeg) * (10 - (nI a).toNatClampNeg) ^ k) (nI c).toNatClampNeg) 10 0 := if_pos ⟨xbwN (m := 10) ha (by decide) rfl, xbwN (m := 100) hq (by decide) rfl, xbwN (m := 10) hc (by decide) rfl⟩
  rw [e, nI_clamp (by omega), nI_clamp (by omega), nI_clamp (by omega)]
theorem c_So_when {n : Nat} (hn : 5 ≤ n) {h : xh} {a0 : Nat} {a q c : Int32} {Q : Int32 → xh → Prop} (hQ : Q (sWhen a q c) h) : xci (xMC n) 196 [.ref a0, .int a, .int q, .int c] h Q := by
  obtain ⟨n, rfl⟩ := xsucc (show 1 ≤ n by omega)
  refine w_So_when (c_So_isOfTen (by omega) (fun c1 => ⟨fun z => absurd z (by decide), fun _ => c_So_isOfHundred (by omega) (fun c2 => ⟨fun z => absurd z (by decide), fun _ => c_So_isOfTen (by omega) (fun c3 => ⟨fun _ => ?_, fun z => absurd z (by decide)⟩) (fun c3 => ⟨fun z => absurd rfl z, fun _ => ?_⟩)⟩) (fun c2 => ⟨fun _ => ?_, fun z => absurd rfl z⟩)⟩) (fun c1 => ⟨fun _ => ?_, fun z => absurd rfl z⟩))
  · obtain ⟨a, ha, rfl⟩ := xbw_of (m := 10) rfl c1
    obtain ⟨q, hq, rfl⟩ := xbw_of (m := 100) rfl c2
    obtain ⟨c, hc, rfl⟩ := xbw_of (m := 10) rfl c3
    rw [sWhen_yes ha hq hc] at hQ
    have loop : ∀ (d i : Nat), i + d = 10 → ∀ (o0 : Option Value), Q (fst (fun k => rch (q * 10 ^ k) (q * 10 ^ k + (100 - q) * (10 - a) ^ k) c) d i) h → K_So_when n Q 26 [o0, some (.int (nI a)), some (.int (nI q)), some (.int (nI c)), some (.int (nI i))] [] h := by
      intro d
      induction d with
      | zero =>
        intro i e o0 hQ
        exact b_So_when_26 ⟨fun _ => hQ, fun z => absurd (nI_lt (a := 9) (b := i) (by omega) (by omega)) z⟩
      | succ d ih =>
        intro i e o0 hQ
        refine b_So_when_26 ⟨fun z => absurd z (nI_nlt (a := 9) (b := i) (by omega) (by decide)), fun _ => c_So_unwell (by omega) hq (by omega) (c_So_wellButAway (by omega) ha hq (by omega) ?_)⟩
        have p1 := mul_b hq (pow_b (a := 10) (k := i) (by omega) (by omega))
        have p2 := mul_b (q := 100 - q) (by omega) (pow_b (a := 10 - a) (k := i) (by omega) (by omega))
        refine c_Fraction_reaches (by omega) (by omega) hc (fun r => ⟨fun z => absurd z (by decide), fun _ => ?_⟩) (fun r => ⟨fun _ => ?_, fun z => absurd rfl z⟩)
        · simp only [fst, r, if_pos] at hQ
          exact hQ
        · rw [nI_1]
          refine ih (i + 1) (by omega) _ ?_
          simp only [fst, r] at hQ
          exact hQ
    exact loop 10 0 (by omega) _ hQ
  · rwa [sWhen_no (fun y => c3 y.2.2)] at hQ
  · rwa [sWhen_no (fun y => c2 y.2.1)] at hQ
  · rwa [sWhen_no (fun y => c1 y.1)] at hQ
theorem rch_lt {u d c : Nat} (hu : u ≤ d) (hd : d ≤ 200000000000) (hc : c ≤ 10) (D : Nat) (hD : D = if d = 0 then 1 else d) : ((10 : Int64) * lN u < (nI c).toInt64 * lN D) ↔ rch u d c = false := by
  rw [nI_l (by omega), show (10 : Int64) = lN 10 from rfl, lN_mul, lN_mul]
  have hD2 : D ≤ 200000000000 := by rw [hD]; split <;> omega
  have hm : c * D ≤ 10 * D := Nat.mul_le_mul_right _ hc
  rw [pk_lLT (by omega) (by omega)]
  unfold rch
  rw [decide_eq_false_iff_not, Nat.not_le, ← hD]
theorem c_Mo_when {n : Nat} (hn : 5 ≤ n) {h : xh} {m0 : Nat} (hm : 64 ≤ m0 ∧ xS h m0 = (11, 0)) {a q c : Int32} {Q : Int32 → xh → Prop} (hQ : Q (sWhen a q c) (xsI h m0 0 0)) : xci (xMC n) 329 [.ref m0, .int a, .int q, .int c] h Q := by
  obtain ⟨n, rfl⟩ := xsucc (show 1 ≤ n by omega)
  refine w_Mo_when ⟨hm, b_Mo_when_5 (c_Mo_areOdds (by omega) (fun c1 c2 => ⟨fun z => absurd z (by decide), fun _ => c_Mo_in (by omega) (fun c3 => ⟨fun _ => ?_, fun z => absurd z (by decide)⟩) (fun c3 => ⟨fun z => absurd rfl z, fun _ => ?_⟩)⟩) (fun c1 => ⟨fun _ => ?_, fun z => absurd rfl z⟩))⟩
  · obtain ⟨a, ha, rfl⟩ := xbw_of (m := 10) rfl c1
    obtain ⟨q, hq, rfl⟩ := xbw_of (m := 100) rfl c2
    obtain ⟨c, hc, rfl⟩ := xbw_of (m := 10) rfl c3
    rw [sWhen_yes ha hq hc] at hQ
    generalize xsI h m0 0 0 = h at hQ ⊢
    have loop : ∀ (d i : Nat), i + d = 10 → ∀ (o0 o5 o6 : Option Value), Q (fst (fun k => rch (q * 10 ^ k) (q * 10 ^ k + (100 - q) * (10 - a) ^ k) c) d i) h → K_Mo_when n Q 28 [o0, some (.int (nI a)), some (.int (nI q)), some (.int (nI c)), some (.int (nI i)), o5, o6] [] h := by
      intro d
      induction d with
      | zero =>
        intro i e o0 o5 o6 hQ
        exact b_Mo_when_28 ⟨fun _ => hQ, fun z => absurd (nI_lt (a := 9) (b := i) (by omega) (by omega)) z⟩
      | succ d ih =>
        intro i e o0 o5 o6 hQ
        have p1 := mul_b hq (pow_b (a := 10) (k := i) (by omega) (by omega))
        have p2 := mul_b (q := 100 - q) (by omega) (pow_b (a := 10 - a) (k := i) (by omega) (by omega))
        refine b_Mo_when_28 ⟨fun z => absurd z (nI_nlt (a := 9) (b := i) (by omega) (by decide)), fun _ => c_Mo_stays (by omega) ha hq (by omega) (c_Mo_ill (by omega) hq (by omega) ⟨fun z => ?_, fun z => ?_⟩)⟩
        · have hne : q * 10 ^ i + (100 - q) * (10 - a) ^ i ≠ 0 := fun y => z (by rw [y]; rfl)
          have hr := rch_lt (u := q * 10 ^ i) (d := q * 10 ^ i + (100 - q) * (10 - a) ^ i) (c := c) (by omega) (by omega) hc (q * 10 ^ i + (100 - q) * (10 - a) ^ i) (by rw [if_neg hne])
          refine b_Mo_when_69 ⟨fun z2 => ?_, fun z2 => ?_⟩
          · rw [nI_1]
            refine ih (i + 1) (by omega) _ _ _ ?_
            simp only [fst, hr.mp z2] at hQ
            exact hQ
          · have r : rch (q * 10 ^ i) (q * 10 ^ i + (100 - q) * (10 - a) ^ i) c = true := by
              cases hr2 : rch (q * 10 ^ i) (q * 10 ^ i + (100 - q) * (10 - a) ^ i) c with
              | true => rfl
              | false => exact absurd (hr.mpr hr2) z2
            simp only [fst, r, if_pos] at hQ
            exact hQ
        · have he := (lN_z (by omega)).mp z
          have hr := rch_lt (u := q * 10 ^ i) (d := q * 10 ^ i + (100 - q) * (10 - a) ^ i) (c := c) (by omega) (by omega) hc 1 (by rw [if_pos he])
          refine b_Mo_when_69 ⟨fun z2 => ?_, fun z2 => ?_⟩
          · rw [nI_1]
            refine ih (i + 1) (by omega) _ _ _ ?_
            simp only [fst, hr.mp z2] at hQ
            exact hQ
          · have r : rch (q * 10 ^ i) (q * 10 ^ i + (100 - q) * (10 - a) ^ i) c = true := by
              cases hr2 : rch (q * 10 ^ i) (q * 10 ^ i + (100 - q) * (10 - a) ^ i) c with
              | true => rfl
              | false => exact absurd (hr.mpr hr2) z2
            simp only [fst, r, if_pos] at hQ
            exact hQ
    exact loop 10 0 (by omega) _ _ _ hQ
  · rwa [sWhen_no (fun y => c3 y.2.2)] at hQ
  · rwa [sWhen_no (fun y => c1 ⟨y.1, y.2.1⟩)] at hQ
