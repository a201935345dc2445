/-! worry, when, sick, call: class and reference answer as the same functions of their arguments -/
theorem Int10 : (10 : Int32).toInt64 = lN 10 := rfl
theorem xsubC {m a : Nat} (h : a ≤ m) {M : Int32} (hM : M = nI m) : M - nI a = nI (m - a) := by rw [hM]; exact pk_sub h
theorem pow_b {a k : Nat} (ha : a ≤ 10) (hk : k ≤ 9) : a ^ k ≤ 1000000000 := by
  have h1 : a ^ k ≤ 10 ^ k := Nat.pow_le_pow_left ha k
  have h2 : 10 ^ k ≤ 10 ^ 9 := Nat.pow_le_pow_right (by decide) hk
  have h3 : (10 : Nat) ^ 9 = 1000000000 := by decide
  omega
theorem mul_b {q p : Nat} (hq : q ≤ 100) (hp : p ≤ 1000000000) : q * p ≤ 100000000000 := by
  have := Nat.mul_le_mul hq hp
  omega
theorem c_So_unwell {n : Nat} (hn : 2 ≤ n) {h : xh} {q k : Nat} (hq : q ≤ 100) (hk : k ≤ 9) {Q : Int64 → xh → Prop} (hQ : Q (lN (q * 10 ^ k)) h) : xcj (xMC n) 194 [.int (nI q), .int (nI k)] h Q := by
  obtain ⟨n, rfl⟩ := xsucc (show 1 ≤ n by omega)
  refine w_So_unwell (c_Fraction_power (by omega) (by omega) ?_)
  rw [Int10, lpw_N, nI_l (by omega), lN_mul]
  exact hQ
theorem c_So_wellButAway {n : Nat} (hn : 2 ≤ n) {h : xh} {a q k : Nat} (ha : a ≤ 10) (hq : q ≤ 100) (hk : k ≤ 9) {Q : Int64 → xh → Prop} (hQ : Q (lN ((100 - q) * (10 - a) ^ k)) h) : xcj (xMC n) 195 [.int (nI a), .int (nI q), .int (nI k)] h Q := by
  obtain ⟨n, rfl⟩ := xsucc (show 1 ≤ n by omega)
  refine w_So_wellButAway ?_
  rw [xsubC ha (M := 10) rfl, xsubC hq (M := 100) rfl]
  refine c_Fraction_power (by omega) (by omega) ?_
  rw [nI_l (by omega), nI_l (by omega), lpw_N, lN_mul]
  exact hQ
theorem c_Fraction_share {n : Nat} (hn : 3 ≤ n) {h : xh} {u o : Nat} {un : Int32} (hu : u + o < 2 ^ 63) {Q : Int64 → xh → Prop} (hQ : Q (lN (gpt u (u + o) un)) h) : xcj (xMC n) 22 [.long (lN u), .long (lN o), .int un] h Q := by
  obtain ⟨n, rfl⟩ := xsucc (show 1 ≤ n by omega)
  refine w_Fraction_share ?_
  rw [lN_add]
  exact c_Fraction_part (by omega) (by omega) hu hQ
theorem gpt_le (u d : Nat) (hu : u ≤ d) (un : Int32) : gpt u d un ≤ d + 1 := by
  unfold gpt
  split
  · split <;> omega
  · split
    · exact Nat.le_trans (Nat.div_le_self _ _) (by omega)
    · exact Nat.le_trans (Nat.div_le_self _ _) (by omega)
/-- c tenths are reached -/
def rch (u d c : Nat) : Bool := decide (c * (if d = 0 then 1 else d) ≤ 10 * u)
theorem rch_gpt {u d c : Nat} (hu : u ≤ d) : (10 * gpt u d 0 < c * gpt u d 1) ↔ rch u d c = false := by
  unfold rch gpt
  by_cases h : d = 0
  · have hu0 : u = 0 := by omega
    subst hu0
    simp [h]
    omega
  · rw [if_neg h, if_neg h, if_neg h, if_pos rfl, if_neg (by decide), decide_eq_false_iff_not, Nat.not_le]
    have hg : 0 < Nat.gcd u d := Nat.gcd_pos_of_pos_right _ (by omega)
    have e1 : u / Nat.gcd u d * Nat.gcd u d = u := Nat.div_mul_cancel (Nat.gcd_dvd_left u d)
    have e2 : d / Nat.gcd u d * Nat.gcd u d = d := Nat.div_mul_cancel (Nat.gcd_dvd_right u d)
    generalize Nat.gcd u d = g at *
    generalize u / g = x at *
    generalize d / g = y at *
    subst e1; subst e2
    rw [← Nat.mul_assoc, ← Nat.mul_assoc]
    exact (Nat.mul_lt_mul_right hg).symm
theorem c_Fraction_reaches {n : Nat} (hn : 4 ≤ n) {h : xh} {u o c : Nat} (hu : u + o ≤ 200000000000) (hc : c ≤ 10) {Q : Int32 → xh → Prop} (h1 : rch u (u + o) c = true → Q 1 h) (h0 : rch u (u + o) c = false → Q 0 h) : xci (xMC n) 23 [.long (lN u), .long (lN o), .int (nI c)] h Q := by
  obtain ⟨n, rfl⟩ := xsucc (show 1 ≤ n by omega)
  refine w_Fraction_reaches (c_Fraction_share (by omega) (by omega) (c_Fraction_share (by omega) (by omega) ?_))
  have b0 := gpt_le u (u + o) (by omega) 0
  have b1 := gpt_le u (u + o) (by omega) 1
  have e : ((10 : Int64) * lN (gpt u (u + o) 0) < (nI c).toInt64 * lN (gpt u (u + o) 1)) ↔ rch u (u + o) c = false := by
    rw [← rch_gpt (by omega), nI_l (by omega), show (10 : Int64) = lN 10 from rfl, lN_mul, lN_mul]
    have hm : c * gpt u (u + o) 1 ≤ 10 * gpt u (u + o) 1 := Nat.mul_le_mul_right _ hc
    exact pk_lLT (by omega) (by omega)
  refine ⟨fun z => h0 (e.mp z), fun z => h1 ?_⟩
  cases hr : rch u (u + o) c with
  | true => rfl
  | false => exact absurd (e.mpr hr) z
def sWorry (a q k un : Int32) : Int64 := if (¬ a < 0 ∧ ¬ 10 < a) ∧ (¬ q < 0 ∧ ¬ 100 < q) ∧ (¬ k < 0 ∧ ¬ 9 < k) then lN (gpt (q.toNatClampNeg * 10 ^ k.toNatClampNeg) (q.toNatClampNeg * 10 ^ k.toNatClampNeg + (100 - q.toNatClampNeg) * (10 - a.toNatClampNeg) ^ k.toNatClampNeg) un) else -1
theorem sWorry_no {a q k un : Int32} (h : ¬ (xbw a 0 10 ∧ xbw q 0 100 ∧ xbw k 0 9)) : sWorry a q k un = -1 := if_neg h
theorem sWorry_yes {a q k : Nat} {un : Int32} (ha : a ≤ 10) (hq : q ≤ 100) (hk : k ≤ 9) : sWorry (nI a) (nI q) (nI k) un = lN (gpt (q * 10 ^ k) (q * 10 ^ k + (100 - q) * (10 - a) ^ k) un) := by
  have hi : ∀ (j m : Nat) {M : Int32}, j ≤ m → m < 2 ^ 31 → M = nI m → ¬ nI j < 0 ∧ ¬ M < nI j := fun j m M h1 h2 h3 => ⟨nI_pos (by omega), by rw [h3]; exact nI_nlt h1 (by omega)⟩
  have e : sWorry (nI a) (nI q) (nI k) un = lN (gpt ((nI q).toNatClampNeg * 10 ^ (nI k).toNatClampNeg) ((nI q).toNatClampNeg * 10 ^ (nI k).toNatClampNeg + (100 - (nI q).toNatClampNeg) * (10 - (nI a).toNatClampNeg) ^ (nI k).toNatClampNeg) un) := if_pos ⟨hi a 10 ha (by decide) rfl, hi q 100 hq (by decide) rfl, hi k 9 hk (by decide) rfl⟩
  rw [e, nI_clamp (by omega), nI_clamp (by omega), nI_clamp (by omega)]
theorem c_So_worry {n : Nat} (hn : 4 ≤ n) {h : xh} {a0 : Nat} {a q k un : Int32} {Q : Int64 → xh → Prop} (hQ : Q (sWorry a q k un) h) : xcj (xMC n) 191 [.ref a0, .int a, .int q, .int k, .int un] h Q := by
  obtain ⟨n, rfl⟩ := xsucc (show 1 ≤ n by omega)
  refine w_So_worry (c_So_isOfTen (by omega) (fun c1 => ?_) (fun c1 => ?_))
  · refine ⟨fun z => absurd z (by decide), fun _ => c_So_isOfHundred (by omega) (fun c2 => ?_) (fun c2 => ?_)⟩
    · refine ⟨fun z => absurd z (by decide), fun _ => ⟨fun z => ?_, fun z => ⟨fun z2 => ?_, fun z2 => ?_⟩⟩⟩
      · rwa [sWorry_no (fun y => y.2.2.1 z)] at hQ
      · obtain ⟨a, ha, rfl⟩ := xbw_of (m := 10) rfl c1
        obtain ⟨q, hq, rfl⟩ := xbw_of (m := 100) rfl c2
        obtain ⟨k, hk, rfl⟩ := nI_of2 (M := 9) (n := 9) rfl z z2
        rw [sWorry_yes ha hq hk] at hQ
        have p1 := mul_b hq (pow_b (a := 10) (by omega) hk)
        have p2 := mul_b (q := 100 - q) (by omega) (pow_b (a := 10 - a) (by omega) hk)
        exact c_So_unwell (by omega) hq hk (c_So_wellButAway (by omega) ha hq hk (c_Fraction_share (by omega) (by omega) hQ))
      · rwa [sWorry_no (fun y => z2 (Int32.not_lt.mp y.2.2.2))] at hQ
    · refine ⟨fun _ => ?_, fun z => absurd rfl z⟩
      rwa [sWorry_no (fun y => c2 y.2.1)] at hQ
  · refine ⟨fun _ => ?_, fun z => absurd rfl z⟩
    rwa [sWorry_no (fun y => c1 y.1)] at hQ
theorem c_Mo_ill {n : Nat} (hn : 2 ≤ n) {h : xh} {q k : Nat} (hq : q ≤ 100) (hk : k ≤ 9) {Q : Int64 → xh → Prop} (hQ : Q (lN (q * 10 ^ k)) h) : xcj (xMC n) 327 [.int (nI q), .int (nI k)] h Q := by
  obtain ⟨n, rfl⟩ := xsucc (show 1 ≤ n by omega)
  refine w_Mo_ill (c_Mo_power (by omega) (by omega) ?_)
  rw [show (10 : Int64) = lN 10 from rfl, lpw_N, nI_l (by omega), lN_mul]
  exact hQ
theorem c_Mo_stays {n : Nat} (hn : 3 ≤ n) {h : xh} {a q k : Nat} (ha : a ≤ 10) (hq : q ≤ 100) (hk : k ≤ 9) {Q : Int64 → xh → Prop} (hQ : Q (lN (q * 10 ^ k + (100 - q) * (10 - a) ^ k)) h) : xcj (xMC n) 326 [.int (nI a), .int (nI q), .int (nI k)] h Q := by
  obtain ⟨n, rfl⟩ := xsucc (show 1 ≤ n by omega)
  refine w_Mo_stays (c_Mo_ill (by omega) hq hk ?_)
  rw [xsubC ha (M := 10) rfl, xsubC hq (M := 100) rfl, nI_l (by omega), nI_l (by omega)]
  refine c_Mo_power (by omega) (by omega) ?_
  rw [lpw_N, lN_mul, lN_add]
  exact hQ
theorem c_Mo_areOdds {n : Nat} (hn : 2 ≤ n) {h : xh} {a q : Int32} {Q : Int32 → xh → Prop} (h1 : xbw a 0 10 → xbw q 0 100 → Q 1 h) (h0 : ¬ (xbw a 0 10 ∧ xbw q 0 100) → Q 0 h) : xci (xMC n) 325 [.int a, .int q] h Q := by
  obtain ⟨n, rfl⟩ := xsucc (show 1 ≤ n by omega)
  refine w_Mo_areOdds (c_Mo_in (by omega) (fun c1 => ⟨fun z => absurd z (by decide), fun _ => c_Mo_in (by omega) (fun c2 => ⟨fun z => absurd z (by decide), fun _ => h1 c1 c2⟩) (fun c2 => ⟨fun _ => h0 (fun y => c2 y.2), fun z => absurd rfl z⟩)⟩) (fun c1 => ⟨fun _ => h0 (fun y => c1 y.1), fun z => absurd rfl z⟩))
theorem c_Mo_worry {n : Nat} (hn : 4 ≤ n) {h : xh} {m0 : Nat} (hm : 64 ≤ m0 ∧ xS h m0 = (11, 0)) {a q k un : Int32} {Q : Int64 → xh → Prop} (hQ : Q (sWorry a q k un) (xsI h m0 0 0)) : xcj (xMC n) 324 [.ref m0, .int a, .int q, .int k, .int un] h Q := by
  obtain ⟨n, rfl⟩ := xsucc (show 1 ≤ n by omega)
  refine w_Mo_worry ⟨hm, b_Mo_worry_5 (c_Mo_areOdds (by omega) (fun c1 c2 => ?_) (fun c1 => ?_))⟩
  · refine ⟨fun z => absurd z (by decide), fun _ => c_Mo_in (by omega) (fun c3 => ?_) (fun c3 => ?_)⟩
    · refine ⟨fun _ => ?_, fun z => absurd z (by decide)⟩
      obtain ⟨a, ha, rfl⟩ := xbw_of (m := 10) rfl c1
      obtain ⟨q, hq, rfl⟩ := xbw_of (m := 100) rfl c2
      obtain ⟨k, hk, rfl⟩ := xbw_of (m := 9) rfl c3
      rw [sWorry_yes ha hq hk] at hQ
      have p1 := mul_b hq (pow_b (a := 10) (by omega) hk)
      have p2 := mul_b (q := 100 - q) (by omega) (pow_b (a := 10 - a) (by omega) hk)
      refine c_Mo_stays (by omega) ha hq hk (c_Mo_ill (by omega) hq hk ⟨fun z => ?_, fun z => ?_⟩)
      · exact c_Mo_part (by omega) (by omega) (by omega) (fun y => z (by rw [y]; rfl)) hQ
      · have e := (lN_z (by omega)).mp z
        have e1 : q * 10 ^ k = 0 := by omega
        rw [e, e1] at hQ
        rw [e1]
        refine c_Mo_part (d := 1) (by omega) (by omega) (by omega) (by omega) ?_
        have e2 : gpt 0 0 un = gpt 0 1 un := by unfold gpt; by_cases hz : un = 0 <;> simp [hz]
        rwa [e2] at hQ
    · refine ⟨fun z => absurd rfl z, fun _ => ?_⟩
      rwa [sWorry_no (fun y => c3 y.2.2)] at hQ
  · refine ⟨fun _ => ?_, fun z => absurd rfl z⟩
    rwa [sWorry_no (fun y => c1 ⟨y.1, y.2.1⟩)] at hQ
