/-! sick, call -/
def shN (a n s : Nat) : Nat := a ^ s * (10 - a) ^ (n - s)
theorem shN_b {a n s : Nat} (ha : a ≤ 10) (hn : n ≤ 9) (hs : s ≤ n) : shN a n s ≤ 1000000000 := by
  unfold shN
  have h1 : a ^ s ≤ 10 ^ s := Nat.pow_le_pow_left ha s
  have h2 : (10 - a) ^ (n - s) ≤ 10 ^ (n - s) := Nat.pow_le_pow_left (by omega) _
  have h3 := Nat.mul_le_mul h1 h2
  rw [← Nat.pow_add, show s + (n - s) = n by omega] at h3
  exact Nat.le_trans h3 (pow_b (a := 10) (by omega) hn)
theorem c_So_shown {n : Nat} (hn : 2 ≤ n) {h : xh} {a k s : Nat} (ha : a ≤ 10) (hk : k ≤ 9) (hs : s ≤ k) {Q : Int64 → xh → Prop} (hQ : Q (lN (shN a k s)) h) : xcj (xMC n) 199 [.int (nI a), .int (nI k), .int (nI s)] h Q := by
  obtain ⟨n, rfl⟩ := xsucc (show 1 ≤ n by omega)
  refine w_So_shown (c_Fraction_power (by omega) (by omega) ?_)
  rw [xsubC ha (M := 10) rfl, pk_sub hs]
  refine c_Fraction_power (by omega) (by omega) ?_
  rw [nI_l (by omega), nI_l (by omega), lpw_N, lpw_N, lN_mul]
  exact hQ
theorem c_So_areSigns {n : Nat} (hn : 2 ≤ n) {h : xh} {q k a b : Int32} {Q : Int32 → xh → Prop} (h1 : xbw q 0 100 ∧ xbw k 1 9 ∧ xbw a 0 10 ∧ xbw b 0 10 → Q 1 h) (h0 : ¬ (xbw q 0 100 ∧ xbw k 1 9 ∧ xbw a 0 10 ∧ xbw b 0 10) → Q 0 h) : xci (xMC n) 198 [.int q, .int k, .int a, .int b] h Q := by
  obtain ⟨n, rfl⟩ := xsucc (show 1 ≤ n by omega)
  exact w_So_areSigns (c_So_isOfHundred (by omega) (fun c1 => ⟨fun z => absurd z (by decide), fun _ => ⟨fun z => h0 (fun y => y.2.1.1 z), fun z => ⟨fun z2 => h0 (fun y => y.2.1.2 z2), fun z2 => c_So_isOfTen (by omega) (fun c3 => ⟨fun y => absurd y (by decide), fun _ => c_So_isOfTen (by omega) (fun c4 => ⟨fun y => absurd y (by decide), fun _ => h1 ⟨c1, ⟨z, z2⟩, c3, c4⟩⟩) (fun c4 => ⟨fun _ => h0 (fun y => c4 y.2.2.2), fun y => absurd rfl y⟩)⟩) (fun c3 => ⟨fun _ => h0 (fun y => c3 y.2.2.1), fun y => absurd rfl y⟩)⟩⟩⟩) (fun c1 => ⟨fun _ => h0 (fun y => c1 y.1), fun y => absurd rfl y⟩))
theorem c_Mo_areSigns {n : Nat} (hn : 2 ≤ n) {h : xh} {q k a b : Int32} {Q : Int32 → xh → Prop} (h1 : xbw q 0 100 ∧ xbw k 1 9 ∧ xbw a 0 10 ∧ xbw b 0 10 → Q 1 h) (h0 : ¬ (xbw q 0 100 ∧ xbw k 1 9 ∧ xbw a 0 10 ∧ xbw b 0 10) → Q 0 h) : xci (xMC n) 347 [.int q, .int k, .int a, .int b] h Q := by
  obtain ⟨n, rfl⟩ := xsucc (show 1 ≤ n by omega)
  exact w_Mo_areSigns (c_Mo_in (by omega) (fun c1 => ⟨fun z => absurd z (by decide), fun _ => c_Mo_in (by omega) (fun c2 => ⟨fun z => absurd z (by decide), fun _ => c_Mo_in (by omega) (fun c3 => ⟨fun y => absurd y (by decide), fun _ => c_Mo_in (by omega) (fun c4 => ⟨fun y => absurd y (by decide), fun _ => h1 ⟨c1, c2, c3, c4⟩⟩) (fun c4 => ⟨fun _ => h0 (fun y => c4 y.2.2.2), fun y => absurd rfl y⟩)⟩) (fun c3 => ⟨fun _ => h0 (fun y => c3 y.2.2.1), fun y => absurd rfl y⟩)⟩) (fun c2 => ⟨fun _ => h0 (fun y => c2 y.2.1), fun y => absurd rfl y⟩)⟩) (fun c1 => ⟨fun _ => h0 (fun y => c1 y.1), fun y => absurd rfl y⟩))
theorem xbw1_of {x M : Int32} {m : Nat} (hM : M.toInt = m) (h : xbw x 1 M) : ∃ j : Nat, 1 ≤ j ∧ j ≤ m ∧ x = nI j := by
  have h0 : ¬ x < 0 := fun z => h.1 (by rw [Int32.lt_iff_toInt_lt] at z ⊢; have e1 : (1 : Int32).toInt = 1 := rfl; have e0 : (0 : Int32).toInt = 0 := rfl; omega)
  obtain ⟨j, hj, rfl⟩ := nI_of2 hM h0 (Int32.not_lt.mp h.2)
  refine ⟨j, ?_, hj, rfl⟩
  by_cases hz : j = 0
  · subst hz
    exact absurd (by decide) h.1
  · omega
def sgU (q n a s : Nat) : Nat := q * shN a n s
def sgO (q n b s : Nat) : Nat := (100 - q) * shN b n s
def sSick (q n a b s un : Int32) : Int64 := if ((¬ q < 0 ∧ ¬ 100 < q) ∧ (¬ n < 1 ∧ ¬ 9 < n) ∧ (¬ a < 0 ∧ ¬ 10 < a) ∧ (¬ b < 0 ∧ ¬ 10 < b)) ∧ (¬ s < 0 ∧ ¬ n < s) then lN (gpt (sgU q.toNatClampNeg n.toNatClampNeg a.toNatClampNeg s.toNatClampNeg) (sgU q.toNatClampNeg n.toNatClampNeg a.toNatClampNeg s.toNatClampNeg + sgO q.toNatClampNeg n.toNatClampNeg b.toNatClampNeg s.toNatClampNeg) un) else -1
theorem sSick_no {q n a b s un : Int32} (h : ¬ ((xbw q 0 100 ∧ xbw n 1 9 ∧ xbw a 0 10 ∧ xbw b 0 10) ∧ xbw s 0 n)) : sSick q n a b s un = -1 := if_neg h
theorem xbwN1 {j m : Nat} {M : Int32} (h0 : 1 ≤ j) (h1 : j ≤ m) (h2 : m < 2 ^ 31) (h3 : M = nI m) : xbw (nI j) 1 M := ⟨nI_nlt (a := j) (b := 1) h0 (by omega), by rw [h3]; exact nI_nlt h1 (by omega)⟩
theorem sSick_yes {q n a b s : Nat} {un : Int32} (hq : q ≤ 100) (h1 : 1 ≤ n) (hn : n ≤ 9) (ha : a ≤ 10) (hb : b ≤ 10) (hs : s ≤ n) : sSick (nI q) (nI n) (nI a) (nI b) (nI s) un = lN (gpt (sgU q n a s) (sgU q n a s + sgO q n b s) un) := by
  have e : sSick (nI q) (nI n) (nI a) (nI b) (nI s) un = lN (gpt (sgU (nI q).toNatClampNeg (nI n).toNatClampNeg (nI a).toNatClampNeg (nI s).toNatClampNeg) (sgU (nI q).toNatClampNeg (nI n).toNatClampNeg (nI a).toNatClampNeg (nI s).toNatClampNeg + sgO (nI q).toNatClampNeg (nI n).toNatClampNeg (nI b).toNatClampNeg (nI s).toNatClampNeg) un) := if_pos ⟨⟨xbwN (m := 100) hq (by decide) rfl, xbwN1 (m := 9) h1 hn (by decide) rfl, xbwN (m := 10) ha (by decide) rfl, xbwN (m := 10) hb (by decide) rfl⟩, xbwN (m := n) hs (by omega) rfl⟩
  rw [e, nI_clamp (by omega), nI_clamp (by omega), nI_clamp (by omega), nI_clamp (by omega), nI_clamp (by omega)]
theorem sg_b {q n a b s : Nat} (hq : q ≤ 100) (hn : n ≤ 9) (ha : a ≤ 10) (hb : b ≤ 10) (hs : s ≤ n) : sgU q n a s + sgO q n b s ≤ 200000000000 := by
  have p1 := mul_b hq (shN_b ha hn hs)
  have p2 := mul_b (q := 100 - q) (by omega) (shN_b hb hn hs)
  unfold sgU sgO
  omega
theorem c_So_sick {n : Nat} (hn : 4 ≤ n) {h : xh} {a0 : Nat} {q k a b s un : Int32} {Q : Int64 → xh → Prop} (hQ : Q (sSick q k a b s un) h) : xcj (xMC n) 197 [.ref a0, .int q, .int k, .int a, .int b, .int s, .int un] h Q := by
  obtain ⟨n, rfl⟩ := xsucc (show 1 ≤ n by omega)
  refine w_So_sick (c_So_areSigns (by omega) (fun c1 => ⟨fun z => absurd z (by decide), fun _ => ⟨fun z => ?_, fun z => ⟨fun z2 => ?_, fun z2 => ?_⟩⟩⟩) (fun c1 => ⟨fun _ => ?_, fun z => absurd rfl z⟩))
  · rwa [sSick_no (fun y => y.2.1 z)] at hQ
  · obtain ⟨c1, c2, c3, c4⟩ := c1
    obtain ⟨q, hq, rfl⟩ := xbw_of (m := 100) rfl c1
    obtain ⟨k, hk1, hk, rfl⟩ := xbw1_of (m := 9) rfl c2
    obtain ⟨a, ha, rfl⟩ := xbw_of (m := 10) rfl c3
    obtain ⟨b, hb, rfl⟩ := xbw_of (m := 10) rfl c4
    obtain ⟨s, hs, rfl⟩ := nI_of2 (n := k) (nI_toInt (by omega)) z z2
    rw [sSick_yes hq hk1 hk ha hb hs] at hQ
    have hb2 := sg_b hq hk ha hb hs
    refine c_So_shown (by omega) ha hk hs (c_So_shown (by omega) hb hk hs ?_)
    rw [xsubC hq (M := 100) rfl, nI_l (by omega), nI_l (by omega), lN_mul, lN_mul]
    exact c_Fraction_share (by omega) (show sgU q k a s + sgO q k b s < 2 ^ 63 by omega) hQ
  · rwa [sSick_no (fun y => z2 (Int32.not_lt.mp y.2.2))] at hQ
  · rwa [sSick_no (fun y => c1 y.1)] at hQ
theorem c_Mo_shows {n : Nat} (hn : 2 ≤ n) {h : xh} {q a k s : Nat} (hq : q ≤ 100) (ha : a ≤ 10) (hk : k ≤ 9) (hs : s ≤ k) {Q : Int64 → xh → Prop} (hQ : Q (lN (q * shN a k s)) h) : xcj (xMC n) 348 [.int (nI q), .int (nI a), .int (nI k), .int (nI s)] h Q := by
  obtain ⟨n, rfl⟩ := xsucc (show 1 ≤ n by omega)
  refine w_Mo_shows ?_
  rw [xsubC ha (M := 10) rfl, pk_sub hs, nI_l (by omega), nI_l (by omega), nI_l (by omega)]
  refine c_Mo_power (by omega) (by omega) (c_Mo_power (by omega) (by omega) ?_)
  rw [lpw_N, lpw_N, lN_mul, lN_mul, Nat.mul_assoc]
  exact hQ
theorem c_Mo_allShow {n : Nat} (hn : 3 ≤ n) {h : xh} {q k a b s : Nat} (hq : q ≤ 100) (hk : k ≤ 9) (ha : a ≤ 10) (hb : b ≤ 10) (hs : s ≤ k) {Q : Int64 → xh → Prop} (hQ : Q (lN (if sgU q k a s + sgO q k b s = 0 then 1 else sgU q k a s + sgO q k b s)) h) : xcj (xMC n) 349 [.int (nI q), .int (nI k), .int (nI a), .int (nI b), .int (nI s)] h Q := by
  obtain ⟨n, rfl⟩ := xsucc (show 1 ≤ n by omega)
  have hb2 := sg_b hq hk ha hb hs
  refine w_Mo_allShow (c_Mo_shows (by omega) hq ha hk hs ?_)
  rw [xsubC hq (M := 100) rfl]
  refine c_Mo_shows (by omega) (by omega) hb hk hs ?_
  rw [lN_add]
  change (¬ lN (sgU q k a s + sgO q k b s) = 0 → Q (lN (sgU q k a s + sgO q k b s)) h) ∧ (lN (sgU q k a s + sgO q k b s) = 0 → Q 1 h)
  refine ⟨fun z => ?_, fun z => ?_⟩
  · rwa [if_neg (fun y => z (by rw [y]; rfl))] at hQ
  · rw [if_pos ((lN_z (by omega)).mp z)] at hQ
    exact hQ
theorem c_Mo_sick {n : Nat} (hn : 4 ≤ n) {h : xh} {m0 : Nat} (hm : 64 ≤ m0 ∧ xS h m0 = (11, 0)) {q k a b s un : Int32} {Q : Int64 → xh → Prop} (hQ : Q (sSick q k a b s un) (xsI h m0 0 0)) : xcj (xMC n) 346 [.ref m0, .int q, .int k, .int a, .int b, .int s, .int un] h Q := by
  obtain ⟨n, rfl⟩ := xsucc (show 1 ≤ n by omega)
  refine w_Mo_sick ⟨hm, b_Mo_sick_5 (c_Mo_areSigns (by omega) (fun c1 => ⟨fun z => absurd z (by decide), fun _ => c_Mo_in (by omega) (fun c5 => ⟨fun _ => ?_, fun z => absurd z (by decide)⟩) (fun c5 => ⟨fun z => absurd rfl z, fun _ => ?_⟩)⟩) (fun c1 => ⟨fun _ => ?_, fun z => absurd rfl z⟩))⟩
  · obtain ⟨c1, c2, c3, c4⟩ := c1
    obtain ⟨q, hq, rfl⟩ := xbw_of (m := 100) rfl c1
    obtain ⟨k, hk1, hk, rfl⟩ := xbw1_of (m := 9) rfl c2
    obtain ⟨a, ha, rfl⟩ := xbw_of (m := 10) rfl c3
    obtain ⟨b, hb, rfl⟩ := xbw_of (m := 10) rfl c4
    obtain ⟨s, hs, rfl⟩ := xbw_of (m := k) (nI_toInt (by omega)) c5
    rw [sSick_yes hq hk1 hk ha hb hs] at hQ
    have hb2 := sg_b hq hk ha hb hs
    refine c_Mo_shows (by omega) hq ha hk hs (c_Mo_allShow (by omega) hq hk ha hb hs ?_)
    change xcj (xMC n) 279 [.long (lN (sgU q k a s)), _, _] _ _
    by_cases hz : sgU q k a s + sgO q k b s = 0
    · have e1 : sgU q k a s = 0 := by omega
      rw [if_pos hz]
      rw [hz, e1] at hQ
      rw [e1]
      refine c_Mo_part (d := 1) (by omega) (by omega) (by omega) (by omega) ?_
      have e2 : gpt 0 0 un = gpt 0 1 un := by unfold gpt; by_cases hz : un = 0 <;> simp [hz]
      rwa [e2] at hQ
    · rw [if_neg hz]
      exact c_Mo_part (by omega) (by omega) (by omega) hz hQ
  · rwa [sSick_no (fun y => c5 y.2)] at hQ
  · rwa [sSick_no (fun y => c1 y.1)] at hQ
def sCall (q n a b c : Int32) : Int32 := if ((¬ q < 0 ∧ ¬ 100 < q) ∧ (¬ n < 1 ∧ ¬ 9 < n) ∧ (¬ a < 0 ∧ ¬ 10 < a) ∧ (¬ b < 0 ∧ ¬ 10 < b)) ∧ (¬ c < 0 ∧ ¬ 10 < c) then fst (fun s => rch (sgU q.toNatClampNeg n.toNatClampNeg a.toNatClampNeg s) (sgU q.toNatClampNeg n.toNatClampNeg a.toNatClampNeg s + sgO q.toNatClampNeg n.toNatClampNeg b.toNatClampNeg s) c.toNatClampNeg) (n.toNatClampNeg + 1) 0 else -1
theorem sCall_no {q n a b c : Int32} (h : ¬ ((xbw q 0 100 ∧ xbw n 1 9 ∧ xbw a 0 10 ∧ xbw b 0 10) ∧ xbw c 0 10)) : sCall q n a b c = -1 := if_neg h
theorem sCall_yes {q n a b c : Nat} (hq : q ≤ 100) (h1 : 1 ≤ n) (hn : n ≤ 9) (ha : a ≤ 10) (hb : b ≤ 10) (hc : c ≤ 10) : sCall (nI q) (nI n) (nI a) (nI b) (nI c) = fst (fun s => rch (sgU q n a s) (sgU q n a s + sgO q n b s) c) (n + 1) 0 := by
  have e : sCall (nI q) (nI n) (nI a) (nI b) (nI c) = fst (fun s => rch (sgU (nI q).toNatClampNeg (nI n).toNatClampNeg (nI a).toNatClampNeg s) (sgU (nI q).toNatClampNeg (nI n).toNatClampNeg (nI a).toNatClampNeg s + sgO (nI q).toNatClampNeg (nI n).toNatClampNeg (nI b).toNatClampNeg s) (nI c).toNatClampNeg) ((nI n).toNatClampNeg + 1) 0 := if_pos ⟨⟨xbwN (m := 100) hq (by decide) rfl, xbwN1 (m := 9) h1 hn (by decide) rfl, xbwN (m := 10) ha (by decide) rfl, xbwN (m := 10) hb (by decide) rfl⟩, xbwN (m := 10) hc (by decide) rfl⟩
  rw [e, nI_clamp (by omega), nI_clamp (by omega), nI_clamp (by omega), nI_clamp (by omega), nI_clamp (by omega)]
theorem c_So_call {n : Nat} (hn : 5 ≤ n) {h : xh} {a0 : Nat} {q k a b c : Int32} {Q : Int32 → xh → Prop} (hQ : Q (sCall q k a b c) h) : xci (xMC n) 200 [.ref a0, .int q, .int k, .int a, .int b, .int c] h Q := by
  obtain ⟨n, rfl⟩ := xsucc (show 1 ≤ n by omega)
  refine w_So_call (c_So_areSigns (by omega) (fun c1 => ⟨fun z => absurd z (by decide), fun _ => c_So_isOfTen (by omega) (fun c5 => ⟨fun _ => ?_, fun z => absurd z (by decide)⟩) (fun c5 => ⟨fun z => absurd rfl z, fun _ => ?_⟩)⟩) (fun c1 => ⟨fun _ => ?_, fun z => absurd rfl z⟩))
  · obtain ⟨c1, c2, c3, c4⟩ := c1
    obtain ⟨q, hq, rfl⟩ := xbw_of (m := 100) rfl c1
    obtain ⟨k, hk1, hk, rfl⟩ := xbw1_of (m := 9) rfl c2
    obtain ⟨a, ha, rfl⟩ := xbw_of (m := 10) rfl c3
    obtain ⟨b, hb, rfl⟩ := xbw_of (m := 10) rfl c4
    obtain ⟨c, hc, rfl⟩ := xbw_of (m := 10) rfl c5
    rw [sCall_yes hq hk1 hk ha hb hc] at hQ
    have loop : ∀ (d i : Nat), i + d = k + 1 → ∀ (o0 : Option Value), Q (fst (fun s => rch (sgU q k a s) (sgU q k a s + sgO q k b s) c) d i) h → K_So_call n Q 24 [o0, some (.int (nI q)), some (.int (nI k)), some (.int (nI a)), some (.int (nI b)), some (.int (nI c)), some (.int (nI i))] [] h := by
      intro d
      induction d with
      | zero =>
        intro i e o0 hQ
        exact b_So_call_24 ⟨fun _ => hQ, fun z => absurd (nI_lt (a := k) (b := i) (by omega) (by omega)) z⟩
      | succ d ih =>
        intro i e o0 hQ
        refine b_So_call_24 ⟨fun z => absurd z (nI_nlt (a := k) (b := i) (by omega) (by omega)), fun _ => c_So_shown (by omega) ha hk (by omega) (c_So_shown (by omega) hb hk (by omega) ?_)⟩
        have hb2 := sg_b hq hk ha hb (show i ≤ k by omega)
        rw [xsubC hq (M := 100) rfl, nI_l (by omega), nI_l (by omega), lN_mul, lN_mul]
        refine c_Fraction_reaches (u := sgU q k a i) (o := sgO q k b i) (by omega) (by omega) hc (fun r => ⟨fun z => absurd z (by decide), fun _ => ?_⟩) (fun r => ⟨fun _ => ?_, fun z => absurd rfl z⟩)
        · simp only [fst, r, if_pos] at hQ
          exact hQ
        · rw [nI_1]
          refine ih (i + 1) (by omega) _ ?_
          simp only [fst, r] at hQ
          exact hQ
    exact loop (k + 1) 0 (by omega) _ hQ
  · rwa [sCall_no (fun y => c5 y.2)] at hQ
  · rwa [sCall_no (fun y => c1 y.1)] at hQ
theorem c_Mo_call {n : Nat} (hn : 5 ≤ n) {h : xh} {m0 : Nat} (hm : 64 ≤ m0 ∧ xS h m0 = (11, 0)) {q k a b c : Int32} {Q : Int32 → xh → Prop} (hQ : Q (sCall q k a b c) (xsI h m0 0 0)) : xci (xMC n) 350 [.ref m0, .int q, .int k, .int a, .int b, .int c] h Q := by
  obtain ⟨n, rfl⟩ := xsucc (show 1 ≤ n by omega)
  refine w_Mo_call ⟨hm, b_Mo_call_5 (c_Mo_areSigns (by omega) (fun c1 => ⟨fun z => absurd z (by decide), fun _ => c_Mo_in (by omega) (fun c5 => ⟨fun _ => ?_, fun z => absurd z (by decide)⟩) (fun c5 => ⟨fun z => absurd rfl z, fun _ => ?_⟩)⟩) (fun c1 => ⟨fun _ => ?_, fun z => absurd rfl z⟩))⟩
  · obtain ⟨c1, c2, c3, c4⟩ := c1
    obtain ⟨q, hq, rfl⟩ := xbw_of (m := 100) rfl c1
    obtain ⟨k, hk1, hk, rfl⟩ := xbw1_of (m := 9) rfl c2
    obtain ⟨a, ha, rfl⟩ := xbw_of (m := 10) rfl c3
    obtain ⟨b, hb, rfl⟩ := xbw_of (m := 10) rfl c4
    obtain ⟨c, hc, rfl⟩ := xbw_of (m := 10) rfl c5
    rw [sCall_yes hq hk1 hk ha hb hc] at hQ
    generalize xsI h m0 0 0 = h at hQ ⊢
    have loop : ∀ (d i : Nat), i + d = k + 1 → ∀ (o0 : Option Value), Q (fst (fun s => rch (sgU q k a s) (sgU q k a s + sgO q k b s) c) d i) h → K_Mo_call n Q 32 [o0, some (.int (nI q)), some (.int (nI k)), some (.int (nI a)), some (.int (nI b)), some (.int (nI c)), some (.int (nI i))] [] h := by
      intro d
      induction d with
      | zero =>
        intro i e o0 hQ
        exact b_Mo_call_32 ⟨fun _ => hQ, fun z => absurd (nI_lt (a := k) (b := i) (by omega) (by omega)) z⟩
      | succ d ih =>
        intro i e o0 hQ
        have hb2 := sg_b hq hk ha hb (show i ≤ k by omega)
        have hr := rch_lt (u := sgU q k a i) (d := sgU q k a i + sgO q k b i) (c := c) (by omega) (by omega) hc _ rfl
        refine b_Mo_call_32 ⟨fun z => absurd z (nI_nlt (a := k) (b := i) (by omega) (by omega)), fun _ => c_Mo_shows (by omega) hq ha hk (by omega) (c_Mo_allShow (by omega) hq hk ha hb (by omega) ⟨fun z2 => ?_, fun z2 => ?_⟩)⟩
        · rw [nI_1]
          refine ih (i + 1) (by omega) _ ?_
          simp only [fst, hr.mp z2] at hQ
          exact hQ
        · have r : rch (sgU q k a i) (sgU q k a i + sgO q k b i) c = true := by
            cases hr2 : rch (sgU q k a i) (sgU q k a i + sgO q k b i) c with
            | true => rfl
            | false => exact absurd (hr.mpr hr2) z2
          simp only [fst, r, if_pos] at hQ
          exact hQ
    exact loop (k + 1) 0 (by omega) _ hQ
  · rwa [sCall_no (fun y => c5 y.2)] at hQ
  · rwa [sCall_no (fun y => c1 y.1)] at hQ
