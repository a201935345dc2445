/-! CONTRACTS of the small methods: numbers, powers, common divisors (class and reference) -/
theorem xsucc {n : Nat} (h : 1 ≤ n) : ∃ k, n = k + 1 := ⟨n - 1, by omega⟩
theorem c_Math_min {n : Nat} (hn : 1 ≤ n) {h : xh} {x y : Int32} {Q : Int32 → xh → Prop} (hQ : Q (if y < x then y else x) h) : xci (xMC n) 1 [.int x, .int y] h Q := by
  obtain ⟨n, rfl⟩ := xsucc hn
  refine w_Math_min_III ⟨fun c => ?_, fun c => ?_⟩
  · rwa [if_pos c] at hQ
  · rwa [if_neg c] at hQ
theorem c_Math_max {n : Nat} (hn : 1 ≤ n) {h : xh} {x y : Int32} {Q : Int32 → xh → Prop} (hQ : Q (if x < y then y else x) h) : xci (xMC n) 2 [.int x, .int y] h Q := by
  obtain ⟨n, rfl⟩ := xsucc hn
  refine w_Math_max ⟨fun c => ?_, fun c => ?_⟩
  · rwa [if_pos c] at hQ
  · rwa [if_neg c] at hQ
theorem c_Math_abs {n : Nat} (hn : 1 ≤ n) {h : xh} {x : Int32} {Q : Int32 → xh → Prop} (hQ : Q (if 0 ≤ x then x else -x) h) : xci (xMC n) 3 [.int x] h Q := by
  obtain ⟨n, rfl⟩ := xsucc hn
  refine w_Math_abs ⟨fun c => ?_, fun c => ?_⟩
  · rwa [if_pos c] at hQ
  · rwa [if_neg c] at hQ
theorem c_Math_minJ {n : Nat} (hn : 1 ≤ n) {h : xh} {x y : Int64} {Q : Int64 → xh → Prop} (hQ : Q (if y < x then y else x) h) : xcj (xMC n) 4 [.long x, .long y] h Q := by
  obtain ⟨n, rfl⟩ := xsucc hn
  refine w_Math_min_JJJ ⟨fun c => ?_, fun c => ?_⟩
  · rwa [if_pos c] at hQ
  · rwa [if_neg c] at hQ
/-- between two bounds -/
def xbw (x lo hi : Int32) : Prop := ¬ x < lo ∧ ¬ hi < x
theorem c_So_isOfTen {n : Nat} (hn : 1 ≤ n) {h : xh} {x : Int32} {Q : Int32 → xh → Prop} (h1 : xbw x 0 10 → Q 1 h) (h0 : ¬ xbw x 0 10 → Q 0 h) : xci (xMC n) 192 [.int x] h Q := by
  obtain ⟨n, rfl⟩ := xsucc hn
  exact w_So_isOfTen ⟨fun c => h0 (fun z => z.1 c), fun c => ⟨fun d => h0 (fun z => z.2 d), fun d => h1 ⟨c, d⟩⟩⟩
theorem c_So_isOfHundred {n : Nat} (hn : 1 ≤ n) {h : xh} {x : Int32} {Q : Int32 → xh → Prop} (h1 : xbw x 0 100 → Q 1 h) (h0 : ¬ xbw x 0 100 → Q 0 h) : xci (xMC n) 193 [.int x] h Q := by
  obtain ⟨n, rfl⟩ := xsucc hn
  exact w_So_isOfHundred ⟨fun c => h0 (fun z => z.1 c), fun c => ⟨fun d => h0 (fun z => z.2 d), fun d => h1 ⟨c, d⟩⟩⟩
theorem c_Mo_in {n : Nat} (hn : 1 ≤ n) {h : xh} {x lo hi : Int32} {Q : Int32 → xh → Prop} (h1 : xbw x lo hi → Q 1 h) (h0 : ¬ xbw x lo hi → Q 0 h) : xci (xMC n) 211 [.int x, .int lo, .int hi] h Q := by
  obtain ⟨n, rfl⟩ := xsucc hn
  exact w_Mo_in ⟨fun c => h0 (fun z => z.1 c), fun c => ⟨fun d => h0 (fun z => z.2 d), fun d => h1 ⟨c, d⟩⟩⟩
theorem xbw_of {x M : Int32} {m : Nat} (hM : M.toInt = m) (h : xbw x 0 M) : ∃ j : Nat, j ≤ m ∧ x = nI j := nI_of2 hM h.1 (Int32.not_lt.mp h.2)
/-- powers of a long -/
def lpw (b : Int64) : Nat → Int64
  | 0 => 1
  | k + 1 => lpw b k * b
theorem lpw_N (a : Nat) : ∀ k, lpw (lN a) k = lN (a ^ k)
  | 0 => rfl
  | k + 1 => by
    show lpw (lN a) k * lN a = lN (a ^ (k + 1))
    rw [lpw_N a k, lN_mul, Nat.pow_succ]
theorem k_Fraction_power {n : Nat} {h : xh} {b : Int32} {k : Nat} (hk : k < 2 ^ 31) {Q : Int64 → xh → Prop} (hQ : Q (lpw b.toInt64 k) h) : ∀ (d i : Nat), i + d = k → K_Fraction_power n Q 5 [some (.int b), some (.int (nI k)), some (.long (lpw b.toInt64 i)), none, some (.int (nI i))] [] h
  | 0, i, e => by
    have e' : i = k := by omega
    subst e'
    exact b_Fraction_power_5 ⟨fun _ => hQ, fun c => absurd (Int32.le_refl _) c⟩
  | d + 1, i, e => by
    refine b_Fraction_power_5 ⟨fun c => absurd ((nI_leI hk (by omega)).mp c) (by omega), fun _ => ?_⟩
    rw [nI_1]
    exact k_Fraction_power hk hQ d (i + 1) (by omega)
theorem c_Fraction_power {n : Nat} (hn : 1 ≤ n) {h : xh} {b : Int32} {k : Nat} (hk : k < 2 ^ 31) {Q : Int64 → xh → Prop} (hQ : Q (lpw b.toInt64 k) h) : xcj (xMC n) 21 [.int b, .int (nI k)] h Q := by
  obtain ⟨n, rfl⟩ := xsucc hn
  exact w_Fraction_power (k_Fraction_power hk hQ k 0 (by omega))
theorem k_Mo_power {n : Nat} {h : xh} {b : Int64} {k : Nat} (hk : k < 2 ^ 31) {Q : Int64 → xh → Prop} (hQ : Q (lpw b k) h) : ∀ (d i : Nat), i + d = k → K_Mo_power n Q 5 [some (.long b), none, some (.int (nI k)), some (.long (lpw b i)), none, some (.int (nI i))] [] h
  | 0, i, e => by
    have e' : i = k := by omega
    subst e'
    exact b_Mo_power_5 ⟨fun _ => hQ, fun c => absurd (Int32.le_refl _) c⟩
  | d + 1, i, e => by
    refine b_Mo_power_5 ⟨fun c => absurd ((nI_leI hk (by omega)).mp c) (by omega), fun _ => ?_⟩
    rw [nI_1]
    exact k_Mo_power hk hQ d (i + 1) (by omega)
theorem c_Mo_power {n : Nat} (hn : 1 ≤ n) {h : xh} {b : Int64} {k : Nat} (hk : k < 2 ^ 31) {Q : Int64 → xh → Prop} (hQ : Q (lpw b k) h) : xcj (xMC n) 328 [.long b, .int (nI k)] h Q := by
  obtain ⟨n, rfl⟩ := xsucc hn
  exact w_Mo_power (k_Mo_power hk hQ k 0 (by omega))
/-- Euclid in the reference -/
theorem lN_0 : lN 0 = 0 := rfl
theorem lN_z {b : Nat} (hb : b < 2 ^ 63) : lN b = 0 ↔ b = 0 := by
  rw [← lN_0, pk_lEQ hb (by decide)]
theorem k_Mo_common {n : Nat} {h : xh} {Q : Int64 → xh → Prop} : ∀ (b a : Nat), a < 2 ^ 63 → b < 2 ^ 63 → ∀ (o0 o1 o2 o3 o8 o9 : Option Value), Q (lN (Nat.gcd a b)) h → K_Mo_common n Q 6 [o0, o1, o2, o3, some (.long (lN a)), none, some (.long (lN b)), none, o8, o9] [] h := by
  intro b
  induction b using Nat.strongRecOn with
  | ind b ih =>
    intro a ha hb o0 o1 o2 o3 o8 o9 hQ
    refine b_Mo_common_6 ⟨fun c => ?_, fun c => ?_⟩
    · have e : b = 0 := (lN_z hb).mp c
      subst e
      rwa [Nat.gcd_zero_right] at hQ
    · have hb0 : b ≠ 0 := fun z => c (by rw [z]; rfl)
      refine ⟨c, ?_⟩
      rw [pk_lRem ha (by omega) hb]
      have hlt := Nat.mod_lt a (show b > 0 by omega)
      refine ih (a % b) hlt b hb (by omega) _ _ _ _ _ _ ?_
      rwa [Nat.gcd_comm a b, Nat.gcd_rec, Nat.gcd_comm] at hQ
theorem c_Mo_common {n : Nat} (hn : 1 ≤ n) {h : xh} {a b : Nat} (ha : a < 2 ^ 63) (hb : b < 2 ^ 63) {Q : Int64 → xh → Prop} (hQ : Q (lN (Nat.gcd a b)) h) : xcj (xMC n) 280 [.long (lN a), .long (lN b)] h Q := by
  obtain ⟨n, rfl⟩ := xsucc hn
  exact w_Mo_common (k_Mo_common b a ha hb _ _ _ _ _ _ hQ)
/-- Euclid in the class: 200 rounds are enough -/
theorem k_Fraction_divisor {n : Nat} {h : xh} {Q : Int64 → xh → Prop} : ∀ (k a b i : Nat), a < 2 ^ 63 → b < 2 ^ 63 → b < 2 ^ k → i + 2 * k + 1 ≤ 200 → ∀ (o5 o6 : Option Value), Q (lN (Nat.gcd a b)) h → K_Fraction_divisor n Q 3 [some (.long (lN a)), none, some (.long (lN b)), none, some (.int (nI i)), o5, o6] [] h := by
  intro k
  induction k with
  | zero =>
    intro a b i ha hb hk hi o5 o6 hQ
    have e : b = 0 := by simpa using hk
    subst e
    rw [Nat.gcd_zero_right] at hQ
    exact b_Fraction_divisor_3 ⟨fun _ => hQ, fun _ => ⟨fun _ => hQ, fun c => absurd rfl c⟩⟩
  | succ k ih =>
    intro a b i ha hb hk hi o5 o6 hQ
    have h200 : ∀ j : Nat, j < 200 → ¬ (200 : Int32) ≤ nI j := fun j hj z => absurd ((nI_leI (a := 200) (b := j) (by decide) (by omega)).mp z) (by omega)
    refine b_Fraction_divisor_3 ⟨fun c => absurd c (h200 i (by omega)), fun _ => ⟨fun c => ?_, fun c => ?_⟩⟩
    · have e : b = 0 := (lN_z hb).mp c
      subst e
      rwa [Nat.gcd_zero_right] at hQ
    · have hb0 : b ≠ 0 := fun z => c (by rw [z]; rfl)
      refine ⟨c, ?_⟩
      rw [pk_lRem ha (by omega) hb, nI_1]
      have hlt := Nat.mod_lt a (show b > 0 by omega)
      have hg : Nat.gcd a b = Nat.gcd b (a % b) := by rw [Nat.gcd_comm a b, Nat.gcd_rec, Nat.gcd_comm]
      rw [hg] at hQ
      generalize hr : a % b = r at hlt hQ ⊢
      refine b_Fraction_divisor_3 ⟨fun c => absurd c (h200 (i + 1) (by omega)), fun _ => ⟨fun c => ?_, fun c => ?_⟩⟩
      · have e : r = 0 := (lN_z (by omega)).mp c
        subst e
        rwa [Nat.gcd_zero_right] at hQ
      · have hr0 : r ≠ 0 := fun z => c (by rw [z]; rfl)
        refine ⟨c, ?_⟩
        rw [pk_lRem hb (by omega) (by omega), nI_1]
        have hlt2 := Nat.mod_lt b (show r > 0 by omega)
        have hhalf : b % r < 2 ^ k := by
          have h1 : 2 ^ (k + 1) = 2 * 2 ^ k := by rw [Nat.pow_succ]; omega
          by_cases h2 : 2 * r ≤ b
          · omega
          · have h3 : b % r = b - r := by
              rw [Nat.mod_eq_sub_mod (by omega), Nat.mod_eq_of_lt (by omega)]
            omega
        refine ih r (b % r) (i + 1 + 1) (by omega) (by omega) hhalf (by omega) _ _ ?_
        rwa [Nat.gcd_comm b r, Nat.gcd_rec, Nat.gcd_comm] at hQ
theorem c_Fraction_divisor {n : Nat} (hn : 1 ≤ n) {h : xh} {a b : Nat} (ha : a < 2 ^ 63) (hb : b < 2 ^ 63) {Q : Int64 → xh → Prop} (hQ : Q (lN (Nat.gcd a b)) h) : xcj (xMC n) 20 [.long (lN a), .long (lN b)] h Q := by
  obtain ⟨n, rfl⟩ := xsucc hn
  exact w_Fraction_divisor (k_Fraction_divisor 63 a b 0 ha hb hb (by omega) _ _ hQ)
/-- a part of a fraction in lowest terms; 0 by 1 where the lower part is 0 -/
def gpt (u d : Nat) (under : Int32) : Nat := if d = 0 then (if under = 0 then 0 else 1) else (if under = 0 then u else d) / Nat.gcd u d
theorem c_Fraction_part {n : Nat} (hn : 2 ≤ n) {h : xh} {u d : Nat} {un : Int32} (hu : u < 2 ^ 63) (hd : d < 2 ^ 63) {Q : Int64 → xh → Prop} (hQ : Q (lN (gpt u d un)) h) : xcj (xMC n) 19 [.long (lN u), .long (lN d), .int un] h Q := by
  obtain ⟨n, rfl⟩ := xsucc (show 1 ≤ n by omega)
  refine w_Fraction_part (c_Fraction_divisor (by omega) hu hd ?_)
  have hz : ∀ {h : xh} {o0 o1 o2 o3 o5 o6 : Option Value}, d = 0 → Q (lN (gpt u d un)) h → K_Fraction_part n Q 20 [o0, o1, o2, o3, some (.int un), o5, o6] [] h := by
    intro h o0 o1 o2 o3 o5 o6 e hQ
    unfold gpt at hQ
    rw [if_pos e] at hQ
    refine b_Fraction_part_20 ⟨fun c => ?_, fun c => ?_⟩
    · rw [if_pos c] at hQ; exact hQ
    · rw [if_neg c] at hQ; exact hQ
  refine ⟨fun c => hz ((lN_z hd).mp c) hQ, fun c => ?_⟩
  have hd0 : d ≠ 0 := fun z => c (by rw [z]; rfl)
  have hg0 : 0 < Nat.gcd u d := Nat.gcd_pos_of_pos_right _ (by omega)
  have hgl : Nat.gcd u d < 2 ^ 63 := Nat.lt_of_le_of_lt (Nat.le_of_dvd (by omega) (Nat.gcd_dvd_right u d)) hd
  have hgn : ¬ lN (Nat.gcd u d) = 0 := fun z => absurd ((lN_z hgl).mp z) (by omega)
  refine ⟨fun _ => ⟨fun c2 => ⟨hgn, ?_⟩, fun c2 => ⟨hgn, ?_⟩⟩, fun c2 => absurd c2 hgn⟩
  · rw [pk_lDiv hu hg0 hgl]
    unfold gpt at hQ
    rwa [if_neg hd0, if_pos c2] at hQ
  · rw [pk_lDiv hd hg0 hgl]
    unfold gpt at hQ
    rwa [if_neg hd0, if_neg c2] at hQ
theorem c_Mo_part {n : Nat} (hn : 2 ≤ n) {h : xh} {u d : Nat} {un : Int32} (hu : u < 2 ^ 63) (hd : d < 2 ^ 63) (hd0 : d ≠ 0) {Q : Int64 → xh → Prop} (hQ : Q (lN (gpt u d un)) h) : xcj (xMC n) 279 [.long (lN u), .long (lN d), .int un] h Q := by
  obtain ⟨n, rfl⟩ := xsucc (show 1 ≤ n by omega)
  have hg0 : 0 < Nat.gcd u d := Nat.gcd_pos_of_pos_right _ (by omega)
  have hgl : Nat.gcd u d < 2 ^ 63 := Nat.lt_of_le_of_lt (Nat.le_of_dvd (by omega) (Nat.gcd_dvd_right u d)) hd
  have hgn : ¬ lN (Nat.gcd u d) = 0 := fun z => absurd ((lN_z hgl).mp z) (by omega)
  unfold gpt at hQ
  rw [if_neg hd0] at hQ
  refine w_Mo_part ⟨fun c => c_Mo_common (by omega) hd hu ?_, fun c => c_Mo_common (by omega) hd hu ?_⟩
  · rw [Nat.gcd_comm]
    refine ⟨hgn, ?_⟩
    rw [pk_lDiv hu hg0 hgl]
    rwa [if_pos c] at hQ
  · rw [Nat.gcd_comm]
    refine ⟨hgn, ?_⟩
    rw [pk_lDiv hd hg0 hgl]
    rwa [if_neg c] at hQ
