/-! look: where to look first, as numbers -/
def adN (a b : Nat) : Nat := if a < b then b - a else a - b
theorem adN_le {a b m : Nat} (ha : a ≤ m) (hb : b ≤ m) : adN a b ≤ m := by
  unfold adN
  split <;> omega
theorem apt_n {a b : Nat} (ha : a < 2 ^ 30) (hb : b < 2 ^ 30) : apt (nI a) (nI b) = nI (adN a b) := by
  unfold apt adN
  by_cases c : a < b
  · rw [if_pos c, if_pos (nI_lt c (by omega)), pk_sub (by omega)]
  · rw [if_neg c, if_neg (nI_nlt (by omega) (by omega)), pk_sub (by omega)]
theorem abs_n {a b : Nat} (ha : a < 2 ^ 30) (hb : b < 2 ^ 30) : (if 0 ≤ nI a - nI b then nI a - nI b else -(nI a - nI b)) = nI (adN a b) := by
  unfold adN
  have t := pk_sub_toInt ha hb
  have z : (0 : Int32).toInt = 0 := rfl
  by_cases c : a < b
  · rw [if_pos c, if_neg (fun y => by rw [Int32.le_iff_toInt_le, t] at y; omega), Int32.neg_sub, pk_sub (by omega)]
  · rw [if_neg c, if_pos (by rw [Int32.le_iff_toInt_le, t]; omega), pk_sub (by omega)]
def hX (S : Nat → Int32) (a : Nat) : Nat := if a = 8 then 0 else bN S (25 + a)
def hY (S : Nat → Int32) (a : Nat) : Nat := if a = 8 then 0 else bN S (33 + a)
def wy (S : Nat → Int32) (a k : Nat) : Nat := adN (hX S a) (hX S k) + adN (hY S a) (hY S k)
/-- the start (8) or a hide -/
def atH (S : Nat → Int32) (a : Nat) : Prop := a = 8 ∨ a < bN S 2
theorem hX_le {S : Nat → Int32} (ok : ShOK S) {a : Nat} (ha : atH S a) : hX S a ≤ 9 ∧ hY S a ≤ 9 := by
  unfold hX hY
  have o := ok.n
  rcases ha with e | e
  · rw [if_pos e, if_pos e]; omega
  · have := ok.2.2.2.2 a e
    rw [if_neg (by omega), if_neg (by omega)]
    omega
theorem wy_le {S : Nat → Int32} (ok : ShOK S) {a k : Nat} (ha : atH S a) (hk : k < bN S 2) : wy S a k ≤ 18 := by
  have h1 := hX_le ok ha
  have h2 := hX_le ok (Or.inr hk)
  have := adN_le h1.1 h2.1
  have := adN_le h1.2 h2.2
  unfold wy
  omega
def oD (S : Nat → Int32) (V : Nat) : Nat → Nat
  | 0 => 0
  | k + 1 => oD S V k + if V.testBit k = true then bN S (41 + k) else 0
def od (S : Nat → Int32) (V : Nat) : Nat := oD S V (bN S 2)
theorem oD_le {S : Nat → Int32} (ok : ShOK S) (V : Nat) : ∀ k, k ≤ bN S 2 → oD S V k ≤ 20 * k
  | 0, _ => Nat.le_refl _
  | k + 1, h => by
    have := oD_le ok V k (by omega)
    have := (ok.2.2.2.2 k (by omega)).2.2
    unfold oD
    split <;> omega
theorem od_le {S : Nat → Int32} (ok : ShOK S) (V : Nat) : od S V ≤ 160 := by
  have o := ok.n
  have := oD_le ok V (bN S 2) (Nat.le_refl _)
  unfold od
  omega
theorem oD_or {S : Nat → Int32} {V a : Nat} (h : V.testBit a = false) : ∀ k, oD S (V ||| 2 ^ a) k = oD S V k + if a < k then bN S (41 + a) else 0
  | 0 => rfl
  | k + 1 => by
    unfold oD
    rw [oD_or h k, or_bit]
    by_cases e : a = k
    · subst e
      rw [h]
      simp
    · have : (V.testBit k || decide (a = k)) = V.testBit k := by simp [e]
      rw [this]
      split <;> split <;> split <;> omega
theorem oD_dif {S : Nat → Int32} {F V : Nat} : ∀ k, (∀ j, j < k → F.testBit j = true) → oD S V k + oD S (sdf F V) k = oD S F k
  | 0, _ => rfl
  | k + 1, h => by
    have ih := oD_dif (S := S) (V := V) k (fun j hj => h j (by omega))
    unfold oD
    rw [sdf_bit, h k (by omega)]
    cases V.testBit k <;> simp <;> omega
def tmL (S : Nat → Int32) (c : Nat → Nat → Nat) (V a k : Nat) : Nat := wy S a k * od S V + c (sdf V (2 ^ k)) k
def lwk (S : Nat → Int32) (c : Nat → Nat → Nat) (V a : Nat) : Nat → Nat
  | 0 => 1000000
  | k + 1 => if V.testBit k = true then min (lwk S c V a k) (tmL S c V a k) else lwk S c V a k
/-- what is still to be walked, times odds, with d hides left -/
def lw (S : Nat → Int32) : Nat → Nat → Nat → Nat
  | 0 => fun _ _ => 0
  | d + 1 => fun V a => lwk S (lw S d) V a (bN S 2)
theorem lw_s (S : Nat → Int32) (d V a : Nat) : lw S (d + 1) V a = lwk S (lw S d) V a (bN S 2) := rfl
theorem lwk_far (S : Nat → Int32) (c : Nat → Nat → Nat) (V a : Nat) : ∀ n, lwk S c V a n ≤ 1000000
  | 0 => Nat.le_refl _
  | n + 1 => by
    have := lwk_far S c V a n
    unfold lwk
    split <;> omega
theorem lwk_le {S : Nat → Int32} {c : Nat → Nat → Nat} {V a k : Nat} (hb : V.testBit k = true) : ∀ {n : Nat}, k < n → lwk S c V a n ≤ tmL S c V a k
  | 0, h => absurd h (Nat.not_lt_zero k)
  | n + 1, h => by
    unfold lwk
    by_cases e : k = n
    · subst e; rw [if_pos hb]; omega
    · have := lwk_le (S := S) (c := c) (a := a) hb (n := n) (by omega)
      split <;> omega
theorem lwk_at {S : Nat → Int32} {c : Nat → Nat → Nat} {V a : Nat} : ∀ n, lwk S c V a n = 1000000 ∨ ∃ k, k < n ∧ V.testBit k = true ∧ tmL S c V a k = lwk S c V a n
  | 0 => Or.inl rfl
  | n + 1 => by
    have ih := lwk_at (S := S) (c := c) (V := V) (a := a) n
    unfold lwk
    by_cases b : V.testBit n = true
    · rw [if_pos b]
      by_cases l : tmL S c V a n ≤ lwk S c V a n
      · exact Or.inr ⟨n, by omega, b, by omega⟩
      · rw [Nat.min_eq_left (by omega)]
        rcases ih with e | ⟨k, hk, h1, h2⟩
        · exact Or.inl e
        · exact Or.inr ⟨k, by omega, h1, h2⟩
    · rw [if_neg b]
      rcases ih with e | ⟨k, hk, h1, h2⟩
      · exact Or.inl e
      · exact Or.inr ⟨k, by omega, h1, h2⟩
theorem pcn_z : ∀ Z, Z < 512 → pcn 9 Z = 0 → Z = 0 := by decide +kernel
theorem sdf_or {W a : Nat} (h : W.testBit a = true) : sdf W (2 ^ a) ||| 2 ^ a = W := by
  apply Nat.eq_of_testBit_eq
  intro i
  rw [or_bit, sdf_bit, Nat.testBit_two_pow]
  by_cases e : a = i
  · subst e; rw [h]; simp
  · simp [e]
theorem sdf_self (W a : Nat) : (sdf W (2 ^ a)).testBit a = false := by
  rw [sdf_bit, Nat.testBit_two_pow]; simp
theorem pcn_rm {W a : Nat} (h : W.testBit a = true) (ha : a < 9) : pcn 9 W = pcn 9 (sdf W (2 ^ a)) + 1 := by
  have := pcn_or (sdf_self W a) 9
  rw [sdf_or h, if_pos ha] at this
  exact this
theorem bit_ex {V n : Nat} (hV : V < 2 ^ n) (h0 : V ≠ 0) : ∃ k, k < n ∧ V.testBit k = true := by
  apply Classical.byContradiction
  intro z
  refine h0 (Nat.eq_of_testBit_eq (fun i => ?_))
  rw [Nat.zero_testBit]
  by_cases c : i < n
  · cases b : V.testBit i
    · rfl
    · exact absurd ⟨i, c, b⟩ z
  · exact Nat.testBit_lt_two_pow (Nat.lt_of_lt_of_le hV (Nat.pow_le_pow_right (by decide) (by omega)))
theorem lw_b {S : Nat → Int32} (ok : ShOK S) : ∀ (d V a : Nat), V < 2 ^ bN S 2 → pcn 9 V = d → atH S a → lw S d V a ≤ 2880 * d
  | 0, _, _, _, _, _ => Nat.le_refl _
  | d + 1, V, a, hV, hp, ha => by
    have o := ok.n
    have h0 : V ≠ 0 := fun e => by subst e; have : pcn 9 0 = 0 := by decide
                                   omega
    obtain ⟨k, hk, hb⟩ := bit_ex hV h0
    have r := pcn_rm hb (by omega)
    have ih := lw_b ok d (sdf V (2 ^ k)) k (sdf_lt hV) (by omega) (Or.inr hk)
    have l := lwk_le (S := S) (c := lw S d) (a := a) hb hk
    have w := wy_le ok ha hk
    have m : wy S a k * od S V ≤ 18 * 160 := Nat.mul_le_mul w (od_le ok V)
    rw [lw_s]
    unfold tmL at l
    omega
/-- some hide is the best one -/
theorem lw_ex {S : Nat → Int32} (ok : ShOK S) {d V a : Nat} (hV : V < 2 ^ bN S 2) (hp : pcn 9 V = d + 1) (ha : atH S a) : ∃ k, k < bN S 2 ∧ V.testBit k = true ∧ tmL S (lw S d) V a k = lw S (d + 1) V a := by
  have b := lw_b ok (d + 1) V a hV hp ha
  have p9 := pcn_le 9 V
  rw [lw_s] at b ⊢
  rcases lwk_at (S := S) (c := lw S d) (V := V) (a := a) (bN S 2) with e | e
  · omega
  · exact e
theorem fsx_sp {p : Nat → Bool} : ∀ {d i k : Nat}, i ≤ k → k < i + d → p k = true → fsx p d i ≤ k ∧ p (fsx p d i) = true
  | 0, i, k, h1, h2, _ => by omega
  | d + 1, i, k, h1, h2, h3 => by
    unfold fsx
    by_cases c : p i = true
    · rw [if_pos c]; exact ⟨h1, c⟩
    · rw [if_neg c]
      have : i ≠ k := fun e => c (by rw [e]; exact h3)
      exact fsx_sp (by omega) (by omega) h3
def pL (S : Nat → Int32) (d V a k : Nat) : Bool := V.testBit k && decide (tmL S (lw S d) V a k = lw S (d + 1) V a)
/-- the hides in the order of looking: what is left, and where one is -/
def hq (S : Nat → Int32) : Nat → Nat × Nat
  | 0 => (2 ^ bN S 2 - 1, 8)
  | i + 1 => (sdf (hq S i).1 (2 ^ fsx (pL S (bN S 2 - (i + 1)) (hq S i).1 (hq S i).2) (bN S 2) 0), fsx (pL S (bN S 2 - (i + 1)) (hq S i).1 (hq S i).2) (bN S 2) 0)
def hk (S : Nat → Int32) (i : Nat) : Nat := fsx (pL S (bN S 2 - (i + 1)) (hq S i).1 (hq S i).2) (bN S 2) 0
theorem hq_s (S : Nat → Int32) (i : Nat) : hq S (i + 1) = (sdf (hq S i).1 (2 ^ hk S i), hk S i) := rfl
theorem pL_ex {S : Nat → Int32} (ok : ShOK S) {d V a : Nat} (hV : V < 2 ^ bN S 2) (hp : pcn 9 V = d + 1) (ha : atH S a) : fsx (pL S d V a) (bN S 2) 0 < bN S 2 ∧ V.testBit (fsx (pL S d V a) (bN S 2) 0) = true ∧ pL S d V a (fsx (pL S d V a) (bN S 2) 0) = true := by
  obtain ⟨k, hk, hb, e⟩ := lw_ex ok hV hp ha
  have pk : pL S d V a k = true := by unfold pL; rw [hb, decide_eq_true e]; rfl
  obtain ⟨h1, h2⟩ := fsx_sp (p := pL S d V a) (d := bN S 2) (i := 0) (by omega) (by omega) pk
  refine ⟨by omega, ?_, h2⟩
  unfold pL at h2
  simp only [Bool.and_eq_true] at h2
  exact h2.1
theorem pcn_full9 : ∀ H, H ≤ 8 → pcn 9 (2 ^ H - 1) = H := by decide
theorem hq_p {S : Nat → Int32} (ok : ShOK S) : ∀ i, i ≤ bN S 2 → (hq S i).1 < 2 ^ bN S 2 ∧ pcn 9 (hq S i).1 = bN S 2 - i ∧ atH S (hq S i).2
  | 0, _ => by
    have o := ok.n
    refine ⟨?_, ?_, Or.inl rfl⟩
    · show 2 ^ bN S 2 - 1 < 2 ^ bN S 2
      have := Nat.two_pow_pos (bN S 2)
      omega
    · show pcn 9 (2 ^ bN S 2 - 1) = bN S 2 - 0
      rw [pcn_full9 _ (by omega)]; rfl
  | i + 1, h => by
    have o := ok.n
    obtain ⟨h1, h2, h3⟩ := hq_p ok i (by omega)
    obtain ⟨e1, e2, _⟩ := pL_ex ok (d := bN S 2 - (i + 1)) h1 (by omega) h3
    rw [hq_s]
    have r := pcn_rm (a := hk S i) e2 (by have : hk S i < bN S 2 := e1; omega)
    refine ⟨sdf_lt h1, ?_, Or.inr e1⟩
    show pcn 9 (sdf (hq S i).1 (2 ^ hk S i)) = _
    omega
theorem hk_p {S : Nat → Int32} (ok : ShOK S) {i : Nat} (hi : i < bN S 2) : hk S i < bN S 2 ∧ (hq S i).1.testBit (hk S i) = true := by
  obtain ⟨h1, h2, h3⟩ := hq_p ok i (by omega)
  obtain ⟨e1, e2, _⟩ := pL_ex ok (d := bN S 2 - (i + 1)) h1 (by omega) h3
  exact ⟨e1, e2⟩
