/-! the loop to its end -/
theorem law_cmp {N i : Nat} (hN : N < 2 ^ 30) (hi : i < 2 ^ 30) : (nI N - 7 < nI i) ↔ N < i + 7 := by
  rw [Int32.lt_iff_toInt_lt, show (nI N - 7).toInt = ((N : Int) - (7 : Nat)) from pk_sub_toInt (b := 7) hN (by decide), nI_toInt (by omega)]
  omega
set_option maxRecDepth 100000 in
theorem law_loop {N : Nat} {xs : Nat → Int32} (hN : N ≤ 3584) {Q : Int32 → xh → Prop} (hQ : ∀ h, Q 1 h) : ∀ m d h kc ks, d + m = 512 → (∃ cc, Iv N xs cc h) → kc ≤ 129 + 51 * d → ks ≤ 58598 + 1159 * d → K_law 11 Q 18 [some (.ref 0), some (.ref 64), some (.ref 166), some (.int (nI (7 * d)))] [] h kc ks := by
  have ex : ∀ d h kc ks, N < 7 * d + 7 → d ≤ 512 → (∃ cc, Iv N xs cc h) → K_law 11 Q 18 [some (.ref 0), some (.ref 64), some (.ref 166), some (.int (nI (7 * d)))] [] h kc ks := fun d h kc ks hd d5 ⟨cc, I⟩ => by
    have sN := I.st.c0.2
    refine b_law_18 ⟨by rw [sN]; exact ⟨show 20 ≤ 20 by decide, show 20 ≤ 28 by decide⟩, fun _ => hQ h, fun z => absurd ?_ z⟩
    rw [sN]
    exact (law_cmp (by omega) (by omega)).mpr (by omega)
  intro m
  induction m with
  | zero => exact fun d h kc ks hd I _ _ => ex d h kc ks (by omega) (by omega) I
  | succ m ih =>
    intro d h kc ks hd hI k1 k2
    by_cases e : N < 7 * d + 7
    · exact ex d h kc ks e (by omega) hI
    · obtain ⟨cc, I⟩ := hI
      refine law_step I (by omega) hN (by omega) (by omega) (fun z => e ((law_cmp (by omega) (by omega)).mp z)) (fun h2 kc2 ks2 I2 y1 y2 => ?_)
      have z1 : kc2 ≤ 129 + 51 * (d + 1) := by clear ih ex I2; omega
      have z2 : ks2 ≤ 58598 + 1159 * (d + 1) := by clear ih ex I2; omega
      have z0 : d + 1 + m = 512 := by clear ih ex I2; omega
      have := ih (d + 1) h2 kc2 ks2 z0 I2 z1 z2
      rw [show nI (7 * d) + 7 = nI (7 * (d + 1)) from (nI_add (7 * d) 7).trans (by rw [show 7 * d + 7 = 7 * (d + 1) by omega])]
      exact this
