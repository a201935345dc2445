/-! THE FIRST HEAP keeps the invariant; the law -/
def fAll : List xdd := fMo ((0, 166, 11, 0, 0) :: fSo [(0, 64, 0, 0, 0)])
theorem fA_S : ∀ j, j < 129 → dS fAll (64 + j) (99, 0) = shL.getD j (99, 0) := by decide +kernel
theorem fA_R : ∀ j, j < 129 → ∀ i, i < 60 → (rfL.getD j []).getD i none = none ∨ dR fAll (64 + j) i none = (rfL.getD j []).getD i none := by decide +kernel
theorem fA_L : ∀ j, j < 129 → (rfL.getD j []).length ≤ 60 := by decide +kernel
theorem fA_0 : (dR fAll 146 0 none = none ∧ dR fAll 150 0 none = none ∧ dR fAll 159 0 none = none) ∧ ∀ k, k < 3 → dR fAll 116 k none = none := by decide +kernel
theorem fA_a : ∀ o ∈ fAll, 64 ≤ o.2.1 ∧ (o.1 = 0 ∨ o.1 = 1 ∨ (o.2.1 = 65 ∧ o.2.2.1 = 3) ∨ (o.2.1 = 170 ∧ o.2.2.1 = 0)) := by decide +kernel
theorem fA_i : dI fAll 65 3 0 = -1 ∧ dI fAll 170 0 0 = -1 := by decide +kernel
theorem dI_0 {c i : Nat} (hc : ¬ (c = 65 ∧ i = 3)) (hd : ¬ (c = 170 ∧ i = 0)) : ∀ l : List xdd, (∀ o ∈ l, 64 ≤ o.2.1 ∧ (o.1 = 0 ∨ o.1 = 1 ∨ (o.2.1 = 65 ∧ o.2.2.1 = 3) ∨ (o.2.1 = 170 ∧ o.2.2.1 = 0))) → dI l c i 0 = 0
  | [], _ => rfl
  | (k, a, j, v, w) :: l, h => by
    have ih := dI_0 hc hd l (fun o ho => h o (List.mem_cons_of_mem _ ho))
    have ho := h _ List.mem_cons_self
    match k, ho with
    | 0, _ =>
      show (if c = a then (0 : Int32) else dI l c i 0) = 0
      by_cases e : c = a
      · rw [if_pos e]
      · rw [if_neg e]; exact ih
    | 1, _ => exact ih
    | k + 2, ho =>
      show (if c = a ∧ i = j then (-1 : Int32) else dI l c i 0) = 0
      rw [if_neg, ih]
      rintro ⟨e1, e2⟩
      subst e1; subst e2
      rcases ho.2 with z | z | z | z
      · exact absurd z (by show ¬ k + 2 = 0; omega)
      · exact absurd z (by show ¬ k + 2 = 1; omega)
      · exact hc z
      · exact hd z
theorem d_lo {c : Nat} (hc : c < 64) : ∀ l : List xdd, (∀ o ∈ l, 64 ≤ o.2.1 ∧ (o.1 = 0 ∨ o.1 = 1 ∨ (o.2.1 = 65 ∧ o.2.2.1 = 3) ∨ (o.2.1 = 170 ∧ o.2.2.1 = 0))) → (∀ q, dS l c q = q) ∧ (∀ i q, dR l c i q = q) ∧ ∀ i q, dI l c i q = q
  | [], _ => ⟨fun _ => rfl, fun _ _ => rfl, fun _ _ => rfl⟩
  | (k, a, j, v, w) :: l, h => by
    obtain ⟨i1, i2, i3⟩ := d_lo hc l (fun o ho => h o (List.mem_cons_of_mem _ ho))
    have ha : 64 ≤ a := (h _ List.mem_cons_self).1
    match k with
    | 0 =>
      refine ⟨fun q => ?_, fun i q => ?_, fun i q => ?_⟩
      · show (if c = a then (j, v) else dS l c q) = q
        rw [if_neg (by omega)]; exact i1 q
      · show (if c = a then none else dR l c i q) = q
        rw [if_neg (by omega)]; exact i2 i q
      · show (if c = a then 0 else dI l c i q) = q
        rw [if_neg (by omega)]; exact i3 i q
    | 1 =>
      refine ⟨fun q => i1 q, fun i q => ?_, fun i q => i3 i q⟩
      show (if c = a ∧ i = j then some v else dR l c i q) = q
      rw [if_neg (by omega)]; exact i2 i q
    | k + 2 =>
      refine ⟨fun q => i1 q, fun i q => i2 i q, fun i q => ?_⟩
      show (if c = a ∧ i = j then (-1 : Int32) else dI l c i q) = q
      rw [if_neg (by omega)]; exact i3 i q
theorem xh0_hi (N : Nat) (xs : Nat → Int32) {c : Nat} (hc : 64 ≤ c) : xS (xh0 N xs) c = (99, 0) ∧ (∀ i, xR (xh0 N xs) c i = none) ∧ ∀ i, xI (xh0 N xs) c i = 0 := by
  refine ⟨?_, fun i => ?_, fun i => ?_⟩
  · show (if c = 0 then (20, N) else if c < 5 then (20, (xtab.getD (c - 1) []).length) else if 8 ≤ c ∧ c < 30 then (30, 0) else if 32 ≤ c ∧ c < 54 then (21, xsln.getD (c - 32) 0) else (99, 0)) = ((99, 0) : Nat × Nat)
    rw [if_neg (by omega), if_neg (by omega), if_neg (by omega), if_neg (by omega)]
  · show (if (8 ≤ c ∧ c < 30) ∧ i = 0 then some (c + 24) else none) = none
    rw [if_neg (by omega)]
  · show (if c = 0 then xs i else if c < 5 then (xtab.getD (c - 1) []).getD i 0 else if 32 ≤ c ∧ c < 54 then (xbyt.getD (c - 32) []).getD i 0 else 0) = 0
    rw [if_neg (by omega), if_neg (by omega), if_neg (by omega)]
theorem getD_hi : ∀ (l : List (Option Nat)) (i : Nat), l.length ≤ i → l.getD i none = none
  | [], _, _ => rfl
  | _ :: _, 0, h => absurd h (Nat.not_succ_le_zero _)
  | _ :: l, i + 1, h => getD_hi l i (Nat.le_of_succ_le_succ h)
theorem Iv_of {N : Nat} {xs : Nat → Int32} {g : xh} (R : Rn (xh0 N xs) g fAll 193) : Iv N xs (fun _ => 0) g := by
  obtain ⟨r1, r2, r3, r4⟩ := R
  have S : ∀ c, 64 ≤ c → c < 193 → xS g c = shL.getD (c - 64) (99, 0) := fun c h1 h2 => by
    have := fA_S (c - 64) (by omega)
    rw [show 64 + (c - 64) = c by omega] at this
    rw [r2, (xh0_hi N xs h1).1]
    exact this
  have L : Lay g := by
    refine ⟨by omega, S, fun c i v h1 h2 h3 => ?_⟩
    rw [r3, (xh0_hi N xs h1).2.1]
    by_cases hi : i < 60
    · have := fA_R (c - 64) (by omega) i hi
      rw [show 64 + (c - 64) = c by omega, h3] at this
      rcases this with z | z
      · exact nomatch z
      · exact z
    · have := fA_L (c - 64) (by omega)
      rw [getD_hi _ _ (by omega)] at h3
      exact nomatch h3
  have rr : ∀ c i, 64 ≤ c → dR fAll c i none = none → xR g c i = none := fun c i hc e => by
    rw [r3, (xh0_hi N xs hc).2.1]; exact e
  have ii : ∀ c i, 64 ≤ c → ¬ (c = 65 ∧ i = 3) → ¬ (c = 170 ∧ i = 0) → xI g c i = 0 := fun c i hc h1 h2 => by
    rw [r4, (xh0_hi N xs hc).2.2]; exact dI_0 h1 h2 _ fA_a
  obtain ⟨⟨n1, n2, n3⟩, n4⟩ := fA_0
  refine ⟨⟨L, fun c hc => ?_⟩, ⟨⟨fun _ => 0, fun i hi => ⟨?_, ?_, show 0 < 256 by decide⟩⟩, ⟨0, by omega, ?_, ?_⟩, ⟨?_, ?_⟩, fun q hq => ⟨Nat.zero_le _, ?_, ?_, fun k hk => absurd hk (Nat.not_lt_zero _)⟩⟩, Nn.ca ⟨rr 146 0 (by decide) n1, rr 150 0 (by decide) n2, rr 159 0 (by decide) n3⟩ ⟨ii 153 0 (by decide) (by omega) (by omega), ii 154 0 (by decide) (by omega) (by omega), ii 155 0 (by decide) (by omega) (by omega)⟩ (ii 163 0 (by decide) (by omega) (by omega)), fun k hk => Or.inl ⟨rr 116 k (by decide) (n4 k hk), ii 192 k (by decide) (by omega) (by omega)⟩, fun k j b b' hk hj ne e => ?_⟩
  · obtain ⟨d1, d2, d3⟩ := d_lo hc fAll fA_a
    exact ⟨funext (fun i => (r4 c i).trans (d3 i _)), funext (fun i => (r3 c i).trans (d2 i _)), (r2 c).trans (d1 _)⟩
  · rw [ii (65 + 1) i (by decide) (by omega) (by omega)]; rfl
  · rw [ii 167 _ (by decide) (by omega) (by omega)]; rfl
  · rw [ii 65 1 (by decide) (by omega) (by omega)]; rfl
  · rw [ii 168 0 (by decide) (by omega) (by omega)]; rfl
  · rw [ii 65 2 (by decide) (by omega) (by omega), ii 169 0 (by decide) (by omega) (by omega)]
  · rw [r4 65 3, r4 170 0, (xh0_hi N xs (show 64 ≤ 65 by decide)).2.2, (xh0_hi N xs (show 64 ≤ 170 by decide)).2.2, fA_i.1, fA_i.2]
  · rw [ii (65 + 2) q (by decide) (by omega) (by omega)]; rfl
  · rw [ii 171 _ (by decide) (by omega) (by omega)]; rfl
  · rw [rr 116 k (by decide) (n4 k hk)] at e
    exact nomatch e
theorem xlaw (N : Nat) (xs : Nat → Int32) (hN : N ≤ 3584) : xW (xMC 11) cd_law 600000 7302249 (fun v _ => v = some (.int 1)) 0 [some (.ref 0), none, none, none] [] (xh0 N xs) 0 0 := by
  have main : K_law 11 (fun r _ => r = 1) 0 [some (.ref 0), none, none, none] [] (xh0 N xs) 0 0 := by
    have R0 : Rn (xh0 N xs) (xh0 N xs) [] 64 := ⟨rfl, fun _ => rfl, fun _ _ => rfl, fun _ _ => rfl⟩
    have R1 := (R0.nw 0 0).as 65 rfl
    refine b_law_0 ⟨xnw_at _ 0 0, ?_⟩
    refine k_So (by omega) R1 rfl (fun g R2 => ⟨xnw_at g 11 0, ?_⟩)
    have R3 := (R2.nw 11 0).as 167 rfl
    have e := R2.n
    rw [e]
    refine k_Mo (by omega) R3 rfl (fun f R4 => ?_)
    exact law_loop hN (fun _ => rfl) 512 0 f 129 58598 (by omega) ⟨_, Iv_of R4⟩ (by omega) (by omega)
  refine xW_mono (xMC_mono 11) (fun v g q => ?_) main
  cases v with
  | none => exact q.elim
  | some v => cases v <;> first | exact q.elim | (have q := q; exact congrArg (fun x => some (Value.int x)) q)
