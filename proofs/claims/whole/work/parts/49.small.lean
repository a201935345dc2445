/-! list in the reference; count, fault, end -/
theorem nb {w : Int32} {a b : Nat} {x y : Int32} (hx : x = nI a) (hy : y = nI b) (hb : b < 2 ^ 31) (ha : a ≤ b) : xbw w x y ↔ ∃ m, a ≤ m ∧ m ≤ b ∧ w = nI m := by
  subst hx
  subst hy
  constructor
  · intro z
    have w0 : ¬ w < 0 := fun y => z.1 (Int32.lt_of_lt_of_le y (nI_pos' (by omega)))
    obtain ⟨m, hm, e⟩ := nI_of w0
    subst e
    refine ⟨m, ?_, ?_, rfl⟩
    · have := z.1
      rw [nI_ltI hm (by omega)] at this
      omega
    · have := z.2
      rw [nI_ltI hb hm] at this
      omega
  · rintro ⟨m, h1, h2, e⟩
    subst e
    exact ⟨nI_nlt h1 (by omega), nI_nlt h2 (by omega)⟩
theorem c_Mo_list {n : Nat} (hn : 4 ≤ n) {h : xh} (L : Lay h) {c : Nat} (W : ShM h c) {p w : Int32} {Q : Int32 → xh → Prop} (h1 : ∀ j, j < c → p = nI j → ∀ h', Fr PM h h' → Q (sList (mS h j) w) h') (h0 : (∀ j, j < c → ¬ p = nI j) → ∀ h', Fr PM h h' → Q (-1) h') : xci (xMC n) 309 [.ref 166, .int p, .int w] h Q := by
  obtain ⟨n, rfl⟩ := xsucc (show 1 ≤ n by omega)
  have hs := L.s 166 (p := (11, 0))
  have P0 : PM 166 := Or.inl rfl
  refine w_Mo_list ⟨⟨by decide, hs⟩, b_Mo_list_5 ⟨hs, c_Mo_hasList (by omega) (h := xsI h 166 0 0) L (c := c) W (fun j hj e M => ⟨fun _ => ?_, fun z => absurd z (by decide)⟩) (fun z => ⟨fun y => absurd rfl y, fun _ => h0 z _ ((Fr.rf.wI P0).wI P0)⟩)⟩⟩
  have hQ := h1 j hj e _ ((Fr.rf.wI (h := h) (i := 0) (v := 0) P0).wI (i := 49) (v := p) P0)
  generalize xsI (xsI h 166 0 0) 166 49 p = h' at hQ M ⊢
  have M' : Ms h' (mS h j) := M
  generalize mS h j = S at hQ M'
  have hs' := M'.1.s 166 (p := (11, 0))
  have ok := M'.2.2
  have o := ok.n
  have dm : ∀ m, m < 2 ^ 31 → nI m - nI m / (10 : Int32) * 10 = nI (m % 10) := fun m hm => pk_rem (d := 10) hm (by decide) (by decide)
  have dv : ∀ m, m < 2 ^ 31 → nI m / (10 : Int32) = nI (m / 10) := fun m hm => pk_div (d := 10) hm (by decide) (by decide)
  refine c_Mo_in (by omega) (fun z => ⟨fun y => absurd y (by decide), fun _ => ⟨hs', ?_⟩⟩) (fun z1 => ⟨fun _ => c_Mo_in (by omega) (fun z => ⟨fun y => absurd y (by decide), fun _ => ⟨hs', ?_⟩⟩) (fun z2 => ⟨fun _ => c_Mo_in (by omega) (fun z => ⟨fun y => absurd y (by decide), fun _ => ⟨hs', ?_⟩⟩) (fun z3 => ⟨fun _ => c_Mo_in (by omega) (fun z => ⟨fun y => absurd y (by decide), fun _ => ⟨hs', ?_⟩⟩) (fun z4 => ⟨fun _ => ?_, fun y => absurd rfl y⟩), fun y => absurd rfl y⟩), fun y => absurd rfl y⟩), fun y => absurd rfl y⟩)
  · obtain ⟨m, m1, m2, e⟩ := (nb (a := 10) (b := 19) rfl rfl (by decide) (by decide)).mp z
    subst e
    rw [sList_n (by omega), if_neg (by omega), if_neg (by omega), show m / 10 = 1 by omega] at hQ
    rw [dm m (by omega)]
    refine c_Mo_listN (by omega) M' (i := 0) rfl (by omega) ?_
    rw [nI_leI (by omega) (by omega)]
    unfold sLo at hQ
    rw [if_pos rfl] at hQ
    refine ⟨fun y => ?_, fun y => ⟨hs', c_Mo_listOf (by omega) M' (nI_add 3 _) (by omega) ?_⟩⟩
    · rwa [if_neg (by omega)] at hQ
    · rwa [if_pos (by omega)] at hQ
  · obtain ⟨m, m1, m2, e⟩ := (nb (a := 20) (b := 39) rfl rfl (by decide) (by decide)).mp z
    subst e
    rw [sList_n (by omega), if_neg (by omega), if_neg (by omega)] at hQ
    rw [dm m (by omega), dv m (by omega)]
    refine c_Mo_listN (by omega) M' (i := 1) rfl (by omega) ?_
    rw [nI_leI (by omega) (by omega)]
    unfold sLo at hQ
    rw [if_neg (by omega)] at hQ
    have ex : (9 : Int32) + 8 * (nI (m / 10) - 2) + nI (m % 10) = nI (9 + 8 * (m / 10 - 2) + m % 10) := by
      rw [show nI (m / 10) - (2 : Int32) = nI (m / 10 - 2) from pk_sub (b := 2) (by omega), show (8 : Int32) * nI (m / 10 - 2) = nI (8 * (m / 10 - 2)) from pk_mul 8 _, show (9 : Int32) + nI (8 * (m / 10 - 2)) = nI (9 + 8 * (m / 10 - 2)) from nI_add 9 _, nI_add]
    refine ⟨fun y => ?_, fun y => ⟨hs', c_Mo_listOf (by omega) M' ex (by omega) ?_⟩⟩
    · by_cases e2 : m / 10 = 2
      · rwa [if_pos e2, if_neg (by omega)] at hQ
      · rwa [if_neg e2, if_pos (by omega), if_neg (by omega)] at hQ
    · by_cases e2 : m / 10 = 2
      · rw [if_pos e2, if_pos (by omega)] at hQ
        rwa [show 9 + 8 * (m / 10 - 2) + m % 10 = 9 + m % 10 by omega]
      · rw [if_neg e2, if_pos (by omega), if_pos (by omega)] at hQ
        rwa [show 9 + 8 * (m / 10 - 2) + m % 10 = 17 + m % 10 by omega]
  · obtain ⟨m, m1, m2, e⟩ := (nb (a := 40) (b := 69) rfl rfl (by decide) (by decide)).mp z
    subst e
    rw [sList_n (by omega), if_neg (by omega), if_neg (by omega)] at hQ
    rw [dm m (by omega), dv m (by omega)]
    refine c_Mo_listN (by omega) M' (i := 2) rfl (by omega) ?_
    rw [nI_leI (by omega) (by omega)]
    unfold sLo at hQ
    rw [if_neg (by omega), if_neg (by omega), if_neg (by omega)] at hQ
    have ex : (25 : Int32) + 8 * (nI (m / 10) - 4) + nI (m % 10) = nI (25 + 8 * (m / 10 - 4) + m % 10) := by
      rw [show nI (m / 10) - (4 : Int32) = nI (m / 10 - 4) from pk_sub (b := 4) (by omega), show (8 : Int32) * nI (m / 10 - 4) = nI (8 * (m / 10 - 4)) from pk_mul 8 _, show (25 : Int32) + nI (8 * (m / 10 - 4)) = nI (25 + 8 * (m / 10 - 4)) from nI_add 25 _, nI_add]
    refine ⟨fun y => ?_, fun y => ⟨hs', c_Mo_listOf (by omega) M' ex (by omega) ?_⟩⟩
    · by_cases e2 : m / 10 = 4
      · rwa [if_pos e2, if_neg (by omega)] at hQ
      · rw [if_neg e2] at hQ
        by_cases e3 : m / 10 = 5
        · rwa [if_pos e3, if_neg (by omega)] at hQ
        · rwa [if_neg e3, if_pos (by omega), if_neg (by omega)] at hQ
    · by_cases e2 : m / 10 = 4
      · rw [if_pos e2, if_pos (by omega)] at hQ
        rwa [show 25 + 8 * (m / 10 - 4) + m % 10 = 25 + m % 10 by omega]
      · rw [if_neg e2] at hQ
        by_cases e3 : m / 10 = 5
        · rw [if_pos e3, if_pos (by omega)] at hQ
          rwa [show 25 + 8 * (m / 10 - 4) + m % 10 = 33 + m % 10 by omega]
        · rw [if_neg e3, if_pos (by omega), if_pos (by omega)] at hQ
          rwa [show 25 + 8 * (m / 10 - 4) + m % 10 = 41 + m % 10 by omega]
  · obtain ⟨m, m1, m2, e⟩ := (nb (a := 0) (b := 2) rfl rfl (by decide) (by decide)).mp z
    subst e
    rw [sList_n (by omega), if_pos (by omega)] at hQ
    exact c_Mo_listOf (by omega) M' rfl (by omega) hQ
  · by_cases w0 : w < 0
    · rwa [sList_o w0] at hQ
    · obtain ⟨m, hm, e⟩ := nI_of w0
      subst e
      have k1 : ¬ (10 ≤ m ∧ m ≤ 19) := fun y => z1 ((nb (a := 10) (b := 19) rfl rfl (by decide) (by decide)).mpr ⟨m, y.1, y.2, rfl⟩)
      have k2 : ¬ (20 ≤ m ∧ m ≤ 39) := fun y => z2 ((nb (a := 20) (b := 39) rfl rfl (by decide) (by decide)).mpr ⟨m, y.1, y.2, rfl⟩)
      have k3 : ¬ (40 ≤ m ∧ m ≤ 69) := fun y => z3 ((nb (a := 40) (b := 69) rfl rfl (by decide) (by decide)).mpr ⟨m, y.1, y.2, rfl⟩)
      have k4 : ¬ m ≤ 2 := fun y => z4 ((nb (a := 0) (b := 2) rfl rfl (by decide) (by decide)).mpr ⟨m, by omega, y, rfl⟩)
      rw [sList_n hm, if_neg (by omega)] at hQ
      by_cases m10 : m < 10
      · rwa [if_pos m10] at hQ
      · rw [if_neg m10] at hQ
        unfold sLo at hQ
        rwa [if_neg (by omega), if_neg (by omega), if_neg (by omega), if_neg (by omega), if_neg (by omega), if_neg (by omega)] at hQ
theorem c_So_count {n : Nat} (hn : 1 ≤ n) {h : xh} (L : Lay h) {p : Int32} {Q : Int32 → xh → Prop} (h1 : ∀ j, j < 4 → p = nI j → Q (xI h 67 j) h) (h0 : (∀ j, j < 4 → ¬ p = nI j) → Q (-2) h) : xci (xMC n) 160 [.ref 64, .int p] h Q := by
  obtain ⟨n, rfl⟩ := xsucc (show 1 ≤ n by omega)
  refine w_So_count ⟨fun z => h0 (fun j hj e => ?_), fun z => ⟨fun y => ⟨L.s 64, 65, L.r 64 0 65, L.s 65, 67, L.r 65 4 67, ?_⟩, fun y => h0 (fun j hj e => ?_)⟩⟩
  · subst e; exact nI_pos (by omega) z
  · obtain ⟨j, hj, e⟩ := nI_of z
    subst e
    have j4 : j < 4 := (nI_ltI (b := 4) hj (by decide)).mp y
    refine ⟨L.x 67 (n := 4) j4, ?_⟩
    rw [nI_clamp hj]
    exact h1 j j4 rfl
  · subst e; exact y (nI_lt (b := 4) hj (by decide))
theorem c_Mo_count {n : Nat} (hn : 2 ≤ n) {h : xh} (L : Lay h) {p : Int32} {Q : Int32 → xh → Prop} (h1 : ∀ j, j < 4 → p = nI j → ∀ h', Fr PM h h' → Q (xI h 171 j) h') (h0 : (∀ j, j < 4 → ¬ p = nI j) → ∀ h', Fr PM h h' → Q (-2) h') : xci (xMC n) 351 [.ref 166, .int p] h Q := by
  obtain ⟨n, rfl⟩ := xsucc (show 1 ≤ n by omega)
  have hs := L.s 166 (p := (11, 0))
  have F : Fr PM h (xsI h 166 0 0) := Fr.rf.wI (Or.inl rfl)
  refine w_Mo_count ⟨⟨by decide, hs⟩, b_Mo_count_5 (c_Mo_in (by omega) (fun z => ⟨fun y => absurd y (by decide), fun _ => ⟨hs, 171, L.r 166 5 171, ?_⟩⟩) (fun z => ⟨fun _ => h0 (fun j hj e => z ((nb (a := 0) (b := 3) rfl rfl (by decide) (by decide)).mpr ⟨j, by omega, by omega, e⟩)) _ F, fun y => absurd rfl y⟩))⟩
  obtain ⟨m, m1, m2, e⟩ := (nb (a := 0) (b := 3) rfl rfl (by decide) (by decide)).mp z
  subst e
  refine ⟨L.x 171 (n := 16) (by omega), ?_⟩
  rw [nI_clamp (by omega), xsI_ne _ _ _ (by decide)]
  exact h1 m (by omega) rfl _ F
theorem c_So_fault {n : Nat} (hn : 1 ≤ n) {h : xh} (L : Lay h) {p : Int32} {Q : Int32 → xh → Prop} (hQ : Q (if p = 0 then xI h 65 2 else if p = 1 then xI h 65 3 else -1) h) : xci (xMC n) 159 [.ref 64, .int p] h Q := by
  obtain ⟨n, rfl⟩ := xsucc (show 1 ≤ n by omega)
  refine w_So_fault ⟨fun z => ⟨fun y => ?_, fun y => ⟨L.s 64, 65, L.r 64 0 65, L.s 65, ?_⟩⟩, fun z => ⟨L.s 64, 65, L.r 64 0 65, L.s 65, ?_⟩⟩
  · rwa [if_neg z, if_neg y] at hQ
  · rwa [if_neg z, if_pos y] at hQ
  · rwa [if_pos z] at hQ
theorem c_Mo_fault {n : Nat} (hn : 1 ≤ n) {h : xh} (L : Lay h) {p : Int32} {Q : Int32 → xh → Prop} (hQ : ∀ h', Fr PM h h' → Q (if p = 0 then xI h 169 0 else if p = 1 then xI h 170 0 else -1) h') : xci (xMC n) 244 [.ref 166, .int p] h Q := by
  obtain ⟨n, rfl⟩ := xsucc (show 1 ≤ n by omega)
  have hs := L.s 166 (p := (11, 0))
  have hQ := hQ (xsI h 166 0 0) (Fr.rf.wI (Or.inl rfl))
  refine w_Mo_fault ⟨⟨by decide, hs⟩, b_Mo_fault_5 ⟨fun z => ⟨fun y => ?_, fun y => ⟨hs, 170, L.r 166 4 170, L.x 170 (i := 0) (n := 4) (by omega), ?_⟩⟩, fun z => ⟨hs, 169, L.r 166 3 169, L.x 169 (i := 0) (n := 4) (by omega), ?_⟩⟩⟩
  · rwa [if_neg z, if_neg y] at hQ
  · rw [if_neg z, if_pos y] at hQ
    rw [xsI_ne _ _ _ (by decide)]
    exact hQ
  · rw [if_pos z] at hQ
    rw [xsI_ne _ _ _ (by decide)]
    exact hQ
theorem c_So_end {n : Nat} (hn : 1 ≤ n) {h : xh} (L : Lay h) {l : Nat} (hl : xI h 65 1 = nI l) (l6 : l ≤ 600) {p : Int32} {Q : Int32 → xh → Prop} (h1 : ∀ j, j ≤ l → p = nI j → Q p (xsI h 65 1 p)) (h0 : (∀ j, j ≤ l → ¬ p = nI j) → Q (-1) h) : xci (xMC n) 153 [.ref 64, .int p] h Q := by
  obtain ⟨n, rfl⟩ := xsucc (show 1 ≤ n by omega)
  refine w_So_end ⟨fun z => h0 (fun j hj e => ?_), fun z => ⟨L.s 64, 65, L.r 64 0 65, L.s 65, ?_⟩⟩
  · subst e; exact nI_pos (by omega) z
  · rw [hl]
    obtain ⟨j, hj, e⟩ := nI_of z
    subst e
    rw [nI_leI hj (by omega)]
    refine ⟨fun y => ⟨⟨by decide, L.s 65⟩, b_So_end_25 (h1 j y rfl)⟩, fun y => h0 (fun i hi e => ?_)⟩
    have := (nI_eq hj (by omega)).mp e
    omega
theorem c_Mo_end {n : Nat} (hn : 2 ≤ n) {h : xh} (L : Lay h) {l : Nat} (hl : xI h 168 0 = nI l) (l6 : l ≤ 600) {p : Int32} {Q : Int32 → xh → Prop} (h1 : ∀ j, j ≤ l → p = nI j → ∀ h', Fr PM h h' → Q p (xsI h' 168 0 p)) (h0 : (∀ j, j ≤ l → ¬ p = nI j) → ∀ h', Fr PM h h' → Q (-1) h') : xci (xMC n) 210 [.ref 166, .int p] h Q := by
  obtain ⟨n, rfl⟩ := xsucc (show 1 ≤ n by omega)
  have hs := L.s 166 (p := (11, 0))
  have F : Fr PM h (xsI h 166 0 0) := Fr.rf.wI (Or.inl rfl)
  have x0 : xar h 168 20 0 := L.x 168 (i := 0) (n := 4) (by omega)
  refine w_Mo_end ⟨⟨by decide, hs⟩, b_Mo_end_5 ⟨hs, 168, L.r 166 2 168, x0, ?_⟩⟩
  rw [xsI_ne _ _ _ (by decide), show (0 : Int32).toNatClampNeg = 0 from rfl, hl]
  refine c_Mo_in (by omega) (fun z => ⟨fun _ => ⟨hs, 168, L.r 166 2 168, ⟨by decide, x0⟩, b_Mo_end_28 ?_⟩, fun y => absurd y (by decide)⟩) (fun z => ⟨fun y => absurd rfl y, fun _ => h0 (fun j hj e => z ((nb (a := 0) (b := l) rfl rfl (by omega) (by omega)).mpr ⟨j, by omega, hj, e⟩)) _ F⟩)
  obtain ⟨m, m1, m2, e⟩ := (nb (a := 0) (b := l) rfl rfl (by omega) (by omega)).mp z
  exact h1 m m2 e _ F
