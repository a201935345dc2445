/-! shod, look of the class -/
def CSr (h : xh) (c : Nat) : Prop := ∀ a, xR h 159 0 = some a → ∃ k, k < c ∧ a = 102 + 7 * k ∧ Sr h (mS h k)
theorem CSr.hc {h : xh} {c j : Nat} (B : CSr h c) : ∀ a, xR h 159 0 = some a → 64 ≤ a ∧ (a = 102 + 7 * j → Sr h (mS h j)) := fun a ea => by
  obtain ⟨k, hk, e, b⟩ := B a ea
  refine ⟨by omega, fun z => ?_⟩
  have : k = j := by omega
  subst this
  exact b
theorem CSr.of {h h' : xh} {c j : Nat} (hj : j < c) (F : Fg P6 h h') (r : xR h' 159 0 = some (102 + 7 * j)) (b : Sr h' (mS h j)) : CSr h' c := fun a ea => by
  rw [r] at ea
  cases ea
  refine ⟨j, hj, rfl, ?_⟩
  have e : mS h' j = mS h j := by
    unfold mS
    rw [(F.2.2 175 (fun z => by unfold P6 at z; omega)).2.2.1]
  rw [e]
  exact b
def sShod (S : Nat → Int32) (k : Int32) : Int32 := if k = -1 then nI (nd S (bN S 1) 63) else if ¬ k < 0 ∧ k.toNatClampNeg < bN S 1 then nI (shS S k.toNatClampNeg) else -1
theorem sShod_n {S : Nat → Int32} {k : Nat} (hk : k < 2 ^ 31) : sShod S (nI k) = if k < bN S 1 then nI (shS S k) else -1 := by
  unfold sShod
  rw [if_neg (nI_m1 hk), nI_clamp hk]
  by_cases c : k < bN S 1
  · rw [if_pos c, if_pos ⟨nI_pos hk, c⟩]
  · rw [if_neg c, if_neg (fun z => c z.2)]
theorem sShod_o {S : Nat → Int32} {k : Int32} (h1 : ¬ k = -1) (h2 : k < 0) : sShod S k = -1 := by
  unfold sShod
  rw [if_neg h1, if_neg (fun z => z.1 h2)]
theorem c_So_shod {n : Nat} (hn : 7 ≤ n) {h : xh} (L : Lay h) {c : Nat} (W : ShC h c) (B : CSr h c) (z0 : xI h 163 0 = 0) {p k : Int32} {Q : Int32 → xh → Prop} (h1 : ∀ j, j < c → p = nI j → ∀ h', Fg P6 h h' → Lay h' → xI h' 163 0 = 0 → CSr h' c → Q (sShod (mS h j) k) h') (h0 : (∀ j, j < c → ¬ p = nI j) → Q (-1) h) : xci (xMC n) 189 [.ref 64, .int p, .int k] h Q := by
  obtain ⟨n, rfl⟩ := xsucc (show 1 ≤ n by omega)
  have c2 := W.2.1
  refine w_So_shod ⟨L.s 64, 65, L.r 64 0 65, L.s 65, c_Told_sheetAt (by omega) L W.1 W.2.1 (fun j hj e => ⟨fun a2 ea => ?_, fun z => nomatch z⟩) (fun z => ⟨fun a2 ea => (nomatch ea), fun _ => h0 z⟩)⟩
  cases ea
  have H := W.2.2 j hj
  have o := H.ok.n
  refine ⟨L.s 64, 159, L.r 64 6 159, L.s 159, c_Search_prepare (by omega) L H (by omega) (by omega) z0 B.hc (fun g F Lg zg rg Rg => ?_)⟩
  have hQ := h1 j hj e g F Lg zg (CSr.of hj F rg Rg)
  have Hg : Sh g (102 + 7 * j) (mS h j) := H.sm (fun c h1 h2 => F.2.2 c (fun z => by unfold P6 at z; omega))
  generalize mS h j = S at *
  refine ⟨fun z => ⟨fun y => ?_, fun y => ⟨Hg.s, ?_⟩⟩, fun z => ⟨Lg.s 64, 159, Lg.r 64 6 159, Lg.s 159, 160, Lg.r 159 1 160, Lg.x 160 (i := 0) (n := 576) (by omega), ?_⟩⟩
  · rwa [sShod_o z y] at hQ
  · obtain ⟨i, hi, ei⟩ := nI_of y
    subst ei
    rw [sShod_n hi] at hQ
    rw [Hg.n 1, nI_ltI hi (by omega)]
    refine ⟨fun q => ⟨Lg.s 64, 159, Lg.r 64 6 159, Lg.s 159, 161, Lg.r 159 2 161, Lg.x 161 (n := 8) (by omega), ?_⟩, fun q => ?_⟩
    · rw [if_pos q] at hQ
      rw [nI_clamp hi, Rg.2.1 i q]
      exact hQ
    · rwa [if_neg q] at hQ
  · subst z
    rw [show (0 : Int32).toNatClampNeg = 0 from rfl, Rg.1]
    exact hQ
def sLook (S : Nat → Int32) (k : Int32) : Int32 := if od S (2 ^ bN S 2 - 1) = 0 then -1 else if k = -1 then (lN (gpt (lw S (bN S 2) (2 ^ bN S 2 - 1) 8) (od S (2 ^ bN S 2 - 1)) 0)).toInt32 else if k = -2 then (lN (gpt (lw S (bN S 2) (2 ^ bN S 2 - 1) 8) (od S (2 ^ bN S 2 - 1)) 1)).toInt32 else if ¬ k < 0 ∧ k.toNatClampNeg < bN S 2 then nI (hk S k.toNatClampNeg) else -1
theorem lw_all {S : Nat → Int32} (ok : ShOK S) : lw S (bN S 2) (2 ^ bN S 2 - 1) 8 ≤ 23040 := by
  have o := ok.n
  have fp := Nat.two_pow_pos (bN S 2)
  have := lw_b ok (bN S 2) (2 ^ bN S 2 - 1) 8 (by omega) (pcn_full9 _ (by omega)) (Or.inl rfl)
  omega
theorem c_So_look {n : Nat} (hn : 7 ≤ n) {h : xh} (L : Lay h) {c : Nat} (W : ShC h c) (B : CSr h c) (z0 : xI h 163 0 = 0) {p k : Int32} {Q : Int32 → xh → Prop} (h1 : ∀ j, j < c → p = nI j → ∀ h', Fg P6 h h' → Lay h' → xI h' 163 0 = 0 → CSr h' c → Q (sLook (mS h j) k) h') (h0 : (∀ j, j < c → ¬ p = nI j) → Q (-1) h) : xci (xMC n) 190 [.ref 64, .int p, .int k] h Q := by
  obtain ⟨n, rfl⟩ := xsucc (show 1 ≤ n by omega)
  have c2 := W.2.1
  refine w_So_look ⟨L.s 64, 65, L.r 64 0 65, L.s 65, c_Told_sheetAt (by omega) L W.1 W.2.1 (fun j hj e => ⟨fun a2 ea => ?_, fun z => nomatch z⟩) (fun z => ⟨fun a2 ea => (nomatch ea), fun _ => h0 z⟩)⟩
  cases ea
  have H := W.2.2 j hj
  have o := H.ok.n
  refine ⟨L.s 64, 159, L.r 64 6 159, L.s 159, c_Search_prepare (by omega) L H (by omega) (by omega) z0 B.hc (fun g F Lg zg rg Rg => ⟨Lg.s 64, 159, Lg.r 64 6 159, Lg.s 159, ?_⟩)⟩
  have hQ := h1 j hj e g F Lg zg (CSr.of hj F rg Rg)
  have Hg : Sh g (102 + 7 * j) (mS h j) := H.sm (fun c h1 h2 => F.2.2 c (fun z => by unfold P6 at z; omega))
  generalize mS h j = S at *
  have l1 := od_le H.ok (2 ^ bN S 2 - 1)
  have l2 := lw_all H.ok
  unfold sLook at hQ
  rw [Rg.2.2.1]
  refine ⟨fun z => ?_, fun z => ?_⟩
  · have nz : ¬ od S (2 ^ bN S 2 - 1) = 0 := fun y => z (by rw [y]; rfl)
    rw [if_neg nz] at hQ
    have k46 : ∀ o1 o3 : Option Value, k = -1 ∨ k = -2 → K_So_look n Q 46 [some (.ref 64), o1, some (.int k), o3] [] g := by
      intro o1 o3 hk
      refine b_So_look_46 ⟨Lg.s 64, 159, Lg.r 64 6 159, Lg.s 159, ?_⟩
      rw [Rg.2.2.1, Rg.2.2.2.1, nI_l (by omega), nI_l (by omega)]
      refine ⟨fun y => c_Fraction_part (by omega) (by omega) (by omega) ?_, fun y => c_Fraction_part (by omega) (by omega) (by omega) ?_⟩
      · rcases hk with e | e
        · rwa [if_pos e] at hQ
        · exact absurd e y
      · subst y
        rwa [if_neg (by decide), if_pos rfl] at hQ
    refine ⟨fun y => k46 _ _ (Or.inl y), fun y1 => ⟨fun y2 => ⟨fun q => ?_, fun q => ⟨Hg.s, ?_⟩⟩, fun y2 => k46 _ _ (Or.inr y2)⟩⟩
    · rwa [if_neg y1, if_neg y2, if_neg (fun w => w.1 q)] at hQ
    · obtain ⟨i, hi, ei⟩ := nI_of q
      subst ei
      rw [if_neg y1, if_neg y2, nI_clamp hi] at hQ
      rw [Hg.n 2, nI_ltI hi (by omega)]
      refine ⟨fun w => ⟨164, Lg.r 159 5 164, Lg.x 164 (n := 8) (by omega), ?_⟩, fun w => ?_⟩
      · rw [if_pos ⟨nI_pos hi, w⟩] at hQ
        rw [nI_clamp hi, Rg.2.2.2.2 i w]
        exact hQ
      · rwa [if_neg (fun v => w v.2)] at hQ
  · have nz : od S (2 ^ bN S 2 - 1) = 0 := (nI_eq (b := 0) (by omega) (by decide)).mp z
    rwa [if_pos nz] at hQ
theorem bwm {k : Int32} {c : Nat} (hc : c < 2 ^ 30) : xbw k (-1) (nI c - 1) ↔ k = -1 ∨ ∃ j, j < c ∧ k = nI j := by
  have e1 : (-1 : Int32).toInt = -1 := by decide
  have e0 : (0 : Int32).toInt = 0 := rfl
  have ec : (nI c - 1).toInt = (c : Int) - 1 := pk_sub_toInt (b := 1) hc (by decide)
  unfold xbw
  rw [Int32.lt_iff_toInt_lt, Int32.lt_iff_toInt_lt, e1, ec]
  constructor
  · rintro ⟨h1, h2⟩
    by_cases z : k < 0
    · left
      apply Int32.toInt_inj.mp
      rw [Int32.lt_iff_toInt_lt, e0] at z
      rw [e1]
      omega
    · right
      obtain ⟨j, hj, e⟩ := nI_of z
      subst e
      rw [nI_toInt hj] at h2
      exact ⟨j, by omega, rfl⟩
  · rintro (h | ⟨j, hj, h⟩)
    · subst h; rw [e1]; omega
    · subst h; rw [nI_toInt (by omega)]; omega
theorem bwm2 {k : Int32} {c : Nat} (hc : c < 2 ^ 30) : xbw k (-2) (nI c - 1) ↔ k = -1 ∨ k = -2 ∨ ∃ j, j < c ∧ k = nI j := by
  have e1 : (-1 : Int32).toInt = -1 := by decide
  have e2 : (-2 : Int32).toInt = -2 := by decide
  have e0 : (0 : Int32).toInt = 0 := rfl
  have ec : (nI c - 1).toInt = (c : Int) - 1 := pk_sub_toInt (b := 1) hc (by decide)
  constructor
  · intro hb
    have h1 := hb.1
    have h2 := hb.2
    rw [Int32.lt_iff_toInt_lt, e2] at h1
    rw [Int32.lt_iff_toInt_lt, ec] at h2
    by_cases z : k < 0
    · rw [Int32.lt_iff_toInt_lt, e0] at z
      by_cases y : k.toInt = -1
      · left; apply Int32.toInt_inj.mp; rw [e1]; exact y
      · right; left; apply Int32.toInt_inj.mp; rw [e2]; omega
    · right; right
      obtain ⟨j, hj, e⟩ := nI_of z
      subst e
      rw [nI_toInt hj] at h2
      exact ⟨j, by omega, rfl⟩
  · intro hb
    unfold xbw
    rw [Int32.lt_iff_toInt_lt, Int32.lt_iff_toInt_lt, e2, ec]
    rcases hb with h | h | ⟨j, hj, h⟩
    · subst h; rw [e1]; omega
    · subst h; rw [e2]; omega
    · subst h; rw [nI_toInt (by omega)]; omega
