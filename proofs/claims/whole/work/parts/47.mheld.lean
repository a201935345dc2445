/-! held in the reference -/
theorem c_Mo_seenFrom {n : Nat} (hn : 2 ≤ n) {h : xh} {B : Nat → Int32} (M : Mb h B) {a k : Nat} (ha : a ≤ k) (hk : k ≤ bN B 0) {x y : Int32} (hx : x = nI a) (hy : y = nI k) {Q : Int32 → xh → Prop} (hQ : Q (nI (suS B k - suS B a)) h) : xci (xMC n) 305 [.ref 166, .int x, .int y] h Q := by
  obtain ⟨n, rfl⟩ := xsucc (show 1 ≤ n by omega)
  subst hx
  subst hy
  have hs := M.1.s 166 (p := (11, 0))
  have n10 := M.2.2.2.1
  have key : ∀ d i, i + d = k → a ≤ i → K_Mo_seenFrom n Q 5 [some (.ref 166), some (.int (nI a)), some (.int (nI k)), some (.int (nI (suS B i - suS B a))), some (.int (nI i))] [] h := by
    intro d
    induction d with
    | zero =>
      intro i hi _
      have : i = k := by omega
      subst this
      exact b_Mo_seenFrom_5 ⟨fun _ => hQ, fun z => absurd (Int32.le_refl _) z⟩
    | succ d ih =>
      intro i hi hai
      refine b_Mo_seenFrom_5 ⟨fun z => absurd z (nI_ge (by omega) (by omega)), fun _ => ⟨hs, c_Mo_nightOf (by omega) M (k := i) (w := 0) (by omega) (by omega) rfl rfl ?_⟩⟩
      rw [nI_add, nI_1]
      have ih' := ih (i + 1) (by omega) (by omega)
      have m := suS_mono (B := B) hai
      have e : suS B (i + 1) - suS B a = suS B i - suS B a + bN B (1 + 5 * i + 0) := by
        show suS B i + bN B (1 + 5 * i) - suS B a = suS B i - suS B a + bN B (1 + 5 * i)
        omega
      rw [e] at ih'
      exact ih'
  have k1 := key (k - a) a (by omega) (by omega)
  rw [Nat.sub_self] at k1
  exact w_Mo_seenFrom k1
theorem c_Mo_moreFrom {n : Nat} (hn : 3 ≤ n) {h : xh} {B : Nat → Int32} (M : Mb h B) {k : Nat} (hk : k ≤ bN B 0) {Q : Int32 → xh → Prop} (hQ : Q (iI (fF B k)) h) : xci (xMC n) 304 [.ref 166, .int (nI k)] h Q := by
  obtain ⟨n, rfl⟩ := xsucc (show 1 ≤ n by omega)
  have hs := M.1.s 166 (p := (11, 0))
  refine w_Mo_moreFrom ⟨hs, c_Mo_nights (by omega) M ⟨hs, c_Mo_seenFrom (by omega) M hk (Nat.le_refl _) rfl rfl ⟨hs, c_Mo_seenFrom (by omega) M (Nat.zero_le k) hk rfl rfl ⟨hs, c_Mo_nights (by omega) M ?_⟩⟩⟩⟩
  rw [show suS B 0 = 0 from rfl, Nat.sub_zero, ← pk_sub (suS_mono hk), mF_eq hk]
  exact hQ
theorem dcd_m {B : Nat → Int32} (ok : BkOK B) {b k : Nat} (hb : b < bN B 0) (hk : k < bN B 0) (hb0 : b ≠ 0) : (iI (fF B k) * nI b * (nI (bN B 0) - nI b) ≤ iI (fF B b) * (nI k * (nI (bN B 0) - nI k))) ↔ ¬ dcd B b k := by
  rw [Int32.mul_assoc, ← Int32.mul_assoc (iI (fF B b))]
  exact dcd_c ok hb hk hb0
theorem c_Mo_doorway {n : Nat} (hn : 4 ≤ n) {h : xh} {B : Nat → Int32} (M : Mb h B) {Q : Int32 → xh → Prop} (hQ : Q (dwI (dW B (bN B 0))) h) : xci (xMC n) 303 [.ref 166] h Q := by
  obtain ⟨n, rfl⟩ := xsucc (show 1 ≤ n by omega)
  have hs := M.1.s 166 (p := (11, 0))
  have ok := M.2.2
  have n10 := ok.2.1
  have key : ∀ d i, i + d = bN B 0 → 1 ≤ i → ∀ o3 o4 : Option Value, K_Mo_doorway n Q 4 [some (.ref 166), some (.int (dwI (dW B i))), some (.int (nI i)), o3, o4] [] h := by
    intro d
    induction d with
    | zero =>
      intro i hi _ o3 o4
      have : i = bN B 0 := by omega
      subst this
      exact b_Mo_doorway_4 ⟨hs, c_Mo_nights (by omega) M ⟨fun _ => hQ, fun z => absurd (Int32.le_refl _) z⟩⟩
    | succ d ih =>
      intro i hi h1 o3 o4
      refine b_Mo_doorway_4 ⟨hs, c_Mo_nights (by omega) M ⟨fun z => absurd z (nI_ge (by omega) (by omega)), fun _ => ⟨hs, c_Mo_nights (by omega) M ?_⟩⟩⟩
      have ih' := ih (i + 1) (by omega) (by omega)
      have lt := dW_le (B := B) h1
      by_cases hz : dW B i = 0
      · rw [hz]
        refine ⟨fun z => absurd rfl z, fun _ => ⟨hs, c_Mo_moreFrom (by omega) M (k := i) (by omega) ?_⟩⟩
        rw [dcd_0 ok (by omega)]
        refine ⟨fun z => ?_, fun z => ?_⟩
        · rw [dW_n h1 (by rw [hz]; exact z), hz] at ih'
          refine b_Mo_doorway_71 ⟨fun _ => ?_, fun y => absurd rfl y⟩
          rw [nI_1]
          exact ih' _ _
        · rw [dW_p h1 (by rw [hz]; exact Classical.not_not.mp z)] at ih'
          unfold dwI at ih'
          rw [if_neg (by omega)] at ih'
          refine b_Mo_doorway_71 ⟨fun y => absurd y (by decide), fun _ => ?_⟩
          rw [nI_1]
          exact ih' _ _
      · have e : dwI (dW B i) = nI (dW B i) := if_neg hz
        rw [e]
        refine ⟨fun _ => ⟨hs, c_Mo_moreFrom (by omega) M (k := i) (by omega) ⟨hs, c_Mo_nights (by omega) M ⟨hs, c_Mo_moreFrom (by omega) M (k := dW B i) (by omega) ?_⟩⟩⟩, fun z => absurd z (nI_m1 (by omega))⟩
        rw [dcd_m ok (by omega) (by omega) hz]
        refine ⟨fun z => ?_, fun z => ?_⟩
        · rw [dW_n h1 z, e] at ih'
          refine b_Mo_doorway_71 ⟨fun _ => ?_, fun y => absurd rfl y⟩
          rw [nI_1]
          exact ih' _ _
        · rw [dW_p h1 (Classical.not_not.mp z)] at ih'
          unfold dwI at ih'
          rw [if_neg (by omega)] at ih'
          refine b_Mo_doorway_71 ⟨fun y => absurd y (by decide), fun _ => ?_⟩
          rw [nI_1]
          exact ih' _ _
  refine w_Mo_doorway ?_
  by_cases hz : bN B 0 = 0
  · rw [hz] at hQ
    refine b_Mo_doorway_4 ⟨hs, c_Mo_nights (by omega) M ?_⟩
    rw [hz]
    exact ⟨fun _ => hQ, fun z => absurd (by decide) z⟩
  · exact key (bN B 0 - 1) 1 (by omega) (by omega) none none
def sHelL (B : Nat → Int32) (un : Int32) : Int64 := if hBot B (bN B 0) = 0 then -1 else lN (gpt (hTop B (bN B 0)) (hBot B (bN B 0)) un)
theorem sHelL_i (B : Nat → Int32) (un : Int32) : (sHelL B un).toInt32 = sHel B un := by
  unfold sHelL sHel
  split <;> rfl
theorem c_Mo_heldBy {n : Nat} (hn : 3 ≤ n) {h : xh} {B : Nat → Int32} (M : Mb h B) {un : Int32} {Q : Int64 → xh → Prop} (hQ : Q (sHelL B un) h) : xcj (xMC n) 302 [.ref 166, .int un] h Q := by
  obtain ⟨n, rfl⟩ := xsucc (show 1 ≤ n by omega)
  have hs := M.1.s 166 (p := (11, 0))
  have ok := M.2.2
  have n10 := ok.2.1
  have key : ∀ d i, i + d = bN B 0 → K_Mo_heldBy n Q 11 [some (.ref 166), some (.int un), some (.long (lN (hTop B i))), none, some (.long (lN (hBot B i))), none, some (.int (nI (unl B i))), some (.int (nI i))] [] h := by
    intro d
    induction d with
    | zero =>
      intro i hi
      have : i = bN B 0 := by omega
      subst this
      have hT := hTop_le ok (bN B 0) (Nat.le_refl _)
      have hB := hBot_le ok (bN B 0) (Nat.le_refl _)
      unfold sHelL at hQ
      refine b_Mo_heldBy_11 ⟨hs, c_Mo_nights (by omega) M ⟨fun _ => ⟨fun z => ?_, fun z => ?_⟩, fun z => absurd (Int32.le_refl _) z⟩⟩
      · have hz : hBot B (bN B 0) ≠ 0 := fun y => z (by rw [y]; rfl)
        rw [if_neg hz] at hQ
        exact c_Mo_part (by omega) (by omega) (by omega) hz hQ
      · have hz : hBot B (bN B 0) = 0 := (lN_z (by omega)).mp z
        rwa [if_pos hz] at hQ
    | succ d ih =>
      intro i hi
      have ih' := ih (i + 1) (by omega)
      have ul := unl_le ok i (by omega)
      have s99 := (ok.2.2 i (by omega)).1
      have a99 := (ok.2.2 i (by omega)).2.1
      have fin : ∀ (t0 : Int64), lN (hBot B i) + t0 = lN (hBot B (i + 1)) → ∀ o4 o5 : Option Value, K_Mo_heldBy n Q 54 [some (.ref 166), some (.int un), some (.long (lN (hTop B i) + (nI (bN B (1 + 5 * i + 0))).toInt64 * (nI (unl B i)).toInt64)), none, o4, o5, some (.int (nI (unl B i))), some (.int (nI i))] [.long t0, .long (lN (hBot B i))] h := by
        intro t0 et o4 o5
        refine b_Mo_heldBy_54 ⟨hs, c_Mo_nightOf (by omega) M (k := i) (w := 0) (by omega) (by omega) rfl rfl ⟨hs, c_Mo_nightOf (by omega) M (k := i) (w := 1) (by omega) (by omega) rfl rfl ?_⟩⟩
        have e2 : bN B (1 + 5 * i + 1) = bN B (2 + 5 * i) := congrArg (bN B) (by omega)
        rw [et, e2, show 1 + 5 * i + 0 = 1 + 5 * i from rfl, pk_sub a99, nI_add, nI_1, nI_l (by omega), nI_l (by omega), lN_mul, lN_add]
        exact ih'
      refine b_Mo_heldBy_11 ⟨hs, c_Mo_nights (by omega) M ⟨fun z => absurd z (nI_ge (by omega) (by omega)), fun _ => ⟨hs, c_Mo_nightOf (by omega) M (k := i) (w := 0) (by omega) (by omega) rfl rfl ⟨fun z => ?_, fun z => ⟨hs, c_Mo_nightOf (by omega) M (k := i) (w := 1) (by omega) (by omega) rfl rfl ?_⟩⟩⟩⟩⟩
      · have h0 : i = 0 := by
          by_cases h0 : i = 0
          · exact h0
          · exact absurd z (nI_nle (by omega) (by omega))
        subst h0
        exact fin 0 rfl _ _
      · have h0 : i ≠ 0 := fun e => z (by rw [e]; decide)
        refine fin _ ?_ _ _
        rw [show 1 + 5 * i + 1 = 2 + 5 * i by omega, nI_l (by omega), lN_add]
        show _ = lN (hBot B i + (if i = 0 then 0 else bN B (2 + 5 * i)))
        rw [if_neg h0]
  exact w_Mo_heldBy (key (bN B 0) 0 (by omega))
theorem c_Mo_held {n : Nat} (hn : 5 ≤ n) {h : xh} (L : Lay h) {c : Nat} (W : BkM h c) {p w : Int32} {Q : Int32 → xh → Prop} (h1 : ∀ j, j < c → p = nI j → ∀ h', Fr PM h h' → Q (sHeld (mB h j) w) h') (h0 : (∀ j, j < c → ¬ p = nI j) → ∀ h', Fr PM h h' → Q (-2) h') : xci (xMC n) 301 [.ref 166, .int p, .int w] h Q := by
  obtain ⟨n, rfl⟩ := xsucc (show 1 ≤ n by omega)
  have hs := L.s 166 (p := (11, 0))
  have P0 : PM 166 := Or.inl rfl
  refine w_Mo_held ⟨⟨by decide, hs⟩, b_Mo_held_5 ⟨hs, c_Mo_hasBook (by omega) (h := xsI h 166 0 0) L (c := c) W (fun j hj e M => ⟨fun z => absurd z (by decide), fun _ => ?_⟩) (fun z => ⟨fun _ => h0 z _ ((Fr.rf.wI P0).wI P0), fun y => absurd rfl y⟩)⟩⟩
  have hQ := h1 j hj e _ ((Fr.rf.wI (h := h) (i := 0) (v := 0) P0).wI (i := 48) (v := p) P0)
  generalize xsI (xsI h 166 0 0) 166 48 p = h' at hQ M ⊢
  have M' : Mb h' (mB h j) := M
  generalize mB h j = B at hQ M'
  have hs' := M'.1.s 166 (p := (11, 0))
  have ok := M'.2.2
  have n10 := ok.n.2
  unfold sHeld at hQ
  refine c_Mo_in (by omega) (fun z => ⟨fun _ => ?_, fun y => absurd y (by decide)⟩) (fun z => ⟨fun y => absurd rfl y, fun _ => ?_⟩)
  · obtain ⟨w', hw', ew⟩ := xbw_of (m := 5) rfl z
    subst ew
    refine ⟨fun z0 => ⟨fun z3 => ⟨hs', c_Mo_doorway (by omega) M' ?_⟩, fun z3 => ⟨fun z2 => ⟨hs', c_Mo_heldBy (by omega) M' ?_⟩, fun z2 => ⟨hs', c_Mo_heldBy (by omega) M' ?_⟩⟩⟩, fun z0 => ?_⟩
    · have w3 : 3 ≤ w' := (nI_leI (a := 3) (b := w') (by decide) (by omega)).mp z3
      have ne : ∀ m : Nat, m < 3 → ¬ nI w' = nI m := fun m hm e => by
        have := (nI_eq (by omega) (by omega)).mp e
        omega
      rw [if_neg z0, if_neg (show ¬ nI w' = 1 from ne 1 (by omega)), if_neg (show ¬ nI w' = 2 from ne 2 (by omega))] at hQ
      refine ⟨fun y => ?_, fun y => ⟨fun z4 => ⟨hs', ?_⟩, fun z4 => ?_⟩⟩
      · by_cases c3 : nI w' = 3
        · rwa [if_pos c3] at hQ
        · rw [if_neg c3] at hQ
          have hz : dW B (bN B 0) = 0 := by
            by_cases hz : dW B (bN B 0) = 0
            · exact hz
            · exfalso
              have e : dwI (dW B (bN B 0)) = nI (dW B (bN B 0)) := if_neg hz
              rw [e] at y
              have h0 : bN B 0 ≠ 0 := fun e => hz (by rw [e]; rfl)
              have lt := dW_le (B := B) (k := bN B 0) (by omega)
              exact nI_m1 (by omega) y
          unfold sDif at hQ
          rw [if_pos hz, if_pos hz] at hQ
          rw [y]
          have : w' = 4 ∨ w' = 5 := by
            have : w' ≠ 3 := fun e => c3 (by rw [e]; rfl)
            omega
          rcases this with e | e
          · subst e; rwa [if_pos (show nI 4 = 4 from rfl)] at hQ
          · subst e; rwa [if_neg (by decide), if_pos (show nI 5 = 5 from rfl)] at hQ
      · have hz : ¬ dW B (bN B 0) = 0 := fun hz => y (by rw [hz]; rfl)
        have e : dwI (dW B (bN B 0)) = nI (dW B (bN B 0)) := if_neg hz
        obtain ⟨lt, e1, e2, l1, l2, ne'⟩ := dif_pre ok hz
        rw [e]
        refine c_Mo_moreFrom (by omega) M' (by omega) ⟨hs', c_Mo_nights (by omega) M' ?_⟩
        rw [e1, e2]
        unfold sDif at hQ
        rw [if_neg z4, if_neg hz, if_neg hz] at hQ
        refine ⟨fun z5 => c_Mo_part (by omega) l1 l2 ne' ?_, fun z5 => c_Mo_part (by omega) l1 l2 ne' ?_⟩
        · have e4 : w' = 4 := by
            have a : w' ≠ 3 := fun e => z4 (by rw [e]; rfl)
            have b : w' ≠ 5 := fun e => z5 (by rw [e]; rfl)
            omega
          subst e4
          rwa [if_pos (show nI 4 = 4 from rfl)] at hQ
        · rw [z5] at hQ
          rwa [if_neg (by decide), if_pos rfl] at hQ
      · rwa [if_pos z4] at hQ
    · rw [sHelL_i]
      have e1 : w' = 1 := by
        have a : ¬ 3 ≤ w' := fun y => z3 (nI_le (a := 3) y (by omega))
        have b : w' ≠ 2 := fun e => z2 (by rw [e]; rfl)
        have c : w' ≠ 0 := fun e => z0 (by rw [e]; rfl)
        omega
      subst e1
      rwa [if_neg z0, if_pos (show nI 1 = 1 from rfl)] at hQ
    · rw [sHelL_i]
      rw [z2] at hQ
      rwa [if_neg (by decide), if_neg (by decide), if_pos rfl] at hQ
    · rw [if_pos z0] at hQ
      have key : ∀ d i, i + d = bN B 0 → ∀ o1 o2 : Option Value, K_Mo_held n Q 34 [some (.ref 166), o1, o2, some (.int (nI (unl B i))), some (.int (nI i))] [] h' := by
        intro d
        induction d with
        | zero =>
          intro i hi o1 o2
          have : i = bN B 0 := by omega
          subst this
          exact b_Mo_held_34 ⟨hs', c_Mo_nights (by omega) M' ⟨fun _ => hQ, fun z => absurd (Int32.le_refl _) z⟩⟩
        | succ d ih =>
          intro i hi o1 o2
          refine b_Mo_held_34 ⟨hs', c_Mo_nights (by omega) M' ⟨fun z => absurd z (nI_ge (by omega) (by omega)), fun _ => ⟨hs', c_Mo_nightOf (by omega) M' (k := i) (w := 0) (by omega) (by omega) rfl rfl ⟨hs', c_Mo_nightOf (by omega) M' (k := i) (w := 1) (by omega) (by omega) rfl rfl ?_⟩⟩⟩⟩
          have e2 : bN B (1 + 5 * i + 1) = bN B (2 + 5 * i) := congrArg (bN B) (by omega)
          rw [e2, show 1 + 5 * i + 0 = 1 + 5 * i from rfl, pk_sub (ok.2.2 i (by omega)).2.1, nI_add, nI_1]
          exact ih (i + 1) (by omega) _ _
      exact key (bN B 0) 0 (by omega) _ _
  · have ne : ∀ m : Nat, m ≤ 5 → ¬ w = nI m := fun m hm e => by
      subst e
      refine z ⟨nI_pos (by omega), ?_⟩
      exact nI_nlt (a := 5) hm (by decide)
    rwa [if_neg (show ¬ w = 0 from ne 0 (by omega)), if_neg (show ¬ w = 1 from ne 1 (by omega)), if_neg (show ¬ w = 2 from ne 2 (by omega)), if_neg (show ¬ w = 3 from ne 3 (by omega)), if_neg (show ¬ w = 4 from ne 4 (by omega)), if_neg (show ¬ w = 5 from ne 5 (by omega))] at hQ
