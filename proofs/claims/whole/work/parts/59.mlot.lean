/-! lot in the reference -/
theorem BkM.fr {h h' : xh} {c : Nat} (W : BkM h c) (F : Fr PM h h') : BkM h' c ∧ ∀ j, mB h' j = mB h j := by
  have e1 := F.i 171 (fun z => by unfold PM at z; omega)
  have e2 := F.i 174 (fun z => by unfold PM at z; omega)
  have e3 : ∀ j, mB h' j = mB h j := fun j => by unfold mB; rw [e2]
  refine ⟨⟨by rw [e1]; exact W.1, W.2.1, fun k hk => by rw [e3]; exact W.2.2 k hk⟩, e3⟩
theorem c_Mo_hasB {n : Nat} (hn : 3 ≤ n) {h : xh} (L : Lay h) {c : Nat} (W : BkM h c) {p : Int32} {Q : Int32 → xh → Prop} (h1 : ∀ k, k < c → p = nI k → ∀ h', Fr PM h h' → Mb h' (mB h k) → xL h' = xL h → Q 1 h') (h0 : (∀ k, k < c → ¬ p = nI k) → ∀ h', Fr PM h h' → Q 0 h') : xci (xMC n) 298 [.ref 166, .int p] h Q :=
  c_Mo_hasBook hn L W (fun k hk e M => h1 k hk e _ (Fr.rf.wI mP) M rfl) (fun z => h0 z _ (Fr.rf.wI mP))
theorem c_Mo_hasBk {n : Nat} (hn : 3 ≤ n) {h : xh} (L : Lay h) {c : Nat} (W : BkM h c) {k : Nat} (hk : k < c) {Q : Int32 → xh → Prop} (h1 : ∀ h', Fr PM h h' → Mb h' (mB h k) → xL h' = xL h → Q 1 h') : xci (xMC n) 298 [.ref 166, .int (nI k)] h Q :=
  c_Mo_hasB hn L W (fun k' hk' e h' F M e2 => h1 h' F (by have := W.2.1; have := (nI_eq (by omega) (by omega)).mp e; subst this; exact M) e2) (fun z => absurd rfl (z k hk))
def Lm (h : xh) (n : Nat) (P : Nat → Nat → Nat) : Prop := ∀ k x, k ≤ n → x ≤ 1980 → xL h 191 (1981 * k + x) = lN (P k x)
theorem Lm.w {h : xh} {n : Nat} {P P' : Nat → Nat → Nat} (R : Lm h n P) {k0 x0 v : Nat} (hx0 : x0 ≤ 1980) (h1 : P' k0 x0 = v) (h2 : ∀ k x, k ≤ n → x ≤ 1980 → ¬ (k = k0 ∧ x = x0) → P' k x = P k x) {i : Nat} (hi : i = 1981 * k0 + x0) : Lm (xsL h 191 i (lN v)) n P' := by
  intro k x hk hx
  subst hi
  rw [upL]
  by_cases e : 1981 * k + x = 1981 * k0 + x0
  · have e1 : k = k0 := by omega
    have e2 : x = x0 := by omega
    subst e1
    subst e2
    rw [if_pos rfl, h1]
  · rw [if_neg e, R k x hk hx, h2 k x hk hx (fun z => e (by rw [z.1, z.2]))]
theorem Lm.c {h : xh} {n : Nat} {P P' : Nat → Nat → Nat} (R : Lm h n P) (h2 : ∀ k x, k ≤ n → x ≤ 1980 → P' k x = P k x) : Lm h n P' := fun k x hk hx => by rw [R k x hk hx, h2 k x hk hx]
def mxQ (P : Nat → Nat → Nat) (s q j : Nat) : Nat → Nat → Nat := fun k x => if q < k then pck P s k x else if k = q ∧ j ≤ x then pck P s k x else P k x
def PL (c : Nat) : Prop := c = 191
theorem PL_PM : ∀ c, PL c → PM c := fun c z => by unfold PL at z; unfold PM; omega
theorem c_Mo_picks {n : Nat} (hn : 1 ≤ n) {h : xh} (L : Lay h) {N : Nat} (hN : N ≤ 10) {P : Nat → Nat → Nat} (R : Lm h N P) {s : Nat} (hs : s ≤ 99) {Q : xh → Prop} (hQ : ∀ h', Fr PL h h' → xI h' = xI h → Lm h' N (pck P s) → Q h') : xcv (xMC n) 344 [.ref 166, .int (nI s), .int (nI N)] h Q := by
  obtain ⟨n, rfl⟩ := xsucc hn
  have key : ∀ q, q ≤ N → ∀ g, Fr PL h g → xI g = xI h → Lm g N (mxQ P s q 1981) → ∀ o2 o4 : Option Value, K_Mo_picks n Q 2 [some (.ref 166), some (.int (nI s)), o2, some (.int (nI q)), o4] [] g := by
    intro q
    induction q with
    | zero =>
      intro hq g F eI R o2 o4
      refine b_Mo_picks_2 ⟨fun _ => hQ g F eI (R.c (fun k x hk hx => ?_)), fun z => absurd (by decide) z⟩
      unfold mxQ
      by_cases c : 0 < k
      · rw [if_pos c]
      · have : k = 0 := by omega
        subst this
        rw [if_neg (by omega), if_neg (by omega)]
        unfold pck
        rw [if_pos rfl]; rfl
    | succ q ih =>
      intro hq g F eI R o2 o4
      refine b_Mo_picks_2 ⟨fun z => absurd z (nI_nle (by omega) (by omega)), fun _ => ?_⟩
      have key2 : ∀ d j, j = s + d → j ≤ 1981 → ∀ g, Fr PL h g → xI g = xI h → Lm g N (mxQ P s (q + 1) j) → ∀ o2 : Option Value, K_Mo_picks n Q 11 [some (.ref 166), some (.int (nI s)), o2, some (.int (nI (q + 1))), some (.int (nI j - 1))] [] g := by
        intro d
        induction d with
        | zero =>
          intro j hj hj2 g F eI R o2
          have : j = s := by omega
          subst this
          refine b_Mo_picks_11 ⟨fun _ => ?_, fun z => absurd ?_ z⟩
          · rw [show nI (q + 1) + (-1 : Int32) = nI q from pk_m1 q]
            refine ih (by omega) g F eI (R.c (fun k x hk hx => ?_)) _ _
            unfold mxQ
            by_cases c1 : q + 1 < k
            · rw [if_pos c1, if_pos (by omega)]
            · rw [if_neg c1]
              by_cases c2 : k = q + 1
              · subst c2
                rw [if_pos (by omega)]
                by_cases c3 : j ≤ x
                · rw [if_pos ⟨rfl, c3⟩]
                · rw [if_neg (fun z => c3 z.2)]
                  unfold pck
                  rw [if_neg (by omega), if_neg c3]; rfl
              · rw [if_neg (by omega), if_neg (by omega), if_neg (by omega)]
          · by_cases j0 : j = 0
            · subst j0; decide
            · rw [show nI j - (1 : Int32) = nI (j - 1) from pk_sub (b := 1) (by omega)]
              exact nI_lt (by omega) (by omega)
        | succ d ih2 =>
          intro j hj hj2 g F eI R o2
          have Lg := F.lay L
          have ej : nI j - (1 : Int32) = nI (j - 1) := pk_sub (b := 1) (by omega)
          rw [ej]
          have i1 : (1981 : Int32) * nI (q + 1) + nI (j - 1) = nI (1981 * (q + 1) + (j - 1)) := by
            rw [show (1981 : Int32) * nI (q + 1) = nI (1981 * (q + 1)) from pk_mul 1981 _, nI_add]
          have i2 : (1981 : Int32) * (nI (q + 1) - 1) + nI (j - 1) - nI s = nI (1981 * q + (j - 1 - s)) := by
            rw [nI_pred, show (1981 : Int32) * nI q = nI (1981 * q) from pk_mul 1981 _, nI_add, pk_sub (by omega)]
            congr 1
            omega
          refine b_Mo_picks_11 ⟨fun z => absurd z (nI_nlt (by omega) (by omega)), fun _ => ⟨Lg.s 166, 191, Lg.r 166 55 191, ?_⟩⟩
          rw [i1, i2, nI_clamp (by omega), nI_clamp (by omega)]
          refine ⟨Lg.x 191 (n := 21791) (by omega), Lg.x 191 (n := 21791) (by omega), ⟨by decide, Lg.x 191 (n := 21791) (by omega)⟩, b_Mo_picks_50 ?_⟩
          rw [R (q + 1) (j - 1) (by omega) (by omega), R q (j - 1 - s) (by omega) (by omega), lN_add, show nI (j - 1) + (-1 : Int32) = nI (j - 1) - 1 from (Int32.sub_eq_add_neg _ _).symm]
          refine ih2 (j - 1) (by omega) (by omega) _ (F.wL rfl) eI (R.w (k0 := q + 1) (x0 := j - 1) (by omega) ?_ (fun k x hk hx hne => ?_) rfl) _
          · unfold mxQ
            rw [if_neg (by omega), if_pos (by omega), if_neg (by omega), if_neg (by omega), if_neg (by omega), if_neg (by omega)]
            unfold pck
            rw [if_neg (by omega), if_pos (by omega), show q + 1 - 1 = q by omega]
          · unfold mxQ
            by_cases c1 : q + 1 < k
            · rw [if_pos c1, if_pos c1]
            · rw [if_neg c1, if_neg c1]
              by_cases c2 : k = q + 1 ∧ j ≤ x
              · rw [if_pos c2, if_pos (by omega)]
              · rw [if_neg c2, if_neg (by omega)]
      exact key2 (1981 - s) 1981 (by omega) (by omega) g F eI R _
  refine w_Mo_picks (key N (Nat.le_refl _) h Fr.rf rfl (R.c (fun k x hk hx => ?_)) _ _)
  unfold mxQ
  rw [if_neg (by omega), if_neg (by omega)]
