/-! lot: in how many ways so many nights can be picked, by what was seen in them -/
def P165 (c : Nat) : Prop := c = 165
def pck (P : Nat → Nat → Nat) (s : Nat) : Nat → Nat → Nat := fun k x => P k x + if k = 0 then 0 else if s ≤ x then P (k - 1) (x - s) else 0
def bas : Nat → Nat → Nat := fun k x => if k = 0 ∧ x = 0 then 1 else 0
def lp (B : Nat → Int32) (P : Nat → Nat → Nat) : Nat → Nat → Nat → Nat
  | 0 => P
  | i + 1 => pck (lp B P i) (bN B (1 + 5 * i))
def sup (P : Nat → Nat → Nat) : Prop := ∀ k x, 99 * k < x → P k x = 0
theorem sup_pck {P : Nat → Nat → Nat} (h : sup P) {s : Nat} (hs : s ≤ 99) : sup (pck P s) := by
  intro k x hx
  unfold pck
  rw [h k x hx]
  by_cases k0 : k = 0
  · rw [if_pos k0]
  · rw [if_neg k0]
    by_cases c : s ≤ x
    · rw [if_pos c, h (k - 1) (x - s) (by omega)]
    · rw [if_neg c]
theorem sup_bas : sup bas := by
  intro k x hx
  unfold bas
  rw [if_neg (by omega)]
theorem sup_lp {B : Nat → Int32} (ok : BkOK B) {P : Nat → Nat → Nat} (h : sup P) : ∀ i, i ≤ bN B 0 → sup (lp B P i)
  | 0, _ => h
  | i + 1, hi => sup_pck (sup_lp ok h i (by omega)) (ok.2.2 i (by omega)).1
theorem pck_le {P : Nat → Nat → Nat} {m : Nat} (h : ∀ k x, P k x ≤ 2 ^ m) (s : Nat) : ∀ k x, pck P s k x ≤ 2 ^ (m + 1) := by
  intro k x
  unfold pck
  have h1 := h k x
  have h2 := h (k - 1) (x - s)
  have e : 2 ^ (m + 1) = 2 ^ m + 2 ^ m := by rw [Nat.pow_succ]; omega
  rw [e]
  split
  · omega
  · split <;> omega
theorem lp_le {B : Nat → Int32} {P : Nat → Nat → Nat} {m : Nat} (h : ∀ k x, P k x ≤ 2 ^ m) : ∀ i k x, lp B P i k x ≤ 2 ^ (m + i)
  | 0 => h
  | i + 1 => pck_le (lp_le h i) _
theorem bas_le : ∀ k x, bas k x ≤ 2 ^ 0 := by
  intro k x
  unfold bas
  split <;> omega
theorem lp_mono {B : Nat → Int32} {P : Nat → Nat → Nat} : ∀ i k x, P k x ≤ lp B P i k x
  | 0, k, x => Nat.le_refl _
  | i + 1, k, x => Nat.le_trans (lp_mono i k x) (Nat.le_add_right _ _)
theorem lp_one {B : Nat → Int32} : ∀ i, 1 ≤ lp B bas i i (suS B i)
  | 0 => Nat.le_refl _
  | i + 1 => by
    have ih := lp_one (B := B) i
    show 1 ≤ pck (lp B bas i) (bN B (1 + 5 * i)) (i + 1) (suS B i + bN B (1 + 5 * i))
    unfold pck
    rw [if_neg (by omega), if_pos (by omega), show suS B i + bN B (1 + 5 * i) - bN B (1 + 5 * i) = suS B i by omega, show i + 1 - 1 = i by omega]
    omega
def sumN (f : Nat → Nat) : Nat → Nat
  | 0 => 0
  | k + 1 => sumN f k + f k
theorem sumN_ext {f : Nat → Nat} {a : Nat} : ∀ d, (∀ x, a ≤ x → f x = 0) → sumN f (a + d) = sumN f a
  | 0, _ => rfl
  | d + 1, h => by
    show sumN f (a + d) + f (a + d) = sumN f a
    rw [sumN_ext d h, h (a + d) (by omega)]; rfl
theorem sumN_le {f : Nat → Nat} {b : Nat} (h : ∀ x, f x ≤ b) : ∀ n, sumN f n ≤ b * n
  | 0 => Nat.le_refl _
  | n + 1 => by
    have := sumN_le h n
    have := h n
    show sumN f n + f n ≤ b * (n + 1)
    rw [Nat.mul_succ]
    omega
theorem sumN_ge {f : Nat → Nat} : ∀ {n k : Nat}, k < n → f k ≤ sumN f n
  | 0, k, h => absurd h (Nat.not_lt_zero k)
  | n + 1, k, h => by
    show f k ≤ sumN f n + f n
    by_cases e : k = n
    · subst e; omega
    · have := sumN_ge (f := f) (n := n) (k := k) (by omega)
      omega
/-- where the ways to pick so many begin in the class -/
def lr : Nat → Nat
  | 0 => 0
  | k + 1 => lr k + 99 * k + 1
theorem lr_eq : ∀ k, k < 12 → (((99 : Int32) * nI k) * (nI k - 1)) / 2 + nI k = nI (lr k) := by decide
theorem lr_mono : ∀ {k m : Nat}, k < m → lr k + 99 * k + 1 ≤ lr m := by
  intro k m h
  induction m with
  | zero => omega
  | succ m ih =>
    show lr k + 99 * k + 1 ≤ lr m + 99 * m + 1
    by_cases e : k = m
    · subst e; omega
    · have := ih (by omega)
      omega
theorem lr_11 : lr 11 = 5456 := by decide
theorem lr_b {k x : Nat} (hk : k ≤ 10) (hx : x ≤ 99 * k) : lr k + x < 5456 := by
  have := lr_mono (k := k) (m := 11) (by omega)
  rw [lr_11] at this
  omega
theorem lr_inj {k x k' x' : Nat} (hx : x ≤ 99 * k) (hx' : x' ≤ 99 * k') (e : lr k + x = lr k' + x') : k = k' ∧ x = x' := by
  by_cases c : k < k'
  · have := lr_mono c; omega
  · by_cases c2 : k' < k
    · have := lr_mono c2; omega
    · have : k = k' := by omega
      subst this
      omega
def Lw (h : xh) (n : Nat) (P : Nat → Nat → Nat) : Prop := ∀ k x, k ≤ n → x ≤ 99 * k → xI h 165 (lr k + x) = nI (P k x)
theorem Lw.w {h : xh} {n : Nat} {P P' : Nat → Nat → Nat} (R : Lw h n P) {k0 x0 v : Nat} (hx0 : x0 ≤ 99 * k0) (h1 : P' k0 x0 = v) (h2 : ∀ k x, k ≤ n → x ≤ 99 * k → ¬ (k = k0 ∧ x = x0) → P' k x = P k x) {i : Nat} (hi : i = lr k0 + x0) : Lw (xsI h 165 i (nI v)) n P' := by
  intro k x hk hx
  subst hi
  rw [upI]
  by_cases e : lr k + x = lr k0 + x0
  · obtain ⟨e1, e2⟩ := lr_inj hx hx0 e
    subst e1
    subst e2
    rw [if_pos rfl, h1]
  · rw [if_neg e, R k x hk hx, h2 k x hk hx (fun z => e (by rw [z.1, z.2]))]
theorem Lw.c {h : xh} {n : Nat} {P P' : Nat → Nat → Nat} (R : Lw h n P) (h2 : ∀ k x, k ≤ n → x ≤ 99 * k → P' k x = P k x) : Lw h n P' := fun k x hk hx => by rw [R k x hk hx, h2 k x hk hx]
/-- half way: rows above q are done, row q as far as i -/
def mxP (P : Nat → Nat → Nat) (s q i : Nat) : Nat → Nat → Nat := fun k x => if q < k then pck P s k x else if k = q ∧ s ≤ x ∧ x - s < i then pck P s k x else P k x
theorem c_Book_lotRow {n : Nat} (hn : 1 ≤ n) {h : xh} {k : Nat} (hk : k < 12) {x : Int32} (hx : x = nI k) {Q : Int32 → xh → Prop} (hQ : Q (nI (lr k)) h) : xci (xMC n) 56 [.int x] h Q := by
  obtain ⟨n, rfl⟩ := xsucc hn
  subst hx
  refine w_Book_lotRow ?_
  rw [lr_eq k hk]
  exact hQ
theorem c_Book_maybePick {n : Nat} (hn : 2 ≤ n) {h : xh} (L : Lay h) {b : Nat} {B : Nat → Int32} (H : Bk h b B) {P : Nat → Nat → Nat} (hP : sup P) (R : Lw h (bN B 0) P) {s : Nat} (hs : s ≤ 99) {Q : xh → Prop} (hQ : ∀ h', Fr P165 h h' → Lw h' (bN B 0) (pck P s) → Q h') : xcv (xMC n) 69 [.ref b, .int (nI s), .ref 165] h Q := by
  obtain ⟨n, rfl⟩ := xsucc (show 1 ≤ n by omega)
  have n10 := H.n10
  refine w_Book_maybePick ⟨H.s, ?_⟩
  rw [H.n]
  have key : ∀ q, q ≤ bN B 0 → ∀ g, Fr P165 h g → Lw g (bN B 0) (mxP P s q 0) → ∀ o0 o4 o5 o6 : Option Value, K_Book_maybePick n Q 7 [o0, some (.int (nI s)), some (.ref 165), some (.int (nI q - 1)), o4, o5, o6] [] g := by
    intro q
    induction q with
    | zero =>
      intro hq g F R o0 o4 o5 o6
      refine b_Book_maybePick_7 ⟨fun _ => hQ g F (R.c (fun k x hk hx => ?_)), fun z => absurd (by decide) z⟩
      unfold mxP
      by_cases c : 0 < k
      · rw [if_pos c]
      · have : k = 0 := by omega
        subst this
        rw [if_neg (by omega), if_neg (by omega)]
        unfold pck
        rw [if_pos rfl]; rfl
    | succ q ih =>
      intro hq g F R o0 o4 o5 o6
      rw [nI_pred]
      refine b_Book_maybePick_7 ⟨fun z => absurd z (nI_pos (by omega)), fun _ => c_Book_lotRow (by omega) (by omega) rfl (c_Book_lotRow (k := q + 1) (by omega) (by omega) (nI_1 q) ?_)⟩
      rw [nI_add]
      have key2 : ∀ d i, i + d = 99 * q + 1 → ∀ g, Fr P165 h g → Lw g (bN B 0) (mxP P s (q + 1) i) → K_Book_maybePick n Q 30 [o0, some (.int (nI s)), some (.ref 165), some (.int (nI q)), some (.int (nI (lr q))), some (.int (nI (lr (q + 1) + s))), some (.int (nI i))] [] g := by
        intro d
        induction d with
        | zero =>
          intro i hi g F R
          have : i = 99 * q + 1 := by omega
          subst this
          refine b_Book_maybePick_30 ⟨fun _ => ?_, fun z => absurd ?_ z⟩
          · rw [show nI q + (-1 : Int32) = nI q - 1 from (Int32.sub_eq_add_neg _ _).symm]
            refine ih (by omega) g F (R.c (fun k x hk hx => ?_)) _ _ _ _
            unfold mxP
            by_cases c1 : q + 1 < k
            · rw [if_pos c1, if_pos (by omega)]
            · rw [if_neg c1]
              by_cases c2 : k = q + 1
              · subst c2
                rw [if_pos (by omega)]
                by_cases c3 : s ≤ x ∧ x - s < 99 * q + 1
                · rw [if_pos ⟨rfl, c3⟩]
                · rw [if_neg (fun z => c3 z.2)]
                  unfold pck
                  rw [if_neg (by omega)]
                  by_cases c4 : s ≤ x
                  · rw [if_pos c4, hP (q + 1 - 1) (x - s) (by omega)]; rfl
                  · rw [if_neg c4]; rfl
              · rw [if_neg (by omega), if_neg (by omega), if_neg (by omega)]
          · rw [show (99 : Int32) * nI q = nI (99 * q) from pk_mul 99 q]
            exact nI_lt (by omega) (by omega)
        | succ d ih2 =>
          intro i hi g F R
          have b1 : lr (q + 1) + (s + i) < 5456 := lr_b (by omega) (by omega)
          have b2 : lr q + i < 5456 := lr_b (by omega) (by omega)
          have Lg := F.lay L
          refine b_Book_maybePick_30 ⟨fun z => absurd z ?_, fun _ => ?_⟩
          · rw [show (99 : Int32) * nI q = nI (99 * q) from pk_mul 99 q]
            exact nI_nlt (by omega) (by omega)
          · rw [nI_add, nI_add, nI_clamp (by omega), nI_clamp (by omega), show lr (q + 1) + s + i = lr (q + 1) + (s + i) by omega]
            refine ⟨Lg.x 165 (n := 5456) b1, Lg.x 165 (n := 5456) b2, ⟨by decide, Lg.x 165 (n := 5456) b1⟩, b_Book_maybePick_56 ?_⟩
            rw [R (q + 1) (s + i) (by omega) (by omega), R q i (by omega) (by omega), nI_add, nI_1]
            refine ih2 (i + 1) (by omega) _ (F.wI rfl) (R.w (k0 := q + 1) (x0 := s + i) (by omega) ?_ (fun k x hk hx hne => ?_) rfl)
            · unfold mxP
              rw [if_neg (by omega), if_pos (by omega), if_neg (by omega), if_neg (by omega), if_neg (by omega), if_neg (by omega)]
              unfold pck
              rw [if_neg (by omega), if_pos (by omega), show s + i - s = i by omega, show q + 1 - 1 = q by omega]
            · unfold mxP
              by_cases c1 : q + 1 < k
              · rw [if_pos c1, if_pos c1]
              · rw [if_neg c1, if_neg c1]
                by_cases c2 : k = q + 1 ∧ s ≤ x ∧ x - s < i
                · rw [if_pos c2, if_pos (by omega)]
                · rw [if_neg c2, if_neg (by omega)]
      exact key2 (99 * q + 1) 0 (by omega) g F R
  refine key (bN B 0) (Nat.le_refl _) h Fr.rf (R.c (fun k x hk hx => ?_)) _ _ _ _
  unfold mxP
  rw [if_neg (by omega), if_neg (by omega)]
theorem c_fillI {n : Nat} (hn : 1 ≤ n) {h : xh} {a N : Nat} (hs : xS h a = (20, N)) (ha : 64 ≤ a) (hN : N < 2 ^ 31) {v : Int32} {Q : xh → Prop} (hQ : ∀ h', Fr (fun c => c = a) h h' → (∀ i, i < N → xI h' a i = v) → Q h') : xcv (xMC n) 7 [.ref a, .int v] h Q := by
  obtain ⟨n, rfl⟩ := xsucc hn
  have key : ∀ d i, i + d = N → ∀ g, Fr (fun c => c = a) h g → (∀ j, j < i → xI g a j = v) → K_Arrays_fill_IIV n Q 5 [some (.ref a), some (.int v), some (.int (nI i)), some (.int (nI N))] [] g := by
    intro d
    induction d with
    | zero =>
      intro i hi g F e
      have : i = N := by omega
      subst this
      exact b_Arrays_fill_IIV_5 ⟨fun _ => hQ g F e, fun z => absurd (Int32.le_refl _) z⟩
    | succ d ih =>
      intro i hi g F e
      refine b_Arrays_fill_IIV_5 ⟨fun z => absurd z (nI_ge (by omega) (by omega)), fun _ => ⟨⟨ha, xarN (by rw [F.1]; exact hs) (by omega) hN⟩, b_Arrays_fill_IIV_14 ?_⟩⟩
      rw [nI_1, nI_clamp (by omega)]
      refine ih (i + 1) (by omega) _ (F.wI rfl) (fun j hj => ?_)
      rw [upI]
      by_cases c : j = i
      · rw [if_pos c]
      · rw [if_neg c]; exact e j (by omega)
  refine w_Arrays_fill_IIV ⟨by rw [hs]; exact ⟨Nat.le_refl 20, show 20 ≤ 28 by decide⟩, ?_⟩
  rw [hs]
  exact key N 0 (by omega) h Fr.rf (fun j hj => absurd hj (Nat.not_lt_zero _))
def lUp (B C : Nat → Int32) : Nat := sumN (fun x => if x < suS B (bN B 0) then 0 else lp C (lp B bas (bN B 0)) (bN C 0) (bN B 0) x) 1981
def lDn (B C : Nat → Int32) : Nat := sumN (fun x => lp C (lp B bas (bN B 0)) (bN C 0) (bN B 0) x) 1981
def sLot (B C : Nat → Int32) (un : Int32) : Int64 := lN (gpt (lUp B C) (lDn B C) un)
theorem lot_le {B C : Nat → Int32} (oB : BkOK B) (oC : BkOK C) : ∀ k x, lp C (lp B bas (bN B 0)) (bN C 0) k x ≤ 2 ^ 20 := by
  intro k x
  have := lp_le (B := C) (lp_le (B := B) bas_le (bN B 0)) (bN C 0) k x
  refine Nat.le_trans this (Nat.pow_le_pow_right (by decide) ?_)
  have := oB.2.1
  have := oC.2.1
  omega
theorem lot_sup {B C : Nat → Int32} (oB : BkOK B) (oC : BkOK C) : sup (lp C (lp B bas (bN B 0)) (bN C 0)) := sup_lp oC (sup_lp oB sup_bas _ (Nat.le_refl _)) _ (Nat.le_refl _)
theorem lUp_le {B C : Nat → Int32} (oB : BkOK B) (oC : BkOK C) : lUp B C ≤ 2 ^ 20 * 1981 := sumN_le (fun x => by
  have := lot_le oB oC (bN B 0) x
  split <;> omega) 1981
theorem lDn_le {B C : Nat → Int32} (oB : BkOK B) (oC : BkOK C) : lDn B C ≤ 2 ^ 20 * 1981 := sumN_le (fun x => lot_le oB oC (bN B 0) x) 1981
theorem lDn_ne {B C : Nat → Int32} (oB : BkOK B) (oC : BkOK C) : lDn B C ≠ 0 := by
  have n10 := oB.2.1
  have s := suS_le oB (bN B 0) (Nat.le_refl _)
  have h1 := lp_one (B := B) (bN B 0)
  have h2 := lp_mono (B := C) (P := lp B bas (bN B 0)) (bN C 0) (bN B 0) (suS B (bN B 0))
  have h3 : lp C (lp B bas (bN B 0)) (bN C 0) (bN B 0) (suS B (bN B 0)) ≤ lDn B C := sumN_ge (f := fun x => lp C (lp B bas (bN B 0)) (bN C 0) (bN B 0) x) (n := 1981) (by omega)
  omega
theorem c_Book_chanceOfAsMany {n : Nat} (hn : 3 ≤ n) {h : xh} (L : Lay h) {b c : Nat} {B C : Nat → Int32} (H : Bk h b B) (G : Bk h c C) (hb : b + 3 < 165) (hc : c + 3 < 165) {un : Int32} {Q : Int64 → xh → Prop} (hQ : ∀ h', Fr P165 h h' → Q (sLot B C un) h') : xcj (xMC n) 68 [.ref b, .ref c, .ref 165, .int un] h Q := by
  obtain ⟨n, rfl⟩ := xsucc (show 1 ≤ n by omega)
  have n10 := H.n10
  have m10 := G.n10
  have oB := H.ok
  have oC := G.ok
  have fB : ∀ {g}, Fr P165 h g → Bk g b B := fun F => H.fr F (fun c h1 h2 z => by unfold P165 at z; omega)
  have fC : ∀ {g}, Fr P165 h g → Bk g c C := fun F => G.fr F (fun c h1 h2 z => by unfold P165 at z; omega)
  have k97 : ∀ (r1 : Int32), r1 = nI (suS B (bN B 0)) → ∀ (g : xh), Fr P165 h g → Lw g (bN B 0) (lp C (lp B bas (bN B 0)) (bN C 0)) → ∀ o1 : Option Value, K_Book_chanceOfAsMany n Q 97 [some (.ref b), o1, some (.ref 165), some (.int un), some (.long 0), none, some (.long 0), none, some (.int r1), some (.int (nI (lr (bN B 0)))), some (.int 0)] [] g := by
    intro r1 hr g F R o1
    subst hr
    have hQ := hQ g F
    have Hg := fB F
    have Lg := F.lay L
    have su := suS_le oB (bN B 0) (Nat.le_refl _)
    have le := lot_le oB oC
    have sp := lot_sup oB oC
    have u1 := lUp_le oB oC
    have d1 := lDn_le oB oC
    have eU : lUp B C = sumN (fun x => if x < suS B (bN B 0) then 0 else lp C (lp B bas (bN B 0)) (bN C 0) (bN B 0) x) (99 * bN B 0 + 1) := by
      unfold lUp
      rw [show 1981 = 99 * bN B 0 + 1 + (1980 - 99 * bN B 0) by omega]
      refine sumN_ext _ (fun x hx => ?_)
      rw [sp (bN B 0) x (by omega)]
      split <;> rfl
    have eD : lDn B C = sumN (fun x => lp C (lp B bas (bN B 0)) (bN C 0) (bN B 0) x) (99 * bN B 0 + 1) := by
      unfold lDn
      rw [show 1981 = 99 * bN B 0 + 1 + (1980 - 99 * bN B 0) by omega]
      exact sumN_ext _ (fun x hx => sp (bN B 0) x (by omega))
    unfold sLot at hQ
    generalize lp C (lp B bas (bN B 0)) (bN C 0) = P at R le sp eU eD
    have key : ∀ d i, i + d = 99 * bN B 0 + 1 → K_Book_chanceOfAsMany n Q 97 [some (.ref b), o1, some (.ref 165), some (.int un), some (.long (lN (sumN (fun x => if x < suS B (bN B 0) then 0 else P (bN B 0) x) i))), none, some (.long (lN (sumN (fun x => P (bN B 0) x) i))), none, some (.int (nI (suS B (bN B 0)))), some (.int (nI (lr (bN B 0)))), some (.int (nI i))] [] g := by
      intro d
      induction d with
      | zero =>
        intro i hi
        have : i = 99 * bN B 0 + 1 := by omega
        subst this
        refine b_Book_chanceOfAsMany_97 ⟨Hg.s, ?_⟩
        rw [Hg.n, show (99 : Int32) * nI (bN B 0) = nI (99 * bN B 0) from pk_mul 99 _, ← eU, ← eD]
        exact ⟨fun _ => c_Fraction_part (by omega) (by omega) (by omega) hQ, fun z => absurd (nI_lt (by omega) (by omega)) z⟩
      | succ d ih =>
        intro i hi
        have b1 : lr (bN B 0) + i < 5456 := lr_b (by omega) (by omega)
        refine b_Book_chanceOfAsMany_97 ⟨Hg.s, ?_⟩
        rw [Hg.n, show (99 : Int32) * nI (bN B 0) = nI (99 * bN B 0) from pk_mul 99 _, nI_add, nI_clamp (by omega)]
        refine ⟨fun z => absurd z (nI_nlt (by omega) (by omega)), fun _ => ⟨Lg.x 165 (n := 5456) b1, ?_⟩⟩
        have lx := le (bN B 0) i
        rw [R (bN B 0) i (Nat.le_refl _) (by omega), nI_l (by omega), lN_add, lN_add, nI_1, nI_ltI (by omega) (by omega)]
        have ih' := ih (i + 1) (by omega)
        unfold sumN at ih'
        refine ⟨fun z => ?_, fun z => ?_⟩
        · rw [if_pos z] at ih'
          rw [show ∀ a, lN a + (0 : Int64) = lN (a + 0) from fun a => lN_add a 0]
          exact ih'
        · rw [if_neg z] at ih'
          exact ih'
    exact key (99 * bN B 0 + 1) 0 (by omega)
  have k42 : ∀ d i, i + d = bN C 0 → ∀ g, Fr P165 h g → Lw g (bN B 0) (lp C (lp B bas (bN B 0)) i) → ∀ o5 o6 o7 o8 o9 o10 : Option Value, K_Book_chanceOfAsMany n Q 42 [some (.ref b), some (.ref c), some (.ref 165), some (.int un), some (.int (nI i)), o5, o6, o7, o8, o9, o10] [] g := by
    intro d
    induction d with
    | zero =>
      intro i hi g F R o5 o6 o7 o8 o9 o10
      have : i = bN C 0 := by omega
      subst this
      have Hg := fB F
      have Gg := fC F
      refine b_Book_chanceOfAsMany_42 ⟨Gg.s, ?_⟩
      rw [Gg.n]
      exact ⟨fun _ => ⟨Hg.s, c_Book_seenAheadOf (by omega) Hg (Nat.le_refl _) Hg.n ⟨Hg.s, c_Book_lotRow (by omega) (k := bN B 0) (by omega) Hg.n (k97 _ rfl g F R _)⟩⟩, fun z => absurd (Int32.le_refl _) z⟩
    | succ d ih =>
      intro i hi g F R o5 o6 o7 o8 o9 o10
      have Hg := fB F
      have Gg := fC F
      refine b_Book_chanceOfAsMany_42 ⟨Gg.s, ?_⟩
      rw [Gg.n]
      refine ⟨fun z => absurd z (nI_ge (by omega) (by omega)), fun _ => ⟨_, Gg.r1, Gg.x1 (by omega), Hg.s, ?_⟩⟩
      rw [nI_clamp (by omega), Gg.v1 (by omega), nI_1]
      exact c_Book_maybePick (by omega) (F.lay L) Hg (sup_lp oC (sup_lp oB sup_bas _ (Nat.le_refl _)) i (by omega)) R (oC.2.2 i (by omega)).1 (fun g2 F2 R2 => ih (i + 1) (by omega) g2 (F.tr F2) R2 _ _ _ _ _ _)
  have k12 : ∀ d i, i + d = bN B 0 → ∀ g, Fr P165 h g → Lw g (bN B 0) (lp B bas i) → ∀ o5 o6 o7 o8 o9 o10 : Option Value, K_Book_chanceOfAsMany n Q 12 [some (.ref b), some (.ref c), some (.ref 165), some (.int un), some (.int (nI i)), o5, o6, o7, o8, o9, o10] [] g := by
    intro d
    induction d with
    | zero =>
      intro i hi g F R o5 o6 o7 o8 o9 o10
      have : i = bN B 0 := by omega
      subst this
      have Hg := fB F
      refine b_Book_chanceOfAsMany_12 ⟨Hg.s, ?_⟩
      rw [Hg.n]
      exact ⟨fun _ => k42 (bN C 0) 0 (by omega) g F R _ _ _ _ _ _, fun z => absurd (Int32.le_refl _) z⟩
    | succ d ih =>
      intro i hi g F R o5 o6 o7 o8 o9 o10
      have Hg := fB F
      refine b_Book_chanceOfAsMany_12 ⟨Hg.s, ?_⟩
      rw [Hg.n]
      refine ⟨fun z => absurd z (nI_ge (by omega) (by omega)), fun _ => ⟨_, Hg.r1, Hg.x1 (by omega), ?_⟩⟩
      rw [nI_clamp (by omega), Hg.v1 (by omega), nI_1]
      exact c_Book_maybePick (by omega) (F.lay L) Hg (sup_lp oB sup_bas i (by omega)) R (oB.2.2 i (by omega)).1 (fun g2 F2 R2 => ih (i + 1) (by omega) g2 (F.tr F2) R2 _ _ _ _ _ _)
  refine w_Book_chanceOfAsMany (c_fillI (by omega) (L.s 165) (by decide) (by decide) (fun g F e => ⟨⟨by decide, (F.lay L).x 165 (i := 0) (n := 5456) (by decide)⟩, b_Book_chanceOfAsMany_9 (k12 (bN B 0) 0 (by omega) _ ((F.mo (fun _ z => z)).wI rfl) ?_ _ _ _ _ _ _)⟩))
  intro k x hk hx
  show xI (xsI g 165 0 1) 165 (lr k + x) = nI (bas k x)
  rw [upI]
  unfold bas
  have bd := lr_b (k := k) (x := x) (by omega) hx
  by_cases z : k = 0 ∧ x = 0
  · obtain ⟨z1, z2⟩ := z
    subst z1
    subst z2
    rw [if_pos (show lr 0 + 0 = 0 from rfl), if_pos ⟨rfl, rfl⟩]; rfl
  · have : lr k + x ≠ 0 := fun y => by
      by_cases k0 : k = 0
      · omega
      · have := lr_mono (k := 0) (m := k) (by omega)
        omega
    rw [if_neg this, if_neg z, e _ bd]; rfl
theorem c_So_lot {n : Nat} (hn : 4 ≤ n) {h : xh} (L : Lay h) {c : Nat} (W : BkC h c) {p q un : Int32} {Q : Int64 → xh → Prop} (h1 : ∀ j, j < c → p = nI j → ∀ i, i < c → q = nI i → ∀ h', Fr P165 h h' → Q (sLot (mB h j) (mB h i) un) h') (h0 : (∀ j, j < c → ¬ p = nI j) ∨ (∀ j, j < c → ¬ q = nI j) → Q (-1) h) : xcj (xMC n) 186 [.ref 64, .int p, .int q, .int un] h Q := by
  obtain ⟨n, rfl⟩ := xsucc (show 1 ≤ n by omega)
  have c2 := W.2.1
  refine w_So_lot ⟨L.s 64, 65, L.r 64 0 65, L.s 65, c_Told_bookAt (by omega) L W.1 W.2.1 (fun j hj e => ⟨fun a2 ea => ?_, fun z => nomatch z⟩) (fun z => ⟨fun a2 ea => (nomatch ea), fun _ => ⟨L.s 64, 65, L.r 64 0 65, L.s 65, c_Told_bookAt (by omega) L W.1 W.2.1 (fun i hi e2 => ⟨fun _ _ => h0 (Or.inl z), fun y => nomatch y⟩) (fun _ => ⟨fun _ _ => h0 (Or.inl z), fun _ => h0 (Or.inl z)⟩)⟩⟩)⟩
  cases ea
  refine ⟨L.s 64, 65, L.r 64 0 65, L.s 65, c_Told_bookAt (by omega) L W.1 W.2.1 (fun i hi e2 => ⟨fun a4 ea4 => ?_, fun y => nomatch y⟩) (fun z => ⟨fun _ ea => (nomatch ea), fun _ => h0 (Or.inr z)⟩)⟩
  cases ea4
  exact ⟨L.s 64, 165, L.r 64 7 165, (W.2.2 j hj).1, c_Book_chanceOfAsMany (by omega) L (W.2.2 j hj) (W.2.2 i hi) (by omega) (by omega) (h1 j hj e i hi e2)⟩
