/-! look in the reference -/
theorem c_Mo_hides {n : Nat} (hn : 2 ≤ n) {h : xh} {S : Nat → Int32} (M : Ms h S) {Q : Int32 → xh → Prop} (hQ : Q (nI (bN S 2)) h) : xci (xMC n) 317 [.ref 166] h Q := by
  obtain ⟨n, rfl⟩ := xsucc (show 1 ≤ n by omega)
  exact w_Mo_hides ⟨M.1.s 166, c_Mo_listN (by omega) M (i := 2) rfl (by omega) hQ⟩
theorem c_Mo_hideX {n : Nat} (hn : 2 ≤ n) {h : xh} {S : Nat → Int32} (M : Ms h S) {a : Nat} (ha : atH S a) {Q : Int32 → xh → Prop} (hQ : Q (nI (hX S a)) h) : xci (xMC n) 321 [.ref 166, .int (nI a)] h Q := by
  obtain ⟨n, rfl⟩ := xsucc (show 1 ≤ n by omega)
  have o := M.2.2.n
  have a8 : a ≤ 8 := by rcases ha with e | e <;> omega
  unfold hX at hQ
  refine w_Mo_hideX ⟨fun z => ⟨M.1.s 166, c_Mo_listN (by omega) M (nI_add 25 a) (by omega) ?_⟩, fun z => ?_⟩
  · rwa [if_neg (fun e => z (by rw [e]; rfl))] at hQ
  · rwa [if_pos ((nI_eq (b := 8) (by omega) (by decide)).mp z)] at hQ
theorem c_Mo_hideY {n : Nat} (hn : 2 ≤ n) {h : xh} {S : Nat → Int32} (M : Ms h S) {a : Nat} (ha : atH S a) {Q : Int32 → xh → Prop} (hQ : Q (nI (hY S a)) h) : xci (xMC n) 322 [.ref 166, .int (nI a)] h Q := by
  obtain ⟨n, rfl⟩ := xsucc (show 1 ≤ n by omega)
  have o := M.2.2.n
  have a8 : a ≤ 8 := by rcases ha with e | e <;> omega
  unfold hY at hQ
  refine w_Mo_hideY ⟨fun z => ⟨M.1.s 166, c_Mo_listN (by omega) M (nI_add 33 a) (by omega) ?_⟩, fun z => ?_⟩
  · rwa [if_neg (fun e => z (by rw [e]; rfl))] at hQ
  · rwa [if_pos ((nI_eq (b := 8) (by omega) (by decide)).mp z)] at hQ
theorem c_Mo_odds {n : Nat} (hn : 3 ≤ n) {h : xh} {S : Nat → Int32} (M : Ms h S) {V : Nat} (hV : V < 512) {Q : Int32 → xh → Prop} (hQ : Q (nI (od S V)) h) : xci (xMC n) 318 [.ref 166, .int (nI V)] h Q := by
  obtain ⟨n, rfl⟩ := xsucc (show 1 ≤ n by omega)
  have o := M.2.2.n
  have hs := M.1.s 166 (p := (11, 0))
  have key : ∀ e k, k + e = bN S 2 → K_Mo_odds n Q 4 [some (.ref 166), some (.int (nI V)), some (.int (nI (oD S V k))), some (.int (nI k))] [] h := by
    intro e
    induction e with
    | zero =>
      intro k hk
      have : k = bN S 2 := by omega
      subst this
      exact b_Mo_odds_4 ⟨hs, c_Mo_hides (by omega) M ⟨fun _ => hQ, fun z => absurd (Int32.le_refl _) z⟩⟩
    | succ e ih =>
      intro k hk
      have ih' := ih (k + 1) (by omega)
      unfold oD at ih'
      refine b_Mo_odds_4 ⟨hs, c_Mo_hides (by omega) M ⟨fun z => absurd z (nI_ge (by omega) (by omega)), fun _ => c_Mo_has (by omega) hV (by omega) ?_⟩⟩
      rw [nI_1, nI_z]
      cases c : V.testBit k
      · rw [c] at ih'
        exact ⟨fun _ => ih', fun z => absurd rfl z⟩
      · rw [c, if_pos rfl] at ih'
        refine ⟨fun z => absurd z (by decide), fun _ => ⟨hs, c_Mo_listN (by omega) M (nI_add 41 k) (by omega) ?_⟩⟩
        rw [nI_add]
        exact ih'
  exact w_Mo_odds (key (bN S 2) 0 (by omega))
def Lk (h : xh) (S : Nat → Int32) (q : Nat) : Prop := ∀ V a, V < q → atH S a → xI h 188 (9 * V + a) = nI (lw S (pcn 9 V) V a)
theorem sdf_less {V k : Nat} (h : V.testBit k = true) : sdf V (2 ^ k) < V := by
  have := or_gt (sdf_self V k)
  rwa [sdf_or h] at this
theorem c_Mo_looksOn {n : Nat} (hn : 4 ≤ n) {h : xh} {S : Nat → Int32} (M : Ms h S) {V a k d : Nat} (hV : V < 2 ^ bN S 2) (K : Lk h S V) (ha : atH S a) (hk : k < bN S 2) (hb : V.testBit k = true) (hd : pcn 9 V = d + 1) {Q : Int32 → xh → Prop} (hQ : Q (nI (tmL S (lw S d) V a k)) h) : xci (xMC n) 320 [.ref 166, .int (nI a), .int (nI V), .int (nI k)] h Q := by
  obtain ⟨n, rfl⟩ := xsucc (show 1 ≤ n by omega)
  have ok := M.2.2
  have o := ok.n
  have q8 := p8 ok
  have hs := M.1.s 166 (p := (11, 0))
  have hk' : atH S k := Or.inr hk
  have x1 := hX_le ok ha
  have x2 := hX_le ok hk'
  have pr := pcn_rm hb (by omega)
  refine w_Mo_looksOn ⟨hs, c_Mo_hideX (by omega) M ha ⟨hs, c_Mo_hideX (by omega) M hk' (c_Mo_apart (by omega) ⟨hs, c_Mo_hideY (by omega) M ha ⟨hs, c_Mo_hideY (by omega) M hk' (c_Mo_apart (by omega) ⟨hs, c_Mo_odds (by omega) M (by omega) ⟨hs, 188, M.1.r 166 51 188, ?_⟩⟩)⟩⟩)⟩⟩
  have sl := sdf_less hb
  rw [bt_clr _ (by omega), show (9 : Int32) * nI (sdf V (2 ^ k)) = nI (9 * sdf V (2 ^ k)) from pk_mul 9 _, nI_add, nI_clamp (by omega), K _ k sl hk', apt_n (by omega) (by omega), apt_n (by omega) (by omega), nI_add, pk_mul, nI_add, show pcn 9 (sdf V (2 ^ k)) = d by omega]
  exact ⟨M.1.x 188 (n := 2304) (by omega), hQ⟩
theorem c_Mo_findLooks {n : Nat} (hn : 5 ≤ n) {h : xh} {S : Nat → Int32} (M : Ms h S) {Q : xh → Prop} (hQ : ∀ h', Fr PM h h' → Ms h' S → Lk h' S (2 ^ bN S 2) → Q h') : xcv (xMC n) 319 [.ref 166] h Q := by
  obtain ⟨n, rfl⟩ := xsucc (show 1 ≤ n by omega)
  have ok := M.2.2
  have o := ok.n
  have q8 := p8 ok
  have key : ∀ d x, x + d = 2 ^ bN S 2 → ∀ g, Fr PM h g → Ms g S → Lk g S x → ∀ o2 o3 o4 : Option Value, K_Mo_findLooks n Q 2 [some (.ref 166), some (.int (nI x)), o2, o3, o4] [] g := by
    intro d
    induction d with
    | zero =>
      intro x hx g F Mg K o2 o3 o4
      have : x = 2 ^ bN S 2 := by omega
      subst this
      refine b_Mo_findLooks_2 ⟨Mg.1.s 166, c_Mo_hides (by omega) Mg ?_⟩
      rw [bt_shl _ (by omega)]
      exact ⟨fun _ => hQ g F Mg K, fun z => absurd (Int32.le_refl _) z⟩
    | succ d ih =>
      intro x hx g F Mg K o2 o3 o4
      refine b_Mo_findLooks_2 ⟨Mg.1.s 166, c_Mo_hides (by omega) Mg ?_⟩
      rw [bt_shl _ (by omega)]
      refine ⟨fun z => absurd z (nI_ge (by omega) (by omega)), fun _ => ?_⟩
      have k14 : ∀ e a, a + e = 9 → ∀ g, Fr PM h g → Ms g S → Lk g S x → (∀ b, b < a → atH S b → xI g 188 (9 * x + b) = nI (lw S (pcn 9 x) x b)) → ∀ o3 o4 : Option Value, K_Mo_findLooks n Q 14 [some (.ref 166), some (.int (nI x)), some (.int (nI a)), o3, o4] [] g := by
        intro e
        induction e with
        | zero =>
          intro a hae g F Mg K c1 o3 o4
          have : a = 9 := by omega
          subst this
          refine b_Mo_findLooks_14 ⟨fun _ => ?_, fun z => absurd (by decide) z⟩
          rw [nI_1]
          refine ih (x + 1) (by omega) g F Mg (fun V b h1 h2 => ?_) _ _ _
          by_cases c : V = x
          · subst c
            exact c1 b (by rcases h2 with z | z <;> omega) h2
          · exact K V b (by omega) h2
        | succ e ie =>
          intro a hae g F Mg K c1 o3 o4
          have Lg := Mg.1
          have hs := Lg.s 166 (p := (11, 0))
          have wr : ∀ v : Int32, (atH S a → v = nI (lw S (pcn 9 x) x a)) → ∀ o4 : Option Value, K_Mo_findLooks n Q 90 [some (.ref 166), some (.int (nI x)), some (.int (nI a)), some (.int v), o4] [] g := by
            intro v hv o4
            refine b_Mo_findLooks_90 ⟨hs, 188, Lg.r 166 51 188, ?_⟩
            rw [show (9 : Int32) * nI x = nI (9 * x) from pk_mul 9 _, nI_add, nI_clamp (by omega)]
            refine ⟨⟨by decide, Lg.x 188 (n := 2304) (by omega)⟩, b_Mo_findLooks_102 ?_⟩
            rw [nI_1]
            refine ie (a + 1) (by omega) _ (F.wI mPa) (Mg.wa (by decide)) (fun V b h1 h2 => ?_) (fun b hb h2 => ?_) _ _
            · rw [upI_o _ _ _ _ (by rcases h2 with z | z <;> omega)]; exact K V b h1 h2
            · rw [upI]
              by_cases c : b = a
              · subst c; rw [if_pos rfl]; exact hv h2
              · rw [if_neg (by omega)]; exact c1 b (by omega) h2
          have start : ∀ v : Int32, (x = 0 → v = 0) → (x ≠ 0 → v = 1000000) → K_Mo_findLooks n Q 35 [some (.ref 166), some (.int (nI x)), some (.int (nI a)), some (.int v), some (.int 0)] [] g := by
            intro v v0 v1
            by_cases hat : atH S a
            · by_cases x0 : x = 0
              · have := v0 x0
                subst this
                subst x0
                have key0 : ∀ e k, k + e = bN S 2 → K_Mo_findLooks n Q 35 [some (.ref 166), some (.int (nI 0)), some (.int (nI a)), some (.int 0), some (.int (nI k))] [] g := by
                  intro e
                  induction e with
                  | zero =>
                    intro k hk
                    have : k = bN S 2 := by omega
                    subst this
                    exact b_Mo_findLooks_35 ⟨hs, c_Mo_hides (by omega) Mg ⟨fun _ => wr 0 (fun _ => by rw [pcn0]; rfl) _, fun z => absurd (Int32.le_refl _) z⟩⟩
                  | succ e ik =>
                    intro k hk
                    have ik' := ik (k + 1) (by omega)
                    have k58 : K_Mo_findLooks n Q 58 [some (.ref 166), some (.int (nI 0)), some (.int (nI a)), some (.int 0), some (.int (nI k))] [] g := by
                      refine b_Mo_findLooks_58 (c_Mo_has (by omega) (by omega) (by omega) ?_)
                      rw [Nat.zero_testBit, nI_1]
                      exact ⟨fun _ => ik', fun z => absurd rfl z⟩
                    refine b_Mo_findLooks_35 ⟨hs, c_Mo_hides (by omega) Mg ⟨fun z => absurd z (nI_ge (by omega) (by omega)), fun _ => ⟨hs, c_Mo_hides (by omega) Mg ⟨fun _ => k58, fun z => ⟨fun y => ?_, fun _ => k58⟩⟩⟩⟩⟩
                    rcases hat with q | q
                    · exact absurd (by rw [q]; rfl) y
                    · exact absurd (nI_lt q (by omega)) z
                exact key0 (bN S 2) 0 (by omega)
              · have := v1 x0
                subst this
                have nz : pcn 9 x ≠ 0 := fun y => x0 (pcn_z _ (by omega) y)
                obtain ⟨dd, ed⟩ : ∃ dd, pcn 9 x = dd + 1 := ⟨pcn 9 x - 1, by omega⟩
                have key1 : ∀ e k, k + e = bN S 2 → K_Mo_findLooks n Q 35 [some (.ref 166), some (.int (nI x)), some (.int (nI a)), some (.int (nI (lwk S (lw S dd) x a k))), some (.int (nI k))] [] g := by
                  intro e
                  induction e with
                  | zero =>
                    intro k hk
                    have : k = bN S 2 := by omega
                    subst this
                    exact b_Mo_findLooks_35 ⟨hs, c_Mo_hides (by omega) Mg ⟨fun _ => wr _ (fun _ => by rw [ed, lw_s]) _, fun z => absurd (Int32.le_refl _) z⟩⟩
                  | succ e ik =>
                    intro k hk
                    have ik' := ik (k + 1) (by omega)
                    unfold lwk at ik'
                    have k58 : K_Mo_findLooks n Q 58 [some (.ref 166), some (.int (nI x)), some (.int (nI a)), some (.int (nI (lwk S (lw S dd) x a k))), some (.int (nI k))] [] g := by
                      refine b_Mo_findLooks_58 (c_Mo_has (by omega) (by omega) (by omega) ?_)
                      rw [nI_1]
                      cases c : x.testBit k
                      · rw [if_neg (by rw [c]; decide)] at ik'
                        exact ⟨fun _ => ik', fun z => absurd rfl z⟩
                      · rw [if_pos c] at ik'
                        refine ⟨fun z => absurd z (by decide), fun _ => ⟨hs, c_Mo_looksOn (by omega) Mg (by omega) K hat (by omega) c ed (c_Mo_lesser (by omega) ?_)⟩⟩
                        have l1 := lwk_far S (lw S dd) x a k
                        have pr := pcn_rm c (by omega)
                        have l2 := lw_b ok dd (sdf x (2 ^ k)) k (sdf_lt (by omega)) (by omega) (Or.inr (by omega))
                        have l3 := wy_le ok hat (show k < bN S 2 by omega)
                        have l5 : wy S a k * od S x ≤ 18 * 160 := Nat.mul_le_mul l3 (od_le ok _)
                        have p9 := pcn_le 9 x
                        have l6 : tmL S (lw S dd) x a k < 2 ^ 31 := by unfold tmL; omega
                        rw [mn_n (by omega) l6]
                        exact ik'
                    refine b_Mo_findLooks_35 ⟨hs, c_Mo_hides (by omega) Mg ⟨fun z => absurd z (nI_ge (by omega) (by omega)), fun _ => ⟨hs, c_Mo_hides (by omega) Mg ⟨fun _ => k58, fun z => ⟨fun y => ?_, fun _ => k58⟩⟩⟩⟩⟩
                    rcases hat with q | q
                    · exact absurd (by rw [q]; rfl) y
                    · exact absurd (nI_lt q (by omega)) z
                exact key1 (bN S 2) 0 (by omega)
            · have w := wr v (fun y => absurd y hat)
              refine b_Mo_findLooks_35 ⟨hs, c_Mo_hides (by omega) Mg ⟨fun _ => w _, fun _ => ⟨hs, c_Mo_hides (by omega) Mg ⟨fun z => ?_, fun z => ⟨fun _ => w _, fun y => ?_⟩⟩⟩⟩⟩
              · rw [nI_ltI (by omega) (by omega)] at z
                exact absurd (Or.inr z) hat
              · exact absurd (Or.inl ((nI_eq (b := 8) (by omega) (by decide)).mp y)) hat
          refine b_Mo_findLooks_14 ⟨fun z => absurd z (nI_nlt (a := 8) (by omega) (by decide)), fun _ => ⟨fun z => start _ (fun e => absurd (by rw [e]; rfl) z) (fun _ => rfl), fun z => start _ (fun _ => rfl) (fun e => absurd ((nI_eq (b := 0) (by omega) (by decide)).mp z) e)⟩⟩
      exact k14 9 0 (by omega) g F Mg K (fun b hb => absurd hb (Nat.not_lt_zero _)) _ _
  exact w_Mo_findLooks (key (2 ^ bN S 2) 0 (by omega) h Fr.rf M (fun V a h1 => absurd h1 (Nat.not_lt_zero _)) _ _ _)
theorem c_Mo_hideAt {n : Nat} (hn : 5 ≤ n) {h : xh} {S : Nat → Int32} (M : Ms h S) (K : Lk h S (2 ^ bN S 2)) {t : Nat} (ht : t < bN S 2) {Q : Int32 → xh → Prop} (hQ : Q (nI (hk S t)) h) : xci (xMC n) 323 [.ref 166, .int (nI t)] h Q := by
  obtain ⟨n, rfl⟩ := xsucc (show 1 ≤ n by omega)
  have ok := M.2.2
  have o := ok.n
  have q8 := p8 ok
  have L := M.1
  have hs := L.s 166 (p := (11, 0))
  have key : ∀ e i, i + e = t + 1 → ∀ o5 : Option Value, K_Mo_hideAt n Q 15 [some (.ref 166), some (.int (nI t)), some (.int (nI (hq S i).1)), some (.int (nI (hq S i).2)), some (.int (nI i)), o5] [] h := by
    intro e
    induction e with
    | zero =>
      intro i hi o5
      have : i = t + 1 := by omega
      subst this
      exact b_Mo_hideAt_15 ⟨fun _ => hQ, fun z => absurd (nI_lt (by omega) (by omega)) z⟩
    | succ e ih =>
      intro i hi o5
      have ih' := ih (i + 1) (by omega)
      rw [hq_s] at ih'
      obtain ⟨h1, h2, h3⟩ := hq_p ok i (by omega)
      obtain ⟨k1, k2⟩ := hk_p ok (i := i) (by omega)
      obtain ⟨d, hd⟩ : ∃ d, bN S 2 = i + 1 + d := ⟨bN S 2 - (i + 1), by omega⟩
      have ed : pcn 9 (hq S i).1 = d + 1 := by omega
      have eh : fsx (pL S d (hq S i).1 (hq S i).2) (bN S 2) 0 = hk S i := by unfold hk; rw [show bN S 2 - (i + 1) = d by omega]
      have a8 : (hq S i).2 ≤ 8 := by rcases h3 with z | z <;> omega
      refine b_Mo_hideAt_15 ⟨fun z => absurd z (nI_nlt (by omega) (by omega)), fun _ => ?_⟩
      have inner : ∀ u j, j + u = bN S 2 → fsx (pL S d (hq S i).1 (hq S i).2) u j = hk S i → K_Mo_hideAt n Q 24 [some (.ref 166), some (.int (nI t)), some (.int (nI (hq S i).1)), some (.int (nI (hq S i).2)), some (.int (nI i)), some (.int (nI j))] [] h := by
        intro u
        induction u with
        | zero =>
          intro j hj ej
          have ej' : j = hk S i := ej
          omega
        | succ u iu =>
          intro j hj ej
          unfold fsx at ej
          have skip : ¬ pL S d (hq S i).1 (hq S i).2 j = true → K_Mo_hideAt n Q 24 [some (.ref 166), some (.int (nI t)), some (.int (nI (hq S i).1)), some (.int (nI (hq S i).2)), some (.int (nI i)), some (.int (nI (j + 1)))] [] h := fun np => by
            rw [if_neg np] at ej
            exact iu (j + 1) (by omega) ej
          refine b_Mo_hideAt_24 (c_Mo_has (by omega) (by omega) (by omega) ?_)
          rw [nI_1, nI_1]
          cases c : (hq S i).1.testBit j
          · refine ⟨fun _ => skip (fun y => ?_), fun y => absurd rfl y⟩
            unfold pL at y
            rw [c, Bool.false_and] at y
            exact absurd y (by decide)
          · refine ⟨fun y => absurd y (by decide), fun _ => ⟨hs, c_Mo_looksOn (by omega) M h1 (fun V a q1 q2 => K V a (by omega) q2) h3 (by omega) c ed ⟨hs, 188, L.r 166 51 188, ?_⟩⟩⟩
            rw [show (9 : Int32) * nI (hq S i).1 = nI (9 * (hq S i).1) from pk_mul 9 _, nI_add, nI_clamp (by omega), K _ _ h1 h3, ed, bt_clr _ (by omega)]
            refine ⟨L.x 188 (n := 2304) (by omega), ?_⟩
            have pr := pcn_rm c (by omega)
            have l2 := lw_b ok d (sdf (hq S i).1 (2 ^ j)) j (sdf_lt h1) (by omega) (Or.inr (by omega))
            have l3 := wy_le ok h3 (show j < bN S 2 by omega)
            have l5 : wy S (hq S i).2 j * od S (hq S i).1 ≤ 18 * 160 := Nat.mul_le_mul l3 (od_le ok _)
            have l6 : tmL S (lw S d) (hq S i).1 (hq S i).2 j < 2 ^ 31 := by unfold tmL; omega
            have l7 := lw_b ok (d + 1) (hq S i).1 (hq S i).2 h1 (by omega) h3
            rw [nI_eq l6 (by omega)]
            have pe : pL S d (hq S i).1 (hq S i).2 j = true ↔ tmL S (lw S d) (hq S i).1 (hq S i).2 j = lw S (d + 1) (hq S i).1 (hq S i).2 := by
              unfold pL
              rw [c]
              simp
            refine ⟨fun z => ?_, fun z => skip (fun y => z (pe.mp y))⟩
            rw [if_pos (pe.mpr z)] at ej
            rw [ej]
            exact ih' _
      exact inner (bN S 2) 0 (by omega) eh
  refine w_Mo_hideAt ⟨hs, c_Mo_hides (by omega) M ?_⟩
  have fp := Nat.two_pow_pos (bN S 2)
  rw [bt_shl _ (by omega), show nI (2 ^ bN S 2) - (1 : Int32) = nI (2 ^ bN S 2 - 1) from pk_sub (b := 1) (by omega)]
  exact key (t + 1) 0 (by omega) _
theorem c_Mo_look {n : Nat} (hn : 6 ≤ n) {h : xh} (L : Lay h) {c : Nat} (W : ShM h c) {p k : Int32} {Q : Int32 → xh → Prop} (h1 : ∀ j, j < c → p = nI j → ∀ h', Fr PM h h' → Q (sLook (mS h j) k) h') (h0 : (∀ j, j < c → ¬ p = nI j) → ∀ h', Fr PM h h' → Q (-1) h') : xci (xMC n) 316 [.ref 166, .int p, .int k] h Q := by
  obtain ⟨n, rfl⟩ := xsucc (show 1 ≤ n by omega)
  have hs := L.s 166 (p := (11, 0))
  have P0 := mP
  refine w_Mo_look ⟨⟨by decide, hs⟩, b_Mo_look_5 ⟨hs, c_Mo_hasList (by omega) (h := xsI h 166 0 0) L (c := c) W (fun j hj e M => ⟨fun y => absurd y (by decide), fun _ => ?_⟩) (fun z => ⟨fun _ => h0 z _ ((Fr.rf.wI P0).wI P0), fun y => absurd rfl y⟩)⟩⟩
  have F : Fr PM h (xsI (xsI h 166 0 0) 166 49 p) := (Fr.rf.wI (h := h) (i := 0) (v := 0) P0).wI (i := 49) (v := p) P0
  have hQ := h1 j hj e
  generalize xsI (xsI h 166 0 0) 166 49 p = h' at F M ⊢
  have M' : Ms h' (mS h j) := M
  generalize mS h j = S at hQ M'
  have hs' := M'.1.s 166 (p := (11, 0))
  have ok := M'.2.2
  have o := ok.n
  have q8 := p8 ok
  have fp := Nat.two_pow_pos (bN S 2)
  have l1 := od_le ok (2 ^ bN S 2 - 1)
  have l2 := lw_all ok
  have ef : nI (2 ^ bN S 2) - (1 : Int32) = nI (2 ^ bN S 2 - 1) := pk_sub (b := 1) (by omega)
  refine ⟨hs', c_Mo_hides (by omega) M' (c_Mo_in (by omega) (fun z => ⟨fun y => absurd y (by decide), fun _ => ⟨hs', c_Mo_hides (by omega) M' ⟨hs', ?_⟩⟩⟩) (fun z => ⟨fun _ => ?_, fun y => absurd rfl y⟩))⟩
  · rw [bt_shl _ (by omega), ef]
    refine c_Mo_odds (by omega) M' (by omega) ⟨fun y => ⟨hs', c_Mo_findLooks (by omega) M' (fun g F2 M2 K2 => ⟨M2.1.s 166, c_Mo_hides (by omega) M2 ?_⟩)⟩, fun y => ?_⟩
    · have nz : ¬ od S (2 ^ bN S 2 - 1) = 0 := fun w => y (by rw [w]; rfl)
      have hQ := hQ g (F.tr F2)
      have hs2 := M2.1.s 166 (p := (11, 0))
      unfold sLook at hQ
      rw [if_neg nz] at hQ
      rw [bt_shl _ (by omega), ef]
      refine ⟨fun q => ⟨hs2, ?_⟩, fun q => ⟨hs2, 188, M2.1.r 166 51 188, ?_⟩⟩
      · rcases (bwm2 (by omega)).mp z with e | e | ⟨i, hi, e⟩
        · subst e; exact absurd q (by decide)
        · subst e; exact absurd q (by decide)
        · subst e
          rw [if_neg (nI_m1 (by omega)), if_neg (fun w => by have := nI_pos (n := i) (by omega); rw [w] at this; exact this (by decide)), nI_clamp (by omega), if_pos ⟨nI_pos (by omega), hi⟩] at hQ
          exact c_Mo_hideAt (by omega) M2 K2 hi hQ
      · rw [show (9 : Int32) * nI (2 ^ bN S 2 - 1) = nI (9 * (2 ^ bN S 2 - 1)) from pk_mul 9 _, show nI (9 * (2 ^ bN S 2 - 1)) + (8 : Int32) = nI (9 * (2 ^ bN S 2 - 1) + 8) from nI_add _ 8, nI_clamp (by omega), K2 _ 8 (by omega) (Or.inl rfl), pcn_full9 _ (by omega)]
        refine ⟨M2.1.x 188 (n := 2304) (by omega), c_Mo_odds (by omega) M2 (by omega) ?_⟩
        rw [nI_l (by omega), nI_l (by omega)]
        refine ⟨fun w => c_Mo_part (by omega) (by omega) (by omega) nz ?_, fun w => c_Mo_part (by omega) (by omega) (by omega) nz ?_⟩
        · rcases (bwm2 (by omega)).mp z with e | e | ⟨i, hi, e⟩
          · rwa [if_pos e] at hQ
          · exact absurd e w
          · subst e; exact absurd (nI_pos' (by omega)) q
        · subst w
          rwa [if_neg (by decide), if_pos rfl] at hQ
    · have nz : od S (2 ^ bN S 2 - 1) = 0 := (nI_eq (b := 0) (by omega) (by decide)).mp y
      have hQ := hQ h' F
      unfold sLook at hQ
      rwa [if_pos nz] at hQ
  · have hQ := hQ h' F
    unfold sLook at hQ
    by_cases nz : od S (2 ^ bN S 2 - 1) = 0
    · rwa [if_pos nz] at hQ
    · rw [if_neg nz, if_neg (fun e => z ((bwm2 (by omega)).mpr (Or.inl e))), if_neg (fun e => z ((bwm2 (by omega)).mpr (Or.inr (Or.inl e)))), if_neg (fun w => ?_)] at hQ
      · exact hQ
      · obtain ⟨i, hi, e⟩ := nI_of w.1
        subst e
        have := w.2
        rw [nI_clamp hi] at this
        exact z ((bwm2 (by omega)).mpr (Or.inr (Or.inr ⟨i, this, rfl⟩)))
