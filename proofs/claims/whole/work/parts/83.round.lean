/-! ROUTES in the class: findRound; the reference's findRounds -/
def P157 (c : Nat) : Prop := c = 157
theorem c_Routes_findRound {n : Nat} (hn : 2 ≤ n) {h : xh} (L : Lay h) {t : Nat} {T : Nat → Int32} (H : Tn h t T) (ht : t + 7 < 150) (A : Ap h T (stp T)) (P : Pq h T (2 ^ stp T)) (Tg : Tq h T (2 ^ stp T)) (f1 : xI h 150 1 = nI (2 ^ stp T - 1)) {Q : xh → Prop} (hQ : ∀ h', Fr P157 h h' → (∀ k, k < stp T → xI h' 157 k = nI (rk T k)) → Q h') : xcv (xMC n) 88 [.ref 150, .ref t] h Q := by
  obtain ⟨n, rfl⟩ := xsucc (show 1 ≤ n by omega)
  have ok := H.ok
  have s9 := stp9 ok
  have p512 : 2 ^ stp T ≤ 512 := Nat.le_trans (Nat.pow_le_pow_right (by decide) s9) (by decide)
  have fp := Nat.two_pow_pos (stp T)
  have fT : ∀ {g}, Fr P157 h g → Tn g t T := fun F => H.fr F (fun c h1 h2 z => by unfold P157 at z; omega)
  have fA : ∀ {g}, Fr P157 h g → Ap g T (stp T) := fun {g} F a s h1 h2 => by rw [F.i 151 (fun z => by unfold P157 at z; omega)]; exact A a s h1 h2
  have fP : ∀ {g}, Fr P157 h g → Pq g T (2 ^ stp T) := fun {g} F V a h1 h2 h3 => by rw [F.i 152 (fun z => by unfold P157 at z; omega)]; exact P V a h1 h2 h3
  have key : ∀ d i, i + d = stp T → ∀ g, Fr P157 h g → (∀ k, k < i → xI g 157 k = nI (rk T k)) → ∀ v4 : Int32, v4 = nI (tg T (stp T - i) (rq T i).1 (rq T i).2) → ∀ o6 o7 : Option Value, K_Routes_findRound n Q 22 [some (.ref 150), some (.ref t), some (.int (nI (rq T i).1)), some (.int (nI (rq T i).2)), some (.int v4), some (.int (nI i)), o6, o7] [] g := by
    intro d
    induction d with
    | zero =>
      intro i hi g F c1 v4 hv o6 o7
      have : i = stp T := by omega
      subst this
      have Hg := fT F
      refine b_Routes_findRound_22 ⟨Hg.s, ?_⟩
      rw [Hg.i 6, ok.s6.1]
      exact ⟨fun _ => hQ g F c1, fun z => absurd (Int32.le_refl _) z⟩
    | succ d ih =>
      intro i hi g F c1 v4 hv o6 o7
      subst hv
      have Hg := fT F
      have Lg := F.lay L
      have Ag := fA F
      have Pg := fP F
      obtain ⟨h1, h2, h3⟩ := rq_p ok i (by omega)
      obtain ⟨k1, k2, k3⟩ := rk_p ok (i := i) (by omega)
      have dd : stp T - (i + 1) = d := by omega
      have ei : stp T - i = d + 1 := by omega
      rw [dd] at k3
      rw [ei] at k3 ⊢
      have a9 : (rq T i).2 ≤ 9 := by rcases h3 with z | z <;> omega
      have tb := tg_b ok (d + 1) (rq T i).1 (rq T i).2 h1 (by omega) h3
      refine b_Routes_findRound_22 ⟨Hg.s, ?_⟩
      rw [Hg.i 6, ok.s6.1]
      refine ⟨fun z => absurd z (nI_ge (by omega) (by omega)), fun _ => ?_⟩
      have inner : ∀ j, j ≤ stp T → ∀ v6 : Int32, v6 = nI (if fsx (pR T d (rq T i).1 (rq T i).2) (stp T - j) j < stp T then fsx (pR T d (rq T i).1 (rq T i).2) (stp T - j) j else 0) → K_Routes_findRound n Q 42 [some (.ref 150), some (.ref t), some (.int (nI (rq T i).1)), some (.int (nI (rq T i).2)), some (.int (nI (tg T (d + 1) (rq T i).1 (rq T i).2))), some (.int (nI i)), some (.int v6), some (.int (nI j - 1))] [] g := by
        intro j
        induction j with
        | zero =>
          intro hj v6 hv
          have eh : fsx (pR T d (rq T i).1 (rq T i).2) (stp T - 0) 0 = rk T i := by unfold rk; rw [dd]; rfl
          rw [eh, if_pos k1] at hv
          subst hv
          refine b_Routes_findRound_42 ⟨fun _ => ⟨Lg.s 150, 157, Lg.r 150 8 157, ⟨by decide, Lg.x 157 (n := 9) (by omega)⟩, ?_⟩, fun z => absurd (by decide) z⟩
          rw [nI_clamp (by omega)]
          have F1 : Fr P157 h (xsI g 157 i (nI (rk T i))) := F.wI rfl
          have L1 := F1.lay L
          refine b_Routes_findRound_105 ⟨L1.s 150, 151, L1.r 150 2 151, ?_⟩
          rw [show nI (rq T i).2 * (9 : Int32) = nI ((rq T i).2 * 9) from pk_mul _ 9, nI_add, nI_clamp (by omega), fA F1 _ _ h3 k1, bt_clr _ (by omega), nI_1]
          refine ⟨L1.x 151 (n := 90) (by omega), ?_⟩
          have ih' := ih (i + 1) (by omega) (xsI g 157 i (nI (rk T i))) F1 (fun k hk => by
            rw [upI]
            by_cases c : k = i
            · subst c; rw [if_pos rfl]
            · rw [if_neg c]; exact c1 k (by omega)) (nI (tg T (d + 1) (rq T i).1 (rq T i).2) - nI (dr T (rq T i).2 (rk T i))) (by
            rw [← k3, dd]
            unfold tmR
            rw [pk_sub (by omega)]
            rw [rq_s]
            congr 1
            show dr T (rq T i).2 (rk T i) + tg T d (sdf (rq T i).1 (2 ^ rk T i)) (rk T i) - dr T (rq T i).2 (rk T i) = tg T d (sdf (rq T i).1 (2 ^ rk T i)) (rk T i)
            omega)
          rw [rq_s] at ih'
          exact ih' _ _
        | succ j ij =>
          intro hj v6 hv
          rw [nI_pred]
          have st : fsx (pR T d (rq T i).1 (rq T i).2) (stp T - j) j = if pR T d (rq T i).1 (rq T i).2 j = true then j else fsx (pR T d (rq T i).1 (rq T i).2) (stp T - (j + 1)) (j + 1) := by
            rw [show stp T - j = (stp T - (j + 1)) + 1 by omega]
            rfl
          have skip : ¬ pR T d (rq T i).1 (rq T i).2 j = true → K_Routes_findRound n Q 42 [some (.ref 150), some (.ref t), some (.int (nI (rq T i).1)), some (.int (nI (rq T i).2)), some (.int (nI (tg T (d + 1) (rq T i).1 (rq T i).2))), some (.int (nI i)), some (.int v6), some (.int (nI j + (-1)))] [] g := by
            intro np
            rw [show nI j + (-1 : Int32) = nI j - 1 from (Int32.sub_eq_add_neg _ _).symm]
            refine ij (by omega) v6 ?_
            rw [st, if_neg np]
            exact hv
          refine b_Routes_findRound_42 ⟨fun z => absurd z (nI_pos (by omega)), fun _ => c_Routes_has (by omega) (by omega) (by omega) ?_⟩
          cases c : (rq T i).1.testBit j
          · refine ⟨fun _ => skip (fun y => ?_), fun y => absurd rfl y⟩
            unfold pR at y
            rw [c, Bool.false_and] at y
            exact absurd y (by decide)
          · refine ⟨fun y => absurd y (by decide), fun _ => ⟨Lg.s 150, 151, Lg.r 150 2 151, ?_⟩⟩
            have pr := pcn_rm c (by omega)
            have l2 := tg_b ok d (sdf (rq T i).1 (2 ^ j)) j (sdf_lt h1) (by omega) (Or.inr (by omega))
            have l3 := dr_le ok (a := (rq T i).2) (b := j) h3 (Or.inr (by omega))
            rw [show nI (rq T i).2 * (9 : Int32) = nI ((rq T i).2 * 9) from pk_mul _ 9, show nI (rq T i).1 * (9 : Int32) = nI ((rq T i).1 * 9) from pk_mul _ 9, nI_add, nI_add, nI_clamp (by omega), nI_clamp (by omega), Ag _ j h3 (by omega)]
            refine ⟨Lg.x 151 (n := 90) (by omega), 152, Lg.r 150 3 152, Lg.x 152 (n := 4608) (by omega), ?_⟩
            rw [Pg _ j h1 (by omega) c, show pcn 9 (rq T i).1 - 1 = d by omega, nI_add, nI_eq (by omega) (by omega)]
            have pe : pR T d (rq T i).1 (rq T i).2 j = true ↔ dr T (rq T i).2 j + tg T d (sdf (rq T i).1 (2 ^ j)) j = tg T (d + 1) (rq T i).1 (rq T i).2 := by
              unfold pR tmR
              rw [c]
              simp
            refine ⟨fun z => skip (fun y => z (pe.mp y)), fun z => ?_⟩
            rw [show nI j + (-1 : Int32) = nI j - 1 from (Int32.sub_eq_add_neg _ _).symm]
            refine ij (by omega) _ ?_
            rw [st, if_pos (pe.mpr z), if_pos (by omega)]
      refine inner (stp T) (Nat.le_refl _) 0 ?_
      rw [Nat.sub_self, if_neg (by show ¬ stp T < stp T; omega)]; rfl
  refine w_Routes_findRound ⟨L.s 150, 153, L.r 150 4 153, ?_⟩
  rw [f1, nI_clamp (by omega), Tg _ (by omega), pcn_f9 _ s9]
  exact ⟨L.x 153 (n := 512) (by omega), key (stp T) 0 (by omega) h Fr.rf (fun k hk => absurd hk (Nat.not_lt_zero _)) _ rfl none none⟩
def ceI (V a : Nat) : Nat := if a = 9 then 10 * V else 10 * V + a + 1
theorem c_Mo_cell {n : Nat} (hn : 1 ≤ n) {h : xh} {V a : Nat} (ha : a ≤ 9) {Q : Int32 → xh → Prop} (hQ : Q (nI (ceI V a)) h) : xci (xMC n) 293 [.int (nI V), .int (pI a)] h Q := by
  obtain ⟨n, rfl⟩ := xsucc hn
  refine w_Mo_cell ?_
  rw [show (10 : Int32) * nI V = nI (10 * V) from pk_mul 10 _]
  unfold ceI at hQ
  by_cases e : a = 9
  · subst e
    rw [if_pos rfl] at hQ
    rw [pI_9, show ∀ x : Int32, x + (-1) + 1 = x from fun x => by grind]
    exact hQ
  · rw [if_neg e] at hQ
    rw [pI_k (by omega), nI_add, nI_1]
    exact hQ
theorem ceI_lt {V a : Nat} (hV : V < 512) (ha : a ≤ 9) : ceI V a < 5120 := by
  unfold ceI
  split <;> omega
theorem ceI_inj {V a W b : Nat} (ha : a ≤ 9) (hb : b ≤ 9) (h : ceI V a = ceI W b) : V = W ∧ a = b := by
  unfold ceI at h
  split at h <;> split at h <;> omega
def Gq (h : xh) (T : Nat → Int32) (N : Nat) : Prop := ∀ V a, V < N → plc T a → xI h 186 (ceI V a) = nI (tg T (pcn 9 V) V a)
theorem plc9 {T : Nat → Int32} (ok : TnOK T) {a : Nat} (h : plc T a) : a ≤ 9 := by
  have := stp9 ok
  rcases h with e | e <;> omega
theorem c_Mo_drivesN {n : Nat} (hn : 3 ≤ n) {h : xh} {T : Nat → Int32} (M : Mt h T) {a b : Nat} (ha : plc T a) (hb : plc T b) {Q : Int32 → xh → Prop} (hQ : Q (nI (dr T a b)) h) : xci (xMC n) 260 [.ref 166, .int (pI a), .int (pI b)] h Q := c_Mo_drives hn M (pI_pl M.ok ha) (pI_pl M.ok hb) (by rw [drv_n M.ok ha hb]; exact hQ)
