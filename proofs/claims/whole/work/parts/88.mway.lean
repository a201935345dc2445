/-! THE WAY in the reference: goOn, findOn -/
def Sk (h : xh) (T : Nat → Int32) (A : Nat) : Prop := ∀ s, s < stp T → (A.testBit s = true ↔ ¬ nI s = xI h 166 44 ∧ 0 < mdN T s)
theorem c_Mo_isSought {n : Nat} (hn : 3 ≤ n) {h : xh} {T : Nat → Int32} (M : Mt h T) {A : Nat} (k : Sk h T A) {s : Nat} (hs : s < stp T) {Q : Int32 → xh → Prop} (hQ : Q (if A.testBit s then 1 else 0) h) : xci (xMC n) 288 [.ref 166, .int (nI s)] h Q := by
  obtain ⟨n, rfl⟩ := xsucc (show 1 ≤ n by omega)
  obtain ⟨em, m20⟩ := mid_n M.ok hs
  have ks := k s hs
  refine w_Mo_isSought ⟨M.L.s 166, fun z => ?_, fun z => c_Mo_middle (by omega) M hs ?_⟩
  · rw [if_neg (fun y => (ks.mp y).1 z)] at hQ
    exact hQ
  · rw [em]
    refine ⟨fun y => ?_, fun y => ?_⟩
    · rw [if_neg (fun q => nI_nle (ks.mp q).2 (by omega) y)] at hQ
      exact hQ
    · have m0 : 0 < mdN T s := Nat.pos_of_ne_zero (fun q => y (by rw [q]; decide))
      rw [if_pos (ks.mpr ⟨z, m0⟩)] at hQ
      exact hQ
theorem c_Mo_peopleOf {n : Nat} (hn : 3 ≤ n) {h : xh} {T : Nat → Int32} (M : Mt h T) {V : Nat} (hV : V < 512) {Q : Int32 → xh → Prop} (hQ : Q (nI (pp T V)) h) : xci (xMC n) 285 [.ref 166, .int (nI V)] h Q := by
  obtain ⟨n, rfl⟩ := xsucc (show 1 ≤ n by omega)
  have s9 := stp9 M.ok
  have key : ∀ d k, k + d = stp T → K_Mo_peopleOf n Q 4 [some (.ref 166), some (.int (nI V)), some (.int (nI (bsm (mdN T) V k))), some (.int (nI k))] [] h := by
    intro d
    induction d with
    | zero =>
      intro k hk
      have : k = stp T := by omega
      subst this
      refine b_Mo_peopleOf_4 ⟨M.L.s 166, ?_⟩
      rw [M.sp]
      exact ⟨fun _ => hQ, fun z => absurd (Int32.le_refl _) z⟩
    | succ d ih =>
      intro k hk
      have ih' := ih (k + 1) (by omega)
      unfold bsm at ih'
      refine b_Mo_peopleOf_4 ⟨M.L.s 166, ?_⟩
      rw [M.sp]
      refine ⟨fun z => absurd z (nI_ge (by omega) (by omega)), fun _ => c_Mo_has (by omega) hV (by omega) ?_⟩
      rw [nI_1]
      cases c : V.testBit k
      · rw [if_neg (by rw [c]; decide)] at ih'
        exact ⟨fun _ => by rw [nI_z]; exact ih', fun z => absurd rfl z⟩
      · rw [if_pos c] at ih'
        refine ⟨fun z => absurd z (by decide), fun _ => ⟨M.L.s 166, c_Mo_middle (by omega) M (by omega) ?_⟩⟩
        rw [(mid_n M.ok (show k < stp T by omega)).1, nI_add]
        exact ih'
  exact w_Mo_peopleOf (key (stp T) 0 (by omega))
theorem c_Mo_doneThere {n : Nat} (hn : 4 ≤ n) {h : xh} {T : Nat → Int32} (M : Mt h T) {a s t : Nat} (ha : plc T a) (hs : s < stp T) (ht : t < 1000000) {Q : Int32 → xh → Prop} (hQ : Q (if t + dr T a s < clN T then nI (t + dr T a s + fdN T s) else 1000000) h) : xci (xMC n) 289 [.ref 166, .int (pI a), .int (nI t), .int (nI s)] h Q := by
  obtain ⟨n, rfl⟩ := xsucc (show 1 ≤ n by omega)
  have hm := M.ok.hm
  have l := dr_le M.ok ha (Or.inr hs)
  obtain ⟨em, m20⟩ := mid_n M.ok hs
  refine w_Mo_doneThere ⟨M.L.s 166, c_Mo_drivesS (by omega) M ha hs ⟨M.L.s 166, ?_⟩⟩
  have e4 : xI h 166 26 = nI (clN T) := M.2.2.1.2.2.trans hm.2.2.2.1.1
  have l4 : clN T ≤ 99 := hm.2.2.2.1.2
  rw [e4, nI_add, nI_leI (by omega) (by omega)]
  refine ⟨fun z => ?_, fun z => c_Mo_middle (by omega) M hs ?_⟩
  · rw [if_neg (by omega)] at hQ; exact hQ
  · obtain ⟨n, rfl⟩ := xsucc (show 1 ≤ n by omega)
    refine w_Mo_feeds ?_
    rw [if_pos (by omega)] at hQ
    rw [em, nI_1, show nI (mdN T s + 1) / (2 : Int32) = nI ((mdN T s + 1) / 2) from pk_div (d := 2) (by omega) (by decide) (by decide), nI_add]
    exact hQ
def PDo (c : Nat) : Prop := c = 166 ∨ c = 184
def Ff (h g : xh) : Prop := Fr PDo h g ∧ ∀ i, i ≠ 45 → i ≠ 46 → xI g 166 i = xI h 166 i
theorem Ff.rf {h : xh} : Ff h h := ⟨Fr.rf, fun _ _ _ => rfl⟩
theorem Ff.tr {a b c : xh} (f : Ff a b) (g : Ff b c) : Ff a c := ⟨f.1.tr g.1, fun i h1 h2 => (g.2 i h1 h2).trans (f.2 i h1 h2)⟩
theorem Ff.wd {h g : xh} (f : Ff h g) {i : Nat} {v : Int32} : Ff h (xsI g 184 i v) := ⟨f.1.wI (Or.inr rfl), fun j h1 h2 => by rw [xsI_ne _ _ _ (by decide)]; exact f.2 j h1 h2⟩
theorem Ff.wf {h g : xh} (f : Ff h g) {i : Nat} {v : Int32} (hi : i = 45 ∨ i = 46) : Ff h (xsI g 166 i v) := ⟨f.1.wI (Or.inl rfl), fun j h1 h2 => by rw [upI_o _ _ _ _ (by omega)]; exact f.2 j h1 h2⟩
theorem Ff.sk {h g : xh} (f : Ff h g) {T : Nat → Int32} {A : Nat} (k : Sk h T A) : Sk g T A := fun s hs => by
  rw [f.2 44 (by decide) (by decide)]; exact k s hs
theorem Ff.pm {h g : xh} (f : Ff h g) : Fr PM h g := f.1.mo (fun c hc => by unfold PDo at hc; unfold PM; omega)
def Db (h : xh) (D : Nat → Nat) : Prop := ∀ i, i < 4608 → xI h 184 i = nI (D i) ∧ D i ≤ 1000000
/-- what the search from a state has found so far -/
def Dq (T : Nat → Int32) (A B l t0 : Nat) (h : xh) (D : Nat → Nat) (P M : Nat) : Prop := Db h D ∧ (xI h 166 45 = nI P ∧ xI h 166 46 = nI M) ∧ (∀ V a, V < 2 ^ stp T → a < stp T → D (9 * V + a) = 1000000 ∨ ∃ k, Rc T A k B l t0 V a (D (9 * V + a))) ∧ (∃ k V a, Rc T A k B l t0 V a M ∧ pp T V = P) ∧ (pp T B < P ∨ (pp T B = P ∧ M ≤ t0)) ∧ ∀ V a, V < 2 ^ stp T → a < stp T → D (9 * V + a) ≠ 1000000 → pp T V < P ∨ (pp T V = P ∧ M ≤ D (9 * V + a))
theorem Gs.tb {T : Nat → Int32} (ok : TnOK T) {A V a t : Nat} (g : Gs T A V a t) : t < 120 := by
  have hm := ok.hm
  have l4 : clN T ≤ 99 := hm.2.2.2.1.2
  rcases g.2.2 with e | ⟨e1, e2, e3, e4⟩
  · omega
  · have := (mid_n ok e1).2
    unfold fdN at e4
    omega
theorem or_eq {V s : Nat} : V ||| 2 ^ s = V ↔ V.testBit s = true := by
  constructor
  · intro e
    rw [← e]; exact or_has V s
  · intro e
    apply Nat.eq_of_testBit_eq
    intro i
    rw [or_bit]
    by_cases c : s = i
    · subst c; rw [e]; rfl
    · simp [c]
theorem c_Mo_goOn {n : Nat} (hn : 5 ≤ n) {h : xh} {T : Nat → Int32} (M : Mt h T) {A : Nat} (kk : Sk h T A) {B l t0 X a t : Nat} (g0 : Gs T A B l t0) {k0 : Nat} (rc : Rc T A k0 B l t0 X a t) {D : Nat → Nat} {P Mi : Nat} (dq : Dq T A B l t0 h D P Mi) {Q : xh → Prop} (hQ : ∀ g D' P' M', Ff h g → Mt g T → Dq T A B l t0 g D' P' M' → (∀ i, D' i ≤ D i ∧ (i < 9 * (X + 1) → D' i = D i)) → (∀ s, s < stp T → X.testBit s = false → A.testBit s = true → t + dr T a s < clN T → D' (9 * (X ||| 2 ^ s) + s) ≤ t + dr T a s + fdN T s) → Q g) : xcv (xMC n) 287 [.ref 166, .int (nI X), .int (pI a), .int (nI t)] h Q := by
  obtain ⟨n, rfl⟩ := xsucc (show 1 ≤ n by omega)
  have ok := M.ok
  have s9 := stp9 ok
  have p512 : 2 ^ stp T ≤ 512 := Nat.le_trans (Nat.pow_le_pow_right (by decide) s9) (by decide)
  have gs := Rc_gs ok rc g0
  have tb := gs.tb ok
  have hX := gs.1
  have ha := gs.sa.pl
  have key : ∀ d s, s + d = stp T → ∀ g D' P' M', Ff h g → Mt g T → Dq T A B l t0 g D' P' M' → (∀ i, D' i ≤ D i ∧ (i < 9 * (X + 1) → D' i = D i)) → (∀ s', s' < s → X.testBit s' = false → A.testBit s' = true → t + dr T a s' < clN T → D' (9 * (X ||| 2 ^ s') + s') ≤ t + dr T a s' + fdN T s') → ∀ o5 o6 o7 : Option Value, K_Mo_goOn n Q 3 [some (.ref 166), some (.int (nI X)), some (.int (pI a)), some (.int (nI t)), some (.int (nI s)), o5, o6, o7] [] g := by
    intro d
    induction d with
    | zero =>
      intro s hs g D' P' M' F Mg dq le c1 o5 o6 o7
      have : s = stp T := by omega
      subst this
      refine b_Mo_goOn_3 ⟨Mg.L.s 166, ?_⟩
      rw [Mg.sp]
      exact ⟨fun _ => hQ g D' P' M' F Mg dq le c1, fun z => absurd (Int32.le_refl _) z⟩
    | succ d ih =>
      intro s hs g D' P' M' F Mg dq le c1 o5 o6 o7
      have hs' : s < stp T := by omega
      refine b_Mo_goOn_3 ⟨Mg.L.s 166, ?_⟩
      rw [Mg.sp]
      refine ⟨fun z => absurd z (nI_ge (by omega) (by omega)), fun _ => ⟨fun z => absurd z (nI_ge (b := 1000000) (by omega) (by decide)), fun _ => c_Mo_has (by omega) (by omega) (by omega) ?_⟩⟩
      have skip : (X.testBit s = false → A.testBit s = true → t + dr T a s < clN T → False) → K_Mo_goOn n Q 51 [some (.ref 166), some (.int (nI X)), some (.int (pI a)), some (.int (nI t)), some (.int (nI s)), o5, o6, o7] [.int 1000000] g := fun no => by
        refine b_Mo_goOn_51 ⟨fun _ => b_Mo_goOn_161 ?_, fun z => absurd (Int32.le_refl _) z⟩
        rw [nI_1]
        refine ih (s + 1) (by omega) g D' P' M' F Mg dq le (fun s' h1 h2 h3 h4 => ?_) _ _ _
        by_cases e : s' = s
        · subst e; exact (no h2 h3 h4).elim
        · exact c1 s' (by omega) h2 h3 h4
      cases cX : X.testBit s
      · refine ⟨fun z => absurd rfl z, fun _ => ⟨Mg.L.s 166, c_Mo_isSought (by omega) Mg (F.sk kk) hs' ?_⟩⟩
        cases cA : A.testBit s
        · refine ⟨fun z => absurd rfl z, fun _ => b_Mo_goOn_37 (skip (fun _ h _ => by rw [cA] at h; exact absurd h (by decide)))⟩
        · refine ⟨fun _ => ⟨Mg.L.s 166, c_Mo_doneThere (by omega) Mg ha hs' (by omega) ?_⟩, fun z => absurd z (by decide)⟩
          by_cases cc : t + dr T a s < clN T
          · rw [if_pos cc]
            have hm := ok.hm
            have l4 : clN T ≤ 99 := hm.2.2.2.1.2
            have m20 := (mid_n ok hs').2
            have bl : t + dr T a s + fdN T s < 120 := by unfold fdN; omega
            have ol := orb_lt hX hs'
            have rc' := Rc_app hs' cA rc cX cc
            obtain ⟨db, ⟨e45, e46⟩, i1, i2, i3, i4⟩ := dq
            refine b_Mo_goOn_51 ⟨fun z => absurd z (nI_ge (b := 1000000) (by omega) (by decide)), fun _ => ⟨Mg.L.s 166, 184, Mg.L.r 166 41 184, ?_⟩⟩
            rw [bt_set _ (by omega), show (9 : Int32) * nI (X ||| 2 ^ s) = nI (9 * (X ||| 2 ^ s)) from pk_mul 9 _, nI_add, nI_clamp (by omega)]
            have ix : 9 * (X ||| 2 ^ s) + s < 4608 := by omega
            refine ⟨Mg.L.x 184 (n := 4608) ix, c_Mo_lesser (by omega) ⟨⟨by decide, Mg.L.x 184 (n := 4608) ix⟩, ?_⟩⟩
            have dl := (db _ ix).2
            rw [(db _ ix).1, mn_n (by omega) (by omega)]
            generalize hby : t + dr T a s + fdN T s = by' at *
            generalize hix : 9 * (X ||| 2 ^ s) + s = j at *
            have M1 : Mt (xsI g 184 j (nI (min (D' j) by'))) T := Mg.wa (by decide)
            have F1 : Ff h (xsI g 184 j (nI (min (D' j) by'))) := F.wd
            refine b_Mo_goOn_100 ⟨M1.L.s 166, c_Mo_peopleOf (by omega) M1 (by omega) ⟨M1.L.s 166, ?_⟩⟩
            rw [xsI_ne _ _ _ (by decide), e45, e46]
            have ppl := pp_le ok (X ||| 2 ^ s)
            obtain ⟨kq, Vq, aq, rq, eq⟩ := i2
            have Pl : P' ≤ 180 := by rw [← eq]; exact pp_le ok Vq
            have Ml : M' < 120 := (Rc_gs ok rq g0).tb ok
            have fin : ∀ Mn, (((P' < pp T (X ||| 2 ^ s) ∨ (pp T (X ||| 2 ^ s) = P' ∧ by' < M')) ∧ Mn = by') ∨ (¬ (P' < pp T (X ||| 2 ^ s) ∨ (pp T (X ||| 2 ^ s) = P' ∧ by' < M')) ∧ Mn = M')) → ∀ o5 o6 : Option Value, K_Mo_goOn n Q 145 [some (.ref 166), some (.int (nI X)), some (.int (pI a)), some (.int (nI t)), some (.int (nI s)), o5, o6, some (.int (nI (pp T (X ||| 2 ^ s))))] [.int (nI Mn), .ref 166] (xsI g 184 j (nI (min (D' j) by'))) := by
              intro Mn hMn o5 o6
              have M2 : Mt (xsI (xsI g 184 j (nI (min (D' j) by'))) 166 46 (nI Mn)) T := M1.wf (by omega)
              have F2 : Ff h (xsI (xsI g 184 j (nI (min (D' j) by'))) 166 46 (nI Mn)) := F1.wf (Or.inr rfl)
              refine b_Mo_goOn_145 ⟨⟨by decide, M1.L.s 166⟩, b_Mo_goOn_148 ⟨M2.L.s 166, c_Mo_greater (by omega) ⟨⟨by decide, M2.L.s 166⟩, b_Mo_goOn_161 ?_⟩⟩⟩
              rw [upI_o _ _ _ _ (by decide), xsI_ne _ _ _ (by decide), e45, mx_n (by omega) (by omega), nI_1]
              refine ih (s + 1) (by omega) _ (fun i => if i = j then min (D' j) by' else D' i) (max P' (pp T (X ||| 2 ^ s))) Mn (F2.wf (Or.inl rfl)) (M2.wf (by omega)) ⟨fun i hi => ?_, ⟨?_, ?_⟩, fun V b h1 h2 => ?_, ?_, ?_, fun V b h1 h2 => ?_⟩ (fun i => ?_) (fun s' h1 h2 h3 h4 => ?_) _ _ _
              · show _ = nI (if i = j then min (D' j) by' else D' i) ∧ (if i = j then min (D' j) by' else D' i) ≤ 1000000
                rw [xsI_ne _ _ _ (by decide), xsI_ne _ _ _ (by decide), upI]
                by_cases e : i = j
                · rw [if_pos e, if_pos e]; exact ⟨rfl, by omega⟩
                · rw [if_neg e, if_neg e]; exact db i hi
              · rw [upI_s]
              · rw [upI_o _ _ _ _ (by decide), upI_s]
              · show (if 9 * V + b = j then min (D' j) by' else D' (9 * V + b)) = 1000000 ∨ ∃ k, Rc T A k B l t0 V b (if 9 * V + b = j then min (D' j) by' else D' (9 * V + b))
                by_cases e : 9 * V + b = j
                · rw [if_pos e]
                  have eb : b = s := by omega
                  subst eb
                  have eV : V = X ||| 2 ^ b := by omega
                  subst eV
                  right
                  by_cases lt : by' ≤ D' j
                  · rw [Nat.min_eq_right lt]; exact ⟨_, rc'⟩
                  · rw [Nat.min_eq_left (by omega)]
                    have := i1 (X ||| 2 ^ b) b h1 h2
                    rw [e] at this
                    rcases this with z | z
                    · omega
                    · exact z
                · rw [if_neg e]; exact i1 V b h1 h2
              · rcases hMn with ⟨z1, z2⟩ | ⟨z1, z2⟩
                · exact ⟨_, _, _, by rw [z2]; exact rc', by omega⟩
                · exact ⟨kq, Vq, aq, by rw [z2]; exact rq, by omega⟩
              · omega
              · show (if 9 * V + b = j then min (D' j) by' else D' (9 * V + b)) ≠ 1000000 → pp T V < max P' (pp T (X ||| 2 ^ s)) ∨ (pp T V = max P' (pp T (X ||| 2 ^ s)) ∧ Mn ≤ (if 9 * V + b = j then min (D' j) by' else D' (9 * V + b)))
                by_cases e : 9 * V + b = j
                · rw [if_pos e]
                  have eb : b = s := by omega
                  subst eb
                  have eV : V = X ||| 2 ^ b := by omega
                  subst eV
                  have q := i4 (X ||| 2 ^ b) b h1 h2
                  rw [e] at q
                  intro _
                  by_cases dj : D' j = 1000000
                  · omega
                  · have q := q dj
                    omega
                · rw [if_neg e]
                  intro dd
                  have := i4 V b h1 h2 dd
                  omega
              · show (if i = j then min (D' j) by' else D' i) ≤ D i ∧ (i < 9 * (X + 1) → (if i = j then min (D' j) by' else D' i) = D i)
                have := le i
                by_cases e : i = j
                · have gt := or_gt cX
                  subst e
                  rw [if_pos rfl]
                  exact ⟨by omega, fun z => by omega⟩
                · rw [if_neg e]; exact this
              · show (if 9 * (X ||| 2 ^ s') + s' = j then min (D' j) by' else D' (9 * (X ||| 2 ^ s') + s')) ≤ _
                by_cases e : 9 * (X ||| 2 ^ s') + s' = j
                · rw [if_pos e]
                  have : s' = s := by omega
                  subst this
                  omega
                · rw [if_neg e]
                  refine c1 s' ?_ h2 h3 h4
                  by_cases e' : s' = s
                  · subst e'; exact (e hix).elim
                  · omega
            have e46' : xI (xsI g 184 j (nI (min (D' j) by'))) 166 46 = nI M' := by rw [xsI_ne _ _ _ (by decide)]; exact e46
            rw [nI_ltI (by omega) (by omega), nI_eq (by omega) (by omega), nI_leI (by omega) (by omega)]
            refine ⟨fun z => b_Mo_goOn_136 (fin _ (by omega) _ _), fun z => ⟨fun y => b_Mo_goOn_141 ⟨M1.L.s 166, ?_⟩, fun y => ⟨fun x => b_Mo_goOn_141 ⟨M1.L.s 166, ?_⟩, fun x => b_Mo_goOn_136 (fin _ (by omega) _ _)⟩⟩⟩
            · rw [e46']; exact fin _ (by omega) _ _
            · rw [e46']; exact fin _ (by omega) _ _
          · rw [if_neg cc]
            exact skip (fun _ _ h => cc h)
      · refine ⟨fun _ => b_Mo_goOn_37 (skip (fun h => by rw [cX] at h; exact absurd h (by decide))), fun z => absurd z (by decide)⟩
  exact w_Mo_goOn (key (stp T) 0 (by omega) h D P Mi Ff.rf M dq (fun i => ⟨Nat.le_refl _, fun _ => rfl⟩) (fun s' hs' => absurd hs' (Nat.not_lt_zero _)) _ _ _)
theorem c_Mo_goOnF {n : Nat} (hn : 1 ≤ n) {h : xh} {T : Nat → Int32} (M : Mt h T) {x y : Int32} {Q : xh → Prop} (hQ : Q h) : xcv (xMC n) 287 [.ref 166, .int x, .int y, .int 1000000] h Q := by
  obtain ⟨n, rfl⟩ := xsucc hn
  exact w_Mo_goOn (b_Mo_goOn_3 ⟨M.L.s 166, fun _ => hQ, fun _ => ⟨fun _ => hQ, fun z => absurd (Int32.le_refl _) z⟩⟩)
