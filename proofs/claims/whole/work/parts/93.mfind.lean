/-! THE WAY in the reference: findOn, leads, findWay -/
theorem Rc_gt {T : Nat → Int32} {A : Nat} : ∀ {k B l m V a t : Nat}, Rc T A k B l m V a t → B ≤ V ∧ (0 < k → B < V)
  | 0, B, l, m, V, a, t, h => by rw [h.1]; omega
  | k + 1, B, l, m, V, a, t, h => by
    obtain ⟨s, h1, h2, h3, h4, h5⟩ := h
    have := (Rc_gt h5).1
    have := or_gt h2
    omega
/-- a state that the search has come to -/
def En (T : Nat → Int32) (B l t0 : Nat) (D : Nat → Nat) (V a t : Nat) : Prop := (V = B ∧ a = l ∧ t = t0) ∨ (V ≠ B ∧ a < stp T ∧ t = D (9 * V + a) ∧ t ≠ 1000000)
def Sc (T : Nat → Int32) (A : Nat) (D : Nat → Nat) (V a t : Nat) : Prop := ∀ s, s < stp T → V.testBit s = false → A.testBit s = true → t + dr T a s < clN T → D (9 * (V ||| 2 ^ s) + s) ≤ t + dr T a s + fdN T s
def Cq (T : Nat → Int32) (A B l t0 : Nat) (D : Nat → Nat) (W : Nat) : Prop := ∀ V a t, V < W → En T B l t0 D V a t → Sc T A D V a t
theorem Sc.le {T : Nat → Int32} {A : Nat} {D D' : Nat → Nat} {V a t : Nat} (h : Sc T A D V a t) (le : ∀ i, D' i ≤ D i) : Sc T A D' V a t := fun s h1 h2 h3 h4 => Nat.le_trans (le _) (h s h1 h2 h3 h4)
theorem Dq_fo {T : Nat → Int32} (ok : TnOK T) {A B l t0 : Nat} (g0 : Gs T A B l t0) {h : xh} {D : Nat → Nat} {P M : Nat} (dq : Dq T A B l t0 h D P M) (c : Cq T A B l t0 D (2 ^ stp T)) : Fo T A B l t0 P M := by
  obtain ⟨_, _, i1, i2, i3, i4⟩ := dq
  have low : ∀ k V a t, Rc T A (k + 1) B l t0 V a t → D (9 * V + a) ≤ t ∧ V < 2 ^ stp T ∧ a < stp T ∧ t < 120 := by
    intro k
    induction k with
    | zero =>
      intro V a t r
      have gs := Rc_gs ok r g0
      obtain ⟨V', a', t', r', h1, h2, h3, h4, h5, h6⟩ := Rc_last r
      obtain ⟨e1, e2, e3⟩ := r'
      subst e1; subst e2; subst e3; subst h5; subst h6
      exact ⟨c V' a' t' g0.1 (Or.inl ⟨rfl, rfl, rfl⟩) a h1 h2 h3 h4, gs.1, h1, gs.tb ok⟩
    | succ k ih =>
      intro V a t r
      have gs := Rc_gs ok r g0
      obtain ⟨V', a', t', r', h1, h2, h3, h4, h5, h6⟩ := Rc_last r
      obtain ⟨q1, q2, q3, q4⟩ := ih V' a' t' r'
      have gt := (Rc_gt r').2 (by omega)
      subst h5; subst h6
      have := c V' a' (D (9 * V' + a')) q2 (Or.inr ⟨by omega, q3, rfl, by omega⟩) a h1 h2 h3 (by omega)
      exact ⟨by omega, gs.1, h1, gs.tb ok⟩
  refine ⟨i2, fun k V a t r => ?_⟩
  cases k with
  | zero =>
    obtain ⟨e1, e2, e3⟩ := r
    subst e1; subst e3
    exact i3
  | succ k =>
    obtain ⟨q1, q2, q3, q4⟩ := low k V a t r
    have := i4 V a q2 q3 (by omega)
    omega
theorem and_sbs {B W : Nat} : W &&& B = B ↔ sbs B W := by
  constructor
  · intro e i hi
    rw [← e, Nat.testBit_and] at hi
    simp only [Bool.and_eq_true] at hi
    exact hi.1
  · intro h
    apply Nat.eq_of_testBit_eq
    intro i
    rw [Nat.testBit_and]
    cases c : B.testBit i
    · rw [Bool.and_false]
    · rw [h i c]; rfl
theorem c_Mo_findOn {n : Nat} (hn : 6 ≤ n) {h : xh} {T : Nat → Int32} (M : Mt h T) {A : Nat} (kk : Sk h T A) {B l t0 : Nat} (g0 : Gs T A B l t0) {Q : xh → Prop} (hQ : ∀ g P Mi, Ff h g → Mt g T → xI g 166 45 = nI P → xI g 166 46 = nI Mi → Fo T A B l t0 P Mi → Q g) : xcv (xMC n) 284 [.ref 166, .int (nI B), .int (pI l), .int (nI t0)] h Q := by
  obtain ⟨n, rfl⟩ := xsucc (show 1 ≤ n by omega)
  have ok := M.ok
  have s9 := stp9 ok
  have p512 : 2 ^ stp T ≤ 512 := Nat.le_trans (Nat.pow_le_pow_right (by decide) s9) (by decide)
  have hB := g0.1
  have tb := g0.tb ok
  have pl := g0.sa.pl
  have l9 := plc9 ok pl
  have key : ∀ d W, W + d = 2 ^ stp T → ∀ g D P Mi, Ff h g → Mt g T → Dq T A B l t0 g D P Mi → Cq T A B l t0 D W → ∀ o5 o6 : Option Value, K_Mo_findOn n Q 44 [some (.ref 166), some (.int (nI B)), some (.int (pI l)), some (.int (nI t0)), some (.int (nI W)), o5, o6] [] g := by
    intro d
    induction d with
    | zero =>
      intro W hW g D P Mi F Mg dq c o5 o6
      have : W = 2 ^ stp T := by omega
      subst this
      refine b_Mo_findOn_44 ⟨Mg.L.s 166, ?_⟩
      rw [Mg.sp, bt_shl _ (by omega)]
      exact ⟨fun _ => hQ g P Mi F Mg dq.2.1.1 dq.2.1.2 (Dq_fo ok g0 dq c), fun z => absurd (Int32.le_refl _) z⟩
    | succ d ih =>
      intro W hW g D P Mi F Mg dq c o5 o6
      have hW' : W < 2 ^ stp T := by omega
      have inner : ∀ e j, j + e = stp T + 1 → ∀ g D P Mi, Ff h g → Mt g T → Dq T A B l t0 g D P Mi → Cq T A B l t0 D W → (∀ i t, i < j → En T B l t0 D W (atJ i) t → Sc T A D W (atJ i) t) → ∀ o6 : Option Value, K_Mo_findOn n Q 58 [some (.ref 166), some (.int (nI B)), some (.int (pI l)), some (.int (nI t0)), some (.int (nI W)), some (.int (nI j - 1)), o6] [] g := by
        intro e
        induction e with
        | zero =>
          intro j hje g D P Mi F Mg dq c c1 o6
          have : j = stp T + 1 := by omega
          subst this
          rw [nI_pred]
          refine b_Mo_findOn_58 ⟨Mg.L.s 166, ?_⟩
          rw [Mg.sp, nI_1]
          refine ⟨fun _ => ih (W + 1) (by omega) g D P Mi F Mg dq (fun V a t h1 en => ?_) _ _, fun z => absurd (Int32.le_refl _) z⟩
          by_cases eV : V = W
          · subst eV
            have pa : plc T a := by
              rcases en with ⟨_, e2, _⟩ | ⟨_, e2, _⟩
              · rw [e2]; exact pl
              · exact Or.inr e2
            obtain ⟨i, hi, ei⟩ := atJ_s ok pa
            subst ei
            exact c1 i t (by omega) en
          · exact c V a t (by omega) en
        | succ e ie =>
          intro j hje g D P Mi F Mg dq c c1 o6
          have Lg := Mg.L
          have hs := Lg.s 166 (p := (11, 0))
          have pj := atJ_p (T := T) (j := j) (by omega)
          have ej := atJ_I (j := j) (by omega)
          have j9 := atJ_9 (j := j) (by omega)
          have nj : pI (atJ j) + 1 = nI (j + 1) - 1 := by rw [ej, nI_pred]; grind
          have far : (∀ t, ¬ En T B l t0 D W (atJ j) t) → ∀ o6 : Option Value, K_Mo_findOn n Q 122 [some (.ref 166), some (.int (nI B)), some (.int (pI l)), some (.int (nI t0)), some (.int (nI W)), some (.int (pI (atJ j))), o6] [.int 1000000] g := fun no o6 => by
            refine b_Mo_findOn_122 ⟨hs, c_Mo_goOnF (by omega) Mg ?_⟩
            rw [nj]
            refine ie (j + 1) (by omega) g D P Mi F Mg dq c (fun i t hi en => ?_) _
            by_cases e : i = j
            · subst e; exact absurd en (no t)
            · exact c1 i t (by omega) en
          have near : ∀ t, En T B l t0 D W (atJ j) t → (∃ k, Rc T A k B l t0 W (atJ j) t) → ∀ o6 : Option Value, K_Mo_findOn n Q 122 [some (.ref 166), some (.int (nI B)), some (.int (pI l)), some (.int (nI t0)), some (.int (nI W)), some (.int (pI (atJ j))), o6] [.int (nI t)] g := fun t en rc o6 => by
            obtain ⟨k, rc⟩ := rc
            refine b_Mo_findOn_122 ⟨hs, c_Mo_goOn (by omega) Mg (F.sk kk) g0 rc dq (fun g' D' P' M' F' Mg' dq' le st => ?_)⟩
            rw [nj]
            have en_b : ∀ V a t, V ≤ W → En T B l t0 D' V a t → En T B l t0 D V a t := fun V a t hV en => by
              rcases en with e | ⟨e1, e2, e3, e4⟩
              · exact Or.inl e
              · exact Or.inr ⟨e1, e2, by rw [← (le (9 * V + a)).2 (by omega)]; exact e3, e4⟩
            refine ie (j + 1) (by omega) g' D' P' M' (F.tr F') Mg' dq' (fun V a t hV en => (c V a t hV (en_b V a t (by omega) en)).le (fun i => (le i).1)) (fun i t' hi en' => ?_) _
            have en2 := en_b W (atJ i) t' (by omega) en'
            by_cases e : i = j
            · subst e
              have et : t' = t := by
                rcases en with e | e <;> rcases en2 with q | q
                · omega
                · exact absurd e.1 q.1
                · exact absurd q.1 e.1
                · omega
              subst et
              exact st
            · exact (c1 i t' (by omega) en2).le (fun i => (le i).1)
          rw [← ej]
          refine b_Mo_findOn_58 ⟨hs, ?_⟩
          rw [Mg.sp]
          have lj : ¬ nI (stp T) ≤ pI (atJ j) := by
            rw [ej]
            by_cases e0 : j = 0
            · subst e0
              intro z
              exact absurd (Int32.le_trans (nI_pos' (by omega)) z) (by decide)
            · rw [show nI j - (1 : Int32) = nI (j - 1) from pk_sub (b := 1) (by omega)]
              exact nI_ge (by omega) (by omega)
          have al : W &&& B ≤ W := Nat.and_le_left
          rw [nI_and, nI_eq (by omega) (by omega), nI_eq (by omega) (by omega), and_sbs]
          refine ⟨fun z => absurd z lj, fun _ => ⟨fun z => ?_, fun z => ⟨fun y => ⟨fun x => ?_, fun x => far (fun t en => ?_) _⟩, fun y => ?_⟩⟩⟩
          · rw [nI_1]
            refine ih (W + 1) (by omega) g D P Mi F Mg dq (fun V a t h1 en => ?_) _ _
            by_cases eV : V = W
            · subst eV
              rcases en with ⟨e1, e2, e3⟩ | ⟨e1, e2, e3, e4⟩
              · rw [e1] at z
                exact absurd (fun i hi => hi) z
              · subst e3
                rcases dq.2.2.1 V a hW' e2 with q | ⟨k, q⟩
                · exact absurd q e4
                · exact absurd (Rc_sup q) z
            · exact c V a t (by omega) en
          · have j0 : j ≠ 0 := fun q => x (by rw [q]; rfl)
            have ea : atJ j = j - 1 := if_neg j0
            have ha : atJ j < stp T := by omega
            refine ⟨184, Lg.r 166 41 184, ?_⟩
            rw [pI_k (by omega), show (9 : Int32) * nI W = nI (9 * W) from pk_mul 9 _, nI_add, nI_clamp (by omega), ← pI_k (show atJ j < 9 by omega)]
            have ix : 9 * W + atJ j < 4608 := by omega
            refine ⟨Lg.x 184 (n := 4608) ix, ?_⟩
            rw [(dq.1 _ ix).1]
            rcases dq.2.2.1 W (atJ j) hW' ha with q | q
            · rw [q]
              refine far (fun t en => ?_) _
              rcases en with e | e
              · exact y e.1
              · exact e.2.2.2 (by rw [e.2.2.1]; exact q)
            · by_cases f : D (9 * W + atJ j) = 1000000
              · rw [f]
                refine far (fun t en => ?_) _
                rcases en with e | e
                · exact y e.1
                · exact e.2.2.2 (by rw [e.2.2.1]; exact f)
              · exact near _ (Or.inr ⟨y, ha, rfl, f⟩) q _
          · rcases en with e | e
            · exact y e.1
            · have j0 : j = 0 := by
                apply Classical.byContradiction
                intro q
                have ea : atJ j = j - 1 := if_neg q
                rw [ea, pI_k (by omega)] at x
                exact nI_m1 (by omega) x
              subst j0
              have : atJ 0 = 9 := rfl
              omega
          · have ei : pI (atJ j) = pI l ↔ atJ j = l := by
              constructor
              · intro q
                unfold pI at q
                by_cases c1 : atJ j = 9 <;> by_cases c2 : l = 9
                · omega
                · rw [if_pos c1, if_neg c2] at q
                  exact absurd q.symm (nI_m1 (by omega))
                · rw [if_neg c1, if_pos c2] at q
                  exact absurd q (nI_m1 (by omega))
                · rw [if_neg c1, if_neg c2] at q
                  exact (nI_eq (by omega) (by omega)).mp q
              · intro q; rw [q]
            rw [ei]
            refine ⟨fun x => far (fun t en => ?_) _, fun x => near t0 (Or.inl ⟨y, x, rfl⟩) ⟨0, y, x, rfl⟩ _⟩
            rcases en with e | e
            · exact x e.2.1
            · exact e.1 y
      refine b_Mo_findOn_44 ⟨Mg.L.s 166, ?_⟩
      rw [Mg.sp, bt_shl _ (by omega)]
      refine ⟨fun z => absurd z (nI_ge (by omega) (by omega)), fun _ => ?_⟩
      exact inner (stp T + 1) 0 (by omega) g D P Mi F Mg dq c (fun i t hi => absurd hi (Nat.not_lt_zero _)) _
  refine w_Mo_findOn ⟨M.L.s 166, c_Mo_peopleOf (by omega) M (by omega) ⟨⟨by decide, M.L.s 166⟩, ?_⟩⟩
  have F1 : Ff h (xsI h 166 45 (nI (pp T B))) := Ff.rf.wf (Or.inl rfl)
  have M1 : Mt (xsI h 166 45 (nI (pp T B))) T := M.wf (by omega)
  have F2 : Ff h (xsI (xsI h 166 45 (nI (pp T B))) 166 46 (nI t0)) := F1.wf (Or.inr rfl)
  have M2 : Mt (xsI (xsI h 166 45 (nI (pp T B))) 166 46 (nI t0)) T := M1.wf (by omega)
  refine b_Mo_findOn_9 ⟨⟨by decide, M1.L.s 166⟩, b_Mo_findOn_14 ?_⟩
  have e1 : xI (xsI (xsI h 166 45 (nI (pp T B))) 166 46 (nI t0)) 166 45 = nI (pp T B) := by rw [upI_o _ _ _ _ (by decide), upI_s]
  have e2 : xI (xsI (xsI h 166 45 (nI (pp T B))) 166 46 (nI t0)) 166 46 = nI t0 := upI_s _ _ _ _
  generalize xsI (xsI h 166 45 (nI (pp T B))) 166 46 (nI t0) = g2 at F2 M2 e1 e2 ⊢
  have fill : ∀ d i, i + d = 4608 → ∀ g, Ff h g → Mt g T → xI g 166 45 = nI (pp T B) → xI g 166 46 = nI t0 → (∀ k, k < i → xI g 184 k = nI 1000000) → ∀ o5 o6 : Option Value, K_Mo_findOn n Q 17 [some (.ref 166), some (.int (nI B)), some (.int (pI l)), some (.int (nI t0)), some (.int (nI i)), o5, o6] [] g := by
    intro d
    induction d with
    | zero =>
      intro i hi g F Mg e1 e2 c1 o5 o6
      have : i = 4608 := by omega
      subst this
      refine b_Mo_findOn_17 ⟨fun _ => ?_, fun z => absurd (Int32.le_refl _) z⟩
      obtain ⟨dd, hdd⟩ : ∃ dd, B + dd = 2 ^ stp T := ⟨2 ^ stp T - B, by omega⟩
      refine key dd B hdd g (fun _ => 1000000) (pp T B) t0 F Mg ⟨fun i hi => ⟨c1 i hi, Nat.le_refl _⟩, ⟨e1, e2⟩, fun V a _ _ => Or.inl rfl, ⟨0, B, l, ⟨rfl, rfl, rfl⟩, rfl⟩, Or.inr ⟨rfl, Nat.le_refl _⟩, fun V a _ _ z => absurd rfl z⟩ (fun V a t hV en => ?_) _ _
      rcases en with e | e
      · omega
      · exact absurd e.2.2.1 e.2.2.2
    | succ d ih =>
      intro i hi g F Mg e1 e2 c1 o5 o6
      refine b_Mo_findOn_17 ⟨fun z => absurd z (nI_ge (b := 4608) (by omega) (by decide)), fun _ => ⟨Mg.L.s 166, 184, Mg.L.r 166 41 184, ⟨by decide, Mg.L.x 184 (n := 4608) (by omega)⟩, b_Mo_findOn_35 ?_⟩⟩
      rw [nI_1, nI_clamp (by omega)]
      refine ih (i + 1) (by omega) _ F.wd (Mg.wa (by decide)) ?_ ?_ (fun k hk => ?_) _ _
      · rw [xsI_ne _ _ _ (by decide)]; exact e1
      · rw [xsI_ne _ _ _ (by decide)]; exact e2
      · rw [upI]
        by_cases c : k = i
        · rw [if_pos c]; rfl
        · rw [if_neg c]; exact c1 k (by omega)
  exact fill 4608 0 (by omega) g2 F2 M2 e1 e2 (fun k hk => absurd hk (Nat.not_lt_zero _)) _ _
theorem Fo.uq {T : Nat → Int32} {A B l t p m p' m' : Nat} (F : Fo T A B l t p m) (F' : Fo T A B l t p' m') : p = p' ∧ m = m' := by
  obtain ⟨⟨k, V, a, h1, h2⟩, h3⟩ := F
  obtain ⟨⟨k', V', a', q1, q2⟩, q3⟩ := F'
  have := h3 _ _ _ _ q1
  have := q3 _ _ _ _ h1
  omega
/-- what a search from a state finds is the best if and only if one comes to the best from there -/
theorem Fo_gp {T : Nat → Int32} (ok : TnOK T) {A p m V a t P M : Nat} (hA : ∀ i, A.testBit i = true → 0 < mdN T i) (B : Best T A p m) (g : Gs T A V a t) (F : Fo T A V a t P M) : (P = p ∧ M = m) ↔ gp T A p m V a t := by
  constructor
  · rintro ⟨e1, e2⟩
    subst e1; subst e2
    obtain ⟨⟨k, V', a', h1, h2⟩, _⟩ := F
    exact ⟨k, V', a', h1, h2⟩
  · rintro ⟨k, V', a', h1, h2⟩
    have q := F.2 k V' a' m h1
    obtain ⟨⟨k2, V2, a2, r1, r2⟩, _⟩ := F
    have g2 := Rc_gs ok r1 g
    have : pp T V2 < p ∨ (pp T V2 = p ∧ m ≤ M) := by
      rcases g2.2.2 with ⟨e1, e2, e3⟩ | ⟨e1, e2, e3, e4⟩
      · rw [e1, pp_0] at r2
        rw [e1, pp_0]
        rcases B.1 with z | ⟨W, b, f, z1, z2⟩
        · omega
        · have := Nat.lt_of_lt_of_le (hA b (f.2.1 b f.2.2.2.1)) (pp_bit f.2.2.2.1 f.2.2.1)
          omega
      · have := B.2 V2 a2 ⟨g2.1, g2.2.1, e1, e2, by omega⟩
        omega
    omega
theorem c_Mo_leads {n : Nat} (hn : 7 ≤ n) {h : xh} {T : Nat → Int32} (M : Mt h T) {A : Nat} (hA : ∀ i, A.testBit i = true → 0 < mdN T i) (kk : Sk h T A) {p m V a : Nat} (B : Best T A p m) (w : Wst T A p m V a) {s : Nat} (hs : s < stp T) {Q : Int32 → xh → Prop} (hQ : ∀ g, Ff h g → Mt g T → Q (if nq T A p m V a s = true then 1 else 0) g) : xci (xMC n) 290 [.ref 166, .int (nI V), .int (pI a), .int (nI (dn T V a)), .int (nI s), .int (nI p), .int (nI m)] h Q := by
  obtain ⟨n, rfl⟩ := xsucc (show 1 ≤ n by omega)
  have ok := M.ok
  have s9 := stp9 ok
  have p512 : 2 ^ stp T ≤ 512 := Nat.le_trans (Nat.pow_le_pow_right (by decide) s9) (by decide)
  have g := w.gs ok B
  have hV := w.1
  have tb := g.tb ok
  obtain ⟨p2, m2⟩ := B.b ok
  have li := lead_i ok B w hs
  have no : nq T A p m V a s = false → K_Mo_leads n Q 32 [some (.ref 166), some (.int (nI V)), some (.int (pI a)), some (.int (nI (dn T V a))), some (.int (nI s)), some (.int (nI p)), some (.int (nI m)), none] [.int 1000000] h := fun z => by
    have hQ := hQ h Ff.rf M
    rw [z] at hQ
    exact b_Mo_leads_32 ⟨fun y => absurd y (by decide), fun _ => hQ⟩
  have nf : ¬ (V.testBit s = false ∧ A.testBit s = true ∧ dn T V a + dr T a s < clN T ∧ gp T A p m (V ||| 2 ^ s) s (dn T V a + dr T a s + fdN T s)) → nq T A p m V a s = false := fun z => by
    cases c : nq T A p m V a s
    · rfl
    · exact absurd (li.mp c) z
  refine w_Mo_leads (c_Mo_has (by omega) (by omega) (by omega) ?_)
  cases cX : V.testBit s
  · refine ⟨fun z => absurd rfl z, fun _ => ⟨M.L.s 166, c_Mo_isSought (by omega) M kk hs ?_⟩⟩
    cases cA : A.testBit s
    · refine ⟨fun z => absurd rfl z, fun _ => b_Mo_leads_18 (no (nf (fun z => ?_)))⟩
      rw [cA] at z
      exact absurd z.2.1 (by decide)
    · refine ⟨fun _ => ⟨M.L.s 166, c_Mo_doneThere (by omega) M g.sa.pl hs (by omega) ?_⟩, fun z => absurd z (by decide)⟩
      by_cases cc : dn T V a + dr T a s < clN T
      · rw [if_pos cc]
        have g2 := g.st ok hs cX cA cc
        have tb2 := g2.tb ok
        refine b_Mo_leads_32 ⟨fun _ => ⟨M.L.s 166, ?_⟩, fun z => absurd (nI_lt (b := 1000000) (by omega) (by decide)) z⟩
        rw [bt_set _ (by omega), ← pI_k (show s < 9 by omega)]
        refine c_Mo_findOn (by omega) M kk g2 (fun g' P Mi F' Mg e1 e2 fo => ⟨Mg.L.s 166, ?_⟩)
        have hQ := hQ g' F' Mg
        have fi := Fo_gp ok hA B g2 fo
        obtain ⟨⟨k2, V2, a2, r1, r2⟩, _⟩ := fo
        have Pb : P ≤ 180 := by rw [← r2]; exact pp_le ok V2
        have Mb := (Rc_gs ok r1 g2).tb ok
        rw [e1, e2, nI_eq (by omega) (by omega), nI_eq (by omega) (by omega)]
        have hn : ¬ (P = p ∧ Mi = m) → Q 0 g' := fun z => by
          rw [nf (fun y => z (fi.mpr y.2.2.2))] at hQ
          exact hQ
        refine ⟨fun z => hn (fun y => z y.1), fun z => ⟨fun y => hn (fun x => y x.2), fun y => ?_⟩⟩
        rw [li.mpr ⟨cX, cA, cc, fi.mp ⟨z, y⟩⟩, if_pos rfl] at hQ
        exact hQ
      · rw [if_neg cc]
        exact no (nf (fun z => cc z.2.2.1))
  · refine ⟨fun _ => b_Mo_leads_18 (no (nf (fun z => ?_))), fun z => absurd z (by decide)⟩
    rw [cX] at z
    exact absurd z.1 (by decide)
