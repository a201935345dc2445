/-! shod: findNeed, findShoes of the class -/
def P160 (c : Nat) : Prop := c = 160
def P161 (c : Nat) : Prop := c = 161
theorem c_Search_findNeed {n : Nat} (hn : 3 ≤ n) {h : xh} (L : Lay h) {s : Nat} {S : Nat → Int32} (H : Sh h s S) (hs : s + 6 < 159) {Q : xh → Prop} (hQ : ∀ h', Fr P160 h h' → Nq h' S 0 → Q h') : xcv (xMC n) 106 [.ref 159, .ref s] h Q := by
  obtain ⟨n, rfl⟩ := xsucc (show 1 ≤ n by omega)
  have o := H.ok.n
  have fS : ∀ {g}, Fr P160 h g → Sh g s S := fun F => H.fr F (fun c h1 h2 z => by unfold P160 at z; omega)
  have k42 : ∀ f, f < bN S 1 → (∀ g, Fr P160 h g → Nq g S f → ∀ o3 o4 o5 : Option Value, K_Search_findNeed n Q 36 [some (.ref 159), some (.ref s), some (.int (nI f - 1)), o3, o4, o5] [] g) → ∀ d x, x + d = 64 → ∀ g, Fr P160 h g → Nq g S (f + 1) → (∀ y, y < x → xI g 160 (f * 64 + y) = nI (nd S (bN S 1 - f) (avl y))) → ∀ o4 o5 : Option Value, K_Search_findNeed n Q 42 [some (.ref 159), some (.ref s), some (.int (nI f)), some (.int (nI x)), o4, o5] [] g := by
    intro f hf nx d
    induction d with
    | zero =>
      intro x hx g F N c1 o4 o5
      have : x = 64 := by omega
      subst this
      refine b_Search_findNeed_42 ⟨fun _ => ?_, fun z => absurd (Int32.le_refl _) z⟩
      rw [show nI f + (-1 : Int32) = nI f - 1 from (Int32.sub_eq_add_neg _ _).symm]
      refine nx g F (fun f' g' h1 h2 h3 => ?_) _ _ _
      by_cases e : f' = f
      · subst e; exact c1 g' h3
      · exact N f' g' (by omega) h2 h3
    | succ d ih =>
      intro x hx g F N c1 o4 o5
      have Lg := F.lay L
      have Hg := fS F
      refine b_Search_findNeed_42 ⟨fun z => absurd z (nI_ge (b := 64) (by omega) (by decide)), fun _ => ?_⟩
      obtain ⟨e, he⟩ : ∃ e, bN S 1 = f + 1 + e := ⟨bN S 1 - (f + 1), by omega⟩
      have bd := nd_le H.ok e (by omega)
      have n9 := (H.ok.2.2.2.1 f hf).2
      have lb : ∀ k, ndg S (nd S e) f (avl x) 0 k ≤ 9 * (e + 1) := ndg_le (Nat.zero_le _) (fun y => by have := bd y; omega)
      have key : ∀ dd k, k + dd = 6 → K_Search_findNeed n Q 54 [some (.ref 159), some (.ref s), some (.int (nI f)), some (.int (nI x)), some (.int (nI (ndg S (nd S e) f (avl x) 0 k))), some (.int (nI k))] [] g := by
        intro dd
        induction dd with
        | zero =>
          intro k hk
          have : k = 6 := by omega
          subst this
          have l6 := lb 6
          have be := bd (avl x)
          refine b_Search_findNeed_54 ⟨fun z => absurd z (by decide), fun _ => ⟨Lg.s 159, c_Search_needWith (by omega) Lg Hg (k := 6) hf (by omega) (by omega) N ?_⟩⟩
          unfold nw
          rw [if_pos rfl, show bN S 1 - (f + 1) = e by omega]
          refine c_Math_max (by omega) ?_
          rw [show (if nI (ndg S (nd S e) f (avl x) 0 6) < nI (nd S e (avl x)) then nI (nd S e (avl x)) else nI (ndg S (nd S e) f (avl x) 0 6)) = nI (max (ndg S (nd S e) f (avl x) 0 6) (nd S e (avl x))) from mx_n (by omega) (by omega)]
          have ev : max (ndg S (nd S e) f (avl x) 0 6) (nd S e (avl x)) = nd S (bN S 1 - f) (avl x) := by
            rw [ndg_mx, Nat.zero_max, show bN S 1 - f = e + 1 by omega, nd_s, show bN S 1 - (e + 1) = f by omega]
            have := ndg_out S (nd S e) f (avl x) (nd S e (avl x)) (6 - bN S 0)
            rw [show bN S 0 + (6 - bN S 0) = 6 by omega] at this
            exact this
          rw [ev]
          refine b_Search_findNeed_54 ⟨fun _ => ⟨Lg.s 159, 160, Lg.r 159 1 160, ?_⟩, fun z => absurd (by decide) z⟩
          rw [show nI f * (64 : Int32) = nI (f * 64) from pk_mul _ 64, nI_add, nI_clamp (by omega)]
          refine ⟨⟨by decide, Lg.x 160 (n := 576) (by omega)⟩, b_Search_findNeed_96 ?_⟩
          rw [nI_1]
          refine ih (x + 1) (by omega) _ (F.wI rfl) (fun f' g' h1 h2 h3 => ?_) (fun y hy => ?_) _ _
          · rw [upI_o _ _ _ _ (by omega)]; exact N f' g' h1 h2 h3
          · rw [upI]
            by_cases c : y = x
            · subst c; rw [if_pos rfl]
            · rw [if_neg (by omega)]; exact c1 y (by omega)
        | succ dd ik =>
          intro k hk
          have ik' := ik (k + 1) (by omega)
          have l6 := lb k
          refine b_Search_findNeed_54 ⟨fun z => absurd z (nI_nlt (a := 6) (by omega) (by decide)), fun _ => ⟨Lg.s 159, c_Search_needWith (by omega) Lg Hg hf (by omega) (by omega) N (c_Math_max (by omega) ?_)⟩⟩
          rw [nI_1, show bN S 1 - (f + 1) = e by omega]
          unfold nw
          rw [if_neg (show ¬ k = 6 by omega)]
          unfold ndg at ik'
          by_cases c : (avl x).testBit k = true ∧ fit S k f = true
          · rw [if_pos c] at ik' ⊢
            have := bd (sdf (avl x) (2 ^ k))
            rw [show (if nI (ndg S (nd S e) f (avl x) 0 k) < nI (bN S (17 + f) + nd S e (sdf (avl x) (2 ^ k))) then nI (bN S (17 + f) + nd S e (sdf (avl x) (2 ^ k))) else nI (ndg S (nd S e) f (avl x) 0 k)) = nI (max (ndg S (nd S e) f (avl x) 0 k) (bN S (17 + f) + nd S e (sdf (avl x) (2 ^ k)))) from mx_n (by omega) (by omega)]
            exact ik'
          · rw [if_neg c] at ik' ⊢
            rw [if_neg (fun z => absurd (Int32.lt_of_le_of_lt (nI_pos' (show ndg S (nd S e) f (avl x) 0 k < 2 ^ 31 by omega)) z) (by decide))]
            exact ik'
      exact key 6 0 (by omega)
  have k36 : ∀ q, q ≤ bN S 1 → ∀ g, Fr P160 h g → Nq g S q → ∀ o3 o4 o5 : Option Value, K_Search_findNeed n Q 36 [some (.ref 159), some (.ref s), some (.int (nI q - 1)), o3, o4, o5] [] g := by
    intro q
    induction q with
    | zero =>
      intro hq g F N o3 o4 o5
      exact b_Search_findNeed_36 ⟨fun _ => hQ g F N, fun z => absurd (by decide) z⟩
    | succ q ih =>
      intro hq g F N o3 o4 o5
      rw [nI_pred]
      exact b_Search_findNeed_36 ⟨fun z => absurd z (nI_pos (by omega)), fun _ => k42 q (by omega) (ih (by omega)) 64 0 (by omega) g F N (fun y hy => absurd hy (Nat.not_lt_zero _)) _ _⟩
  have k2 : ∀ d x, x + d = 64 → ∀ g, Fr P160 h g → (∀ y, y < x → xI g 160 (bN S 1 * 64 + y) = nI 0) → ∀ o3 o4 o5 : Option Value, K_Search_findNeed n Q 2 [some (.ref 159), some (.ref s), some (.int (nI x)), o3, o4, o5] [] g := by
    intro d
    induction d with
    | zero =>
      intro x hx g F c1 o3 o4 o5
      have : x = 64 := by omega
      subst this
      have Hg := fS F
      refine b_Search_findNeed_2 ⟨fun _ => ⟨Hg.s, ?_⟩, fun z => absurd (Int32.le_refl _) z⟩
      rw [Hg.n 1]
      refine k36 (bN S 1) (Nat.le_refl _) g F (fun f g' h1 h2 h3 => ?_) _ _ _
      have : f = bN S 1 := by omega
      subst this
      rw [Nat.sub_self]
      exact c1 g' h3
    | succ d ih =>
      intro x hx g F c1 o3 o4 o5
      have Hg := fS F
      have Lg := F.lay L
      refine b_Search_findNeed_2 ⟨fun z => absurd z (nI_ge (b := 64) (by omega) (by decide)), fun _ => ⟨Lg.s 159, 160, Lg.r 159 1 160, Hg.s, ?_⟩⟩
      rw [Hg.n 1, show nI (bN S 1) * (64 : Int32) = nI (bN S 1 * 64) from pk_mul _ 64, nI_add, nI_clamp (by omega)]
      refine ⟨⟨by decide, Lg.x 160 (n := 576) (by omega)⟩, b_Search_findNeed_23 ?_⟩
      rw [nI_1]
      refine ih (x + 1) (by omega) _ (F.wI rfl) (fun y hy => ?_) _ _ _
      rw [upI]
      by_cases c : y = x
      · subst c; rw [if_pos rfl]; rfl
      · rw [if_neg (by omega)]; exact c1 y (by omega)
  exact w_Search_findNeed (k2 64 0 (by omega) h Fr.rf (fun y hy => absurd hy (Nat.not_lt_zero _)) _ _ _)
/-- a shoe that goes to a foot -/
def pS (S : Nat → Int32) (d f a k : Nat) : Bool := a.testBit k && fit S k f && decide (bN S (17 + f) + nd S d (sdf a (2 ^ k)) = nd S (d + 1) a)
def fsx (p : Nat → Bool) : Nat → Nat → Nat
  | 0, i => i
  | d + 1, i => if p i = true then i else fsx p d (i + 1)
theorem fsx_le (p : Nat → Bool) : ∀ d i, i ≤ fsx p d i ∧ fsx p d i ≤ i + d
  | 0, i => ⟨Nat.le_refl _, Nat.le_refl _⟩
  | d + 1, i => by
    have := fsx_le p d (i + 1)
    unfold fsx
    split <;> omega
def gnS (S : Nat → Int32) : Nat → Nat
  | 0 => 0
  | f + 1 => if fsx (pS S (bN S 1 - (f + 1)) f (avl (gnS S f))) 6 0 < 6 then gnS S f ||| 2 ^ fsx (pS S (bN S 1 - (f + 1)) f (avl (gnS S f))) 6 0 else gnS S f
def shS (S : Nat → Int32) (f : Nat) : Nat := fsx (pS S (bN S 1 - (f + 1)) f (avl (gnS S f))) 6 0
theorem gnS_y {S : Nat → Int32} {f : Nat} (h : shS S f < 6) : gnS S (f + 1) = gnS S f ||| 2 ^ shS S f := if_pos h
theorem gnS_n {S : Nat → Int32} {f : Nat} (h : ¬ shS S f < 6) : gnS S (f + 1) = gnS S f := if_neg h
theorem gnS_lt (S : Nat → Int32) : ∀ f, gnS S f < 64
  | 0 => (show 0 < 64 by decide)
  | f + 1 => by
    have ih := gnS_lt S f
    by_cases c : shS S f < 6
    · rw [gnS_y c]; exact orb_lt (k := 6) ih c
    · rw [gnS_n c]; exact ih
theorem c_Search_findShoes {n : Nat} (hn : 3 ≤ n) {h : xh} (L : Lay h) {s : Nat} {S : Nat → Int32} (H : Sh h s S) (hs : s + 6 < 159) (N : Nq h S 0) {Q : xh → Prop} (hQ : ∀ h', Fr P161 h h' → (∀ f, f < bN S 1 → xI h' 161 f = nI (shS S f)) → Q h') : xcv (xMC n) 108 [.ref 159, .ref s] h Q := by
  obtain ⟨n, rfl⟩ := xsucc (show 1 ≤ n by omega)
  have o := H.ok.n
  have fS : ∀ {g}, Fr P161 h g → Sh g s S := fun F => H.fr F (fun c h1 h2 z => by unfold P161 at z; omega)
  have fN : ∀ {g}, Fr P161 h g → Nq g S 0 := fun {g} F f g' h1 h2 h3 => by rw [F.i 160 (fun z => by unfold P161 at z; omega)]; exact N f g' h1 h2 h3
  have key : ∀ d f, f + d = bN S 1 → ∀ g, Fr P161 h g → (∀ f', f' < f → xI g 161 f' = nI (shS S f')) → ∀ o4 : Option Value, K_Search_findShoes n Q 4 [some (.ref 159), some (.ref s), some (.int (nI (gnS S f))), some (.int (nI f)), o4] [] g := by
    intro d
    induction d with
    | zero =>
      intro f hf g F c1 o4
      have : f = bN S 1 := by omega
      subst this
      have Hg := fS F
      refine b_Search_findShoes_4 ⟨Hg.s, ?_⟩
      rw [Hg.n 1]
      exact ⟨fun _ => hQ g F c1, fun z => absurd (Int32.le_refl _) z⟩
    | succ d ih =>
      intro f hf g F c1 o4
      have Hg := fS F
      have Lg := F.lay L
      have Ng := fN F
      have gl := gnS_lt S f
      have e1 : bN S 1 - (f + 1) = d := by omega
      have e2 : bN S 1 - f = d + 1 := by omega
      refine b_Search_findShoes_4 ⟨Hg.s, ?_⟩
      rw [Hg.n 1]
      refine ⟨fun z => absurd z (nI_ge (by omega) (by omega)), fun _ => ?_⟩
      have fin : K_Search_findShoes n Q 51 [some (.ref 159), some (.ref s), some (.int (nI (gnS S f))), some (.int (nI f)), some (.int (nI (shS S f)))] [] g := by
        refine b_Search_findShoes_51 ⟨Lg.s 159, 161, Lg.r 159 2 161, ⟨by decide, Lg.x 161 (n := 8) (by omega)⟩, ?_⟩
        rw [nI_clamp (by omega)]
        have sl : shS S f ≤ 6 := (fsx_le _ 6 0).2
        have ih' := ih (f + 1) (by omega) (xsI g 161 f (nI (shS S f))) (F.wI rfl) (fun f' hf' => by
          rw [upI]
          by_cases c : f' = f
          · subst c; rw [if_pos rfl]
          · rw [if_neg c]; exact c1 f' (by omega))
        refine b_Search_findShoes_59 ⟨fun z => ?_, fun z => ?_⟩
        · have : ¬ shS S f < 6 := fun y => nI_ge (b := 6) y (by decide) z
          rw [gnS_n this] at ih'
          rw [nI_1, show nI (gnS S f) ||| (0 : Int32) = nI (gnS S f) from by rw [show (0 : Int32) = nI 0 from rfl, nI_or, Nat.or_zero]]
          exact ih' _
        · have : shS S f < 6 := Nat.lt_of_not_le (fun y => z (nI_le (a := 6) y (by omega)))
          rw [gnS_y this] at ih'
          rw [nI_1, bt_set _ (by omega)]
          exact ih' _
      have inner : ∀ e k, k + e = 6 → fsx (pS S d f (avl (gnS S f))) e k = shS S f → K_Search_findShoes n Q 15 [some (.ref 159), some (.ref s), some (.int (nI (gnS S f))), some (.int (nI f)), some (.int (nI k))] [] g := by
        intro e
        induction e with
        | zero =>
          intro k hk ek
          have : k = 6 := by omega
          subst this
          have ek' : 6 = shS S f := ek
          rw [← ek'] at fin
          exact b_Search_findShoes_15 ⟨fun _ => fin, fun z => absurd (Int32.le_refl _) z⟩
        | succ e ie =>
          intro k hk ek
          refine b_Search_findShoes_15 ⟨fun z => absurd z (nI_ge (b := 6) (by omega) (by decide)), fun _ => ⟨Lg.s 159, c_Search_needWith (by omega) Lg Hg (by omega) gl (by omega) (fun f' g' h1 h2 h3 => Ng f' g' (by omega) h2 h3) ⟨Lg.s 159, 160, Lg.r 159 1 160, ?_⟩⟩⟩
          rw [show nI f * (64 : Int32) = nI (f * 64) from pk_mul _ 64, nI_add, nI_clamp (by omega), Ng f _ (by omega) (by omega) gl, e1, e2, nI_1]
          refine ⟨Lg.x 160 (n := 576) (by omega), ?_⟩
          have bd := nd_le H.ok
          have b1 := bd (d + 1) (by omega) (avl (gnS S f))
          have b2 := bd d (by omega) (sdf (avl (gnS S f)) (2 ^ k))
          have n9 := (H.ok.2.2.2.1 f (by omega)).2
          have pe : nw S d f (avl (gnS S f)) k = nI (nd S (d + 1) (avl (gnS S f))) ↔ pS S d f (avl (gnS S f)) k = true := by
            unfold nw pS
            rw [if_neg (show ¬ k = 6 by omega)]
            by_cases c : (avl (gnS S f)).testBit k = true ∧ fit S k f = true
            · rw [if_pos c, nI_eq (by omega) (by omega), c.1, c.2]
              simp
            · rw [if_neg c]
              constructor
              · intro z
                exact absurd z.symm (nI_m1 (by omega))
              · intro z
                exfalso
                simp only [Bool.and_eq_true] at z
                exact c z.1
          rw [pe]
          unfold fsx at ek
          refine ⟨fun z => ?_, fun z => ?_⟩
          · rw [if_pos z] at ek
            rw [ek]
            exact fin
          · rw [if_neg z] at ek
            exact ie (k + 1) (by omega) ek
      refine inner 6 0 (by omega) ?_
      unfold shS
      rw [e1]
  exact w_Search_findShoes (key (bN S 1) 0 (by omega) h Fr.rf (fun f' hf' => absurd hf' (Nat.not_lt_zero _)) none)
