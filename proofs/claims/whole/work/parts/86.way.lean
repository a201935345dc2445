/-! THE WAY by which most are fed WARM: numbers -/
def clN (T : Nat → Int32) : Nat := bN T 4
def sbs (V A : Nat) : Prop := ∀ i, V.testBit i = true → A.testBit i = true
theorem sbs_or {V A s : Nat} (h : sbs V A) (hs : A.testBit s = true) : sbs (V ||| 2 ^ s) A := fun i hi => by
  rw [or_bit] at hi
  by_cases e : s = i
  · subst e; exact hs
  · have : decide (s = i) = false := decide_eq_false e
    rw [this, Bool.or_false] at hi
    exact h i hi
theorem sbs_0 (A : Nat) : sbs 0 A := fun i hi => by rw [Nat.zero_testBit] at hi; exact absurd hi (by decide)
theorem or_has (V s : Nat) : (V ||| 2 ^ s).testBit s = true := by
  rw [or_bit, decide_eq_true rfl, Bool.or_true]
theorem sdf_orb {V s : Nat} (h : V.testBit s = false) : sdf (V ||| 2 ^ s) (2 ^ s) = V := by
  apply Nat.eq_of_testBit_eq
  intro i
  rw [sdf_bit, or_bit, Nat.testBit_two_pow]
  by_cases e : s = i
  · subst e; rw [h]; simp
  · simp [e]
theorem pcn9_or {V s : Nat} (h : V.testBit s = false) (hs : s < 9) : pcn 9 (V ||| 2 ^ s) = pcn 9 V + 1 := by
  rw [pcn_or h 9, if_pos hs]
theorem pcn9_le {V k : Nat} (h : V < 2 ^ k) (hk : k ≤ 9) : pcn 9 V ≤ k := by
  have e := pcn_sub (A := V) (B := 2 ^ k - 1) (fun i hi => by
    rw [Nat.testBit_two_pow_sub_one]
    refine decide_eq_true (Nat.lt_of_not_le (fun z => ?_))
    have : V.testBit i = false := Nat.testBit_lt_two_pow (Nat.lt_of_lt_of_le h (Nat.pow_le_pow_right (by decide) z))
    rw [this] at hi
    exact absurd hi (by decide)) 9
  rw [pcn_f9 k hk] at e
  exact e
def ph (T : Nat → Int32) (V a : Nat) : Nat := if V = 0 then 0 else tg T (pcn 9 V - 1) (sdf V (2 ^ a)) a
theorem bnz {V a : Nat} (h : V.testBit a = true) : V ≠ 0 := fun e => by
  rw [e, Nat.zero_testBit] at h; exact absurd h (by decide)
theorem ph_or {T : Nat → Int32} {V s : Nat} (h : V.testBit s = false) (hs : s < 9) : ph T (V ||| 2 ^ s) s = tg T (pcn 9 V) V s := by
  unfold ph
  rw [if_neg (bnz (or_has V s)), pcn9_or h hs, sdf_orb h, Nat.add_sub_cancel]
theorem ph_k {T : Nat → Int32} {V a : Nat} (h : V.testBit a = true) : ph T V a = tg T (pcn 9 V - 1) (sdf V (2 ^ a)) a := if_neg (bnz h)
/-- nowhere yet, or at one of those where she was -/
def Sa (T : Nat → Int32) (V a : Nat) : Prop := (V = 0 ∧ a = 9) ∨ (a < stp T ∧ V.testBit a = true)
theorem Sa.pl {T : Nat → Int32} {V a : Nat} (h : Sa T V a) : plc T a := by
  rcases h with e | e
  · exact Or.inl e.2
  · exact Or.inr e.1
theorem ph_le {T : Nat → Int32} (ok : TnOK T) {V a s : Nat} (S : Sa T V a) (h : V.testBit s = false) (hs : s < stp T) : ph T (V ||| 2 ^ s) s ≤ ph T V a + dr T a s := by
  have s9 := stp9 ok
  rw [ph_or h (by omega)]
  rcases S with ⟨e1, e2⟩ | ⟨e1, e2⟩
  · subst e1; subst e2
    show tg T (pcn 9 0) 0 s ≤ 0 + dr T 9 s
    rw [pcn0, dr_comm]
    show dr T s 9 ≤ _
    omega
  · have r := pcn_rm e2 (by omega)
    rw [ph_k e2, r, Nat.add_sub_cancel, tg_s]
    have := tgk_le (T := T) (c := tg T (pcn 9 (sdf V (2 ^ a)))) (a := s) e2 e1
    unfold tmR at this
    rw [dr_comm T a s]
    omega
theorem ph_ex {T : Nat → Int32} (ok : TnOK T) {V s : Nat} (hV : V < 2 ^ stp T) (h : V.testBit s = false) (hs : s < stp T) : ∃ a, Sa T V a ∧ ph T (V ||| 2 ^ s) s = ph T V a + dr T a s := by
  have s9 := stp9 ok
  have p512 : 2 ^ stp T ≤ 512 := Nat.le_trans (Nat.pow_le_pow_right (by decide) s9) (by decide)
  rw [ph_or h (by omega)]
  by_cases e : V = 0
  · subst e
    refine ⟨9, Or.inl ⟨rfl, rfl⟩, ?_⟩
    rw [pcn0, dr_comm]
    show dr T s 9 = 0 + dr T s 9
    omega
  · have nz : pcn 9 V ≠ 0 := fun y => e (pcn_z _ (by omega) y)
    obtain ⟨d, ed⟩ : ∃ d, pcn 9 V = d + 1 := ⟨pcn 9 V - 1, by omega⟩
    obtain ⟨k, hk, hb, ek⟩ := tg_ex ok hV ed (Or.inr hs)
    refine ⟨k, Or.inr ⟨hk, hb⟩, ?_⟩
    rw [ed, ← ek, ph_k hb, ed, Nat.add_sub_cancel, dr_comm T k s]
    unfold tmR
    omega
theorem ph_b {T : Nat → Int32} (ok : TnOK T) {V a : Nat} (hV : V < 2 ^ stp T) (S : Sa T V a) : ph T V a ≤ 1620 := by
  rcases S with ⟨e1, e2⟩ | ⟨e1, e2⟩
  · unfold ph; rw [if_pos e1]; omega
  · have s9 := stp9 ok
    have r := pcn_rm e2 (by omega)
    rw [ph_k e2]
    have := tg_b ok (pcn 9 V - 1) (sdf V (2 ^ a)) a (sdf_lt hV) (by omega) (Or.inr e1)
    have := pcn_le 9 V
    omega
/-- the minute at which she is done there -/
def dn (T : Nat → Int32) (V a : Nat) : Nat := ph T V a + ff T V
theorem dn_0 (T : Nat → Int32) (a : Nat) : dn T 0 a = 0 := by
  unfold dn ph ff
  rw [if_pos rfl, bsm_0]
theorem dn_b {T : Nat → Int32} (ok : TnOK T) {V a : Nat} (hV : V < 2 ^ stp T) (S : Sa T V a) : dn T V a ≤ 1710 := by
  have := ph_b ok hV S
  have := ff_le ok V
  unfold dn
  omega
theorem dn_le {T : Nat → Int32} (ok : TnOK T) {V a s : Nat} (S : Sa T V a) (h : V.testBit s = false) (hs : s < stp T) : dn T (V ||| 2 ^ s) s ≤ dn T V a + dr T a s + fdN T s := by
  have := ph_le ok S h hs
  unfold dn
  rw [ff_or h hs]
  omega
theorem dn_eq {T : Nat → Int32} {V a s : Nat} (h : V.testBit s = false) (hs : s < stp T) : dn T (V ||| 2 ^ s) s = dn T V a + dr T a s + fdN T s ↔ ph T V a + dr T a s = ph T (V ||| 2 ^ s) s := by
  unfold dn
  rw [ff_or h hs]
  omega
/-- by steps from one state to another -/
def Rc (T : Nat → Int32) (A : Nat) : Nat → Nat → Nat → Nat → Nat → Nat → Nat → Prop
  | 0 => fun B l m V a t => V = B ∧ a = l ∧ t = m
  | k + 1 => fun B l m V a t => ∃ s, s < stp T ∧ B.testBit s = false ∧ A.testBit s = true ∧ m + dr T l s < clN T ∧ Rc T A k (B ||| 2 ^ s) s (m + dr T l s + fdN T s) V a t
theorem Rc_app {T : Nat → Int32} {A s : Nat} (hs : s < stp T) (hA : A.testBit s = true) : ∀ {k B l m V a t : Nat}, Rc T A k B l m V a t → V.testBit s = false → t + dr T a s < clN T → Rc T A (k + 1) B l m (V ||| 2 ^ s) s (t + dr T a s + fdN T s)
  | 0, B, l, m, V, a, t, h, h1, h2 => by
    obtain ⟨e1, e2, e3⟩ := h
    subst e1; subst e2; subst e3
    exact ⟨s, hs, h1, hA, h2, rfl, rfl, rfl⟩
  | k + 1, B, l, m, V, a, t, h, h1, h2 => by
    obtain ⟨u, u1, u2, u3, u4, u5⟩ := h
    exact ⟨u, u1, u2, u3, u4, Rc_app hs hA u5 h1 h2⟩
theorem Rc_last {T : Nat → Int32} {A : Nat} : ∀ {k B l m V a t : Nat}, Rc T A (k + 1) B l m V a t → ∃ V' a' t', Rc T A k B l m V' a' t' ∧ a < stp T ∧ V'.testBit a = false ∧ A.testBit a = true ∧ t' + dr T a' a < clN T ∧ V = V' ||| 2 ^ a ∧ t = t' + dr T a' a + fdN T a
  | 0, B, l, m, V, a, t, h => by
    obtain ⟨s, h1, h2, h3, h4, e1, e2, e3⟩ := h
    subst e2
    exact ⟨B, l, m, ⟨rfl, rfl, rfl⟩, h1, h2, h3, h4, e1, e3⟩
  | k + 1, B, l, m, V, a, t, h => by
    obtain ⟨s, h1, h2, h3, h4, h5⟩ := h
    obtain ⟨V', a', t', g1, g2⟩ := Rc_last h5
    exact ⟨V', a', t', ⟨s, h1, h2, h3, h4, g1⟩, g2⟩
/-- a state to which she may come -/
def Gs (T : Nat → Int32) (A V a t : Nat) : Prop := V < 2 ^ stp T ∧ sbs V A ∧ ((V = 0 ∧ a = 9 ∧ t = 0) ∨ (a < stp T ∧ V.testBit a = true ∧ dn T V a ≤ t ∧ t < clN T + fdN T a))
theorem Gs.sa {T : Nat → Int32} {A V a t : Nat} (g : Gs T A V a t) : Sa T V a := by
  rcases g.2.2 with e | e
  · exact Or.inl ⟨e.1, e.2.1⟩
  · exact Or.inr ⟨e.1, e.2.1⟩
theorem Gs.dn {T : Nat → Int32} {A V a t : Nat} (g : Gs T A V a t) : dn T V a ≤ t := by
  rcases g.2.2 with e | e
  · rw [e.1, dn_0]; omega
  · exact e.2.2.1
theorem Gs.st {T : Nat → Int32} (ok : TnOK T) {A V a t s : Nat} (g : Gs T A V a t) (hs : s < stp T) (hb : V.testBit s = false) (hA : A.testBit s = true) (hc : t + dr T a s < clN T) : Gs T A (V ||| 2 ^ s) s (t + dr T a s + fdN T s) := by
  have l := dn_le ok g.sa hb hs
  have d := g.dn
  exact ⟨orb_lt g.1 hs, sbs_or g.2.1 hA, Or.inr ⟨hs, or_has V s, by omega, by omega⟩⟩
theorem Rc_gs {T : Nat → Int32} (ok : TnOK T) {A : Nat} : ∀ {k B l m V a t : Nat}, Rc T A k B l m V a t → Gs T A B l m → Gs T A V a t
  | 0, B, l, m, V, a, t, h, g => by
    obtain ⟨e1, e2, e3⟩ := h
    subst e1; subst e2; subst e3
    exact g
  | k + 1, B, l, m, V, a, t, h, g => by
    obtain ⟨s, h1, h2, h3, h4, h5⟩ := h
    exact Rc_gs ok h5 (g.st ok h1 h2 h3 h4)
theorem Rc_sup {T : Nat → Int32} {A : Nat} : ∀ {k B l m V a t : Nat}, Rc T A k B l m V a t → sbs B V
  | 0, B, l, m, V, a, t, h => by rw [h.1]; exact fun i hi => hi
  | k + 1, B, l, m, V, a, t, h => by
    obtain ⟨s, h1, h2, h3, h4, h5⟩ := h
    exact fun i hi => Rc_sup h5 i (by rw [or_bit, hi, Bool.true_or])
theorem Gs0 (T : Nat → Int32) (A : Nat) : Gs T A 0 9 0 := ⟨Nat.two_pow_pos _, sbs_0 A, Or.inl ⟨rfl, rfl, rfl⟩⟩
/-- all are fed WARM by V, at last at a -/
def Fz (T : Nat → Int32) (A V a : Nat) : Prop := V < 2 ^ stp T ∧ sbs V A ∧ a < stp T ∧ V.testBit a = true ∧ dn T V a < clN T + fdN T a
theorem Fz.gs {T : Nat → Int32} {A V a : Nat} (f : Fz T A V a) : Gs T A V a (dn T V a) := ⟨f.1, f.2.1, Or.inr ⟨f.2.2.1, f.2.2.2.1, Nat.le_refl _, f.2.2.2.2⟩⟩
theorem Fz_rc {T : Nat → Int32} (ok : TnOK T) {A : Nat} : ∀ d V a, V < d → Fz T A V a → ∃ k, Rc T A k 0 9 0 V a (dn T V a)
  | 0, V, a, h, _ => absurd h (Nat.not_lt_zero _)
  | d + 1, V, a, h, f => by
    obtain ⟨f1, f2, f3, f4, f5⟩ := f
    have lt := sdf_less f4
    have sb := sdf_self V a
    have eo := sdf_or f4
    have hU : sdf V (2 ^ a) < 2 ^ stp T := sdf_lt f1
    have sU : sbs (sdf V (2 ^ a)) A := fun i hi => f2 i (by
      rw [sdf_bit] at hi
      simp only [Bool.and_eq_true] at hi
      exact hi.1)
    obtain ⟨b, S, e⟩ := ph_ex ok hU sb f3
    have e2 := (dn_eq (a := b) sb f3).mpr e.symm
    rw [eo] at e2
    have g : ∃ k, Rc T A k 0 9 0 (sdf V (2 ^ a)) b (dn T (sdf V (2 ^ a)) b) := by
      rcases S with ⟨z1, z2⟩ | ⟨z1, z2⟩
      · rw [z1, z2, dn_0]
        exact ⟨0, rfl, rfl, rfl⟩
      · exact Fz_rc ok d _ b (by omega) ⟨hU, sU, z1, z2, by omega⟩
    obtain ⟨k, gk⟩ := g
    refine ⟨k + 1, ?_⟩
    have := Rc_app f3 (f2 a f4) gk sb (by omega)
    rw [eo, ← e2] at this
    exact this
/-- the best: most people, then fewest minutes -/
def Best (T : Nat → Int32) (A p m : Nat) : Prop := ((p = 0 ∧ m = 0) ∨ ∃ V a, Fz T A V a ∧ pp T V = p ∧ dn T V a = m) ∧ ∀ V a, Fz T A V a → pp T V < p ∨ (pp T V = p ∧ m ≤ dn T V a)
theorem pp_bit {T : Nat → Int32} {V a : Nat} (h : V.testBit a = true) (ha : a < stp T) : mdN T a ≤ pp T V := by
  have := pp_or (T := T) (sdf_self V a) ha
  rw [sdf_or h] at this
  omega
theorem Best.uq {T : Nat → Int32} {A p m p' m' : Nat} (hA : ∀ i, A.testBit i = true → 0 < mdN T i) (B : Best T A p m) (B' : Best T A p' m') : p = p' ∧ m = m' := by
  have pos : ∀ V a, Fz T A V a → 0 < pp T V := fun V a f => Nat.lt_of_lt_of_le (hA a (f.2.1 a f.2.2.2.1)) (pp_bit f.2.2.2.1 f.2.2.1)
  obtain ⟨b1, b2⟩ := B
  obtain ⟨c1, c2⟩ := B'
  rcases b1 with ⟨e1, e2⟩ | ⟨V, a, f, e1, e2⟩ <;> rcases c1 with ⟨d1, d2⟩ | ⟨V', a', f', d1, d2⟩
  · omega
  · have := b2 V' a' f'
    have := pos V' a' f'
    omega
  · have := c2 V a f
    have := pos V a f
    omega
  · have := b2 V' a' f'
    have := c2 V a f
    omega
/-- what a search from a state finds -/
def Fo (T : Nat → Int32) (A B l t p m : Nat) : Prop := (∃ k V a, Rc T A k B l t V a m ∧ pp T V = p) ∧ ∀ k V a t', Rc T A k B l t V a t' → pp T V < p ∨ (pp T V = p ∧ m ≤ t')
theorem pp_0 (T : Nat → Int32) : pp T 0 = 0 := bsm_0 _ _
theorem Fo.best {T : Nat → Int32} (ok : TnOK T) {A p m : Nat} (F : Fo T A 0 9 0 p m) : Best T A p m := by
  obtain ⟨⟨k, V, a, h1, h2⟩, h3⟩ := F
  have rf : ∀ V a, Fz T A V a → pp T V < p ∨ (pp T V = p ∧ m ≤ dn T V a) := fun V a f => by
    obtain ⟨j, hj⟩ := Fz_rc ok (V + 1) V a (by omega) f
    exact h3 j V a _ hj
  refine ⟨?_, rf⟩
  have g := Rc_gs ok h1 (Gs0 T A)
  rcases g.2.2 with e | ⟨e1, e2, e3, e4⟩
  · rw [e.1, pp_0] at h2
    exact Or.inl ⟨by omega, e.2.2⟩
  · have f : Fz T A V a := ⟨g.1, g.2.1, e1, e2, by omega⟩
    have := rf V a f
    exact Or.inr ⟨V, a, f, h2, by omega⟩
theorem opt_A {T : Nat → Int32} (ok : TnOK T) {A p m : Nat} (B : Best T A p m) : ∀ {k V a t V' a' : Nat}, Rc T A k V a t V' a' m → pp T V' = p → V < 2 ^ stp T → sbs V A → a < stp T → V.testBit a = true → dn T V a ≤ t → t < clN T + fdN T a → t = dn T V a
  | 0, V, a, t, V', a', h, hp, g1, g2, g3, g4, g5, g6 => by
    obtain ⟨e1, e2, e3⟩ := h
    subst e1
    have := B.2 V' a ⟨g1, g2, g3, g4, by omega⟩
    omega
  | k + 1, V, a, t, V', a', h, hp, g1, g2, g3, g4, g5, g6 => by
    obtain ⟨s, h1, h2, h3, h4, h5⟩ := h
    have l := dn_le ok (Or.inr ⟨g3, g4⟩) h2 h1
    have := opt_A ok B h5 hp (orb_lt g1 h1) (sbs_or g2 h3) h1 (or_has V s) (by omega) (by omega)
    omega
def nx (T : Nat → Int32) (f : Nat → Nat → Bool) (V a s : Nat) : Bool := !V.testBit s && (f (V ||| 2 ^ s) s && decide (ph T V a + dr T a s = ph T (V ||| 2 ^ s) s))
def bst (T : Nat → Int32) (p m V a : Nat) : Bool := decide (pp T V = p ∧ dn T V a = m ∧ dn T V a < clN T + fdN T a)
/-- at which a beginning of a best row may end -/
def gd (T : Nat → Int32) (A p m : Nat) : Nat → Nat → Nat → Bool
  | 0 => fun V a => decide (sdf V A = 0) && (V.testBit a && bst T p m V a)
  | d + 1 => fun V a => decide (sdf V A = 0) && (V.testBit a && (bst T p m V a || decide (fsx (nx T (gd T A p m d) V a) (stp T) 0 < stp T)))
theorem gd_s (T : Nat → Int32) (A p m d V a : Nat) : gd T A p m (d + 1) V a = (decide (sdf V A = 0) && (V.testBit a && (bst T p m V a || decide (fsx (nx T (gd T A p m d) V a) (stp T) 0 < stp T)))) := rfl
theorem fsx_lt {p : Nat → Bool} : ∀ {d i : Nat}, fsx p d i < i + d → p (fsx p d i) = true
  | 0, i, h => by
    have : fsx p 0 i = i := rfl
    omega
  | d + 1, i, h => by
    unfold fsx at h ⊢
    by_cases c : p i = true
    · rw [if_pos c]; exact c
    · rw [if_neg c] at h ⊢
      exact fsx_lt (by omega)
theorem nx_i {T : Nat → Int32} {f : Nat → Nat → Bool} {V a s : Nat} : nx T f V a s = true ↔ V.testBit s = false ∧ f (V ||| 2 ^ s) s = true ∧ ph T V a + dr T a s = ph T (V ||| 2 ^ s) s := by
  unfold nx
  simp
theorem gd_sub {T : Nat → Int32} {A p m d V a : Nat} (h : gd T A p m d V a = true) : sbs V A ∧ V.testBit a = true := by
  cases d with
  | zero =>
    unfold gd at h
    simp only [Bool.and_eq_true, decide_eq_true_eq] at h
    exact ⟨sdf0.mp h.1, h.2.1⟩
  | succ d =>
    rw [gd_s] at h
    simp only [Bool.and_eq_true, decide_eq_true_eq] at h
    exact ⟨sdf0.mp h.1, h.2.1⟩
/-- she can still come to the best from there -/
def gp (T : Nat → Int32) (A p m V a t : Nat) : Prop := ∃ k V' a', Rc T A k V a t V' a' m ∧ pp T V' = p
theorem opt_B {T : Nat → Int32} (ok : TnOK T) {A p m : Nat} (B : Best T A p m) : ∀ d V a, V < 2 ^ stp T → sbs V A → a < stp T → V.testBit a = true → d = stp T - pcn 9 V → ((dn T V a < clN T + fdN T a ∧ gp T A p m V a (dn T V a)) ↔ gd T A p m d V a = true)
  | 0, V, a, g1, g2, g3, g4, ed => by
    have s9 := stp9 ok
    have full : ∀ s, s < stp T → V.testBit s = false → False := fun s hs hb => by
      have l := pcn9_le (orb_lt g1 hs) s9
      rw [pcn9_or hb (by omega)] at l
      omega
    have e : gd T A p m 0 V a = bst T p m V a := by
      unfold gd
      rw [decide_eq_true (sdf0.mpr g2), g4, Bool.true_and, Bool.true_and]
    rw [e]
    unfold bst
    rw [decide_eq_true_eq]
    constructor
    · rintro ⟨h1, k, V', a', h2, h3⟩
      cases k with
      | zero =>
        obtain ⟨e1, e2, e3⟩ := h2
        subst e1
        exact ⟨h3, e3.symm, h1⟩
      | succ k =>
        obtain ⟨s, s1, s2, _⟩ := h2
        exact (full s s1 s2).elim
    · rintro ⟨h1, h2, h3⟩
      exact ⟨h3, 0, V, a, ⟨rfl, rfl, h2.symm⟩, h1⟩
  | d + 1, V, a, g1, g2, g3, g4, ed => by
    have s9 := stp9 ok
    rw [gd_s, decide_eq_true (sdf0.mpr g2), g4, Bool.true_and, Bool.true_and, Bool.or_eq_true, decide_eq_true_eq]
    have ih : ∀ s, s < stp T → V.testBit s = false → A.testBit s = true → ((dn T (V ||| 2 ^ s) s < clN T + fdN T s ∧ gp T A p m (V ||| 2 ^ s) s (dn T (V ||| 2 ^ s) s)) ↔ gd T A p m d (V ||| 2 ^ s) s = true) := fun s h1 h2 h3 => opt_B ok B d _ s (orb_lt g1 h1) (sbs_or g2 h3) h1 (or_has V s) (by rw [pcn9_or h2 (by omega)]; omega)
    constructor
    · rintro ⟨h1, k, V', a', h2, h3⟩
      cases k with
      | zero =>
        obtain ⟨e1, e2, e3⟩ := h2
        subst e1
        exact Or.inl (decide_eq_true ⟨h3, e3.symm, h1⟩)
      | succ k =>
        right
        obtain ⟨s, s1, s2, s3, s4, s5⟩ := h2
        have l := dn_le ok (Or.inr ⟨g3, g4⟩) s2 s1
        have q := opt_A ok B s5 h3 (orb_lt g1 s1) (sbs_or g2 s3) s1 (or_has V s) (by omega) (by omega)
        have i1 := (ih s s1 s2 s3).mp ⟨by omega, k, V', a', by rw [← q]; exact s5, h3⟩
        have := fsx_sp (p := nx T (gd T A p m d) V a) (d := stp T) (i := 0) (k := s) (by omega) (by omega) (nx_i.mpr ⟨s2, i1, (dn_eq s2 s1).mp q.symm⟩)
        omega
    · rintro (h | h)
      · unfold bst at h
        rw [decide_eq_true_eq] at h
        exact ⟨h.2.2, 0, V, a, ⟨rfl, rfl, h.2.1.symm⟩, h.1⟩
      · have n := fsx_lt (p := nx T (gd T A p m d) V a) (d := stp T) (i := 0) (by omega)
        generalize fsx (nx T (gd T A p m d) V a) (stp T) 0 = s at h n
        obtain ⟨n1, n2, n3⟩ := nx_i.mp n
        have sA : A.testBit s = true := (gd_sub n2).1 s (or_has V s)
        obtain ⟨f1, k, V', a', f2, f3⟩ := (ih s h n1 sA).mpr n2
        have e := (dn_eq n1 h).mpr n3
        refine ⟨by omega, k + 1, V', a', ⟨s, h, n1, sA, by omega, ?_⟩, f3⟩
        rw [← e]
        exact f2
