/-! BOWLS: counts by all that may come, as numbers -/
theorem TnOK.lh {T : Nat → Int32} (ok : TnOK T) {s : Nat} (hs : s < stp T) : T (34 + s) = nI (bN T (34 + s)) ∧ T (43 + s) = nI (bN T (43 + s)) ∧ bN T (34 + s) ≤ bN T (43 + s) ∧ bN T (43 + s) ≤ 20 := by
  have s9 := stp9 ok
  have s6 := ok.s6.1
  obtain ⟨N, h1, h2, h3, h4, h5⟩ := ok
  have e6 := h1 6 (by omega)
  have n6 : N 6 = stp T := by
    have b : N 6 ≤ 9 := h3.2.2.2.2.2.2.2.2
    exact (nI_eq (by omega) (by omega)).mp (e6.symm.trans s6)
  have q := h4 s (by omega)
  have e3 := h1 (34 + s) (by omega)
  have e4 := h1 (43 + s) (by omega)
  have b3 : bN T (34 + s) = N (34 + s) := by unfold bN; rw [e3, nI_clamp (by omega)]
  have b4 : bN T (43 + s) = N (43 + s) := by unfold bN; rw [e4, nI_clamp (by omega)]
  rw [b3, b4]
  exact ⟨e3, e4, q.2.2.2.1, q.2.2.2.2⟩
def wtN (T : Nat → Int32) (s : Nat) : Nat := if T (7 + s) = 3 then 2 else 1
theorem wgt_n (T : Nat → Int32) (s : Nat) : wgt T s = nI (wtN T s) := by
  unfold wgt wtN
  split <;> rfl
theorem wtN_le (T : Nat → Int32) (s : Nat) : wtN T s ≤ 2 := by
  unfold wtN
  split <;> omega
/-- how many may come at a stop -/
def chc (T : Nat → Int32) (s : Nat) : Nat := bN T (43 + s) - bN T (34 + s) + 1
/-- in how many ways at the last d stops -/
def wd (T : Nat → Int32) : Nat → Nat
  | 0 => 1
  | d + 1 => wd T d * chc T (stp T - (d + 1))
def bmn (f : Nat → Nat) : Nat → Nat
  | 0 => f 0
  | g + 1 => min (bmn f g) (f (g + 1))
def agm (f : Nat → Nat) : Nat → Nat
  | 0 => 0
  | g + 1 => if f (g + 1) ≤ f (agm f g) then g + 1 else agm f g
theorem agm_le (f : Nat → Nat) : ∀ n, agm f n ≤ n
  | 0 => Nat.le_refl _
  | n + 1 => by
    have := agm_le f n
    unfold agm
    split <;> omega
theorem bmn_agm (f : Nat → Nat) : ∀ n, bmn f n = f (agm f n)
  | 0 => rfl
  | n + 1 => by
    unfold bmn agm
    rw [bmn_agm f n]
    by_cases c : f (n + 1) ≤ f (agm f n)
    · rw [if_pos c]; omega
    · rw [if_neg c]; omega
theorem bmn_le (f : Nat → Nat) : ∀ n, bmn f n ≤ f 0
  | 0 => Nat.le_refl _
  | n + 1 => by
    have := bmn_le f n
    unfold bmn
    omega
theorem bmn_sh {f F : Nat → Nat} {a b : Nat} : ∀ n, (∀ g, g ≤ n → F g + a = f g + b) → bmn F n + a = bmn f n + b
  | 0, h => h 0 (Nat.le_refl _)
  | n + 1, h => by
    have ih := bmn_sh n (fun g hg => h g (by omega))
    have := h (n + 1) (Nat.le_refl _)
    unfold bmn
    omega
/-- what counts at stop s with so many bowls, if dd come and g are given; c counts behind -/
def cbN (T : Nat → Int32) (d s so dd g : Nat) (c : Nat → Nat) : Nat := wtN T s * (dd - g) * wd T d + c (so - g)
def cn (T : Nat → Int32) : Nat → Nat → Nat
  | 0 => fun _ => 0
  | d + 1 => fun so => sumN (fun i => bmn (fun g => cbN T d (stp T - (d + 1)) so (bN T (34 + (stp T - (d + 1))) + i) g (cn T d)) (min (bN T (34 + (stp T - (d + 1))) + i) so)) (chc T (stp T - (d + 1)))
theorem wd_le {T : Nat → Int32} (ok : TnOK T) : ∀ d, d ≤ stp T → wd T d ≤ 21 ^ d ∧ 1 ≤ wd T d
  | 0, _ => ⟨Nat.le_refl _, Nat.le_refl _⟩
  | d + 1, h => by
    have ih := wd_le ok d (by omega)
    have q := ok.lh (s := stp T - (d + 1)) (by omega)
    have c1 : chc T (stp T - (d + 1)) ≤ 21 := by unfold chc; omega
    have c2 : 1 ≤ chc T (stp T - (d + 1)) := by unfold chc; omega
    refine ⟨?_, ?_⟩
    · show wd T d * chc T (stp T - (d + 1)) ≤ 21 ^ (d + 1)
      rw [Nat.pow_succ]
      exact Nat.mul_le_mul ih.1 c1
    · show 1 ≤ wd T d * chc T (stp T - (d + 1))
      exact Nat.mul_pos ih.2 c2
theorem wd_b {T : Nat → Int32} (ok : TnOK T) {d : Nat} (hd : d ≤ stp T) : wd T d ≤ 794280046581 := by
  have s9 := stp9 ok
  have h1 := (wd_le ok d hd).1
  have h2 : 21 ^ d ≤ 21 ^ 9 := Nat.pow_le_pow_right (by decide) (by omega)
  have h3 : (21 : Nat) ^ 9 = 794280046581 := by decide
  omega
theorem sumN_leN {f : Nat → Nat} {b : Nat} : ∀ n, (∀ x, x < n → f x ≤ b) → sumN f n ≤ b * n
  | 0, _ => Nat.le_refl _
  | n + 1, h => by
    have := sumN_leN n (fun x hx => h x (by omega))
    have := h n (by omega)
    show sumN f n + f n ≤ b * (n + 1)
    rw [Nat.mul_succ]
    omega
theorem cn_le {T : Nat → Int32} (ok : TnOK T) : ∀ d, d ≤ stp T → ∀ so, cn T d so ≤ 40 * d * wd T d
  | 0, _, _ => Nat.zero_le _
  | d + 1, h, so => by
    have ih := cn_le ok d (by omega) so
    have q := ok.lh (s := stp T - (d + 1)) (by omega)
    have w2 := wtN_le T (stp T - (d + 1))
    show sumN _ (chc T (stp T - (d + 1))) ≤ _
    have h1 := sumN_leN (f := fun i => bmn (fun g => cbN T d (stp T - (d + 1)) so (bN T (34 + (stp T - (d + 1))) + i) g (cn T d)) (min (bN T (34 + (stp T - (d + 1))) + i) so)) (b := 40 * wd T d + 40 * d * wd T d) (chc T (stp T - (d + 1))) (fun i hi => by
      refine Nat.le_trans (bmn_le _ _) ?_
      unfold cbN
      have a1 : wtN T (stp T - (d + 1)) * (bN T (34 + (stp T - (d + 1))) + i - 0) ≤ 2 * 20 := Nat.mul_le_mul w2 (by unfold chc at hi; omega)
      have a2 := Nat.mul_le_mul_right (wd T d) a1
      have a3 : cn T d (so - 0) ≤ 40 * d * wd T d := ih
      omega)
    refine Nat.le_trans h1 (Nat.le_of_eq ?_)
    show (40 * wd T d + 40 * d * wd T d) * chc T (stp T - (d + 1)) = 40 * (d + 1) * (wd T d * chc T (stp T - (d + 1)))
    rw [← Nat.add_mul, show 40 + 40 * d = 40 * (d + 1) by omega, Nat.mul_assoc]
theorem cn_b {T : Nat → Int32} (ok : TnOK T) {d : Nat} (hd : d ≤ stp T) (so : Nat) : cn T d so ≤ 285940816769160 := by
  have s9 := stp9 ok
  have h1 := cn_le ok d hd so
  have h2 := wd_b ok hd
  have h3 : 40 * d * wd T d ≤ 360 * 794280046581 := Nat.mul_le_mul (by omega) h2
  omega
def PB (c : Nat) : Prop := 146 ≤ c ∧ c ≤ 149
/-- a frame in which the caches' first fields may change -/
def Sm (h h' : xh) (c : Nat) : Prop := xS h' c = xS h c ∧ xR h' c = xR h c ∧ xI h' c = xI h c ∧ xL h' c = xL h c
def Fg (P : Nat → Prop) (h h' : xh) : Prop := xN h' = xN h ∧ xS h' = xS h ∧ ∀ c, ¬ P c → Sm h h' c
theorem Fg.rf {P : Nat → Prop} {h : xh} : Fg P h h := ⟨rfl, rfl, fun _ _ => ⟨rfl, rfl, rfl, rfl⟩⟩
theorem Fr.g {P : Nat → Prop} {h h' : xh} (F : Fr P h h') : Fg P h h' := ⟨F.2.1, F.1, fun c hc => ⟨by rw [F.1], by rw [F.2.2.1], F.i c hc, F.l c hc⟩⟩
theorem Fg.tr {P : Nat → Prop} {a b c : xh} (f : Fg P a b) (g : Fg P b c) : Fg P a c := ⟨g.1.trans f.1, g.2.1.trans f.2.1, fun k hk => by
  obtain ⟨a1, a2, a3, a4⟩ := f.2.2 k hk
  obtain ⟨b1, b2, b3, b4⟩ := g.2.2 k hk
  exact ⟨b1.trans a1, b2.trans a2, b3.trans a3, b4.trans a4⟩⟩
theorem Fg.mo {P R : Nat → Prop} {a b : xh} (f : Fg P a b) (g : ∀ c, P c → R c) : Fg R a b := ⟨f.1, f.2.1, fun k hk => f.2.2 k (fun z => hk (g k z))⟩
theorem Fg.wR {P : Nat → Prop} {h0 h : xh} (f : Fg P h0 h) {a i : Nat} {v : Option Nat} (ha : P a) : Fg P h0 (xsR h a i v) := f.tr ⟨rfl, rfl, fun c hc => ⟨rfl, by
  exact va_upn _ _ _ (fun z : c = a => hc (by rw [z]; exact ha)), rfl, rfl⟩⟩
theorem Fg.wI {P : Nat → Prop} {h0 h : xh} (f : Fg P h0 h) {a i : Nat} {v : Int32} (ha : P a) : Fg P h0 (xsI h a i v) := f.tr (Fr.rf.wI ha).g
theorem Fg.wL {P : Nat → Prop} {h0 h : xh} (f : Fg P h0 h) {a i : Nat} {v : Int64} (ha : P a) : Fg P h0 (xsL h a i v) := f.tr (Fr.rf.wL ha).g
theorem Tn.sm {h h' : xh} {t : Nat} {T : Nat → Int32} (H : Tn h t T) (hp : ∀ c, t ≤ c → c ≤ t + 7 → Sm h h' c) : Tn h' t T := by
  refine ⟨by rw [(hp t (by omega) (by omega)).1]; exact H.1, fun j hj => ⟨by rw [(hp t (by omega) (by omega)).2.1]; exact (H.2.1 j hj).1, by rw [(hp (t + 1 + j) (by omega) (by omega)).1]; exact (H.2.1 j hj).2⟩, fun i hi => ?_, fun j s hj hs hd => ?_, H.ok⟩
  · rw [(hp t (by omega) (by omega)).2.2.1]; exact H.2.2.1 i hi
  · rw [(hp (t + 1 + j) (by omega) (by omega)).2.2.1]; exact H.2.2.2.1 j s hj hs hd
theorem xR_at (h : xh) (a i : Nat) (v : Option Nat) (c k : Nat) : xR (xsR h a i v) c k = if c = a ∧ k = i then v else xR h c k := by
  show va_up h.2.2.1 a (va_up (h.2.2.1 a) i v) c k = _
  by_cases e : c = a
  · subst e
    rw [va_up_at]
    by_cases e2 : k = i
    · subst e2; rw [va_up_at, if_pos ⟨rfl, rfl⟩]
    · rw [va_upn _ _ _ e2, if_neg (fun z => e2 z.2)]; rfl
  · rw [va_upn _ _ _ e, if_neg (fun z => e z.1)]; rfl
theorem Lay.wR {h : xh} (L : Lay h) (a : Nat) (v : Option Nat) (e : (rfL.getD (a - 64) []).getD 0 none = none := by rfl) : Lay (xsR h a 0 v) := by
  refine ⟨L.1, L.2.1, fun c i w h1 h2 h3 => ?_⟩
  rw [xR_at]
  by_cases z : c = a ∧ i = 0
  · exfalso
    obtain ⟨z1, z2⟩ := z
    subst z1
    subst z2
    rw [e] at h3
    exact nomatch h3
  · rw [if_neg z]
    exact L.2.2 c i w h1 h2 h3
theorem nI_dif {a b : Nat} (ha : a < 2 ^ 30) (hb : b < 2 ^ 30) : (nI a - nI b).toInt64 = lN a - lN b := by
  apply Int64.toInt_inj.mp
  rw [Int32.toInt_toInt64, pk_sub_toInt ha hb]
  by_cases c : b ≤ a
  · rw [lN_sub c, lN_toInt (by omega)]
    omega
  · have : lN a - lN b = -(lN (b - a)) := by
      rw [← lN_sub (show a ≤ b by omega), Int64.neg_sub]
    rw [this, Int64.toInt_neg, lN_toInt (by omega), Int.bmod_eq_of_le (by omega) (by omega)]
    omega
