/-! shod: to whom shoes go -/
def fit (S : Nat → Int32) (k f : Nat) : Bool := decide (k < bN S 0 ∧ (bN S (9 + f) = bN S (3 + k) ∨ bN S (9 + f) + 1 = bN S (3 + k)))
def ndg (S : Nat → Int32) (c : Nat → Nat) (f a b : Nat) : Nat → Nat
  | 0 => b
  | k + 1 => if a.testBit k = true ∧ fit S k f = true then max (ndg S c f a b k) (bN S (17 + f) + c (sdf a (2 ^ k))) else ndg S c f a b k
def nd (S : Nat → Int32) : Nat → Nat → Nat
  | 0 => fun _ => 0
  | d + 1 => fun a => ndg S (nd S d) (bN S 1 - (d + 1)) a (nd S d a) (bN S 0)
theorem nd_s (S : Nat → Int32) (d a : Nat) : nd S (d + 1) a = ndg S (nd S d) (bN S 1 - (d + 1)) a (nd S d a) (bN S 0) := rfl
theorem ndg_mx (S : Nat → Int32) (c : Nat → Nat) (f a b x : Nat) : ∀ k, max (ndg S c f a b k) x = ndg S c f a (max b x) k
  | 0 => rfl
  | k + 1 => by
    unfold ndg
    have ih := ndg_mx S c f a b x k
    split
    · rw [← ih]; omega
    · exact ih
theorem ndg_out (S : Nat → Int32) (c : Nat → Nat) (f a b : Nat) : ∀ d, ndg S c f a b (bN S 0 + d) = ndg S c f a b (bN S 0)
  | 0 => rfl
  | d + 1 => by
    show (if a.testBit (bN S 0 + d) = true ∧ fit S (bN S 0 + d) f = true then _ else ndg S c f a b (bN S 0 + d)) = _
    rw [if_neg (fun z => by have := z.2; unfold fit at this; have := of_decide_eq_true this; omega)]
    exact ndg_out S c f a b d
theorem ndg_c {S : Nat → Int32} {c : Nat → Nat} {f a a' b : Nat} : ∀ {n : Nat}, (∀ k, k < n → a.testBit k = a'.testBit k) → (∀ k, k < n → c (sdf a (2 ^ k)) = c (sdf a' (2 ^ k))) → ndg S c f a b n = ndg S c f a' b n
  | 0, _, _ => rfl
  | n + 1, h1, h2 => by
    unfold ndg
    rw [ndg_c (fun k hk => h1 k (by omega)) (fun k hk => h2 k (by omega)), h1 n (by omega), h2 n (by omega)]
theorem nd_c {S : Nat → Int32} : ∀ (d : Nat) {a a' : Nat}, (∀ k, k < bN S 0 → a.testBit k = a'.testBit k) → nd S d a = nd S d a'
  | 0, _, _, _ => rfl
  | d + 1, a, a', h => by
    rw [nd_s, nd_s, nd_c d h]
    exact ndg_c h (fun k hk => nd_c d (fun j hj => by rw [sdf_bit, sdf_bit, h j hj]))
theorem ndg_le {S : Nat → Int32} {c : Nat → Nat} {f a b x : Nat} (hb : b ≤ x) (hc : ∀ y, bN S (17 + f) + c y ≤ x) : ∀ k, ndg S c f a b k ≤ x
  | 0 => hb
  | k + 1 => by
    unfold ndg
    have := ndg_le hb hc (a := a) k
    have := hc (sdf a (2 ^ k))
    split <;> omega
theorem nd_le {S : Nat → Int32} (ok : ShOK S) : ∀ d, d ≤ bN S 1 → ∀ a, nd S d a ≤ 9 * d
  | 0, _, _ => Nat.le_refl _
  | d + 1, h, a => by
    have n9 := (ok.2.2.2.1 (bN S 1 - (d + 1)) (by omega)).2
    rw [nd_s]
    refine ndg_le ?_ (fun y => ?_) _
    · have := nd_le ok d (by omega) a; omega
    · have := nd_le ok d (by omega) y; omega
/-- the shoes that are left when some are gone -/
def avl (g : Nat) : Nat := sdf 63 g
theorem avl_b : ∀ g, g < 64 → ∀ k, k < 6 → (avl g).testBit k = !g.testBit k ∧ (g.testBit k = false → g + 2 ^ k = g ||| 2 ^ k ∧ g ||| 2 ^ k < 64 ∧ sdf (avl g) (2 ^ k) = avl (g ||| 2 ^ k)) := by decide +kernel
def P6 (c : Nat) : Prop := 159 ≤ c ∧ c ≤ 164
theorem sP {a : Nat} (h1 : 159 ≤ a := by decide) (h2 : a ≤ 164 := by decide) : P6 a := ⟨h1, h2⟩
def Nq (h : xh) (S : Nat → Int32) (q : Nat) : Prop := ∀ f g, q ≤ f → f ≤ bN S 1 → g < 64 → xI h 160 (f * 64 + g) = nI (nd S (bN S 1 - f) (avl g))
def nw (S : Nat → Int32) (d f a k : Nat) : Int32 := if k = 6 then nI (nd S d a) else if a.testBit k = true ∧ fit S k f = true then nI (bN S (17 + f) + nd S d (sdf a (2 ^ k))) else -1
theorem c_Sheet_fits {n : Nat} (hn : 1 ≤ n) {h : xh} {s : Nat} {S : Nat → Int32} (H : Sh h s S) {k f : Nat} (hk : k < 6) (hf : f < bN S 1) {Q : Int32 → xh → Prop} (hQ : Q (if fit S k f = true then 1 else 0) h) : xci (xMC n) 36 [.ref s, .int (nI k), .int (nI f)] h Q := by
  obtain ⟨n, rfl⟩ := xsucc hn
  have o := H.ok.n
  have no : ¬ fit S k f = true → Q 0 h := fun z => by rwa [if_neg z] at hQ
  have ye : fit S k f = true → Q 1 h := fun z => by rwa [if_pos z] at hQ
  unfold fit at no ye
  refine w_Sheet_fits ⟨fun z => absurd z (nI_pos (by omega)), fun _ => ⟨H.s, ?_⟩⟩
  rw [H.n 0, H.n 1, nI_leI (by omega) (by omega), nI_ltI (by omega) (by omega)]
  refine ⟨fun z => no (fun y => by have := of_decide_eq_true y; omega), fun z => ⟨fun y => absurd y (nI_pos (by omega)), fun _ => ⟨fun _ => ⟨_, H.r 1, H.x 0 (by omega), _, H.r 0, H.x1 (by omega), ?_⟩, fun y => absurd hf y⟩⟩⟩
  have s1 := H.ok.2.2.1 k (by omega)
  have s2 := (H.ok.2.2.2.1 f hf).1
  have e1 : xI h (s + 2 + 0) (nI f).toNatClampNeg = nI (bN S (9 + f)) := by rw [nI_clamp (by omega)]; exact (H.v2 hf).trans (H.ok.1 _ (by omega))
  have e2 : xI h (s + 1) (nI k).toNatClampNeg = nI (bN S (3 + k)) := by rw [nI_clamp (by omega)]; exact (H.v1 (by omega)).trans (H.ok.1 _ (by omega))
  show ((xI h (s + 2 + 0) (nI f).toNatClampNeg = xI h (s + 1) (nI k).toNatClampNeg → Q 1 h) ∧ (¬ xI h (s + 2 + 0) (nI f).toNatClampNeg = xI h (s + 1) (nI k).toNatClampNeg → (¬ xI h (s + 2 + 0) (nI f).toNatClampNeg = xI h (s + 1) (nI k).toNatClampNeg - 1 → Q 0 h) ∧ (xI h (s + 2 + 0) (nI f).toNatClampNeg = xI h (s + 1) (nI k).toNatClampNeg - 1 → Q 1 h)))
  rw [e1, e2, nI_eq (by omega) (by omega)]
  refine ⟨fun y => ye (decide_eq_true ⟨by omega, Or.inl y⟩), fun y => ?_⟩
  by_cases c0 : bN S (3 + k) = 0
  · refine ⟨fun _ => no (fun q => by have := of_decide_eq_true q; omega), fun q => ?_⟩
    rw [c0, show nI 0 - (1 : Int32) = -1 from by decide] at q
    exact absurd q (nI_m1 (by omega))
  · rw [show nI (bN S (3 + k)) - (1 : Int32) = nI (bN S (3 + k) - 1) from pk_sub (b := 1) (by omega), nI_eq (by omega) (by omega)]
    exact ⟨fun q => no (fun w => by have := of_decide_eq_true w; omega), fun q => ye (decide_eq_true ⟨by omega, Or.inr (by omega)⟩)⟩
theorem c_Search_needWith {n : Nat} (hn : 2 ≤ n) {h : xh} (L : Lay h) {s : Nat} {S : Nat → Int32} (H : Sh h s S) {f g k : Nat} (hf : f < bN S 1) (hg : g < 64) (hk : k ≤ 6) (N : Nq h S (f + 1)) {Q : Int32 → xh → Prop} (hQ : Q (nw S (bN S 1 - (f + 1)) f (avl g) k) h) : xci (xMC n) 107 [.ref 159, .ref s, .int (nI f), .int (nI g), .int (nI k)] h Q := by
  obtain ⟨n, rfl⟩ := xsucc (show 1 ≤ n by omega)
  have o := H.ok.n
  unfold nw at hQ
  have e64 : (nI f + 1) * (64 : Int32) + nI g = nI ((f + 1) * 64 + g) := by
    rw [nI_1, show nI (f + 1) * (64 : Int32) = nI ((f + 1) * 64) from pk_mul _ 64, nI_add]
  refine w_Search_needWith ⟨fun z => ?_, fun z => ⟨L.s 159, 160, L.r 159 1 160, ?_⟩⟩
  · have k6 : k < 6 := by
      have : k ≠ 6 := fun e => z (by rw [e]; rfl)
      omega
    obtain ⟨a1, a2⟩ := avl_b g hg k k6
    rw [if_neg (show ¬ k = 6 by omega)] at hQ
    rw [bt_has g (by omega) k (by omega)]
    cases cb : g.testBit k
    · rw [cb] at a1 a2
      obtain ⟨b1, b2, b3⟩ := a2 rfl
      refine ⟨fun y => absurd y (by decide), fun _ => ⟨H.s, c_Sheet_fits (by omega) H k6 hf ?_⟩⟩
      by_cases cf : fit S k f = true
      · rw [if_pos cf]
        rw [if_pos ⟨a1, cf⟩, b3] at hQ
        refine ⟨fun _ => ⟨H.s, _, H.r 2, H.x 1 (by omega), L.s 159, 160, L.r 159 1 160, ?_⟩, fun y => absurd y (by decide)⟩
        have e1 : xI h (s + 2 + 1) (nI f).toNatClampNeg = nI (bN S (17 + f)) := by rw [nI_clamp (by omega)]; exact (H.v3 hf).trans (H.ok.1 _ (by omega))
        rw [e64, bt_shl k (by omega), nI_add, show (f + 1) * 64 + g + 2 ^ k = (f + 1) * 64 + (g ||| 2 ^ k) by omega, nI_clamp (show (f + 1) * 64 + (g ||| 2 ^ k) < 2 ^ 31 by omega), N (f + 1) _ (Nat.le_refl _) (by omega) b2]
        refine ⟨L.x 160 (n := 576) (by omega), ?_⟩
        show Q (xI h (s + 2 + 1) (nI f).toNatClampNeg + _) h
        rw [e1, nI_add]
        exact hQ
      · rw [if_neg cf]
        rw [if_neg (fun y => cf y.2)] at hQ
        exact ⟨fun y => absurd rfl y, fun _ => hQ⟩
    · rw [cb] at a1
      rw [if_neg (fun y => by rw [a1] at y; exact absurd y.1 (by decide))] at hQ
      exact ⟨fun _ => hQ, fun y => absurd rfl y⟩
  · have k6 : k = 6 := (nI_eq (b := 6) (by omega) (by decide)).mp z
    rw [if_pos k6] at hQ
    rw [e64, nI_clamp (by omega), N (f + 1) g (Nat.le_refl _) (by omega) hg]
    exact ⟨L.x 160 (n := 576) (by omega), hQ⟩
