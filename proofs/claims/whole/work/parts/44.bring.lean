/-! bring, span, like -/
def cnt (p : Nat → Bool) : Nat → Nat
  | 0 => 0
  | k + 1 => cnt p k + if p k = true then 1 else 0
theorem cnt_le (p : Nat → Bool) : ∀ n, cnt p n ≤ n
  | 0 => Nat.le_refl _
  | n + 1 => by have := cnt_le p n; unfold cnt; split <;> omega
theorem cnt_all {p : Nat → Bool} : ∀ {n : Nat}, (∀ k, k < n → p k = true) → cnt p n = n
  | 0, _ => rfl
  | n + 1, h => by unfold cnt; rw [cnt_all (fun k hk => h k (by omega)), if_pos (h n (by omega))]
theorem cnt_full {p : Nat → Bool} : ∀ {n : Nat}, cnt p n = n → ∀ k, k < n → p k = true
  | 0, _, k, h => absurd h (Nat.not_lt_zero k)
  | n + 1, e, k, h => by
    unfold cnt at e
    have := cnt_le p n
    by_cases hp : p n = true
    · rw [if_pos hp] at e
      by_cases hk : k = n
      · rw [hk]; exact hp
      · exact cnt_full (n := n) (by omega) k (by omega)
    · rw [if_neg hp] at e
      omega
theorem cnt_pos {p : Nat → Bool} : ∀ {n k : Nat}, k < n → p k = true → 1 ≤ cnt p n
  | 0, k, h, _ => absurd h (Nat.not_lt_zero k)
  | n + 1, k, h, hp => by
    unfold cnt
    by_cases hk : k = n
    · subst hk; rw [if_pos hp]; omega
    · have := cnt_pos (n := n) (k := k) (by omega) hp
      omega
theorem cnt_ex {p : Nat → Bool} : ∀ {n : Nat}, 1 ≤ cnt p n → ∃ k, k < n ∧ p k = true
  | 0, h => absurd h (Nat.not_succ_le_zero 0)
  | n + 1, h => by
    unfold cnt at h
    by_cases hp : p n = true
    · exact ⟨n, by omega, hp⟩
    · rw [if_neg hp] at h
      obtain ⟨k, hk, e⟩ := cnt_ex (n := n) h
      exact ⟨k, by omega, e⟩
theorem fst_eq {f : Nat → Bool} : ∀ {d i j : Nat}, i ≤ j → j < i + d → f j = true → (∀ k, i ≤ k → k < j → f k = false) → fst f d i = nI j
  | 0, i, j, h1, h2, _, _ => by omega
  | d + 1, i, j, h1, h2, h3, h4 => by
    unfold fst
    by_cases e : i = j
    · subst e; rw [if_pos h3]
    · rw [if_neg (by rw [h4 i (by omega) (by omega)]; decide)]
      exact fst_eq (by omega) (by omega) h3 (fun k a b => h4 k (by omega) b)
/-- on how many nights so many of a thing are enough -/
def enN (B : Nat → Int32) (t m : Nat) : Nat := cnt (fun k => decide (bN B (3 + 5 * k + t) ≤ m)) (bN B 0)
def sEn (B : Nat → Int32) (t k : Nat) : Int32 := fst (fun m => decide (k ≤ enN B t m)) 100 0
theorem c_Book_enoughOn {n : Nat} (hn : 1 ≤ n) {h : xh} {b : Nat} {B : Nat → Int32} (H : Bk h b B) {t k : Nat} (ht : t < 3) (hk : k < 2 ^ 31) {x : Int32} (hx : x = nI k) {Q : Int32 → xh → Prop} (hQ : Q (sEn B t k) h) : xci (xMC n) 67 [.ref b, .int (nI t), .int x] h Q := by
  obtain ⟨n, rfl⟩ := xsucc hn
  subst hx
  have n10 := H.n10
  have inner : ∀ (m : Nat), m < 100 → (k ≤ enN B t m → Q (nI m) h) → (∀ o4 o5 : Option Value, ¬ k ≤ enN B t m → K_Book_enoughOn n Q 2 [some (.ref b), some (.int (nI t)), some (.int (nI k)), some (.int (nI (m + 1))), o4, o5] [] h) → ∀ (d i : Nat), i + d = bN B 0 → K_Book_enoughOn n Q 14 [some (.ref b), some (.int (nI t)), some (.int (nI k)), some (.int (nI m)), some (.int (nI (cnt (fun k => decide (bN B (3 + 5 * k + t) ≤ m)) i))), some (.int (nI i))] [] h := by
    intro m hm q1 q2 d
    induction d with
    | zero =>
      intro i hi
      have : i = bN B 0 := by omega
      subst this
      refine b_Book_enoughOn_14 ⟨H.s, ?_⟩
      rw [H.n]
      have hc := cnt_le (fun k => decide (bN B (3 + 5 * k + t) ≤ m)) (bN B 0)
      rw [nI_ltI (by omega) hk, nI_1]
      exact ⟨fun _ => ⟨fun z => q2 _ _ (by unfold enN; omega), fun z => q1 (by unfold enN; omega)⟩, fun z => absurd (Int32.le_refl _) z⟩
    | succ d ih =>
      intro i hi
      refine b_Book_enoughOn_14 ⟨H.s, ?_⟩
      rw [H.n]
      refine ⟨fun c => absurd c (nI_ge (by omega) (by omega)), fun _ => ⟨_, H.r3, ?_⟩⟩
      rw [show nI i * (3 : Int32) = nI (i * 3) from pk_mul i 3, nI_add]
      refine ⟨H.x3 (by omega), ?_⟩
      have b99 := (H.ok.2.2 i (by omega)).2.2 t ht
      rw [nI_clamp (by omega), H.v3 (by omega) ht, nI_ltI (by omega) (by omega)]
      have ih' := ih (i + 1) (by omega)
      unfold cnt at ih'
      refine ⟨fun z => ?_, fun z => ?_⟩
      · rw [decide_eq_false (by omega), if_neg (by decide)] at ih'
        rw [show ∀ a, nI a + (0 : Int32) = nI (a + 0) from fun a => nI_add a 0, nI_1]
        exact ih'
      · rw [decide_eq_true (by omega), if_pos rfl] at ih'
        rw [nI_1, nI_1]
        exact ih'
  have key : ∀ (d m : Nat), m + d = 100 → Q (fst (fun m => decide (k ≤ enN B t m)) d m) h → ∀ o4 o5 : Option Value, K_Book_enoughOn n Q 2 [some (.ref b), some (.int (nI t)), some (.int (nI k)), some (.int (nI m)), o4, o5] [] h := by
    intro d
    induction d with
    | zero =>
      intro m hm hq o4 o5
      have : m = 100 := by omega
      subst this
      exact b_Book_enoughOn_2 ⟨fun _ => hq, fun z => absurd (Int32.le_refl _) z⟩
    | succ d ih =>
      intro m hm hq o4 o5
      refine b_Book_enoughOn_2 ⟨fun c => absurd c (nI_ge (a := m) (b := 100) (by omega) (by decide)), fun _ => ?_⟩
      unfold fst at hq
      refine inner m (by omega) (fun z => ?_) (fun o4 o5 z => ih (m + 1) (by omega) ?_ o4 o5) (bN B 0) 0 (by omega)
      · rwa [if_pos (decide_eq_true z)] at hq
      · rwa [if_neg (by rw [decide_eq_false z]; decide)] at hq
  exact w_Book_enoughOn (key 100 0 (by omega) hQ _ _)
theorem c_So_isThing {n : Nat} (hn : 1 ≤ n) {h : xh} {p : Int32} {Q : Int32 → xh → Prop} (h1 : ∀ t, t < 3 → p = nI t → Q 1 h) (h0 : (∀ t, t < 3 → ¬ p = nI t) → Q 0 h) : xci (xMC n) 156 [.int p] h Q := by
  obtain ⟨n, rfl⟩ := xsucc hn
  refine w_So_isThing ⟨fun z => h0 (fun t ht e => ?_), fun z => ⟨fun y => h0 (fun t ht e => ?_), fun y => ?_⟩⟩
  · subst e; exact nI_pos (by omega) z
  · subst e; exact nI_ge (a := t) (b := 3) ht (by decide) y
  · obtain ⟨j, hj, e, _⟩ := pk_mu (L := 3) z y (by decide)
    exact h1 j hj e
/-- bring's answer -/
def sBring (B : Nat → Int32) (t k : Int32) : Int32 := if (¬ t < 0 ∧ ¬ 2 < t) ∧ (¬ k < 1 ∧ ¬ nI (bN B 0) < k) then sEn B t.toNatClampNeg k.toNatClampNeg else -1
theorem xbw3 {p : Int32} : (¬ p < 0 ∧ ¬ 2 < p) ↔ ∃ t, t < 3 ∧ p = nI t := by
  constructor
  · intro z
    obtain ⟨j, hj, e⟩ := xbw_of (m := 2) rfl z
    exact ⟨j, by omega, e⟩
  · rintro ⟨t, ht, e⟩
    subst e
    exact ⟨nI_pos (by omega), nI_nlt (a := 2) (b := t) (by omega) (by decide)⟩
theorem lt1 {k : Int32} (h : ¬ k < 1) : ¬ k < 0 := fun z => h (by rw [Int32.lt_iff_toInt_lt] at z ⊢; have e1 : (1 : Int32).toInt = 1 := rfl; have e0 : (0 : Int32).toInt = 0 := rfl; omega)
theorem c_So_bring {n : Nat} (hn : 2 ≤ n) {h : xh} (L : Lay h) {c : Nat} (W : BkC h c) {p t k : Int32} {Q : Int32 → xh → Prop} (h1 : ∀ j, j < c → p = nI j → Q (sBring (mB h j) t k) h) (h0 : (∀ j, j < c → ¬ p = nI j) → Q (-1) h) : xci (xMC n) 184 [.ref 64, .int p, .int t, .int k] h Q := by
  obtain ⟨n, rfl⟩ := xsucc (show 1 ≤ n by omega)
  refine w_So_bring ⟨L.s 64, 65, L.r 64 0 65, L.s 65, c_Told_bookAt (by omega) L W.1 W.2.1 (fun j hj e => ⟨fun a2 ea => ?_, fun z => nomatch z⟩) (fun z => ⟨fun a2 ea => (nomatch ea), fun _ => h0 z⟩)⟩
  cases ea
  have H := W.2.2 j hj
  have hQ := h1 j hj e
  generalize mB h j = B at H hQ
  have n10 := H.n10
  unfold sBring at hQ
  refine c_So_isThing (by omega) (fun t' ht' et => ⟨fun z => absurd z (by decide), fun _ => ⟨fun z => ?_, fun z => ⟨H.s, ?_⟩⟩⟩) (fun z => ⟨fun _ => ?_, fun y => absurd rfl y⟩)
  · rwa [if_neg (fun y => y.2.1 z)] at hQ
  · obtain ⟨i, hi, ei⟩ := nI_of (lt1 z)
    rw [H.n]
    refine ⟨fun y => ?_, fun y => ?_⟩
    · rw [if_pos ⟨xbw3.mpr ⟨t', ht', et⟩, z, Int32.not_lt.mpr y⟩] at hQ
      subst et
      subst ei
      rw [nI_clamp (by omega), nI_clamp hi] at hQ
      exact c_Book_enoughOn (by omega) H ht' hi rfl hQ
    · rwa [if_neg (fun w => w.2.2 (Int32.not_le.mp y))] at hQ
  · rwa [if_neg (fun y => by obtain ⟨t', ht', et⟩ := xbw3.mp y.1; exact z t' ht' et)] at hQ
theorem c_Mo_enoughOn {n : Nat} (hn : 2 ≤ n) {h : xh} {B : Nat → Int32} (M : Mb h B) {t m : Nat} (ht : t < 3) (hm : m < 100) {Q : Int32 → xh → Prop} (hQ : Q (nI (enN B t m)) h) : xci (xMC n) 307 [.ref 166, .int (nI t), .int (nI m)] h Q := by
  obtain ⟨n, rfl⟩ := xsucc (show 1 ≤ n by omega)
  have hs := M.1.s 166 (p := (11, 0))
  have ok := M.2.2
  have n10 := ok.n.2
  have key : ∀ (d i : Nat), i + d = bN B 0 → K_Mo_enoughOn n Q 5 [some (.ref 166), some (.int (nI t)), some (.int (nI m)), some (.int (nI (cnt (fun k => decide (bN B (3 + 5 * k + t) ≤ m)) i))), some (.int (nI i))] [] h := by
    intro d
    induction d with
    | zero =>
      intro i hi
      have : i = bN B 0 := by omega
      subst this
      exact b_Mo_enoughOn_5 ⟨hs, c_Mo_nights (by omega) M ⟨fun _ => hQ, fun z => absurd (Int32.le_refl _) z⟩⟩
    | succ d ih =>
      intro i hi
      refine b_Mo_enoughOn_5 ⟨hs, c_Mo_nights (by omega) M ⟨fun c => absurd c (nI_ge (by omega) (by omega)), fun _ => ⟨hs, c_Mo_nightOf (by omega) M (show i < 10 by omega) (show 2 + t < 5 by omega) rfl (nI_add 2 t) ?_⟩⟩⟩
      have b99 := (ok.2.2 i (by omega)).2.2 t ht
      rw [show 1 + 5 * i + (2 + t) = 3 + 5 * i + t by omega, nI_ltI (by omega) (by omega)]
      have ih' := ih (i + 1) (by omega)
      unfold cnt at ih'
      refine ⟨fun z => ?_, fun z => ?_⟩
      · rw [decide_eq_false (by omega), if_neg (by decide)] at ih'
        rw [show ∀ a, nI a + (0 : Int32) = nI (a + 0) from fun a => nI_add a 0, nI_1]
        exact ih'
      · rw [decide_eq_true (by omega), if_pos rfl] at ih'
        rw [nI_1, nI_1]
        exact ih'
  exact w_Mo_enoughOn (key (bN B 0) 0 (by omega))
theorem en99 {B : Nat → Int32} (ok : BkOK B) {t : Nat} (ht : t < 3) : enN B t 99 = bN B 0 := cnt_all (fun k hk => decide_eq_true ((ok.2.2 k hk).2.2 t ht))
theorem c_Mo_bring {n : Nat} (hn : 4 ≤ n) {h : xh} (L : Lay h) {c : Nat} (W : BkM h c) {p t k : Int32} {Q : Int32 → xh → Prop} (h1 : ∀ j, j < c → p = nI j → ∀ h', Fr PM h h' → Q (sBring (mB h j) t k) h') (h0 : (∀ j, j < c → ¬ p = nI j) → ∀ h', Fr PM h h' → Q (-1) h') : xci (xMC n) 306 [.ref 166, .int p, .int t, .int k] h Q := by
  obtain ⟨n, rfl⟩ := xsucc (show 1 ≤ n by omega)
  have hs := L.s 166 (p := (11, 0))
  have P0 : PM 166 := Or.inl rfl
  refine w_Mo_bring ⟨⟨by decide, hs⟩, b_Mo_bring_5 ⟨hs, c_Mo_hasBook (by omega) (h := xsI h 166 0 0) L (c := c) W (fun j hj e M => ⟨fun z => absurd z (by decide), fun _ => ?_⟩) (fun z => ⟨fun _ => h0 z _ ((Fr.rf.wI P0).wI P0), fun y => absurd rfl y⟩)⟩⟩
  have hQ := h1 j hj e _ ((Fr.rf.wI (h := h) (i := 0) (v := 0) P0).wI (i := 48) (v := p) P0)
  generalize xsI (xsI h 166 0 0) 166 48 p = h' at hQ M ⊢
  have M' : Mb h' (mB h j) := M
  generalize mB h j = B at hQ M'
  have hs' := M'.1.s 166 (p := (11, 0))
  have ok := M'.2.2
  have n10 := ok.n.2
  unfold sBring at hQ
  refine c_Mo_in (by omega) (fun z => ⟨fun y => absurd y (by decide), fun _ => ⟨hs', c_Mo_nights (by omega) M' (c_Mo_in (by omega) (fun y => ⟨fun _ => ?_, fun q => absurd q (by decide)⟩) (fun y => ⟨fun q => absurd rfl q, fun _ => ?_⟩))⟩⟩) (fun z => ⟨fun _ => ?_, fun y => absurd rfl y⟩)
  · rw [if_pos ⟨z, y⟩] at hQ
    obtain ⟨t', ht', et⟩ := xbw3.mp z
    subst et
    obtain ⟨k', hk1, hk2, ek⟩ := xbw1_of (m := bN B 0) (nI_toInt (by omega)) y
    subst ek
    rw [nI_clamp (by omega), nI_clamp (by omega)] at hQ
    have key : ∀ (d m : Nat), m + d = 100 → m ≤ 99 → Q (fst (fun m => decide (k' ≤ enN B t' m)) d m) h' → ∀ o1 : Option Value, K_Mo_bring n Q 39 [some (.ref 166), o1, some (.int (nI t')), some (.int (nI k')), some (.int (nI m))] [] h' := by
      intro d
      induction d with
      | zero => intro m hm hm2; omega
      | succ d ih =>
        intro m hm hm2 hq o1
        refine b_Mo_bring_39 ⟨hs', c_Mo_enoughOn (by omega) M' ht' (by omega) ?_⟩
        have hc : enN B t' m ≤ bN B 0 := cnt_le _ _
        rw [nI_leI (by omega) (by omega)]
        unfold fst at hq
        refine ⟨fun z => ?_, fun z => ?_⟩
        · rwa [if_pos (decide_eq_true z)] at hq
        · rw [if_neg (by rw [decide_eq_false z]; decide)] at hq
          rw [nI_1]
          have : m ≠ 99 := fun e => by
            subst e
            rw [en99 ok ht'] at z
            omega
          exact ih (m + 1) (by omega) (by omega) hq _
    exact key 100 0 (by omega) (by omega) hQ _
  · rwa [if_neg (fun q => y q.2)] at hQ
  · rwa [if_neg (fun q => z q.1)] at hQ
/-- the least and the greatest of the first numbers -/
def lst (f : Nat → Nat) : Nat → Nat
  | 0 => f 0
  | k + 1 => min (lst f k) (f k)
def gst (f : Nat → Nat) : Nat → Nat
  | 0 => f 0
  | k + 1 => max (gst f k) (f k)
theorem lst_le (f : Nat → Nat) : ∀ n k, k < n → lst f n ≤ f k
  | 0, k, h => absurd h (Nat.not_lt_zero k)
  | n + 1, k, h => by
    unfold lst
    by_cases e : k = n
    · subst e; omega
    · have := lst_le f n k (by omega); omega
theorem lst_in (f : Nat → Nat) : ∀ n, ∃ k, k < n + 1 ∧ lst f (n + 1) = f k
  | 0 => ⟨0, by omega, by unfold lst lst; omega⟩
  | n + 1 => by
    obtain ⟨k, hk, e⟩ := lst_in f n
    unfold lst
    by_cases c : lst f (n + 1) ≤ f (n + 1)
    · exact ⟨k, by omega, by omega⟩
    · exact ⟨n + 1, by omega, by omega⟩
theorem gst_ge (f : Nat → Nat) : ∀ n k, k < n → f k ≤ gst f n
  | 0, k, h => absurd h (Nat.not_lt_zero k)
  | n + 1, k, h => by
    unfold gst
    by_cases e : k = n
    · subst e; omega
    · have := gst_ge f n k (by omega); omega
theorem gst_in (f : Nat → Nat) : ∀ n, ∃ k, k < n + 1 ∧ gst f (n + 1) = f k
  | 0 => ⟨0, by omega, by unfold gst gst; omega⟩
  | n + 1 => by
    obtain ⟨k, hk, e⟩ := gst_in f n
    unfold gst
    by_cases c : f (n + 1) ≤ gst f (n + 1)
    · exact ⟨k, by omega, by omega⟩
    · exact ⟨n + 1, by omega, by omega⟩
theorem sEn_l {B : Nat → Int32} (ok : BkOK B) {t : Nat} (ht : t < 3) (h0 : bN B 0 ≠ 0) : sEn B t 1 = nI (lst (fun k => bN B (3 + 5 * k + t)) (bN B 0)) := by
  obtain ⟨m, hm⟩ : ∃ m, bN B 0 = m + 1 := ⟨bN B 0 - 1, by omega⟩
  obtain ⟨k, hk, e⟩ := lst_in (fun k => bN B (3 + 5 * k + t)) m
  rw [← hm] at hk e
  have e2 : lst (fun k => bN B (3 + 5 * k + t)) (bN B 0) = bN B (3 + 5 * k + t) := e
  have b := (ok.2.2 k hk).2.2 t ht
  refine fst_eq (by omega) (by omega) (decide_eq_true ?_) (fun j _ hj => decide_eq_false (fun z => ?_))
  · exact cnt_pos hk (decide_eq_true (by omega))
  · obtain ⟨k2, hk2, e3⟩ := cnt_ex z
    have e4 := of_decide_eq_true e3
    have e5 : lst (fun k => bN B (3 + 5 * k + t)) (bN B 0) ≤ bN B (3 + 5 * k2 + t) := lst_le _ _ k2 hk2
    omega
theorem sEn_g {B : Nat → Int32} (ok : BkOK B) {t : Nat} (ht : t < 3) (h0 : bN B 0 ≠ 0) : sEn B t (bN B 0) = nI (gst (fun k => bN B (3 + 5 * k + t)) (bN B 0)) := by
  obtain ⟨m, hm⟩ : ∃ m, bN B 0 = m + 1 := ⟨bN B 0 - 1, by omega⟩
  obtain ⟨k, hk, e⟩ := gst_in (fun k => bN B (3 + 5 * k + t)) m
  rw [← hm] at hk e
  have e2 : gst (fun k => bN B (3 + 5 * k + t)) (bN B 0) = bN B (3 + 5 * k + t) := e
  have b := (ok.2.2 k hk).2.2 t ht
  refine fst_eq (by omega) (by omega) (decide_eq_true ?_) (fun j _ hj => decide_eq_false (fun z => ?_))
  · have : enN B t (gst (fun k => bN B (3 + 5 * k + t)) (bN B 0)) = bN B 0 := cnt_all (fun k2 hk2 => decide_eq_true (gst_ge (fun k => bN B (3 + 5 * k + t)) _ k2 hk2))
    omega
  · have l := cnt_le (fun k => decide (bN B (3 + 5 * k + t) ≤ j)) (bN B 0)
    have z' : bN B 0 ≤ cnt (fun k => decide (bN B (3 + 5 * k + t) ≤ j)) (bN B 0) := z
    have e4 := of_decide_eq_true (cnt_full (Nat.le_antisymm l z') k hk)
    omega
def sSpan (B : Nat → Int32) (t g : Int32) : Int32 := if (¬ t < 0 ∧ ¬ 2 < t) ∧ bN B 0 ≠ 0 then (if g = 0 then nI (lst (fun k => bN B (3 + 5 * k + t.toNatClampNeg)) (bN B 0)) else nI (gst (fun k => bN B (3 + 5 * k + t.toNatClampNeg)) (bN B 0))) else -1
theorem c_So_span {n : Nat} (hn : 2 ≤ n) {h : xh} (L : Lay h) {c : Nat} (W : BkC h c) {p t g : Int32} {Q : Int32 → xh → Prop} (h1 : ∀ j, j < c → p = nI j → Q (sSpan (mB h j) t g) h) (h0 : (∀ j, j < c → ¬ p = nI j) → Q (-1) h) : xci (xMC n) 185 [.ref 64, .int p, .int t, .int g] h Q := by
  obtain ⟨n, rfl⟩ := xsucc (show 1 ≤ n by omega)
  refine w_So_span ⟨L.s 64, 65, L.r 64 0 65, L.s 65, c_Told_bookAt (by omega) L W.1 W.2.1 (fun j hj e => ⟨fun a2 ea => ?_, fun z => nomatch z⟩) (fun z => ⟨fun a2 ea => (nomatch ea), fun _ => h0 z⟩)⟩
  cases ea
  have H := W.2.2 j hj
  have hQ := h1 j hj e
  generalize mB h j = B at H hQ
  have n10 := H.n10
  unfold sSpan at hQ
  refine c_So_isThing (by omega) (fun t' ht' et => ⟨fun z => absurd z (by decide), fun _ => ⟨H.s, ?_⟩⟩) (fun z => ⟨fun _ => ?_, fun y => absurd rfl y⟩)
  · subst et
    rw [H.n]
    refine ⟨fun z => ?_, fun z => ?_⟩
    · have hz : bN B 0 ≠ 0 := fun y => z (by rw [y]; rfl)
      rw [if_pos ⟨xbw3.mpr ⟨t', ht', rfl⟩, hz⟩, nI_clamp (by omega)] at hQ
      refine ⟨fun y => ?_, fun y => ?_⟩
      · rw [if_pos y, ← sEn_l H.ok ht' hz] at hQ
        exact c_Book_enoughOn (by omega) H ht' (by omega) (k := 1) rfl hQ
      · rw [if_neg y, ← sEn_g H.ok ht' hz] at hQ
        exact c_Book_enoughOn (by omega) H ht' (by omega) rfl hQ
    · have hz : bN B 0 = 0 := (nI_eq (b := 0) (by omega) (by decide)).mp z
      rwa [if_neg (fun y => y.2 hz)] at hQ
  · rwa [if_neg (fun y => by obtain ⟨t', ht', et⟩ := xbw3.mp y.1; exact z t' ht' et)] at hQ
theorem mn_n {a b : Nat} (ha : a < 2 ^ 31) (hb : b < 2 ^ 31) : mn (nI a) (nI b) = nI (min a b) := by
  unfold mn
  by_cases c : b < a
  · rw [if_pos (nI_lt c ha), Nat.min_eq_right (by omega)]
  · rw [if_neg (nI_nlt (by omega) hb), Nat.min_eq_left (by omega)]
theorem mx_n {a b : Nat} (ha : a < 2 ^ 31) (hb : b < 2 ^ 31) : mx (nI a) (nI b) = nI (max a b) := by
  unfold mx
  by_cases c : a < b
  · rw [if_pos (nI_lt c hb), Nat.max_eq_right (by omega)]
  · rw [if_neg (nI_nlt (by omega) ha), Nat.max_eq_left (by omega)]
theorem c_Mo_span {n : Nat} (hn : 4 ≤ n) {h : xh} (L : Lay h) {c : Nat} (W : BkM h c) {p t g : Int32} {Q : Int32 → xh → Prop} (h1 : ∀ j, j < c → p = nI j → ∀ h', Fr PM h h' → Q (sSpan (mB h j) t g) h') (h0 : (∀ j, j < c → ¬ p = nI j) → ∀ h', Fr PM h h' → Q (-1) h') : xci (xMC n) 308 [.ref 166, .int p, .int t, .int g] h Q := by
  obtain ⟨n, rfl⟩ := xsucc (show 1 ≤ n by omega)
  have hs := L.s 166 (p := (11, 0))
  have P0 : PM 166 := Or.inl rfl
  refine w_Mo_span ⟨⟨by decide, hs⟩, b_Mo_span_5 ⟨hs, c_Mo_hasBook (by omega) (h := xsI h 166 0 0) L (c := c) W (fun j hj e M => ⟨fun z => absurd z (by decide), fun _ => ?_⟩) (fun z => ⟨fun _ => h0 z _ ((Fr.rf.wI P0).wI P0), fun y => absurd rfl y⟩)⟩⟩
  have hQ := h1 j hj e _ ((Fr.rf.wI (h := h) (i := 0) (v := 0) P0).wI (i := 48) (v := p) P0)
  generalize xsI (xsI h 166 0 0) 166 48 p = h' at hQ M ⊢
  have M' : Mb h' (mB h j) := M
  generalize mB h j = B at hQ M'
  have hs' := M'.1.s 166 (p := (11, 0))
  have ok := M'.2.2
  have n10 := ok.n.2
  unfold sSpan at hQ
  refine c_Mo_in (by omega) (fun z => ⟨fun y => absurd y (by decide), fun _ => ⟨hs', c_Mo_nights (by omega) M' ⟨fun y => ⟨hs', ?_⟩, fun y => ?_⟩⟩⟩) (fun z => ⟨fun _ => ?_, fun y => absurd rfl y⟩)
  · have hz : bN B 0 ≠ 0 := fun w => y (by rw [w]; rfl)
    rw [if_pos ⟨z, hz⟩] at hQ
    obtain ⟨t', ht', et⟩ := xbw3.mp z
    subst et
    rw [nI_clamp (by omega)] at hQ
    refine c_Mo_nightOf (by omega) M' (show 0 < 10 by omega) (show 2 + t' < 5 by omega) rfl (nI_add 2 t') ?_
    rw [show 1 + 5 * 0 + (2 + t') = 3 + 5 * 0 + t' by omega]
    have val : ∀ k, k < bN B 0 → bN B (3 + 5 * k + t') ≤ 99 := fun k hk => (ok.2.2 k hk).2.2 t' ht'
    by_cases g0 : g = 0
    · rw [if_pos g0] at hQ
      have lb : ∀ i, 1 ≤ i → i ≤ bN B 0 → lst (fun k => bN B (3 + 5 * k + t')) i ≤ 99 := fun i h1 h2 => Nat.le_trans (lst_le _ i 0 (by omega)) (val 0 (by omega))
      have key : ∀ (d i : Nat), i + d = bN B 0 → 1 ≤ i → ∀ o1 o6 : Option Value, K_Mo_span n Q 44 [some (.ref 166), o1, some (.int (nI t')), some (.int g), some (.int (nI (lst (fun k => bN B (3 + 5 * k + t')) i))), some (.int (nI i)), o6] [] h' := by
        intro d
        induction d with
        | zero =>
          intro i hi _ o1 o6
          have : i = bN B 0 := by omega
          subst this
          exact b_Mo_span_44 ⟨hs', c_Mo_nights (by omega) M' ⟨fun _ => hQ, fun z => absurd (Int32.le_refl _) z⟩⟩
        | succ d ih =>
          intro i hi h1i o1 o6
          refine b_Mo_span_44 ⟨hs', c_Mo_nights (by omega) M' ⟨fun c => absurd c (nI_ge (by omega) (by omega)), fun _ => ⟨hs', c_Mo_nightOf (by omega) M' (show i < 10 by omega) (show 2 + t' < 5 by omega) rfl (nI_add 2 t') ⟨fun _ => c_Mo_lesser (by omega) ?_, fun q => absurd g0 q⟩⟩⟩⟩
          have := lb i h1i (by omega)
          have := val i (by omega)
          rw [show 1 + 5 * i + (2 + t') = 3 + 5 * i + t' by omega, mn_n (by omega) (by omega), nI_1]
          exact ih (i + 1) (by omega) (by omega) _ _
      have k1 := key (bN B 0 - 1) 1 (by omega) (by omega) (some (.int p)) none
      have e1 : lst (fun k => bN B (3 + 5 * k + t')) 1 = bN B (3 + 5 * 0 + t') := by unfold lst lst; omega
      rw [e1] at k1
      exact k1
    · rw [if_neg g0] at hQ
      have lb : ∀ i, 1 ≤ i → i ≤ bN B 0 → gst (fun k => bN B (3 + 5 * k + t')) i ≤ 99 := by
        intro i h1 h2
        obtain ⟨m, hm⟩ : ∃ m, i = m + 1 := ⟨i - 1, by omega⟩
        subst hm
        obtain ⟨k, hk, e⟩ := gst_in (fun k => bN B (3 + 5 * k + t')) m
        rw [e]
        exact val k (by omega)
      have key : ∀ (d i : Nat), i + d = bN B 0 → 1 ≤ i → ∀ o1 o6 : Option Value, K_Mo_span n Q 44 [some (.ref 166), o1, some (.int (nI t')), some (.int g), some (.int (nI (gst (fun k => bN B (3 + 5 * k + t')) i))), some (.int (nI i)), o6] [] h' := by
        intro d
        induction d with
        | zero =>
          intro i hi _ o1 o6
          have : i = bN B 0 := by omega
          subst this
          exact b_Mo_span_44 ⟨hs', c_Mo_nights (by omega) M' ⟨fun _ => hQ, fun z => absurd (Int32.le_refl _) z⟩⟩
        | succ d ih =>
          intro i hi h1i o1 o6
          refine b_Mo_span_44 ⟨hs', c_Mo_nights (by omega) M' ⟨fun c => absurd c (nI_ge (by omega) (by omega)), fun _ => ⟨hs', c_Mo_nightOf (by omega) M' (show i < 10 by omega) (show 2 + t' < 5 by omega) rfl (nI_add 2 t') ⟨fun q => absurd q g0, fun _ => c_Mo_greater (by omega) ?_⟩⟩⟩⟩
          have := lb i h1i (by omega)
          have := val i (by omega)
          rw [show 1 + 5 * i + (2 + t') = 3 + 5 * i + t' by omega, mx_n (by omega) (by omega), nI_1]
          exact ih (i + 1) (by omega) (by omega) _ _
      have k1 := key (bN B 0 - 1) 1 (by omega) (by omega) (some (.int p)) none
      have e1 : gst (fun k => bN B (3 + 5 * k + t')) 1 = bN B (3 + 5 * 0 + t') := by unfold gst gst; omega
      rw [e1] at k1
      exact k1
  · have hz : bN B 0 = 0 := (nI_eq (b := 0) (by omega) (by decide)).mp y
    rwa [if_neg (fun q => q.2 hz)] at hQ
  · rwa [if_neg (fun q => z q.1)] at hQ
