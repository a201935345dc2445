/-! ROUTES: minutes of driving, people and feeding by sets, the shortest way home -/
theorem TnOK.hm {T : Nat → Int32} (ok : TnOK T) : (T 0 = nI (bN T 0) ∧ bN T 0 ≤ 9) ∧ (T 1 = nI (bN T 1) ∧ bN T 1 ≤ 9) ∧ (T 3 = nI (bN T 3) ∧ 1 ≤ bN T 3 ∧ bN T 3 ≤ 9) ∧ (T 4 = nI (bN T 4) ∧ bN T 4 ≤ 99) ∧ (T 5 = nI (bN T 5) ∧ 1 ≤ bN T 5 ∧ bN T 5 ≤ 30) := by
  obtain ⟨N, h1, h2, h3, _⟩ := ok
  obtain ⟨a0, a1, a2, a3, a3', a4, a5, a5', a6⟩ := h3
  have e : ∀ i, i < 61 → N i < 2 ^ 31 → T i = nI (bN T i) ∧ bN T i = N i := fun i hi hn => by
    have := h1 i hi
    have b : bN T i = N i := by unfold bN; rw [this, nI_clamp hn]
    exact ⟨by rw [b]; exact this, b⟩
  have e0 := e 0 (by omega) (by omega)
  have e1 := e 1 (by omega) (by omega)
  have e3 := e 3 (by omega) (by omega)
  have e4 := e 4 (by omega) (by omega)
  have e5 := e 5 (by omega) (by omega)
  refine ⟨⟨e0.1, by omega⟩, ⟨e1.1, by omega⟩, ⟨e3.1, by omega, by omega⟩, ⟨e4.1, by omega⟩, ⟨e5.1, by omega, by omega⟩⟩
theorem TnOK.xy {T : Nat → Int32} (ok : TnOK T) {s : Nat} (hs : s < stp T) : (T (16 + s) = nI (bN T (16 + s)) ∧ bN T (16 + s) ≤ 9) ∧ T (25 + s) = nI (bN T (25 + s)) ∧ bN T (25 + s) ≤ 9 := by
  have s9 := stp9 ok
  have s6 := ok.s6.1
  obtain ⟨N, h1, h2, h3, h4, h5⟩ := ok
  have e6 := h1 6 (by omega)
  have n6 : N 6 = stp T := by
    have b : N 6 ≤ 9 := h3.2.2.2.2.2.2.2.2
    exact (nI_eq (by omega) (by omega)).mp (e6.symm.trans s6)
  have q := h4 s (by omega)
  have e3 := h1 (16 + s) (by omega)
  have e4 := h1 (25 + s) (by omega)
  have b3 : bN T (16 + s) = N (16 + s) := by unfold bN; rw [e3, nI_clamp (by omega)]
  have b4 : bN T (25 + s) = N (25 + s) := by unfold bN; rw [e4, nI_clamp (by omega)]
  rw [b3, b4]
  exact ⟨⟨e3, q.2.1⟩, e4, q.2.2.1⟩
def cX (T : Nat → Int32) (a : Nat) : Nat := if a = 9 then bN T 0 else bN T (16 + a)
def cY (T : Nat → Int32) (a : Nat) : Nat := if a = 9 then bN T 1 else bN T (25 + a)
def dr (T : Nat → Int32) (a b : Nat) : Nat := bN T 3 * (adN (cX T a) (cX T b) + adN (cY T a) (cY T b))
/-- HOME (9) or a stop -/
def plc (T : Nat → Int32) (a : Nat) : Prop := a = 9 ∨ a < stp T
def pI (a : Nat) : Int32 := if a = 9 then -1 else nI a
theorem adN_comm (a b : Nat) : adN a b = adN b a := by
  unfold adN
  split <;> split <;> omega
theorem dr_comm (T : Nat → Int32) (a b : Nat) : dr T a b = dr T b a := by
  unfold dr
  rw [adN_comm (cX T a), adN_comm (cY T a)]
theorem pI_9 : pI 9 = -1 := rfl
theorem pI_k {a : Nat} (h : a < 9) : pI a = nI a := if_neg (by omega)
theorem pI_pl {T : Nat → Int32} (ok : TnOK T) {a : Nat} (h : plc T a) : pl T (pI a) := by
  have s9 := stp9 ok
  rcases h with e | e
  · subst e; exact Or.inl rfl
  · rw [pI_k (by omega)]; exact Or.inr ⟨a, e, rfl⟩
theorem cXY {T : Nat → Int32} (ok : TnOK T) {a : Nat} (h : plc T a) : (colT T (pI a) = nI (cX T a) ∧ cX T a ≤ 9) ∧ rowT T (pI a) = nI (cY T a) ∧ cY T a ≤ 9 := by
  have s9 := stp9 ok
  have hm := ok.hm
  rcases h with e | e
  · subst e
    exact ⟨⟨hm.1.1, hm.1.2⟩, hm.2.1.1, hm.2.1.2⟩
  · have q := ok.xy e
    have e1 : cX T a = bN T (16 + a) := if_neg (by omega)
    have e2 : cY T a = bN T (25 + a) := if_neg (by omega)
    rw [pI_k (by omega), colT_k T (by omega), rowT_k T (by omega), e1, e2]
    exact q
theorem dr_le {T : Nat → Int32} (ok : TnOK T) {a b : Nat} (ha : plc T a) (hb : plc T b) : dr T a b ≤ 162 := by
  have hm := ok.hm
  have q1 := cXY ok ha
  have q2 := cXY ok hb
  have x := adN_le q1.1.2 q2.1.2
  have y := adN_le q1.2.2 q2.2.2
  exact Nat.mul_le_mul hm.2.2.1.2.2 (show _ ≤ 18 by omega)
theorem drv_n {T : Nat → Int32} (ok : TnOK T) {a b : Nat} (ha : plc T a) (hb : plc T b) : drv T (pI a) (pI b) = nI (dr T a b) := by
  have hm := ok.hm
  have q1 := cXY ok ha
  have q2 := cXY ok hb
  unfold drv dr
  rw [q1.1.1, q1.2.1, q2.1.1, q2.2.1, apt_n (by omega) (by omega), apt_n (by omega) (by omega), hm.2.2.1.1, nI_add, pk_mul]
theorem dr_99 (T : Nat → Int32) : dr T 9 9 = 0 := by
  unfold dr adN
  rw [if_neg (by omega), if_neg (by omega), Nat.sub_self, Nat.sub_self]; rfl
/-- who comes in the middle, as a number -/
def mdN (T : Nat → Int32) (s : Nat) : Nat := if T (7 + s) = 1 then bN T (43 + s) else if T (7 + s) = 2 then bN T (34 + s) else (bN T (34 + s) + bN T (43 + s)) / 2
theorem mid_n {T : Nat → Int32} (ok : TnOK T) {s : Nat} (hs : s < stp T) : mid T s = nI (mdN T s) ∧ mdN T s ≤ 20 := by
  obtain ⟨elo, ehi, lh, h20⟩ := ok.lh hs
  unfold mid mdN
  by_cases c1 : T (7 + s) = 1
  · rw [if_pos c1, if_pos c1]; exact ⟨ehi, h20⟩
  · rw [if_neg c1, if_neg c1]
    by_cases c2 : T (7 + s) = 2
    · rw [if_pos c2, if_pos c2]; exact ⟨elo, by omega⟩
    · rw [if_neg c2, if_neg c2]
      refine ⟨?_, by omega⟩
      rw [elo, ehi, nI_add]
      exact pk_div (d := 2) (by omega) (by decide) (by decide)
def fdN (T : Nat → Int32) (s : Nat) : Nat := (mdN T s + 1) / 2
def bsm (f : Nat → Nat) (V : Nat) : Nat → Nat
  | 0 => 0
  | k + 1 => bsm f V k + if V.testBit k = true then f k else 0
def pp (T : Nat → Int32) (V : Nat) : Nat := bsm (mdN T) V (stp T)
def ff (T : Nat → Int32) (V : Nat) : Nat := bsm (fdN T) V (stp T)
theorem bsm_or {f : Nat → Nat} {V a : Nat} (h : V.testBit a = false) : ∀ k, bsm f (V ||| 2 ^ a) k = bsm f V k + if a < k then f a else 0
  | 0 => rfl
  | k + 1 => by
    unfold bsm
    rw [bsm_or h k, or_bit]
    by_cases e : a = k
    · subst e
      rw [h]
      simp
    · have : (V.testBit k || decide (a = k)) = V.testBit k := by simp [e]
      rw [this]
      split <;> split <;> split <;> omega
theorem bsm_0 (f : Nat → Nat) : ∀ k, bsm f 0 k = 0
  | 0 => rfl
  | k + 1 => by unfold bsm; rw [bsm_0 f k, Nat.zero_testBit]; rfl
theorem bsm_le {f : Nat → Nat} {V m : Nat} : ∀ k, (∀ j, j < k → f j ≤ m) → bsm f V k ≤ m * k
  | 0, _ => Nat.le_refl _
  | k + 1, h => by
    have := bsm_le (V := V) k (fun j hj => h j (by omega))
    have := h k (by omega)
    unfold bsm
    rw [Nat.mul_succ]
    split <;> omega
theorem pp_le {T : Nat → Int32} (ok : TnOK T) (V : Nat) : pp T V ≤ 180 := by
  have s9 := stp9 ok
  have := bsm_le (f := mdN T) (V := V) (m := 20) (stp T) (fun j hj => (mid_n ok hj).2)
  unfold pp
  omega
theorem ff_le {T : Nat → Int32} (ok : TnOK T) (V : Nat) : ff T V ≤ 90 := by
  have s9 := stp9 ok
  have := bsm_le (f := fdN T) (V := V) (m := 10) (stp T) (fun j hj => by have := (mid_n ok hj).2; unfold fdN; omega)
  unfold ff
  omega
theorem pp_or {T : Nat → Int32} {V k : Nat} (h : V.testBit k = false) (hk : k < stp T) : pp T (V ||| 2 ^ k) = pp T V + mdN T k := by
  have := bsm_or (f := mdN T) h (stp T)
  rwa [if_pos hk] at this
theorem ff_or {T : Nat → Int32} {V k : Nat} (h : V.testBit k = false) (hk : k < stp T) : ff T (V ||| 2 ^ k) = ff T V + fdN T k := by
  have := bsm_or (f := fdN T) h (stp T)
  rwa [if_pos hk] at this
/-- the least of driving on to one of a set -/
def tmR (T : Nat → Int32) (c : Nat → Nat → Nat) (V a k : Nat) : Nat := dr T a k + c (sdf V (2 ^ k)) k
def tgk (T : Nat → Int32) (c : Nat → Nat → Nat) (V a : Nat) : Nat → Nat
  | 0 => 1000000
  | k + 1 => if V.testBit k = true then min (tgk T c V a k) (tmR T c V a k) else tgk T c V a k
/-- the shortest way home from a by all of V, which are d -/
def tg (T : Nat → Int32) : Nat → Nat → Nat → Nat
  | 0 => fun _ a => dr T a 9
  | d + 1 => fun V a => tgk T (tg T d) V a (stp T)
theorem tg_s (T : Nat → Int32) (d V a : Nat) : tg T (d + 1) V a = tgk T (tg T d) V a (stp T) := rfl
theorem tgk_far (T : Nat → Int32) (c : Nat → Nat → Nat) (V a : Nat) : ∀ n, tgk T c V a n ≤ 1000000
  | 0 => Nat.le_refl _
  | n + 1 => by
    have := tgk_far T c V a n
    unfold tgk
    split <;> omega
theorem tgk_le {T : Nat → Int32} {c : Nat → Nat → Nat} {V a k : Nat} (hb : V.testBit k = true) : ∀ {n : Nat}, k < n → tgk T c V a n ≤ tmR T c V a k
  | 0, h => absurd h (Nat.not_lt_zero k)
  | n + 1, h => by
    unfold tgk
    by_cases e : k = n
    · subst e; rw [if_pos hb]; omega
    · have := tgk_le (T := T) (c := c) (a := a) hb (n := n) (by omega)
      split <;> omega
theorem tgk_at {T : Nat → Int32} {c : Nat → Nat → Nat} {V a : Nat} : ∀ n, tgk T c V a n = 1000000 ∨ ∃ k, k < n ∧ V.testBit k = true ∧ tmR T c V a k = tgk T c V a n
  | 0 => Or.inl rfl
  | n + 1 => by
    have ih := tgk_at (T := T) (c := c) (V := V) (a := a) n
    unfold tgk
    by_cases b : V.testBit n = true
    · rw [if_pos b]
      by_cases l : tmR T c V a n ≤ tgk T c V a n
      · exact Or.inr ⟨n, by omega, b, by omega⟩
      · rw [Nat.min_eq_left (by omega)]
        rcases ih with e | ⟨k, hk, h1, h2⟩
        · exact Or.inl e
        · exact Or.inr ⟨k, by omega, h1, h2⟩
    · rw [if_neg b]
      rcases ih with e | ⟨k, hk, h1, h2⟩
      · exact Or.inl e
      · exact Or.inr ⟨k, by omega, h1, h2⟩
theorem tg_b {T : Nat → Int32} (ok : TnOK T) : ∀ (d V a : Nat), V < 2 ^ stp T → pcn 9 V = d → plc T a → tg T d V a ≤ 162 * (d + 1)
  | 0, _, a, _, _, ha => by
    have := dr_le ok ha (Or.inl rfl)
    show dr T a 9 ≤ _
    omega
  | d + 1, V, a, hV, hp, ha => by
    have s9 := stp9 ok
    have h0 : V ≠ 0 := fun e => by subst e; have : pcn 9 0 = 0 := by decide
                                   omega
    obtain ⟨k, hk, hb⟩ := bit_ex hV h0
    have r := pcn_rm hb (by omega)
    have ih := tg_b ok d (sdf V (2 ^ k)) k (sdf_lt hV) (by omega) (Or.inr hk)
    have l := tgk_le (T := T) (c := tg T d) (a := a) hb hk
    have w := dr_le ok ha (Or.inr hk)
    rw [tg_s]
    unfold tmR at l
    omega
theorem tg_ex {T : Nat → Int32} (ok : TnOK T) {d V a : Nat} (hV : V < 2 ^ stp T) (hp : pcn 9 V = d + 1) (ha : plc T a) : ∃ k, k < stp T ∧ V.testBit k = true ∧ tmR T (tg T d) V a k = tg T (d + 1) V a := by
  have b := tg_b ok (d + 1) V a hV hp ha
  have p9 := pcn_le 9 V
  rw [tg_s] at b ⊢
  rcases tgk_at (T := T) (c := tg T d) (V := V) (a := a) (stp T) with e | e
  · omega
  · exact e
def pR (T : Nat → Int32) (d V a k : Nat) : Bool := V.testBit k && decide (tmR T (tg T d) V a k = tg T (d + 1) V a)
/-- the round: what is left, and where she is -/
def rq (T : Nat → Int32) : Nat → Nat × Nat
  | 0 => (2 ^ stp T - 1, 9)
  | i + 1 => (sdf (rq T i).1 (2 ^ fsx (pR T (stp T - (i + 1)) (rq T i).1 (rq T i).2) (stp T) 0), fsx (pR T (stp T - (i + 1)) (rq T i).1 (rq T i).2) (stp T) 0)
def rk (T : Nat → Int32) (i : Nat) : Nat := fsx (pR T (stp T - (i + 1)) (rq T i).1 (rq T i).2) (stp T) 0
theorem rq_s (T : Nat → Int32) (i : Nat) : rq T (i + 1) = (sdf (rq T i).1 (2 ^ rk T i), rk T i) := rfl
theorem pR_ex {T : Nat → Int32} (ok : TnOK T) {d V a : Nat} (hV : V < 2 ^ stp T) (hp : pcn 9 V = d + 1) (ha : plc T a) : fsx (pR T d V a) (stp T) 0 < stp T ∧ V.testBit (fsx (pR T d V a) (stp T) 0) = true ∧ pR T d V a (fsx (pR T d V a) (stp T) 0) = true := by
  obtain ⟨k, hk, hb, e⟩ := tg_ex ok hV hp ha
  have pk : pR T d V a k = true := by unfold pR; rw [hb, decide_eq_true e]; rfl
  obtain ⟨h1, h2⟩ := fsx_sp (p := pR T d V a) (d := stp T) (i := 0) (by omega) (by omega) pk
  refine ⟨by omega, ?_, h2⟩
  unfold pR at h2
  simp only [Bool.and_eq_true] at h2
  exact h2.1
theorem pcn_f9 : ∀ H, H ≤ 9 → pcn 9 (2 ^ H - 1) = H := by decide
theorem rq_p {T : Nat → Int32} (ok : TnOK T) : ∀ i, i ≤ stp T → (rq T i).1 < 2 ^ stp T ∧ pcn 9 (rq T i).1 = stp T - i ∧ plc T (rq T i).2
  | 0, _ => by
    have o := stp9 ok
    refine ⟨?_, ?_, Or.inl rfl⟩
    · show 2 ^ stp T - 1 < 2 ^ stp T
      have := Nat.two_pow_pos (stp T)
      omega
    · show pcn 9 (2 ^ stp T - 1) = stp T - 0
      rw [pcn_f9 _ (by omega)]; rfl
  | i + 1, h => by
    have o := stp9 ok
    obtain ⟨h1, h2, h3⟩ := rq_p ok i (by omega)
    obtain ⟨e1, e2, _⟩ := pR_ex ok (d := stp T - (i + 1)) h1 (by omega) h3
    rw [rq_s]
    have r := pcn_rm (a := rk T i) e2 (by have : rk T i < stp T := e1; omega)
    refine ⟨sdf_lt h1, ?_, Or.inr e1⟩
    show pcn 9 (sdf (rq T i).1 (2 ^ rk T i)) = _
    omega
theorem rk_p {T : Nat → Int32} (ok : TnOK T) {i : Nat} (hi : i < stp T) : rk T i < stp T ∧ (rq T i).1.testBit (rk T i) = true ∧ tmR T (tg T (stp T - (i + 1))) (rq T i).1 (rq T i).2 (rk T i) = tg T (stp T - i) (rq T i).1 (rq T i).2 := by
  obtain ⟨h1, h2, h3⟩ := rq_p ok i (by omega)
  obtain ⟨e1, e2, e3⟩ := pR_ex ok (d := stp T - (i + 1)) h1 (by omega) h3
  refine ⟨e1, e2, ?_⟩
  have e4 : pR T (stp T - (i + 1)) (rq T i).1 (rq T i).2 (rk T i) = true := e3
  unfold pR at e4
  simp only [Bool.and_eq_true] at e4
  have := of_decide_eq_true e4.2
  rwa [show stp T - (i + 1) + 1 = stp T - i by omega] at this
