/-! TOKENS of a text: bytes B (0 .. 255), length len; a token is known by its start -/
def sB (k : Nat) : Int32 := (nI k).toInt8.toInt32
theorem sB_t : ∀ k, k < 256 → ((sB k = 32 ↔ k = 32) ∧ (sB k = 10 ↔ k = 10) ∧ (sB k = 59 ↔ k = 59)) ∧ ((sB k < 97 ∨ 122 < sB k) ↔ ¬ (97 ≤ k ∧ k ≤ 122)) ∧ ((sB k < 48 ∨ 57 < sB k) ↔ ¬ (48 ≤ k ∧ k ≤ 57)) ∧ (k < 128 → sB k = nI k) ∧ sB k &&& 255 = nI k := by decide +kernel
def isL (k : Nat) : Bool := decide (97 ≤ k ∧ k ≤ 122)
def isD (k : Nat) : Bool := decide (48 ≤ k ∧ k ≤ 57)
def isB (k : Nat) : Bool := decide (k = 32 ∨ k = 10)
def tS (B : Nat → Nat) (len a : Nat) : Nat := fsx (fun j => !isB (B j)) (len - a) a
def tE (B : Nat → Nat) (len s : Nat) : Nat := if len ≤ s then s else if isL (B s) = true then fsx (fun j => !isL (B j)) (len - s) s else if isD (B s) = true then fsx (fun j => !isD (B j)) (len - s) s else s + 1
/-- 0 the end, 1 a word, 2 a number, 3 a semicolon, 4 wrong -/
def kd (B : Nat → Nat) (len s : Nat) : Nat := if len ≤ s then 0 else if isL (B s) = true then 1 else if isD (B s) = true then (if tE B len s - s ≤ 2 then 2 else 4) else if B s = 59 then 3 else 4
def vl (B : Nat → Nat) (len s : Nat) : Nat := if tE B len s - s ≤ 1 then B s - 48 else 10 * (B s - 48) + (B (s + 1) - 48)
def nxt (B : Nat → Nat) (len s : Nat) : Nat := tS B len (tE B len s)
theorem fsx_le2 {p : Nat → Bool} {d i m : Nat} (h : i + d = m) : i ≤ fsx p d i ∧ fsx p d i ≤ m := by
  have := fsx_le p d i
  omega
theorem tS_b {B : Nat → Nat} {len a : Nat} (h : a ≤ len) : a ≤ tS B len a ∧ tS B len a ≤ len := fsx_le2 (by omega)
theorem fsx_gt {p : Nat → Bool} {d i : Nat} (h : p i = false) (hd : 0 < d) : i + 1 ≤ fsx p d i := by
  obtain ⟨d, rfl⟩ : ∃ e, d = e + 1 := ⟨d - 1, by omega⟩
  unfold fsx
  rw [if_neg (by rw [h]; decide)]
  exact (fsx_le p d (i + 1)).1
theorem tE_b {B : Nat → Nat} {len s : Nat} (h : s ≤ len) : s ≤ tE B len s ∧ tE B len s ≤ len ∧ (s < len → s < tE B len s) := by
  unfold tE
  by_cases c : len ≤ s
  · rw [if_pos c]; omega
  · rw [if_neg c]
    by_cases c1 : isL (B s) = true
    · rw [if_pos c1]
      have := fsx_le2 (p := fun j => !isL (B j)) (show s + (len - s) = len by omega)
      have := fsx_gt (p := fun j => !isL (B j)) (d := len - s) (i := s) (by rw [c1]; rfl) (by omega)
      omega
    · rw [if_neg c1]
      by_cases c2 : isD (B s) = true
      · rw [if_pos c2]
        have := fsx_le2 (p := fun j => !isD (B j)) (show s + (len - s) = len by omega)
        have := fsx_gt (p := fun j => !isD (B j)) (d := len - s) (i := s) (by rw [c2]; rfl) (by omega)
        omega
      · rw [if_neg c2]; omega
theorem nxt_b {B : Nat → Nat} {len s : Nat} (h : s ≤ len) : nxt B len s ≤ len ∧ (s < len → s < nxt B len s) := by
  have e := tE_b (B := B) h
  have t := tS_b (B := B) e.2.1
  unfold nxt
  omega
theorem kd_lt {B : Nat → Nat} {len s : Nat} (h : kd B len s ≠ 0) : s < len := by
  unfold kd at h
  by_cases c : len ≤ s
  · rw [if_pos c] at h; exact absurd rfl h
  · omega
theorem kd_5 (B : Nat → Nat) (len s : Nat) : kd B len s ≤ 4 := by
  unfold kd
  split
  · omega
  · split
    · omega
    · split
      · split <;> omega
      · split <;> omega
theorem vl_99 {B : Nat → Nat} {len s : Nat} (h : kd B len s = 2) : vl B len s ≤ 99 := by
  unfold kd at h
  by_cases c : len ≤ s
  · rw [if_pos c] at h; exact absurd h (by decide)
  · rw [if_neg c] at h
    by_cases c1 : isL (B s) = true
    · rw [if_pos c1] at h; exact absurd h (by decide)
    · rw [if_neg c1] at h
      by_cases c2 : isD (B s) = true
      · have d1 := of_decide_eq_true c2
        unfold vl
        by_cases c3 : tE B len s - s ≤ 1
        · rw [if_pos c3]; omega
        · rw [if_neg c3]
          have e : tE B len s = fsx (fun j => !isD (B j)) (len - s) s := by
            unfold tE
            rw [if_neg c, if_neg c1, if_pos c2]
          have q := fsx_b (p := fun j => !isD (B j)) (d := len - s) (i := s) (j := s + 1) (by omega) (by omega)
          have q' : isD (B (s + 1)) = true := by
            cases z : isD (B (s + 1))
            · simp [z] at q
            · rfl
          have d2 := of_decide_eq_true q'
          omega
      · rw [if_neg c2] at h
        split at h <;> exact absurd h (by decide)
/-- the tape of the class holds B; the reader stands at the token at s -/
def TpC (h : xh) (B : Nat → Nat) : Prop := ∀ i, i < 600 → xI h 66 i = sB (B i) ∧ B i < 256
def CTk (h : xh) (B : Nat → Nat) (len s : Nat) : Prop := xI h 117 1 = nI len ∧ xI h 117 4 = nI s ∧ xI h 117 2 = nI (tE B len s) ∧ xI h 117 3 = nI (kd B len s) ∧ (kd B len s = 2 → xI h 117 5 = nI (vl B len s))
def P117 (c : Nat) : Prop := c = 117
def Fa (h g : xh) : Prop := Fr P117 h g ∧ ∀ i, (i < 2 ∨ 5 < i) → xI g 117 i = xI h 117 i
theorem Fa.rf {h : xh} : Fa h h := ⟨Fr.rf, fun _ _ => rfl⟩
theorem Fa.tr {a b c : xh} (f : Fa a b) (g : Fa b c) : Fa a c := ⟨f.1.tr g.1, fun i hi => (g.2 i hi).trans (f.2 i hi)⟩
theorem Fa.w {h g : xh} (f : Fa h g) {i : Nat} {v : Int32} (hi : 2 ≤ i := by decide) (h5 : i ≤ 5 := by decide) : Fa h (xsI g 117 i v) := ⟨f.1.wI rfl, fun j hj => by rw [upI_o _ _ _ _ (by omega)]; exact f.2 j hj⟩
theorem Fa.tp {h g : xh} (f : Fa h g) {B : Nat → Nat} (T : TpC h B) : TpC g B := fun i hi => by
  rw [f.1.i 66 (fun z => by unfold P117 at z; omega)]; exact T i hi
theorem c_Reader_isLetter {n : Nat} (hn : 1 ≤ n) {h : xh} {k : Nat} (hk : k < 256) {Q : Int32 → xh → Prop} (hQ : Q (if isL k = true then 1 else 0) h) : xci (xMC n) 130 [.int (sB k)] h Q := by
  obtain ⟨n, rfl⟩ := xsucc hn
  have t := (sB_t k hk).2.1
  unfold isL at hQ
  refine w_Reader_isLetter ⟨fun z => ?_, fun z => ⟨fun y => ?_, fun y => ?_⟩⟩
  · rw [decide_eq_false (t.mp (Or.inl z))] at hQ; exact hQ
  · rw [decide_eq_false (t.mp (Or.inr y))] at hQ; exact hQ
  · have q : 97 ≤ k ∧ k ≤ 122 := Classical.byContradiction (fun q => by
      rcases t.mpr q with w | w
      · exact z w
      · exact y w)
    rw [decide_eq_true q, if_pos rfl] at hQ; exact hQ
theorem c_Reader_isDigit {n : Nat} (hn : 1 ≤ n) {h : xh} {k : Nat} (hk : k < 256) {Q : Int32 → xh → Prop} (hQ : Q (if isD k = true then 1 else 0) h) : xci (xMC n) 131 [.int (sB k)] h Q := by
  obtain ⟨n, rfl⟩ := xsucc hn
  have t := (sB_t k hk).2.2.1
  unfold isD at hQ
  refine w_Reader_isDigit ⟨fun z => ?_, fun z => ⟨fun y => ?_, fun y => ?_⟩⟩
  · rw [decide_eq_false (t.mp (Or.inl z))] at hQ; exact hQ
  · rw [decide_eq_false (t.mp (Or.inr y))] at hQ; exact hQ
  · have q : 48 ≤ k ∧ k ≤ 57 := Classical.byContradiction (fun q => by
      rcases t.mpr q with w | w
      · exact z w
      · exact y w)
    rw [decide_eq_true q, if_pos rfl] at hQ; exact hQ
theorem not_f {p : Bool} (h : ¬ (!p) = true) : p = true := by cases p <;> first | rfl | exact absurd rfl h
theorem fsx_1 {p : Nat → Bool} {d i x : Nat} (h : fsx p (d + 1) i = x) : (p i = true → x = i) ∧ (p i = false → fsx p d (i + 1) = x) := by
  unfold fsx at h
  refine ⟨fun z => ?_, fun z => ?_⟩
  · rw [if_pos z] at h; exact h.symm
  · rw [if_neg (by rw [z]; decide)] at h; exact h
theorem c_Reader_readDigits {n : Nat} (hn : 2 ≤ n) {h : xh} (L : Lay h) {B : Nat → Nat} (T : TpC h B) {len s : Nat} (l6 : len ≤ 600) (hs : s < len) (hl : isL (B s) = false) (hd : isD (B s) = true) (e1 : xI h 117 1 = nI len) (e4 : xI h 117 4 = nI s) (e2 : xI h 117 2 = nI s) {Q : xh → Prop} (hQ : ∀ g, Fa h g → CTk g B len s → Q g) : xcv (xMC n) 132 [.ref 117] h Q := by
  obtain ⟨n, rfl⟩ := xsucc (show 1 ≤ n by omega)
  have eE : tE B len s = fsx (fun j => !isD (B j)) (len - s) s := by
    unfold tE
    rw [if_neg (by omega), if_neg (by rw [hl]; decide), if_pos hd]
  have ek : kd B len s = if tE B len s - s ≤ 2 then 2 else 4 := by
    unfold kd
    rw [if_neg (by omega), if_neg (by rw [hl]; decide), if_pos hd]
  obtain ⟨b1, b2, b3⟩ := tE_b (B := B) (len := len) (s := s) (by omega)
  have fin : ∀ g, Fa h g → xI g 117 1 = nI len → xI g 117 4 = nI s → xI g 117 2 = nI (tE B len s) → (tE B len s - s ≤ 2 → xI g 117 5 = nI (vl B len s)) → K_Reader_readDigits n Q 68 [some (.ref 117)] [] g := fun g F q1 q4 q2 q5 => by
    have Lg := F.1.lay L
    refine b_Reader_readDigits_68 ⟨Lg.s 117, ?_⟩
    rw [q2, q4, pk_sub b1, show (nI (tE B len s - s) ≤ (2 : Int32)) = (tE B len s - s ≤ 2) from propext (nI_leI (b := 2) (by omega) (by decide))]
    refine ⟨fun z => ⟨⟨by decide, Lg.s 117⟩, hQ _ F.w ⟨?_, ?_, ?_, ?_, fun _ => ?_⟩⟩, fun z => ⟨⟨by decide, Lg.s 117⟩, hQ _ F.w ⟨?_, ?_, ?_, ?_, fun w => ?_⟩⟩⟩
    · rw [upI_o _ _ _ _ (by decide)]; exact q1
    · rw [upI_o _ _ _ _ (by decide)]; exact q4
    · rw [upI_o _ _ _ _ (by decide)]; exact q2
    · rw [upI_s, ek, if_pos z]; rfl
    · rw [upI_o _ _ _ _ (by decide)]; exact q5 z
    · rw [upI_o _ _ _ _ (by decide)]; exact q1
    · rw [upI_o _ _ _ _ (by decide)]; exact q4
    · rw [upI_o _ _ _ _ (by decide)]; exact q2
    · rw [upI_s, ek, if_neg z]; rfl
    · rw [ek, if_neg z] at w; exact absurd w (by decide)
  have key : ∀ d i, i + d = len → s ≤ i → fsx (fun j => !isD (B j)) d i = tE B len s → ∀ g, Fa h g → xI g 117 1 = nI len → xI g 117 4 = nI s → xI g 117 2 = nI i → ((i = s → xI g 117 5 = 0) ∧ (i = s + 1 → xI g 117 5 = nI (B s - 48)) ∧ (i = s + 2 → xI g 117 5 = nI (10 * (B s - 48) + (B (s + 1) - 48)))) → (∀ j, s ≤ j → j < i → isD (B j) = true) → K_Reader_readDigits n Q 5 [some (.ref 117)] [] g := by
    intro d
    induction d with
    | zero =>
      intro i hi si ej g F q1 q4 q2 q5 al
      have ej' : i = tE B len s := ej
      have Lg := F.1.lay L
      refine b_Reader_readDigits_5 ⟨Lg.s 117, ?_⟩
      rw [q1, q2]
      refine ⟨fun _ => fin g F q1 q4 (by rw [← ej']; exact q2) (fun z => ?_), fun z => absurd (nI_le (by omega) (by omega)) z⟩
      have := b3 hs
      unfold vl
      by_cases c : tE B len s - s ≤ 1
      · rw [if_pos c]; exact q5.2.1 (by omega)
      · rw [if_neg c]; exact q5.2.2 (by omega)
    | succ d ih =>
      intro i hi si ej g F q1 q4 q2 q5 al
      have Lg := F.1.lay L
      have Tg := F.tp T
      obtain ⟨f1, f2⟩ := fsx_1 ej
      have ti := Tg i (by omega)
      refine b_Reader_readDigits_5 ⟨Lg.s 117, ?_⟩
      rw [q1, q2, nI_clamp (by omega)]
      refine ⟨fun z => absurd z (nI_ge (by omega) (by omega)), fun _ => ⟨66, Lg.r 117 0 66, Lg.x 66 (n := 600) (by omega), ?_⟩⟩
      rw [ti.1]
      refine c_Reader_isDigit (by omega) ti.2 ?_
      cases c : isD (B i)
      · have ei := f1 (by rw [c]; rfl)
        refine ⟨fun _ => fin g F q1 q4 (by rw [ei]; exact q2) (fun z => ?_), fun z => absurd rfl z⟩
        have := b3 hs
        unfold vl
        by_cases c : tE B len s - s ≤ 1
        · rw [if_pos c]; exact q5.2.1 (by omega)
        · rw [if_neg c]; exact q5.2.2 (by omega)
      · refine ⟨fun z => absurd z (by decide), fun _ => ⟨Lg.s 117, 66, Lg.r 117 0 66, ?_⟩⟩
        rw [q2, nI_clamp (by omega), ti.1]
        refine ⟨Lg.x 66 (n := 600) (by omega), ⟨by decide, Lg.s 117⟩, ?_⟩
        have d1 := of_decide_eq_true c
        have eb : sB (B i) = nI (B i) := (sB_t _ ti.2).2.2.2.1 (by omega)
        have F1 : Fa h (xsI g 117 5 (xI g 117 5 * 10 + sB (B i) - 48)) := F.w
        have L1 := F1.1.lay L
        refine b_Reader_readDigits_55 ⟨L1.s 117, ⟨by decide, L1.s 117⟩, ?_⟩
        rw [upI_o _ _ _ _ (by decide), q2, nI_1]
        refine ih (i + 1) (by omega) (by omega) (f2 (by rw [c]; rfl)) _ F1.w ?_ ?_ (upI_s _ _ _ _) ⟨fun z => by omega, fun z => ?_, fun z => ?_⟩ (fun j h1 h2 => ?_)
        · rw [upI_o _ _ _ _ (by decide), upI_o _ _ _ _ (by decide)]; exact q1
        · rw [upI_o _ _ _ _ (by decide), upI_o _ _ _ _ (by decide)]; exact q4
        · have : i = s := by omega
          subst this
          rw [upI_o _ _ _ _ (by decide), upI_s, q5.1 rfl, eb, show (0 : Int32) * 10 = 0 from by decide, Int32.zero_add]
          exact pk_sub (b := 48) (by omega)
        · have : i = s + 1 := by omega
          subst this
          have d0 := of_decide_eq_true hd
          rw [upI_o _ _ _ _ (by decide), upI_s, q5.2.1 rfl, eb, show nI (B s - 48) * (10 : Int32) = nI ((B s - 48) * 10) from pk_mul _ 10, nI_add, show ∀ a, nI a - (48 : Int32) = nI a - nI 48 from fun _ => rfl, pk_sub (by omega)]
          congr 1
          omega
        · by_cases e : j = i
          · subst e; exact c
          · exact al j h1 (by omega)
  refine w_Reader_readDigits ⟨⟨by decide, L.s 117⟩, key (len - s) s (by omega) (by omega) eE.symm _ Fa.rf.w ?_ ?_ ?_ ⟨fun _ => upI_s _ _ _ _, fun z => by omega, fun z => by omega⟩ (fun j h1 h2 => by omega)⟩
  · rw [upI_o _ _ _ _ (by decide)]; exact e1
  · rw [upI_o _ _ _ _ (by decide)]; exact e4
  · rw [upI_o _ _ _ _ (by decide)]; exact e2
theorem c_Reader_advance {n : Nat} (hn : 3 ≤ n) {h : xh} (L : Lay h) {B : Nat → Nat} (T : TpC h B) {len a : Nat} (l6 : len ≤ 600) (ha : a ≤ len) (e1 : xI h 117 1 = nI len) (e2 : xI h 117 2 = nI a) {Q : xh → Prop} (hQ : ∀ g, Fa h g → CTk g B len (tS B len a) → Q g) : xcv (xMC n) 129 [.ref 117] h Q := by
  obtain ⟨n, rfl⟩ := xsucc (show 1 ≤ n by omega)
  obtain ⟨a1, a2⟩ := tS_b (B := B) ha
  generalize hs : tS B len a = s at a1 a2 hQ
  have body : ∀ g, Fa h g → xI g 117 1 = nI len → xI g 117 4 = nI s → K_Reader_advance n Q 60 [some (.ref 117)] [] g := fun g F q1 q4 => by
    have Lg := F.1.lay L
    have F1 : Fa h (xsI g 117 2 (nI s)) := F.w
    have L1 := F1.1.lay L
    have T1 := F1.tp T
    refine b_Reader_advance_60 ⟨Lg.s 117, ⟨by decide, Lg.s 117⟩, ?_⟩
    rw [q4]
    have r1 : xI (xsI g 117 2 (nI s)) 117 1 = nI len := by rw [upI_o _ _ _ _ (by decide)]; exact q1
    have r4 : xI (xsI g 117 2 (nI s)) 117 4 = nI s := by rw [upI_o _ _ _ _ (by decide)]; exact q4
    have r2 : xI (xsI g 117 2 (nI s)) 117 2 = nI s := upI_s _ _ _ _
    generalize xsI g 117 2 (nI s) = g1 at F1 L1 T1 r1 r4 r2 ⊢
    refine b_Reader_advance_68 ⟨L1.s 117, ?_⟩
    rw [r1, r2, nI_clamp (by omega), nI_ltI (by omega) (by omega)]
    refine ⟨fun sl => ⟨66, L1.r 117 0 66, L1.x 66 (n := 600) (by omega), ?_⟩, fun sl => ⟨⟨by decide, L1.s 117⟩, hQ _ F1.w ⟨?_, ?_, ?_, ?_, fun w => ?_⟩⟩⟩
    · have ti := T1 s (by omega)
      rw [ti.1]
      refine c_Reader_isLetter (by omega) ti.2 ?_
      cases cl : isL (B s)
      · refine ⟨fun _ => ⟨L1.s 117, 66, L1.r 117 0 66, ?_⟩, fun z => absurd rfl z⟩
        rw [r2, nI_clamp (by omega), ti.1]
        refine ⟨L1.x 66 (n := 600) (by omega), c_Reader_isDigit (by omega) ti.2 ?_⟩
        cases cd : isD (B s)
        · refine ⟨fun _ => ⟨L1.s 117, 66, L1.r 117 0 66, ?_⟩, fun z => absurd rfl z⟩
          rw [r2, nI_clamp (by omega), ti.1]
          have eE : tE B len s = s + 1 := by
            unfold tE
            rw [if_neg (by omega), if_neg (by rw [cl]; decide), if_neg (by rw [cd]; decide)]
          have ek : kd B len s = if B s = 59 then 3 else 4 := by
            unfold kd
            rw [if_neg (by omega), if_neg (by rw [cl]; decide), if_neg (by rw [cd]; decide)]
          have k2 : kd B len s ≠ 2 := by rw [ek]; split <;> decide
          have nx : ∀ v : Nat, v = kd B len s → K_Reader_advance n Q 191 [some (.ref 117)] [] (xsI g1 117 3 (nI v)) := fun v hv => by
            have F2 : Fa h (xsI g1 117 3 (nI v)) := F1.w
            have L2 := F2.1.lay L
            refine b_Reader_advance_191 ⟨L2.s 117, ⟨by decide, L2.s 117⟩, hQ _ F2.w ⟨?_, ?_, ?_, ?_, fun w => absurd w k2⟩⟩
            · rw [upI_o _ _ _ _ (by decide), upI_o _ _ _ _ (by decide)]; exact r1
            · rw [upI_o _ _ _ _ (by decide), upI_o _ _ _ _ (by decide)]; exact r4
            · rw [upI_s, upI_o _ _ _ _ (by decide), r2, nI_1, eE]
            · rw [upI_o _ _ _ _ (by decide), upI_s, hv]
          refine ⟨L1.x 66 (n := 600) (by omega), fun z => ⟨⟨by decide, L1.s 117⟩, nx 4 ?_⟩, fun z => ⟨⟨by decide, L1.s 117⟩, nx 3 ?_⟩⟩
          · rw [ek, if_neg (fun y => z ((sB_t _ ti.2).1.2.2.mpr y))]
          · rw [ek, if_pos ((sB_t _ ti.2).1.2.2.mp z)]
        · exact ⟨fun z => absurd z (by decide), fun _ => ⟨L1.s 117, c_Reader_readDigits (by omega) L1 T1 l6 sl cl cd r1 r4 r2 (fun g2 F2 C2 => hQ g2 (F1.tr F2) C2)⟩⟩
      · refine ⟨fun z => absurd z (by decide), fun _ => ⟨⟨by decide, L1.s 117⟩, ?_⟩⟩
        have eE : tE B len s = fsx (fun j => !isL (B j)) (len - s) s := by
          unfold tE
          rw [if_neg (by omega), if_pos cl]
        have ek : kd B len s = 1 := by
          unfold kd
          rw [if_neg (by omega), if_pos cl]
        have done : ∀ g, Fa h g → xI g 117 1 = nI len → xI g 117 4 = nI s → xI g 117 3 = 1 → xI g 117 2 = nI (tE B len s) → Q g := fun g F w1 w4 w3 w2 => hQ g F ⟨w1, w4, w2, by rw [ek]; exact w3, fun w => by rw [ek] at w; exact absurd w (by decide)⟩
        have key : ∀ d i, i + d = len → fsx (fun j => !isL (B j)) d i = tE B len s → ∀ g, Fa h g → xI g 117 1 = nI len → xI g 117 4 = nI s → xI g 117 3 = 1 → xI g 117 2 = nI i → K_Reader_advance n Q 107 [some (.ref 117)] [] g := by
          intro d
          induction d with
          | zero =>
            intro i hi ej g F w1 w4 w3 w2
            have ej' : i = tE B len s := ej
            refine b_Reader_advance_107 ⟨(F.1.lay L).s 117, ?_⟩
            rw [w1, w2]
            exact ⟨fun _ => done g F w1 w4 w3 (by rw [← ej']; exact w2), fun z => absurd (nI_le (by omega) (by omega)) z⟩
          | succ d ih =>
            intro i hi ej g F w1 w4 w3 w2
            have Lg := F.1.lay L
            have ti := F.tp T i (by omega)
            obtain ⟨f1, f2⟩ := fsx_1 ej
            refine b_Reader_advance_107 ⟨Lg.s 117, ?_⟩
            rw [w1, w2, nI_clamp (by omega)]
            refine ⟨fun z => absurd z (nI_ge (by omega) (by omega)), fun _ => ⟨66, Lg.r 117 0 66, Lg.x 66 (n := 600) (by omega), ?_⟩⟩
            rw [ti.1]
            refine c_Reader_isLetter (by omega) ti.2 ?_
            cases c : isL (B i)
            · have ei := f1 (by rw [c]; rfl)
              exact ⟨fun _ => done g F w1 w4 w3 (by rw [ei]; exact w2), fun z => absurd rfl z⟩
            · refine ⟨fun z => absurd z (by decide), fun _ => ⟨Lg.s 117, ⟨by decide, Lg.s 117⟩, ?_⟩⟩
              rw [w2, nI_1]
              refine ih (i + 1) (by omega) (f2 (by rw [c]; rfl)) _ F.w ?_ ?_ ?_ (upI_s _ _ _ _)
              · rw [upI_o _ _ _ _ (by decide)]; exact w1
              · rw [upI_o _ _ _ _ (by decide)]; exact w4
              · rw [upI_o _ _ _ _ (by decide)]; exact w3
        refine key (len - s) s (by omega) eE.symm _ F1.w ?_ ?_ (upI_s _ _ _ _) ?_
        · rw [upI_o _ _ _ _ (by decide)]; exact r1
        · rw [upI_o _ _ _ _ (by decide)]; exact r4
        · rw [upI_o _ _ _ _ (by decide)]; exact r2
    · rw [upI_o _ _ _ _ (by decide)]; exact r1
    · rw [upI_o _ _ _ _ (by decide)]; exact r4
    · rw [upI_o _ _ _ _ (by decide), r2]
      unfold tE
      rw [if_pos (by omega)]
    · rw [upI_s]
      unfold kd
      rw [if_pos (by omega)]; rfl
    · unfold kd at w
      rw [if_pos (by omega)] at w
      exact absurd w (by decide)
  have key : ∀ d i, i + d = len → fsx (fun j => !isB (B j)) d i = s → ∀ g, Fa h g → xI g 117 1 = nI len → xI g 117 4 = nI i → K_Reader_advance n Q 8 [some (.ref 117)] [] g := by
    intro d
    induction d with
    | zero =>
      intro i hi ej g F w1 w4
      have ej' : i = s := ej
      refine b_Reader_advance_8 ⟨(F.1.lay L).s 117, ?_⟩
      rw [w1, w4]
      exact ⟨fun _ => body g F w1 (by rw [← ej']; exact w4), fun z => absurd (nI_le (by omega) (by omega)) z⟩
    | succ d ih =>
      intro i hi ej g F w1 w4
      have Lg := F.1.lay L
      have ti := F.tp T i (by omega)
      obtain ⟨f1, f2⟩ := fsx_1 ej
      have st := (sB_t _ ti.2).1
      have go : isB (B i) = true → K_Reader_advance n Q 8 [some (.ref 117)] [] (xsI g 117 4 (nI (i + 1))) := fun c => by
        refine ih (i + 1) (by omega) (f2 (by rw [c]; rfl)) _ F.w ?_ (upI_s _ _ _ _)
        rw [upI_o _ _ _ _ (by decide)]; exact w1
      refine b_Reader_advance_8 ⟨Lg.s 117, ?_⟩
      rw [w1, w4, nI_clamp (by omega), nI_1]
      refine ⟨fun z => absurd z (nI_ge (by omega) (by omega)), fun _ => ⟨66, Lg.r 117 0 66, Lg.x 66 (n := 600) (by omega), ?_⟩⟩
      rw [ti.1]
      refine ⟨fun z => ⟨⟨by decide, Lg.s 117⟩, go (decide_eq_true (Or.inl (st.1.mp z)))⟩, fun z => ⟨fun y => ?_, fun y => ⟨⟨by decide, Lg.s 117⟩, go (decide_eq_true (Or.inr (st.2.1.mp y)))⟩⟩⟩
      have c : isB (B i) = false := decide_eq_false (fun w => by
        rcases w with w | w
        · exact z (st.1.mpr w)
        · exact y (st.2.1.mpr w))
      have ei := f1 (by rw [c]; rfl)
      exact body g F w1 (by rw [ei]; exact w4)
  refine w_Reader_advance ⟨L.s 117, ⟨by decide, L.s 117⟩, ?_⟩
  rw [e2]
  refine key (len - a) a (by omega) hs _ Fa.rf.w ?_ (upI_s _ _ _ _)
  rw [upI_o _ _ _ _ (by decide)]; exact e1
theorem CTk.adv {n : Nat} (hn : 3 ≤ n) {h : xh} (L : Lay h) {B : Nat → Nat} (T : TpC h B) {len s : Nat} (l6 : len ≤ 600) (hs : s ≤ len) (C : CTk h B len s) {Q : xh → Prop} (hQ : ∀ g, Fa h g → CTk g B len (nxt B len s) → Q g) : xcv (xMC n) 129 [.ref 117] h Q := c_Reader_advance hn L T l6 (tE_b hs).2.1 C.1 C.2.2.1 hQ
