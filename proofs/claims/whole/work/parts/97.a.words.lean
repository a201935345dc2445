/-! WORDS -/
/-- the cells below 64 are as they were at the start -/
def St0 (h : xh) (N : Nat) (xs : Nat → Int32) : Prop := ∀ c, c < 64 → xI h c = xI (xh0 N xs) c ∧ xR h c = xR (xh0 N xs) c ∧ xS h c = xS (xh0 N xs) c
def wlen (j : Nat) : Nat := xsln.getD j 0
def wb (j i : Nat) : Nat := ((xbyt.getD j []).getD i 0).toNatClampNeg
theorem w_t : ∀ j, j < 22 → (1 ≤ wlen j ∧ wlen j ≤ 7) ∧ ∀ i, i < wlen j → (97 ≤ wb j i ∧ wb j i ≤ 122) ∧ (xbyt.getD j []).getD i 0 = nI (wb j i) ∧ (((nI (wb j i)) &&& (255 : Int32)).toUInt32 % 65536).toInt32 = nI (wb j i) ∧ xnar 3 (nI (wb j i)) := by
  intro j hj
  have := (by decide +kernel : ∀ j, j < 22 → (1 ≤ wlen j ∧ wlen j ≤ 7) ∧ ∀ i, i < wlen j → (97 ≤ wb j i ∧ wb j i ≤ 122) ∧ (xbyt.getD j []).getD i 0 = nI (wb j i) ∧ (((nI (wb j i)) &&& (255 : Int32)).toUInt32 % 65536).toInt32 = nI (wb j i) ∧ ((nI (wb j i)).toUInt32 % 65536).toInt32 = nI (wb j i)) j hj
  exact this
abbrev Wd (B : Nat → Nat) (s e j : Nat) : Prop := e - s = wlen j ∧ ∀ i, i < wlen j → B (s + i) = wb j i
theorem St0.str {h : xh} {N : Nat} {xs : Nat → Int32} (S : St0 h N xs) {j : Nat} (hj : j < 22) : xS h (8 + j) = (30, 0) ∧ xR h (8 + j) 0 = some (32 + j) ∧ xI h (8 + j) 1 = 0 ∧ xS h (32 + j) = (21, wlen j) ∧ ∀ i, xI h (32 + j) i = (xbyt.getD j []).getD i 0 := by
  obtain ⟨a1, a2, a3⟩ := S (8 + j) (by omega)
  obtain ⟨b1, b2, b3⟩ := S (32 + j) (by omega)
  rw [a1, a2, a3, b1, b3]
  refine ⟨?_, ?_, ?_, ?_, fun i => ?_⟩
  · show (if 8 + j = 0 then (20, N) else if 8 + j < 5 then _ else if 8 ≤ 8 + j ∧ 8 + j < 30 then (30, 0) else _) = _
    rw [if_neg (by omega), if_neg (by omega), if_pos (by omega)]
  · show (if (8 ≤ 8 + j ∧ 8 + j < 30) ∧ 0 = 0 then some (8 + j + 24) else none) = _
    rw [if_pos (by omega)]
    congr 1
    omega
  · show (if 8 + j = 0 then xs 1 else if 8 + j < 5 then _ else if 32 ≤ 8 + j ∧ 8 + j < 54 then _ else 0) = _
    rw [if_neg (by omega), if_neg (by omega), if_neg (by omega)]
  · show (if 32 + j = 0 then (20, N) else if 32 + j < 5 then _ else if 8 ≤ 32 + j ∧ 32 + j < 30 then _ else if 32 ≤ 32 + j ∧ 32 + j < 54 then (21, xsln.getD (32 + j - 32) 0) else _) = _
    rw [if_neg (by omega), if_neg (by omega), if_neg (by omega), if_pos (by omega), show 32 + j - 32 = j by omega]
    rfl
  · show (if 32 + j = 0 then xs i else if 32 + j < 5 then _ else if 32 ≤ 32 + j ∧ 32 + j < 54 then (xbyt.getD (32 + j - 32) []).getD i 0 else 0) = _
    rw [if_neg (by omega), if_neg (by omega), if_pos (by omega), show 32 + j - 32 = j by omega]
theorem St0.tab {h : xh} {N : Nat} {xs : Nat → Int32} (S : St0 h N xs) {k : Nat} (h1 : 1 ≤ k) (h5 : k < 5) : xS h k = (20, (xtab.getD (k - 1) []).length) ∧ ∀ i, xI h k i = (xtab.getD (k - 1) []).getD i 0 := by
  obtain ⟨a1, a2, a3⟩ := S k (by omega)
  rw [a1, a3]
  refine ⟨?_, fun i => ?_⟩
  · show (if k = 0 then (20, N) else if k < 5 then (20, (xtab.getD (k - 1) []).length) else _) = _
    rw [if_neg (by omega), if_pos (by omega)]
  · show (if k = 0 then xs i else if k < 5 then (xtab.getD (k - 1) []).getD i 0 else _) = _
    rw [if_neg (by omega), if_pos (by omega)]
theorem St0.fr {P : Nat → Prop} {h g : xh} {N : Nat} {xs : Nat → Int32} (S : St0 h N xs) (F : Fr P h g) (hp : ∀ c, P c → 64 ≤ c) : St0 g N xs := fun c hc => by
  rw [F.i c (fun z => by have := hp c z; omega), F.2.2.1, F.1]; exact S c hc
theorem xk_n {n : Nat} {Q : Int32 → xh → Prop} {h : xh} {p1 p2 : Int32} (h1 : ¬ p1 < 0) (h2 : p1 < p2) (hQ : Q p1 h) : xci (xMC (n + 1)) 18 [.int p1, .int p2, .null] h Q := xMC_in mt_18 rfl (xW_b (xMC_mono n) [] 14 (pc := 0) (And.intro (fun z => absurd z h1) (fun _ => And.intro (fun _ => hQ) (fun z => absurd h2 z))))
theorem c_String_length {n : Nat} (hn : 2 ≤ n) {h : xh} {N : Nat} {xs : Nat → Int32} (S : St0 h N xs) {j : Nat} (hj : j < 22) {Q : Int32 → xh → Prop} (hQ : Q (nI (wlen j)) h) : xci (xMC n) 13 [.ref (8 + j)] h Q := by
  obtain ⟨n, rfl⟩ := xsucc (show 1 ≤ n by omega)
  obtain ⟨n, rfl⟩ := xsucc (show 1 ≤ n by omega)
  obtain ⟨s1, s2, s3, s4, s5⟩ := S.str hj
  refine w_String_length ⟨s1, 32 + j, s2, by rw [s4]; exact ⟨show 20 ≤ 21 by decide, show 21 ≤ 28 by decide⟩, w_String_coder ⟨s1, ?_⟩⟩
  rw [s3, s4]
  refine ⟨show (0 : Int32).toInt8.toInt32 = 0 by decide, ?_⟩
  have e : ∀ k, k ≤ 7 → nI k >>> ((0 : Int32) &&& 31) = nI k := by decide
  show Q (nI (wlen j) >>> ((0 : Int32) &&& 31)) h
  rw [e _ (w_t j hj).1.2]
  exact hQ
theorem c_String_charAt {n : Nat} (hn : 4 ≤ n) {h : xh} {N : Nat} {xs : Nat → Int32} (S : St0 h N xs) {j i : Nat} (hj : j < 22) (hi : i < wlen j) {Q : Int32 → xh → Prop} (hQ : Q (nI (wb j i)) h) : xci (xMC n) 15 [.ref (8 + j), .int (nI i)] h Q := by
  obtain ⟨n, rfl⟩ := xsucc (show 1 ≤ n by omega)
  obtain ⟨n, rfl⟩ := xsucc (show 1 ≤ n by omega)
  obtain ⟨n, rfl⟩ := xsucc (show 1 ≤ n by omega)
  obtain ⟨n, rfl⟩ := xsucc (show 1 ≤ n by omega)
  obtain ⟨s1, s2, s3, s4, s5⟩ := S.str hj
  obtain ⟨wl1, wt⟩ := w_t j hj
  obtain ⟨t1, t2, t3, t4⟩ := wt i hi
  have lt : nI i < nI (wlen j) := nI_lt hi (by omega)
  refine w_String_charAt ⟨s1, w_String_isLatin1 ⟨s1, fun z => absurd s3 z, fun _ => ⟨fun z => absurd z (by decide), fun _ => ⟨s1, 32 + j, s2, ?_⟩⟩⟩⟩
  refine w_StringLatin1_charAt ⟨by rw [s4]; exact ⟨show 20 ≤ 21 by decide, show 21 ≤ 28 by decide⟩, ?_⟩
  rw [s4]
  have fin : xar h (32 + j) 21 (nI i) ∧ (xnar 3 ((((xI h (32 + j) (nI i).toNatClampNeg) &&& (255 : Int32)).toUInt32 % 65536).toInt32) ∧ (xnar 3 ((((xI h (32 + j) (nI i).toNatClampNeg) &&& (255 : Int32)).toUInt32 % 65536).toInt32) ∧ Q ((((xI h (32 + j) (nI i).toNatClampNeg) &&& (255 : Int32)).toUInt32 % 65536).toInt32) h)) := by
    rw [nI_clamp (by omega), s5 i, t2, t3]
    exact ⟨xarN s4 hi (by omega), t4, t4, hQ⟩
  exact w_String_checkIndex ⟨w_Preconditions_checkIndex ⟨fun z => absurd z (nI_pos (by omega)), fun _ => ⟨fun _ => fin, fun z => absurd lt z⟩⟩, xk_n (nI_pos (by omega)) lt fin⟩
theorem c_Reader_isWord {n : Nat} (hn : 5 ≤ n) {h : xh} (L : Lay h) {N : Nat} {xs : Nat → Int32} (S : St0 h N xs) {B : Nat → Nat} (T : TpC h B) {len s : Nat} (l6 : len ≤ 600) (C : CTk h B len s) (k1 : kd B len s = 1) {j : Nat} (hj : j < 22) {Q : Int32 → xh → Prop} (hQ : Q (if Wd B s (tE B len s) j then 1 else 0) h) : xci (xMC n) 136 [.ref 117, .ref (8 + j)] h Q := by
  obtain ⟨n, rfl⟩ := xsucc (show 1 ≤ n by omega)
  obtain ⟨c1, c4, c2, c3, _⟩ := C
  have sl := kd_lt (B := B) (len := len) (s := s) (by omega)
  obtain ⟨b1, b2, b3⟩ := tE_b (B := B) (len := len) (s := s) (by omega)
  obtain ⟨s1, s2, s3, s4, s5⟩ := S.str hj
  obtain ⟨wl1, wt⟩ := w_t j hj
  refine w_Reader_isWord ⟨L.s 117, ?_⟩
  rw [c3, k1, c2, c4, pk_sub b1]
  refine ⟨fun z => absurd rfl z, fun _ => ⟨s1, c_String_length (by omega) S hj ?_⟩⟩
  rw [nI_eq (by omega) (by omega)]
  refine ⟨fun el => ?_, fun el => by rw [if_neg (fun z => el z.1)] at hQ; exact hQ⟩
  have key : ∀ d i, i + d = wlen j → (∀ k, k < i → B (s + k) = wb j k) → K_Reader_isWord n Q 28 [some (.ref 117), some (.ref (8 + j)), some (.int (nI i))] [] h := by
    intro d
    induction d with
    | zero =>
      intro i hi al
      have : i = wlen j := by omega
      subst this
      refine b_Reader_isWord_28 ⟨s1, c_String_length (by omega) S hj ⟨fun _ => ?_, fun z => absurd (Int32.le_refl _) z⟩⟩
      rw [if_pos ⟨el, al⟩] at hQ
      exact hQ
    | succ d ih =>
      intro i hi al
      have ti := T (s + i) (by omega)
      obtain ⟨t1, t2, t3, t4⟩ := wt i (by omega)
      refine b_Reader_isWord_28 ⟨s1, c_String_length (by omega) S hj ⟨fun z => absurd z (nI_ge (by omega) (by omega)), fun _ => ⟨L.s 117, 66, L.r 117 0 66, ?_⟩⟩⟩
      rw [c4, nI_add, nI_clamp (by omega), ti.1]
      refine ⟨L.x 66 (n := 600) (by omega), s1, c_String_charAt (by omega) S hj (by omega) ⟨fun z => ?_, fun z => ?_⟩⟩
      · rw [nI_1]
        refine ih (i + 1) (by omega) (fun k hk => ?_)
        by_cases e : k = i
        · subst e
          have st := (sB_t _ ti.2).2.2.2.2
          rw [z] at st
          have e2 : nI (wb j k) &&& 255 = nI (wb j k) := by
            have := (by decide +kernel : ∀ v, v < 128 → nI v &&& 255 = nI v) (wb j k) (by omega)
            exact this
          rw [e2] at st
          exact ((nI_eq (by omega) (by omega)).mp st).symm
        · exact al k (by omega)
      · rw [if_neg (fun y => z ?_)] at hQ
        · exact hQ
        · have e := y.2 i (by omega)
          rw [e]
          exact (sB_t _ (by omega)).2.2.2.1 (by omega)
  exact key (wlen j) 0 (by omega) (fun k hk => absurd hk (Nat.not_lt_zero _))
theorem c_Reader_isWord0 {n : Nat} (hn : 1 ≤ n) {h : xh} (L : Lay h) {B : Nat → Nat} {len s : Nat} (C : CTk h B len s) (k1 : kd B len s ≠ 1) {j : Nat} {Q : Int32 → xh → Prop} (hQ : Q 0 h) : xci (xMC n) 136 [.ref 117, .ref j] h Q := by
  obtain ⟨n, rfl⟩ := xsucc hn
  have k5 := kd_5 B len s
  refine w_Reader_isWord ⟨L.s 117, ?_⟩
  rw [C.2.2.2.1]
  exact ⟨fun _ => hQ, fun z => absurd ((nI_eq (b := 1) (by omega) (by decide)).mp z) k1⟩
/-- which string is the word of a code -/
def stx (c : Nat) : Nat := ([3, 4, 5, 6, 7, 8, 9, 10, 11, 12, 13, 14, 15, 12, 16, 17, 18, 19, 20, 21] : List Nat).getD c 21
def FC (q : Nat) : Nat := ([0, 10, 15, 17, 20] : List Nat).getD q 20
theorem stx_t : ∀ c, c < 20 → stx c < 22 := by decide
theorem FC_t : ∀ q, q < 4 → FC q < FC (q + 1) ∧ FC (q + 1) ≤ 20 ∧ (xtab.getD 0 []).getD q 0 = nI (FC q) ∧ (xtab.getD 0 []).getD (q + 1) 0 = nI (FC (q + 1)) := by decide
theorem c_Reader_wordOf {n : Nat} (hn : 1 ≤ n) {h : xh} {c : Nat} (hc : c < 20) {Q : Option Nat → xh → Prop} (hQ : Q (some (8 + stx c)) h) : xcr (xMC n) 135 [.int (nI c)] h Q := by
  obtain ⟨n, rfl⟩ := xsucc hn
  have e : ∀ d, d < 20 → ((nI c = nI d) ↔ c = d) := fun d hd => nI_eq (by omega) (by omega)
  have no : ∀ d, d < 20 → c = d → nI c = nI d := fun d hd z => by rw [z]
  have y : ∀ {d : Nat} (hd : d < 20) {v : Nat} (hv : 8 + stx d = v), nI c = nI d → Q (some v) h := fun {d} hd {v} hv z => by
    have := (e d hd).mp z
    subst this
    rw [hv] at hQ
    exact hQ
  refine w_Reader_wordOf ⟨fun z => y (d := 0) (by decide) rfl z, fun z0 => ⟨fun z => y (d := 1) (by decide) rfl z, fun z1 => ⟨fun z => y (d := 2) (by decide) rfl z, fun z2 => ⟨fun z => y (d := 3) (by decide) rfl z, fun z3 => ⟨fun z => y (d := 4) (by decide) rfl z, fun z4 => ⟨fun z => y (d := 5) (by decide) rfl z, fun z5 => ⟨fun z => y (d := 6) (by decide) rfl z, fun z6 => ⟨fun z => y (d := 7) (by decide) rfl z, fun z7 => ⟨fun z => y (d := 8) (by decide) rfl z, fun z8 => ⟨fun z => y (d := 9) (by decide) rfl z, fun z9 => ⟨fun z => y (d := 10) (by decide) rfl z, fun z10 => ⟨fun z => y (d := 11) (by decide) rfl z, fun z11 => ⟨fun z => y (d := 12) (by decide) rfl z, fun z12 => ⟨fun z => y (d := 13) (by decide) rfl z, fun z13 => ⟨fun z => y (d := 14) (by decide) rfl z, fun z14 => ⟨fun z => y (d := 15) (by decide) rfl z, fun z15 => ⟨fun z => y (d := 16) (by decide) rfl z, fun z16 => ⟨fun z => y (d := 17) (by decide) rfl z, fun z17 => ⟨fun z => y (d := 18) (by decide) rfl z, fun z18 => ?_⟩⟩⟩⟩⟩⟩⟩⟩⟩⟩⟩⟩⟩⟩⟩⟩⟩⟩⟩
  have : c = 19 := by
    have q : ∀ d, d < 20 → ¬ nI c = nI d → c ≠ d := fun d hd z w => z (no d hd w)
    have := q 0 (by decide) z0
    have := q 1 (by decide) z1
    have := q 2 (by decide) z2
    have := q 3 (by decide) z3
    have := q 4 (by decide) z4
    have := q 5 (by decide) z5
    have := q 6 (by decide) z6
    have := q 7 (by decide) z7
    have := q 8 (by decide) z8
    have := q 9 (by decide) z9
    have := q 10 (by decide) z10
    have := q 11 (by decide) z11
    have := q 12 (by decide) z12
    have := q 13 (by decide) z13
    have := q 14 (by decide) z14
    have := q 15 (by decide) z15
    have := q 16 (by decide) z16
    have := q 17 (by decide) z17
    have := q 18 (by decide) z18
    omega
  subst this
  exact hQ
/-- the code of a line's word, or the first behind those of the sort -/
def cdf (B : Nat → Nat) (len q s : Nat) : Nat := if kd B len s = 1 then fsx (fun c => decide (Wd B s (tE B len s) (stx c))) (FC (q + 1) - FC q) (FC q) else FC (q + 1)
theorem cdf_b (B : Nat → Nat) (len : Nat) {q : Nat} (hq : q < 4) (s : Nat) : FC q ≤ cdf B len q s ∧ cdf B len q s ≤ FC (q + 1) := by
  obtain ⟨f1, f2, _⟩ := FC_t q hq
  unfold cdf
  split
  · exact fsx_le2 (by omega)
  · omega
theorem c_Reader_codeOf {n : Nat} (hn : 6 ≤ n) {h : xh} (L : Lay h) {N : Nat} {xs : Nat → Int32} (S : St0 h N xs) {B : Nat → Nat} (T : TpC h B) {len s : Nat} (l6 : len ≤ 600) (C : CTk h B len s) {q : Nat} (hq : q < 4) {Q : Int32 → xh → Prop} (hQ : Q (if cdf B len q s < FC (q + 1) then nI (cdf B len q s) else -1) h) : xci (xMC n) 134 [.ref 117, .int (nI q)] h Q := by
  obtain ⟨n, rfl⟩ := xsucc (show 1 ≤ n by omega)
  obtain ⟨f1, f2, f3, f4⟩ := FC_t q hq
  obtain ⟨t1, t2⟩ := S.tab (k := 1) (by omega) (by omega)
  have k5 := kd_5 B len s
  refine w_Reader_codeOf ⟨L.s 117, ?_⟩
  rw [C.2.2.2.1, show (nI (kd B len s) = (1 : Int32)) = (kd B len s = 1) from propext (nI_eq (b := 1) (by omega) (by decide))]
  refine ⟨fun k1 => ?_, fun k1 => ⟨fun z => absurd z (nI_pos (by omega)), fun _ => ⟨fun _ => ⟨xarN t1 (show q < 5 by omega) (by decide), ?_⟩, fun z => absurd (nI_lt (b := 4) (by omega) (by decide)) z⟩⟩⟩
  · have e : cdf B len q s = FC (q + 1) := by unfold cdf; rw [if_neg k1]
    rw [e, if_neg (by omega)] at hQ
    exact hQ
  · have e : cdf B len q s = fsx (fun c => decide (Wd B s (tE B len s) (stx c))) (FC (q + 1) - FC q) (FC q) := by unfold cdf; rw [if_pos k1]
    generalize cdf B len q s = x at hQ e
    rw [nI_clamp (by omega), t2 q]
    have f3' : (xtab.getD (1 - 1) []).getD q 0 = nI (FC q) := f3
    rw [f3']
    have key : ∀ d c, c + d = FC (q + 1) → fsx (fun c => decide (Wd B s (tE B len s) (stx c))) d c = x → K_Reader_codeOf n Q 25 [some (.ref 117), some (.int (nI q)), some (.int (nI c))] [] h := by
      intro d
      induction d with
      | zero =>
        intro c hc ex
        have ex' : c = x := ex
        refine b_Reader_codeOf_25 ?_
        rw [nI_1, nI_clamp (by omega), t2 (q + 1)]
        have f4' : (xtab.getD (1 - 1) []).getD (q + 1) 0 = nI (FC (q + 1)) := f4
        rw [f4']
        refine ⟨xarN t1 (show q + 1 < 5 by omega) (by decide), fun _ => ?_, fun z => absurd (nI_le (by omega) (by omega)) z⟩
        rw [if_neg (by omega)] at hQ
        exact hQ
      | succ d ih =>
        intro c hc ex
        obtain ⟨g1, g2⟩ := fsx_1 ex
        refine b_Reader_codeOf_25 ?_
        rw [nI_1, nI_clamp (by omega), t2 (q + 1)]
        have f4' : (xtab.getD (1 - 1) []).getD (q + 1) 0 = nI (FC (q + 1)) := f4
        rw [f4']
        refine ⟨xarN t1 (show q + 1 < 5 by omega) (by decide), fun z => absurd z (nI_ge (by omega) (by omega)), fun _ => c_Reader_wordOf (by omega) (by omega) ⟨fun a ea => ?_, fun z => nomatch z⟩⟩
        cases ea
        refine ⟨L.s 117, c_Reader_isWord (by omega) L S T l6 C k1 (stx_t c (by omega)) ?_⟩
        by_cases w : Wd B s (tE B len s) (stx c)
        · rw [if_pos w]
          have ec := g1 (decide_eq_true w)
          subst ec
          rw [if_pos (by omega)] at hQ
          exact ⟨fun z => absurd z (by decide), fun _ => hQ⟩
        · rw [if_neg w]
          refine ⟨fun _ => ?_, fun z => absurd rfl z⟩
          rw [nI_1]
          exact ih (c + 1) (by omega) (g2 (decide_eq_false w))
    exact key (FC (q + 1) - FC q) (FC q) (by omega) e.symm
/-- words of the reference -/
def lett (B : Nat → Nat) (s n : Nat) : Prop := ∀ i, i < n → 97 ≤ B (s + i) ∧ B (s + i) ≤ 122
theorem pkb_inj {B C : Nat → Nat} {s t : Nat} : ∀ {n m : Nat}, lett B s n → lett C t m → pkb B s n = pkb C t m → n = m ∧ ∀ i, i < n → B (s + i) = C (t + i)
  | 0, 0, _, _, _ => ⟨rfl, fun i hi => absurd hi (Nat.not_lt_zero _)⟩
  | 0, m + 1, _, h2, e => by
    have := h2 m (by omega)
    unfold pkb at e
    omega
  | n + 1, 0, h1, _, e => by
    have := h1 n (by omega)
    unfold pkb at e
    omega
  | n + 1, m + 1, h1, h2, e => by
    have a := h1 n (by omega)
    have b := h2 m (by omega)
    have e' : pkb B s n * 256 + B (s + n) = pkb C t m * 256 + C (t + m) := e
    obtain ⟨i1, i2⟩ := pkb_inj (n := n) (m := m) (fun i hi => h1 i (by omega)) (fun i hi => h2 i (by omega)) (by omega)
    subst i1
    refine ⟨rfl, fun i hi => ?_⟩
    by_cases c : i = n
    · subst c; omega
    · exact i2 i (by omega)
theorem pkb_lt {B : Nat → Nat} {s : Nat} : ∀ {n : Nat}, lett B s n → pkb B s n * 2 < 256 ^ n
  | 0, _ => show 0 * 2 < 1 by decide
  | n + 1, h => by
    have ih := pkb_lt (n := n) (fun i hi => h i (by omega))
    have a := h n (by omega)
    show (pkb B s n * 256 + B (s + n)) * 2 < 256 ^ (n + 1)
    rw [Nat.pow_succ]
    omega
theorem pkb_c {B C : Nat → Nat} {s t : Nat} : ∀ {n : Nat}, (∀ i, i < n → B (s + i) = C (t + i)) → pkb B s n = pkb C t n
  | 0, _ => rfl
  | n + 1, h => by
    show pkb B s n * 256 + B (s + n) = pkb C t n * 256 + C (t + n)
    rw [pkb_c (n := n) (fun i hi => h i (by omega)), h n (by omega)]
def wcon (j : Nat) : Nat := pkb (wb j) 0 (wlen j)
/-- the word's number, 0 where there is none -/
def wv (B : Nat → Nat) (len s : Nat) : Nat := if kd B len s = 1 then pkw B len s else 0
theorem lett_t {B : Nat → Nat} {len s : Nat} (k1 : kd B len s = 1) : lett B s (tE B len s - s) := fun i hi => by
  have sl := kd_lt (B := B) (len := len) (s := s) (by omega)
  have cl : isL (B s) = true := by
    unfold kd at k1
    rw [if_neg (by omega)] at k1
    cases c : isL (B s)
    · rw [if_neg (by rw [c]; decide)] at k1
      split at k1
      · split at k1 <;> exact absurd k1 (by decide)
      · split at k1 <;> exact absurd k1 (by decide)
    · rfl
  have e : tE B len s = fsx (fun j => !isL (B j)) (len - s) s := by
    unfold tE
    rw [if_neg (by omega), if_pos cl]
  have q := fsx_b (p := fun j => !isL (B j)) (d := len - s) (i := s) (j := s + i) (by omega) (by omega)
  have q' : isL (B (s + i)) = true := by
    cases z : isL (B (s + i))
    · simp [z] at q
    · rfl
  exact of_decide_eq_true q'
theorem wv_i {B : Nat → Nat} {len s j : Nat} (hj : j < 22) : lN (wv B len s) = lN (wcon j) ↔ kd B len s = 1 ∧ Wd B s (tE B len s) j := by
  obtain ⟨wl1, wt⟩ := w_t j hj
  have l2 : lett (wb j) 0 (wlen j) := fun i hi => by rw [Nat.zero_add]; exact (wt i hi).1
  have c63 : wcon j < 2 ^ 63 := by
    have := pkb_lt l2
    have : 256 ^ wlen j ≤ 256 ^ 7 := Nat.pow_le_pow_right (by decide) wl1.2
    unfold wcon
    omega
  have c0 : 0 < wcon j := by
    apply Nat.pos_of_ne_zero
    intro z
    have := (pkb_inj (B := wb j) (C := wb j) (s := 0) (t := 0) (n := wlen j) (m := 0) l2 (fun i hi => absurd hi (Nat.not_lt_zero _)) z).1
    omega
  unfold wv
  by_cases k1 : kd B len s = 1
  · rw [if_pos k1]
    have l1 := lett_t k1
    unfold pkw
    by_cases n8 : tE B len s - s ≤ 8
    · rw [if_pos n8]
      have p63 : pkb B s (tE B len s - s) < 2 ^ 63 := by
        have := pkb_lt l1
        have : 256 ^ (tE B len s - s) ≤ 256 ^ 8 := Nat.pow_le_pow_right (by decide) n8
        omega
      rw [pk_lEQ p63 c63]
      constructor
      · intro e
        obtain ⟨e1, e2⟩ := pkb_inj l1 l2 e
        refine ⟨k1, e1, fun i hi => ?_⟩
        have := e2 i (by omega)
        rw [Nat.zero_add] at this
        exact this
      · rintro ⟨_, e1, e2⟩
        unfold wcon
        rw [e1]
        exact pkb_c (fun i hi => by rw [Nat.zero_add]; exact e2 i hi)
    · rw [if_neg n8, pk_lEQ (by decide) c63]
      constructor
      · intro e; omega
      · rintro ⟨_, e1, _⟩; omega
  · rw [if_neg k1, pk_lEQ (by decide) c63]
    constructor
    · intro e; omega
    · rintro ⟨e1, _⟩; exact absurd e1 k1
