/-! TOKENS in the reference -/
theorem nI64 : ∀ c, c < 256 → (nI c).toInt64 = lN c := by decide +kernel
theorem wsh {x c : Nat} (hc : c < 256) : (lN x <<< ((8 : Int32).toInt64 &&& 63)) ||| (nI c).toInt64 = lN (x * 256 + c) := by
  rw [nI64 c hc, show (8 : Int32).toInt64 &&& 63 = (8 : Int64) from by decide]
  have hx : x * 256 + c = x <<< 8 ||| c := by
    rw [← Nat.shiftLeft_add_eq_or_of_lt (i := 8) hc x, Nat.shiftLeft_eq]
  rw [hx]
  apply Int64.toBitVec_inj.mp
  unfold lN
  rw [Int64.toBitVec_or, Int64.toBitVec_shiftLeft, show (8 : Int64).toBitVec.smod 64 = 8#64 from by decide]
  apply BitVec.eq_of_toNat_eq
  simp [Nat.shiftLeft_eq]
def pkb (B : Nat → Nat) (s : Nat) : Nat → Nat
  | 0 => 0
  | n + 1 => pkb B s n * 256 + B (s + n)
def pkw (B : Nat → Nat) (len s : Nat) : Nat := if tE B len s - s ≤ 8 then pkb B s (tE B len s - s) else 0
def kM (k : Nat) : Nat := if k = 0 then 0 else if k = 4 then 1 else k + 1
theorem kM_i : ∀ k, k ≤ 4 → kM k < 5 ∧ (kM k = 0 ↔ k = 0) ∧ (kM k = 2 ↔ k = 1) ∧ (kM k = 3 ↔ k = 2) ∧ (kM k = 4 ↔ k = 3) := by decide
def TpM (h : xh) (B : Nat → Nat) : Prop := ∀ i, i < 600 → xI h 167 i = sB (B i) ∧ B i < 256
def MTk (h : xh) (B : Nat → Nat) (len s : Nat) : Prop := xI h 166 11 = nI len ∧ xI h 166 12 = nI s ∧ xI h 166 10 = nI (tE B len s) ∧ xI h 166 13 = nI (kM (kd B len s)) ∧ (kd B len s = 2 → xI h 166 14 = nI (vl B len s)) ∧ (kd B len s = 1 → xL h 166 15 = lN (pkw B len s))
def P166 (c : Nat) : Prop := c = 166
def Fb (h g : xh) : Prop := Fr P166 h g ∧ ∀ i, (i < 10 ∨ 14 < i ∨ i = 11) → xI g 166 i = xI h 166 i
theorem Fb.rf {h : xh} : Fb h h := ⟨Fr.rf, fun _ _ => rfl⟩
theorem Fb.tr {a b c : xh} (f : Fb a b) (g : Fb b c) : Fb a c := ⟨f.1.tr g.1, fun i hi => (g.2 i hi).trans (f.2 i hi)⟩
theorem Fb.w {h g : xh} (f : Fb h g) {i : Nat} {v : Int32} (hi : ¬ (i < 10 ∨ 14 < i ∨ i = 11) := by decide) : Fb h (xsI g 166 i v) := ⟨f.1.wI rfl, fun j hj => by rw [upI_o _ _ _ _ (show j ≠ i from fun z => by rw [z] at hj; exact hi hj)]; exact f.2 j hj⟩
theorem Fb.wl {h g : xh} (f : Fb h g) {i : Nat} {v : Int64} : Fb h (xsL g 166 i v) := ⟨f.1.wL rfl, f.2⟩
theorem Fb.tp {h g : xh} (f : Fb h g) {B : Nat → Nat} (T : TpM h B) : TpM g B := fun i hi => by
  rw [f.1.i 167 (fun z => by unfold P166 at z; omega)]; exact T i hi
theorem c_Mo_see {n : Nat} (hn : 1 ≤ n) {h : xh} (L : Lay h) {B : Nat → Nat} (T : TpM h B) {len i : Nat} (l6 : len ≤ 600) (hi : i ≤ len) (e11 : xI h 166 11 = nI len) (e10 : xI h 166 10 = nI i) {Q : Int32 → xh → Prop} (hQ : Q (if i < len then nI (B i) else -1) h) : xci (xMC n) 217 [.ref 166] h Q := by
  obtain ⟨n, rfl⟩ := xsucc hn
  refine w_Mo_see ⟨L.s 166, ?_⟩
  rw [e10, e11, nI_leI (by omega) (by omega), nI_clamp (by omega)]
  refine ⟨fun z => ?_, fun z => ⟨167, L.r 166 1 167, L.x 167 (n := 2400) (by omega), ?_⟩⟩
  · rw [if_neg (by omega)] at hQ; exact hQ
  · have ti := T i (by omega)
    rw [if_pos (by omega)] at hQ
    rw [ti.1, (sB_t _ ti.2).2.2.2.2]
    exact hQ
theorem c_Mo_inL {n : Nat} (hn : 1 ≤ n) {h : xh} {c : Prop} [Decidable c] {k : Nat} (hk : c → k < 256) {Q : Int32 → xh → Prop} (hQ : Q (if c ∧ isL k = true then 1 else 0) h) : xci (xMC n) 211 [.int (if c then nI k else -1), .int 97, .int 122] h Q := by
  by_cases q : c
  · rw [if_pos q]
    have hk := hk q
    refine c_Mo_in hn (fun z => ?_) (fun z => ?_)
    · have e : isL k = true := decide_eq_true ⟨Nat.le_of_not_lt (fun y => z.1 (nI_lt (b := 97) y (by decide))), Nat.le_of_not_lt (fun y => z.2 (nI_lt (a := 122) y (by omega)))⟩
      rw [if_pos ⟨q, e⟩] at hQ; exact hQ
    · rw [if_neg (fun y => z ?_)] at hQ
      · exact hQ
      · have := of_decide_eq_true y.2
        exact ⟨nI_nlt (b := 97) this.1 (by omega), nI_nlt (a := 122) this.2 (by decide)⟩
  · rw [if_neg q]
    rw [if_neg (fun y => q y.1)] at hQ
    exact c_Mo_in hn (fun z => absurd (by decide) z.1) (fun _ => hQ)
theorem c_Mo_inD {n : Nat} (hn : 1 ≤ n) {h : xh} {c : Prop} [Decidable c] {k : Nat} (hk : c → k < 256) {Q : Int32 → xh → Prop} (hQ : Q (if c ∧ isD k = true then 1 else 0) h) : xci (xMC n) 211 [.int (if c then nI k else -1), .int 48, .int 57] h Q := by
  by_cases q : c
  · rw [if_pos q]
    have hk := hk q
    refine c_Mo_in hn (fun z => ?_) (fun z => ?_)
    · have e : isD k = true := decide_eq_true ⟨Nat.le_of_not_lt (fun y => z.1 (nI_lt (b := 48) y (by decide))), Nat.le_of_not_lt (fun y => z.2 (nI_lt (a := 57) y (by omega)))⟩
      rw [if_pos ⟨q, e⟩] at hQ; exact hQ
    · rw [if_neg (fun y => z ?_)] at hQ
      · exact hQ
      · have := of_decide_eq_true y.2
        exact ⟨nI_nlt (b := 48) this.1 (by omega), nI_nlt (a := 57) this.2 (by decide)⟩
  · rw [if_neg q]
    rw [if_neg (fun y => q y.1)] at hQ
    exact c_Mo_in hn (fun z => absurd (by decide) z.1) (fun _ => hQ)
theorem see_is {c : Prop} [Decidable c] {k v : Nat} (hk : c → k < 256) (hv : v < 256) : (if c then nI k else -1) = nI v ↔ c ∧ k = v := by
  by_cases q : c
  · have := hk q
    rw [if_pos q, nI_eq (by omega) (by omega)]
    exact ⟨fun z => ⟨q, z⟩, fun z => z.2⟩
  · rw [if_neg q]
    exact ⟨fun z => absurd z.symm (nI_m1 (by omega)), fun z => absurd z.1 q⟩
theorem c_Mo_token {n : Nat} (hn : 2 ≤ n) {h : xh} (L : Lay h) {B : Nat → Nat} (T : TpM h B) {len a : Nat} (l6 : len ≤ 600) (ha : a ≤ len) (e11 : xI h 166 11 = nI len) (e10 : xI h 166 10 = nI a) {Q : xh → Prop} (hQ : ∀ g, Fb h g → MTk g B len (tS B len a) → Q g) : xcv (xMC n) 216 [.ref 166] h Q := by
  obtain ⟨n, rfl⟩ := xsucc (show 1 ≤ n by omega)
  obtain ⟨a1, a2⟩ := tS_b (B := B) ha
  have B256 : ∀ i, i < len → B i < 256 := fun i hi => (T i (by omega)).2
  generalize hs : tS B len a = s at a1 a2 hQ
  have body : ∀ g, Fb h g → xI g 166 11 = nI len → xI g 166 10 = nI s → ∀ o1 o2 : Option Value, K_Mo_token n Q 39 [some (.ref 166), o1, o2] [] (xsI g 166 12 (nI s)) := fun g F q11 q10 o1 o2 => by
    have F1 : Fb h (xsI g 166 12 (nI s)) := F.w
    have r11 : xI (xsI g 166 12 (nI s)) 166 11 = nI len := by rw [upI_o _ _ _ _ (by decide)]; exact q11
    have r10 : xI (xsI g 166 12 (nI s)) 166 10 = nI s := by rw [upI_o _ _ _ _ (by decide)]; exact q10
    have r12 : xI (xsI g 166 12 (nI s)) 166 12 = nI s := upI_s _ _ _ _
    generalize xsI g 166 12 (nI s) = g1 at F1 r11 r10 r12 ⊢
    have L1 := F1.1.lay L
    refine b_Mo_token_39 ⟨L1.s 166, c_Mo_see (by omega) L1 (F1.tp T) l6 a2 r11 r10 ⟨⟨by decide, L1.s 166⟩, ?_⟩⟩
    have F2 : Fb h (xsL g1 166 15 0) := F1.wl
    have w15 : xL (xsL g1 166 15 0) 166 15 = 0 := upL_s _ _ _ _
    have r11 : xI (xsL g1 166 15 0) 166 11 = nI len := r11
    have r10 : xI (xsL g1 166 15 0) 166 10 = nI s := r10
    have r12 : xI (xsL g1 166 15 0) 166 12 = nI s := r12
    generalize xsL g1 166 15 0 = g2 at F2 w15 r11 r10 r12 ⊢
    have L2 := F2.1.lay L
    by_cases sl : s < len
    · have b2 := B256 s sl
      refine b_Mo_token_49 ⟨fun _ => c_Mo_inL (by omega) (B256 s) ?_, fun z => absurd (by rw [if_pos sl]; exact nI_pos' (by omega)) z⟩
      cases cl : isL (B s)
      · rw [if_neg (fun z => absurd z.2 (by decide))]
        refine ⟨fun _ => c_Mo_inD (by omega) (B256 s) ?_, fun z => absurd rfl z⟩
        cases cd : isD (B s)
        · rw [if_neg (fun z => absurd z.2 (by decide)), if_pos sl]
          have eE : tE B len s = s + 1 := by
            unfold tE
            rw [if_neg (by omega), if_neg (by rw [cl]; decide), if_neg (by rw [cd]; decide)]
          have ek : kd B len s = if B s = 59 then 3 else 4 := by
            unfold kd
            rw [if_neg (by omega), if_neg (by rw [cl]; decide), if_neg (by rw [cd]; decide)]
          have k2 : kd B len s ≠ 2 ∧ kd B len s ≠ 1 := by rw [ek]; split <;> decide
          refine ⟨fun _ => ⟨L2.s 166, ⟨by decide, L2.s 166⟩, ?_⟩, fun z => absurd rfl z⟩
          rw [r10, nI_1]
          have F3 : Fb h (xsI g2 166 10 (nI (s + 1))) := F2.w
          have L3 := F3.1.lay L
          have fin : ∀ v : Nat, v = kM (kd B len s) → Q (xsI (xsI g2 166 10 (nI (s + 1))) 166 13 (nI v)) := fun v hv => hQ _ F3.w ⟨by rw [upI_o _ _ _ _ (by decide), upI_o _ _ _ _ (by decide)]; exact r11, by rw [upI_o _ _ _ _ (by decide), upI_o _ _ _ _ (by decide)]; exact r12, by rw [upI_o _ _ _ _ (by decide), upI_s, eE], by rw [upI_s, hv], fun w => absurd w k2.1, fun w => absurd w k2.2⟩
          refine b_Mo_token_251 ⟨fun z => ⟨⟨by decide, L3.s 166⟩, fin 1 ?_⟩, fun z => ⟨⟨by decide, L3.s 166⟩, fin 4 ?_⟩⟩
          · rw [ek, if_neg (fun y => z (by rw [y]; rfl))]; rfl
          · rw [ek, if_pos ((nI_eq (b := 59) (by omega) (by decide)).mp z)]; rfl
        · rw [if_pos ⟨sl, rfl⟩]
          refine ⟨fun z => absurd z (by decide), fun _ => ⟨⟨by decide, L2.s 166⟩, ?_⟩⟩
          have eE : tE B len s = fsx (fun j => !isD (B j)) (len - s) s := by
            unfold tE
            rw [if_neg (by omega), if_neg (by rw [cl]; decide), if_pos cd]
          have ek : kd B len s = if tE B len s - s ≤ 2 then 2 else 4 := by
            unfold kd
            rw [if_neg (by omega), if_neg (by rw [cl]; decide), if_pos cd]
          obtain ⟨b1, b2, b3⟩ := tE_b (B := B) (len := len) (s := s) (by omega)
          have key : ∀ d i, i + d = len → s ≤ i → fsx (fun j => !isD (B j)) d i = tE B len s → ∀ g, Fb h g → xI g 166 11 = nI len → xI g 166 12 = nI s → xI g 166 10 = nI i → ((i = s → xI g 166 14 = 0) ∧ (i = s + 1 → xI g 166 14 = nI (B s - 48)) ∧ (s + 2 ≤ i → xI g 166 14 = nI (10 * (B s - 48) + (B (s + 1) - 48)))) → ∀ o1 : Option Value, K_Mo_token n Q 163 [some (.ref 166), o1, some (.int (nI (i - s)))] [] g := by
            intro d
            have fin : ∀ i, i = tE B len s → ∀ g, Fb h g → xI g 166 11 = nI len → xI g 166 12 = nI s → xI g 166 10 = nI i → ((i = s → xI g 166 14 = 0) ∧ (i = s + 1 → xI g 166 14 = nI (B s - 48)) ∧ (s + 2 ≤ i → xI g 166 14 = nI (10 * (B s - 48) + (B (s + 1) - 48)))) → (nI (i - s) ≤ (2 : Int32) → ((64 ≤ 166 ∧ xS g 166 = (11, 0)) ∧ (Q (xsI g 166 13 (3 : Int32))))) ∧ (¬ nI (i - s) ≤ (2 : Int32) → ((64 ≤ 166 ∧ xS g 166 = (11, 0)) ∧ (Q (xsI g 166 13 (1 : Int32))))) := fun i ei g F q11 q12 q10 q14 => by
              have Lg := F.1.lay L
              rw [show (nI (i - s) ≤ (2 : Int32)) = (i - s ≤ 2) from propext (nI_leI (b := 2) (by omega) (by decide))]
              refine ⟨fun z => ⟨⟨by decide, Lg.s 166⟩, hQ _ F.w ⟨?_, ?_, ?_, ?_, fun w => ?_, fun w => ?_⟩⟩, fun z => ⟨⟨by decide, Lg.s 166⟩, hQ _ F.w ⟨?_, ?_, ?_, ?_, fun w => ?_, fun w => ?_⟩⟩⟩
              · rw [upI_o _ _ _ _ (by decide)]; exact q11
              · rw [upI_o _ _ _ _ (by decide)]; exact q12
              · rw [upI_o _ _ _ _ (by decide), ← ei]; exact q10
              · rw [upI_s, ek, if_pos (by omega)]; rfl
              · rw [upI_o _ _ _ _ (by decide)]
                have := b3 sl
                unfold vl
                by_cases c : tE B len s - s ≤ 1
                · rw [if_pos c]; exact q14.2.1 (by omega)
                · rw [if_neg c]; exact q14.2.2 (by omega)
              · rw [ek, if_pos (by omega)] at w; exact absurd w (by decide)
              · rw [upI_o _ _ _ _ (by decide)]; exact q11
              · rw [upI_o _ _ _ _ (by decide)]; exact q12
              · rw [upI_o _ _ _ _ (by decide), ← ei]; exact q10
              · rw [upI_s, ek, if_neg (by omega)]; rfl
              · rw [ek, if_neg (by omega)] at w; exact absurd w (by decide)
              · rw [ek, if_neg (by omega)] at w; exact absurd w (by decide)
            induction d with
            | zero =>
              intro i hi si ej g F q11 q12 q10 q14 o1
              have ej' : i = tE B len s := ej
              have Lg := F.1.lay L
              refine b_Mo_token_163 ⟨Lg.s 166, c_Mo_see (by omega) Lg (F.tp T) l6 (by omega) q11 q10 (c_Mo_inD (by omega) (B256 i) ?_)⟩
              rw [if_neg (fun z => by omega)]
              exact ⟨fun _ => fin i ej' g F q11 q12 q10 q14, fun z => absurd rfl z⟩
            | succ d ih =>
              intro i hi si ej g F q11 q12 q10 q14 o1
              have Lg := F.1.lay L
              obtain ⟨f1, f2⟩ := fsx_1 ej
              refine b_Mo_token_163 ⟨Lg.s 166, c_Mo_see (by omega) Lg (F.tp T) l6 (by omega) q11 q10 (c_Mo_inD (by omega) (B256 i) ?_)⟩
              cases c : isD (B i)
              · rw [if_neg (fun z => absurd z.2 (by decide))]
                have ei := f1 (by rw [c]; rfl)
                exact ⟨fun _ => fin i ei.symm g F q11 q12 q10 q14, fun z => absurd rfl z⟩
              · rw [if_pos ⟨by omega, rfl⟩]
                have f2 := f2 (by rw [c]; rfl)
                have d1 := of_decide_eq_true c
                have d0 := of_decide_eq_true cd
                have go : ∀ v : Int32, ((i = s → v = nI (B s - 48)) ∧ (s + 1 ≤ i → v = nI (10 * (B s - 48) + (B (s + 1) - 48)))) → K_Mo_token n Q 205 [some (.ref 166), o1, some (.int (nI (i - s)))] [.int v, .ref 166] g := fun v hv => by
                  have F5 : Fb h (xsI g 166 14 v) := F.w
                  have L5 := F5.1.lay L
                  refine b_Mo_token_205 ⟨⟨by decide, Lg.s 166⟩, b_Mo_token_208 ⟨L5.s 166, ⟨by decide, L5.s 166⟩, b_Mo_token_218 ?_⟩⟩
                  rw [upI_o _ _ _ _ (by decide), q10, nI_1, nI_1, show i - s + 1 = i + 1 - s by omega]
                  refine ih (i + 1) (by omega) (by omega) f2 _ F5.w ?_ ?_ (upI_s _ _ _ _) ⟨fun z => by omega, fun z => ?_, fun z => ?_⟩ _
                  · rw [upI_o _ _ _ _ (by decide), upI_o _ _ _ _ (by decide)]; exact q11
                  · rw [upI_o _ _ _ _ (by decide), upI_o _ _ _ _ (by decide)]; exact q12
                  · rw [upI_o _ _ _ _ (by decide), upI_s]; exact hv.1 (by omega)
                  · rw [upI_o _ _ _ _ (by decide), upI_s]; exact hv.2 (by omega)
                refine ⟨fun z => absurd z (by decide), fun _ => ⟨fun z => ⟨Lg.s 166, ?_⟩, fun z => ⟨Lg.s 166, c_Mo_see (by omega) Lg (F.tp T) l6 (by omega) q11 q10 ?_⟩⟩⟩
                · have z' : 2 ≤ i - s := (nI_leI (a := 2) (by decide) (by omega)).mp z
                  rw [q14.2.2 (by omega)]
                  exact go _ ⟨fun y => by omega, fun _ => rfl⟩
                · have z' : i - s < 2 := Nat.lt_of_not_le (fun y => z ((nI_leI (a := 2) (by decide) (by omega)).mpr y))
                  rw [if_pos (show i < len by omega)]
                  refine go _ ⟨fun y => ?_, fun y => ?_⟩
                  · subst y
                    rw [q14.1 rfl, show (10 : Int32) * 0 = 0 from by decide, Int32.zero_add]
                    exact pk_sub (b := 48) (by omega)
                  · have : i = s + 1 := by omega
                    subst this
                    rw [q14.2.1 rfl, show (10 : Int32) * nI (B s - 48) = nI (10 * (B s - 48)) from pk_mul 10 _, nI_add, show ∀ a, nI a - (48 : Int32) = nI a - nI 48 from fun _ => rfl, pk_sub (by omega)]
                    congr 1
                    omega
          have k0 := key (len - s) s (by omega) (by omega) eE.symm (xsI g2 166 14 0) F2.w (by rw [upI_o _ _ _ _ (by decide)]; exact r11) (by rw [upI_o _ _ _ _ (by decide)]; exact r12) (by rw [upI_o _ _ _ _ (by decide)]; exact r10) ⟨fun _ => upI_s _ _ _ _, fun z => by omega, fun z => by omega⟩
          rw [Nat.sub_self] at k0
          exact k0 _
      · rw [if_pos ⟨sl, rfl⟩]
        refine ⟨fun z => absurd z (by decide), fun _ => ?_⟩
        have eE : tE B len s = fsx (fun j => !isL (B j)) (len - s) s := by
          unfold tE
          rw [if_neg (by omega), if_pos cl]
        have ek : kd B len s = 1 := by
          unfold kd
          rw [if_neg (by omega), if_pos cl]
        obtain ⟨b1, b2, b3⟩ := tE_b (B := B) (len := len) (s := s) (by omega)
        have fin : ∀ i, i = tE B len s → ∀ g, Fb h g → xI g 166 11 = nI len → xI g 166 12 = nI s → xI g 166 10 = nI i → (i - s ≤ 8 → xL g 166 15 = lN (pkb B s (i - s))) → ∀ o1 : Option Value, (nI (i - s) ≤ (8 : Int32) → (xS g 166 = (11, 0) ∧ ((64 ≤ 166 ∧ xS g 166 = (11, 0)) ∧ K_Mo_token n Q 139 [some (.ref 166), o1, some (.int (nI (i - s)))] [] (xsL g 166 15 (xL g 166 15))))) ∧ (¬ nI (i - s) ≤ (8 : Int32) → ((64 ≤ 166 ∧ xS g 166 = (11, 0)) ∧ K_Mo_token n Q 139 [some (.ref 166), o1, some (.int (nI (i - s)))] [] (xsL g 166 15 (0 : Int64)))) := fun i ei g F q11 q12 q10 q15 o1 => by
          have Lg := F.1.lay L
          rw [show (nI (i - s) ≤ (8 : Int32)) = (i - s ≤ 8) from propext (nI_leI (b := 8) (by omega) (by decide))]
          have go : ∀ v : Int64, v = lN (pkw B len s) → K_Mo_token n Q 139 [some (.ref 166), o1, some (.int (nI (i - s)))] [] (xsL g 166 15 v) := fun v hv => by
            have F5 : Fb h (xsL g 166 15 v) := F.wl
            have L5 := F5.1.lay L
            refine b_Mo_token_139 ⟨⟨by decide, L5.s 166⟩, hQ _ F5.w ⟨?_, ?_, ?_, ?_, fun w => ?_, fun w => ?_⟩⟩
            · rw [upI_o _ _ _ _ (by decide)]; exact q11
            · rw [upI_o _ _ _ _ (by decide)]; exact q12
            · rw [upI_o _ _ _ _ (by decide), ← ei]; exact q10
            · rw [upI_s, ek]; rfl
            · rw [ek] at w; exact absurd w (by decide)
            · exact (upL_s g 166 15 v).trans hv
          refine ⟨fun z => ⟨Lg.s 166, ⟨by decide, Lg.s 166⟩, go _ ?_⟩, fun z => ⟨⟨by decide, Lg.s 166⟩, go _ ?_⟩⟩
          · rw [q15 z]
            unfold pkw
            rw [← ei, if_pos z]
          · unfold pkw
            rw [← ei, if_neg z]; rfl
        have key : ∀ d i, i + d = len → s ≤ i → fsx (fun j => !isL (B j)) d i = tE B len s → ∀ g, Fb h g → xI g 166 11 = nI len → xI g 166 12 = nI s → xI g 166 10 = nI i → (i - s ≤ 8 → xL g 166 15 = lN (pkb B s (i - s))) → ∀ o1 : Option Value, K_Mo_token n Q 74 [some (.ref 166), o1, some (.int (nI (i - s)))] [] g := by
          intro d
          induction d with
          | zero =>
            intro i hi si ej g F q11 q12 q10 q15 o1
            have ej' : i = tE B len s := ej
            have Lg := F.1.lay L
            refine b_Mo_token_74 ⟨Lg.s 166, c_Mo_see (by omega) Lg (F.tp T) l6 (by omega) q11 q10 (c_Mo_inL (by omega) (B256 i) ?_)⟩
            rw [if_neg (fun z => by omega)]
            exact ⟨fun _ => fin i ej' g F q11 q12 q10 q15 _, fun z => absurd rfl z⟩
          | succ d ih =>
            intro i hi si ej g F q11 q12 q10 q15 o1
            have Lg := F.1.lay L
            obtain ⟨f1, f2⟩ := fsx_1 ej
            refine b_Mo_token_74 ⟨Lg.s 166, c_Mo_see (by omega) Lg (F.tp T) l6 (by omega) q11 q10 (c_Mo_inL (by omega) (B256 i) ?_)⟩
            cases c : isL (B i)
            · rw [if_neg (fun z => absurd z.2 (by decide))]
              have ei := f1 (by rw [c]; rfl)
              exact ⟨fun _ => fin i ei.symm g F q11 q12 q10 q15 _, fun z => absurd rfl z⟩
            · rw [if_pos ⟨by omega, rfl⟩]
              refine ⟨fun z => absurd z (by decide), fun _ => ⟨Lg.s 166, c_Mo_see (by omega) Lg (F.tp T) l6 (by omega) q11 q10 ⟨⟨by decide, Lg.s 166⟩, ?_⟩⟩⟩
              rw [if_pos (show i < len by omega)]
              have w15 : i - s ≤ 7 → ((xL g 166 15) <<< ((8 : Int32).toInt64 &&& 63)) ||| (nI (B i)).toInt64 = lN (pkb B s (i + 1 - s)) := fun z => by
                rw [q15 (by omega), wsh (B256 i (by omega)), show i + 1 - s = (i - s) + 1 by omega]
                show _ = lN (pkb B s (i - s) * 256 + B (s + (i - s)))
                rw [show s + (i - s) = i by omega]
              generalize ((xL g 166 15) <<< ((8 : Int32).toInt64 &&& 63)) ||| (nI (B i)).toInt64 = v at w15 ⊢
              have F5 : Fb h (xsL g 166 15 v) := F.wl
              have L5 := F5.1.lay L
              refine b_Mo_token_105 ⟨L5.s 166, ⟨by decide, L5.s 166⟩, b_Mo_token_115 ?_⟩
              rw [show xI (xsL g 166 15 v) 166 10 = nI i from q10, nI_1, nI_1, show i - s + 1 = i + 1 - s by omega]
              refine ih (i + 1) (by omega) (by omega) (f2 (by rw [c]; rfl)) _ F5.w ?_ ?_ (upI_s _ _ _ _) (fun z => ?_) _
              · rw [upI_o _ _ _ _ (by decide)]; exact q11
              · rw [upI_o _ _ _ _ (by decide)]; exact q12
              · exact (upL_s g 166 15 v).trans (w15 (by omega))
        have k0 := key (len - s) s (by omega) (by omega) eE.symm g2 F2 r11 r12 r10 (fun _ => by rw [w15, Nat.sub_self]; rfl)
        rw [Nat.sub_self] at k0
        exact k0 _
    · rw [if_neg sl]
      have ek : kd B len s = 0 := by
        unfold kd
        rw [if_pos (by omega)]
      refine b_Mo_token_49 ⟨fun z => absurd z (by decide), fun _ => ⟨⟨by decide, L2.s 166⟩, hQ _ F2.w ⟨?_, ?_, ?_, ?_, fun w => ?_, fun w => ?_⟩⟩⟩
      · rw [upI_o _ _ _ _ (by decide)]; exact r11
      · rw [upI_o _ _ _ _ (by decide)]; exact r12
      · rw [upI_o _ _ _ _ (by decide), r10]
        unfold tE
        rw [if_pos (by omega)]
      · rw [upI_s, ek]; rfl
      · rw [ek] at w; exact absurd w (by decide)
      · rw [ek] at w; exact absurd w (by decide)
  have key : ∀ d i, i + d = len → fsx (fun j => !isB (B j)) d i = s → ∀ g, Fb h g → xI g 166 11 = nI len → xI g 166 10 = nI i → ∀ o1 o2 : Option Value, K_Mo_token n Q 0 [some (.ref 166), o1, o2] [] g := by
    intro d
    induction d with
    | zero =>
      intro i hi ej g F w11 w10 o1 o2
      have ej' : i = s := ej
      have Lg := F.1.lay L
      refine b_Mo_token_0 ⟨Lg.s 166, c_Mo_see (by omega) Lg (F.tp T) l6 (by omega) w11 w10 ?_⟩
      rw [if_neg (by omega)]
      refine ⟨fun z => absurd z (by decide), fun _ => ⟨Lg.s 166, c_Mo_see (by omega) Lg (F.tp T) l6 (by omega) w11 w10 ?_⟩⟩
      rw [if_neg (by omega), w10, ej']
      refine ⟨fun _ => ⟨Lg.s 166, ⟨by decide, Lg.s 166⟩, body g F w11 (by rw [← ej']; exact w10) _ _⟩, fun z => absurd z (by decide)⟩
    | succ d ih =>
      intro i hi ej g F w11 w10 o1 o2
      have Lg := F.1.lay L
      obtain ⟨f1, f2⟩ := fsx_1 ej
      have b2 := B256 i (by omega)
      have go : isB (B i) = true → ∀ o1 o2 : Option Value, K_Mo_token n Q 0 [some (.ref 166), o1, o2] [] (xsI g 166 10 (nI (i + 1))) := fun c o1 o2 => by
        refine ih (i + 1) (by omega) (f2 (by rw [c]; rfl)) _ F.w ?_ (upI_s _ _ _ _) _ _
        rw [upI_o _ _ _ _ (by decide)]; exact w11
      refine b_Mo_token_0 ⟨Lg.s 166, c_Mo_see (by omega) Lg (F.tp T) l6 (by omega) w11 w10 ?_⟩
      rw [if_pos (show i < len by omega), w10, nI_1]
      refine ⟨fun z => ⟨Lg.s 166, ⟨by decide, Lg.s 166⟩, go (decide_eq_true (Or.inr ((nI_eq (b := 10) (by omega) (by decide)).mp z))) _ _⟩, fun z => ⟨Lg.s 166, c_Mo_see (by omega) Lg (F.tp T) l6 (by omega) w11 w10 ?_⟩⟩
      rw [if_pos (show i < len by omega), w10, nI_1]
      refine ⟨fun y => ⟨Lg.s 166, ⟨by decide, Lg.s 166⟩, ?_⟩, fun y => ⟨Lg.s 166, ⟨by decide, Lg.s 166⟩, go (decide_eq_true (Or.inl ((nI_eq (b := 32) (by omega) (by decide)).mp y))) _ _⟩⟩
      have c : isB (B i) = false := decide_eq_false (fun w => by
        rcases w with w | w
        · exact y (by rw [w]; rfl)
        · exact z (by rw [w]; rfl))
      have ei := f1 (by rw [c]; rfl)
      rw [← ei]
      exact body g F w11 (by rw [ei]; exact w10) _ _
  exact w_Mo_token (key (len - a) a (by omega) hs h Fb.rf e11 e10 _ _)
theorem MTk.tok {n : Nat} (hn : 2 ≤ n) {h : xh} (L : Lay h) {B : Nat → Nat} (T : TpM h B) {len s : Nat} (l6 : len ≤ 600) (hs : s ≤ len) (C : MTk h B len s) {Q : xh → Prop} (hQ : ∀ g, Fb h g → MTk g B len (nxt B len s) → Q g) : xcv (xMC n) 216 [.ref 166] h Q := c_Mo_token hn L T l6 (tE_b hs).2.1 C.1 C.2.2.1 hQ
