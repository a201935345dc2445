/-! feed -/
def shf (j : Nat) : Int32 := 24 - 8 * nI j
def byt (v : Int32) (j : Nat) : Int32 := (v >>> (shf j &&& 31)).toInt8.toInt32
theorem shf_s : ∀ j, j < 4 → shf j + (-8) = shf (j + 1) := by decide
theorem shf_p : ∀ j, j < 4 → ¬ shf j < 0 := by decide
theorem sh_bits (x : BitVec 32) (s : Nat) (hs : s ≤ 24) : (x >>> s).setWidth 8 = (x.sshiftRight s).setWidth 8 := by
  apply BitVec.eq_of_getLsbD_eq
  intro i hi
  simp only [BitVec.getLsbD_setWidth, BitVec.getLsbD_ushiftRight, BitVec.getLsbD_sshiftRight]
  have h1 : s + i < 32 := by omega
  have h2 : ¬ 32 ≤ i := by omega
  simp [h1, h2, hi]
theorem byt_c : ∀ (v : Int32) j, j < 4 → ((v.toUInt32 >>> ((shf j).toUInt32 &&& Int32.toUInt32 31)).toInt32).toInt8.toInt32 = byt v j := by
  intro v j hj
  unfold byt
  congr 1
  apply Int8.toBitVec_inj.mp
  have e : j = 0 ∨ j = 1 ∨ j = 2 ∨ j = 3 := by omega
  have k : ∀ (s : Nat) (w : Int32) (u : UInt32), s ≤ 24 → (u.toBitVec % 32).toNat = s → (w.toBitVec.smod 32).toNat = s → ((v.toUInt32 >>> u).toInt32).toInt8.toBitVec = (v >>> w).toInt8.toBitVec := by
    intro s w u hs h1 h2
    rw [Int32.toBitVec_toInt8, Int32.toBitVec_toInt8, Int32.toBitVec_shiftRight, BitVec.signExtend_eq_setWidth_of_le _ (by decide), BitVec.signExtend_eq_setWidth_of_le _ (by decide)]
    show (UInt32.toBitVec (v.toUInt32 >>> u)).setWidth 8 = _
    rw [UInt32.toBitVec_shiftRight, BitVec.sshiftRight', h2]
    have := sh_bits v.toBitVec s hs
    rw [← this]
    show ((v.toBitVec) >>> (u.toBitVec % 32).toNat).setWidth 8 = _
    rw [h1]
  rcases e with e | e | e | e
  · subst e; exact k 24 _ _ (by decide) (by decide) (by decide)
  · subst e; exact k 16 _ _ (by decide) (by decide) (by decide)
  · subst e; exact k 8 _ _ (by decide) (by decide) (by decide)
  · subst e; exact k 0 _ _ (by decide) (by decide) (by decide)
theorem byt_n (x : Int32) : xnar 2 (x.toInt8.toInt32) := by
  show x.toInt8.toInt32.toInt8.toInt32 = x.toInt8.toInt32
  rw [Int8.toInt8_toInt32]
/-- a row with the first bytes of a number put behind each other -/
def bb (f : Nat → Int32) (l : Nat) (v : Int32) : Nat → Nat → Int32
  | 0 => f
  | j + 1 => va_up (bb f l v j) (l + j) (byt v j)
def b4 (f : Nat → Int32) (l : Nat) (v : Int32) : Nat → Int32 := bb f l v 4
def P65 (c : Nat) : Prop := c = 65 ∨ c = 66
theorem va_up_at {α : Type} (f : Nat → α) (i : Nat) (v : α) : va_up f i v i = v := if_pos rfl
theorem va_upn {α : Type} (f : Nat → α) (i : Nat) (v : α) {k : Nat} (h : k ≠ i) : va_up f i v k = f k := if_neg h
theorem va_up_up {α : Type} (f : Nat → α) (i : Nat) (v w : α) : va_up (va_up f i v) i w = va_up f i w := by
  funext k
  by_cases e : k = i
  · subst e; rw [va_up_at, va_up_at]
  · rw [va_upn _ _ _ e, va_upn _ _ _ e, va_upn _ _ _ e]
theorem c_Told_addBytes {n : Nat} (hn : 1 ≤ n) {h : xh} (L : Lay h) {l : Nat} (hl : xI h 65 1 = nI l) (l6 : l + 4 ≤ 600) {v : Int32} {Q : xh → Prop} (hQ : ∀ h', Lay h' → Fr P65 h h' → xI h' 66 = b4 (xI h 66) l v → xI h' 65 = va_up (xI h 65) 1 (nI (l + 4)) → Q h') : xcv (xMC n) 145 [.ref 65, .int v] h Q := by
  obtain ⟨n, rfl⟩ := xsucc hn
  have key : ∀ d j, j + d = 4 → ∀ h', Lay h' → Fr P65 h h' → xI h' 66 = bb (xI h 66) l v j → xI h' 65 = va_up (xI h 65) 1 (nI (l + j)) → K_Told_addBytes n Q 3 [some (.ref 65), some (.int v), some (.int (shf j))] [] h' := by
    intro d
    induction d with
    | zero =>
      intro j hj h' L' F e6 e5
      have : j = 4 := by omega
      subst this
      exact b_Told_addBytes_3 ⟨fun _ => hQ h' L' F e6 e5, fun z => absurd (by decide) z⟩
    | succ d ih =>
      intro j hj h' L' F e6 e5
      have el : xI h' 65 1 = nI (l + j) := by rw [e5, va_up_at]
      refine b_Told_addBytes_3 ⟨fun z => absurd z (shf_p j (by omega)), fun _ => ⟨L'.s 65, ?_⟩⟩
      rw [el, byt_c v j (by omega), nI_clamp (by omega)]
      refine ⟨fun z => absurd ((nI_leI (a := 600) (by decide) (by omega)).mp z) (by omega), fun _ => ⟨66, L'.r 65 0 66, ⟨by decide, L'.x 66 (n := 600) (by omega), byt_n _⟩, b_Told_addBytes_30 ⟨by exact L'.s 65, ⟨by decide, by exact L'.s 65⟩, b_Told_addBytes_40 ?_⟩⟩⟩
      rw [xsI_ne _ _ _ (by decide), el, nI_1, shf_s j (by omega)]
      refine ih (j + 1) (by omega) _ L' ((F.wI (Or.inr rfl)).wI (Or.inl rfl)) ?_ ?_
      · rw [xsI_ne _ _ _ (by decide), xsI_at, e6]; rfl
      · rw [xsI_at, xsI_ne _ _ _ (by decide), e5, va_up_up]; rfl
  refine w_Told_addBytes (key 4 0 (by omega) h L Fr.rf rfl ?_)
  funext k
  by_cases e : k = 1
  · subst e; rw [va_up_at, hl]; rfl
  · rw [va_upn _ _ _ e]
def PM8 (c : Nat) : Prop := c = 167 ∨ c = 168
theorem c_Mo_four {n : Nat} (hn : 1 ≤ n) {h : xh} (L : Lay h) {l : Nat} (hl : xI h 168 0 = nI l) (l6 : l + 4 ≤ 600) {v : Int32} {Q : xh → Prop} (hQ : ∀ h', Lay h' → Fr PM8 h h' → xI h' 167 = b4 (xI h 167) l v → xI h' 168 = va_up (xI h 168) 0 (nI (l + 4)) → Q h') : xcv (xMC n) 209 [.ref 166, .int v] h Q := by
  obtain ⟨n, rfl⟩ := xsucc hn
  have key : ∀ d j, j + d = 4 → ∀ h', Lay h' → Fr PM8 h h' → xI h' 167 = bb (xI h 167) l v j → xI h' 168 = va_up (xI h 168) 0 (nI (l + j)) → K_Mo_four n Q 3 [some (.ref 166), some (.int v), some (.int (shf j))] [] h' := by
    intro d
    induction d with
    | zero =>
      intro j hj h' L' F e6 e5
      have : j = 4 := by omega
      subst this
      exact b_Mo_four_3 ⟨fun _ => hQ h' L' F e6 e5, fun z => absurd (by decide) z⟩
    | succ d ih =>
      intro j hj h' L' F e6 e5
      have el : xI h' 168 (0 : Int32).toNatClampNeg = nI (l + j) := by rw [e5]; exact va_up_at _ _ _
      have x0 : xar h' 168 20 0 := L'.x 168 (i := 0) (n := 4) (by omega)
      refine b_Mo_four_3 ⟨fun z => absurd z (shf_p j (by omega)), fun _ => ⟨L'.s 166, 167, L'.r 166 1 167, 168, L'.r 166 2 168, x0, ?_⟩⟩
      rw [el, nI_clamp (by omega)]
      refine ⟨⟨by decide, L'.x 167 (n := 2400) (by omega), byt_n _⟩, b_Mo_four_22 ⟨by exact L'.s 166, 168, by exact L'.r 166 2 168, x0, ⟨by decide, x0⟩, b_Mo_four_32 ?_⟩⟩
      rw [xsI_ne _ _ _ (by decide), el, nI_1, shf_s j (by omega)]
      refine ih (j + 1) (by omega) _ L' ((F.wI (Or.inl rfl)).wI (Or.inr rfl)) ?_ ?_
      · rw [xsI_ne _ _ _ (by decide), xsI_at, e6]; rfl
      · rw [xsI_at, xsI_ne _ _ _ (by decide), e5]; exact va_up_up _ _ _ _
  refine w_Mo_four (key 4 0 (by omega) h L Fr.rf rfl ?_)
  funext k
  by_cases e : k = 0
  · subst e; rw [va_up_at, hl]; rfl
  · rw [va_upn _ _ _ e]
def b20 (f : Nat → Int32) (l : Nat) (a b c d e : Int32) : Nat → Int32 := b4 (b4 (b4 (b4 (b4 f l a) (l + 4) b) (l + 8) c) (l + 12) d) (l + 16) e
theorem c_So_feed {n : Nat} (hn : 2 ≤ n) {h : xh} (L : Lay h) {l : Nat} (hl : xI h 65 1 = nI l) (l6 : l ≤ 600) {a b c d e : Int32} {Q : Int32 → xh → Prop} (h1 : l + 20 ≤ 600 → ∀ h', Lay h' → Fr P65 h h' → xI h' 66 = b20 (xI h 66) l a b c d e → xI h' 65 = va_up (xI h 65) 1 (nI (l + 20)) → Q (nI (l + 20)) h') (h0 : ¬ l + 20 ≤ 600 → Q (-1) h) : xci (xMC n) 152 [.ref 64, .int a, .int b, .int c, .int d, .int e] h Q := by
  obtain ⟨n, rfl⟩ := xsucc (show 1 ≤ n by omega)
  refine w_So_feed ⟨L.s 64, 65, L.r 64 0 65, L.s 65, ?_⟩
  rw [hl, show (580 : Int32) = nI 580 from rfl, nI_leI (by omega) (by decide)]
  refine ⟨fun z => ?_, fun z => h0 (by omega)⟩
  refine c_Told_addBytes (by omega) L hl (by omega) (fun g1 L1 F1 e1 d1 => ⟨L1.s 64, 65, L1.r 64 0 65, L1.s 65, ?_⟩)
  refine c_Told_addBytes (by omega) L1 (l := l + 4) (by rw [d1, va_up_at]) (by omega) (fun g2 L2 F2 e2 d2 => ⟨L2.s 64, 65, L2.r 64 0 65, L2.s 65, ?_⟩)
  refine c_Told_addBytes (by omega) L2 (l := l + 8) (by rw [d2, va_up_at]) (by omega) (fun g3 L3 F3 e3 d3 => ⟨L3.s 64, 65, L3.r 64 0 65, L3.s 65, ?_⟩)
  refine c_Told_addBytes (by omega) L3 (l := l + 12) (by rw [d3, va_up_at]) (by omega) (fun g4 L4 F4 e4 d4 => ⟨L4.s 64, 65, L4.r 64 0 65, L4.s 65, ?_⟩)
  refine c_Told_addBytes (by omega) L4 (l := l + 16) (by rw [d4, va_up_at]) (by omega) (fun g5 L5 F5 e5 d5 => ⟨L5.s 64, 65, L5.r 64 0 65, L5.s 65, ?_⟩)
  rw [d5, va_up_at]
  refine h1 (by omega) g5 L5 (F1.tr (F2.tr (F3.tr (F4.tr F5)))) ?_ ?_
  · rw [e5, e4, e3, e2, e1]; rfl
  · rw [d5, d4, d3, d2, d1, va_up_up, va_up_up, va_up_up, va_up_up]
def PMf (c : Nat) : Prop := PM c ∨ PM8 c
theorem c_Mo_feed {n : Nat} (hn : 2 ≤ n) {h : xh} (L : Lay h) {l : Nat} (hl : xI h 168 0 = nI l) (l6 : l ≤ 600) {a b c d e : Int32} {Q : Int32 → xh → Prop} (h1 : l + 20 ≤ 600 → ∀ h', Lay h' → Fr PMf h h' → xI h' 167 = b20 (xI h 167) l a b c d e → xI h' 168 = va_up (xI h 168) 0 (nI (l + 20)) → Q (nI (l + 20)) h') (h0 : ¬ l + 20 ≤ 600 → ∀ h', Fr PM h h' → Q (-1) h') : xci (xMC n) 208 [.ref 166, .int a, .int b, .int c, .int d, .int e] h Q := by
  obtain ⟨n, rfl⟩ := xsucc (show 1 ≤ n by omega)
  have hs := L.s 166 (p := (11, 0))
  have F : Fr PM h (xsI h 166 0 0) := Fr.rf.wI (Or.inl rfl)
  have L0 : Lay (xsI h 166 0 0) := L
  have hl0 : xI (xsI h 166 0 0) 168 0 = nI l := by rw [xsI_ne _ _ _ (by decide)]; exact hl
  have h1' : l + 20 ≤ 600 → ∀ h', Lay h' → Fr PM8 (xsI h 166 0 0) h' → xI h' 167 = b20 (xI (xsI h 166 0 0) 167) l a b c d e → xI h' 168 = va_up (xI (xsI h 166 0 0) 168) 0 (nI (l + 20)) → Q (nI (l + 20)) h' := fun z h' L' F' e1 e2 => h1 z h' L' ((F.mo (fun c z => Or.inl z)).tr (Fr.mo F' (fun c z => Or.inr z))) (by rw [e1, xsI_ne _ _ _ (by decide)]) (by rw [e2, xsI_ne _ _ _ (by decide)])
  have h0' := fun z => h0 z _ F
  refine w_Mo_feed ⟨⟨by decide, hs⟩, b_Mo_feed_5 ⟨hs, 168, L.r 166 2 168, L.x 168 (i := 0) (n := 4) (by omega), ?_⟩⟩
  clear h1 h0
  generalize xsI h 166 0 0 = g at *
  rw [show (0 : Int32).toNatClampNeg = 0 from rfl, hl0, show nI l + (20 : Int32) = nI (l + 20) from nI_add l 20, show (600 : Int32) = nI 600 from rfl, nI_leI (by omega) (by decide)]
  refine ⟨fun z => ?_, fun z => h0' (by omega)⟩
  refine c_Mo_four (by omega) L0 hl0 (by omega) (fun g1 L1 F1 e1 d1 => ⟨L1.s 166, ?_⟩)
  refine c_Mo_four (by omega) L1 (l := l + 4) (by rw [d1, va_up_at]) (by omega) (fun g2 L2 F2 e2 d2 => ⟨L2.s 166, ?_⟩)
  refine c_Mo_four (by omega) L2 (l := l + 8) (by rw [d2, va_up_at]) (by omega) (fun g3 L3 F3 e3 d3 => ⟨L3.s 166, ?_⟩)
  refine c_Mo_four (by omega) L3 (l := l + 12) (by rw [d3, va_up_at]) (by omega) (fun g4 L4 F4 e4 d4 => ⟨L4.s 166, ?_⟩)
  refine c_Mo_four (by omega) L4 (l := l + 16) (by rw [d4, va_up_at]) (by omega) (fun g5 L5 F5 e5 d5 => ⟨L5.s 166, 168, L5.r 166 2 168, L5.x 168 (i := 0) (n := 4) (by omega), ?_⟩)
  rw [d5, va_up_at]
  refine h1' (by omega) g5 L5 (F1.tr (F2.tr (F3.tr (F4.tr F5)))) ?_ ?_
  · rw [e5, e4, e3, e2, e1]; rfl
  · rw [d5, d4, d3, d2, d1, va_up_up, va_up_up, va_up_up, va_up_up]
theorem bb_eq {f g : Nat → Int32} {N : Nat} (hf : ∀ i, i < N → f i = g i) (l : Nat) (v : Int32) : ∀ j i, i < N → bb f l v j i = bb g l v j i
  | 0, i, hi => hf i hi
  | j + 1, i, hi => by
    show va_up (bb f l v j) (l + j) (byt v j) i = va_up (bb g l v j) (l + j) (byt v j) i
    by_cases e : i = l + j
    · subst e; rw [va_up_at, va_up_at]
    · rw [va_upn _ _ _ e, va_upn _ _ _ e, bb_eq hf l v j i hi]
theorem b20_eq {f g : Nat → Int32} {N : Nat} (hf : ∀ i, i < N → f i = g i) (l : Nat) (a b c d e : Int32) : ∀ i, i < N → b20 f l a b c d e i = b20 g l a b c d e i := bb_eq (bb_eq (bb_eq (bb_eq (bb_eq hf _ _ 4) _ _ 4) _ _ 4) _ _ 4) _ _ 4
theorem bb_n {f : Nat → Int32} (hf : ∀ i, xnar 2 (f i)) (l : Nat) (v : Int32) : ∀ j i, xnar 2 (bb f l v j i)
  | 0, i => hf i
  | j + 1, i => by
    show xnar 2 (va_up (bb f l v j) (l + j) (byt v j) i)
    by_cases e : i = l + j
    · subst e; rw [va_up_at]; exact byt_n _
    · rw [va_upn _ _ _ e]; exact bb_n hf l v j i
theorem b20_n {f : Nat → Int32} (hf : ∀ i, xnar 2 (f i)) (l : Nat) (a b c d e : Int32) : ∀ i, xnar 2 (b20 f l a b c d e i) := bb_n (bb_n (bb_n (bb_n (bb_n hf _ _ 4) _ _ 4) _ _ 4) _ _ 4) _ _ 4
