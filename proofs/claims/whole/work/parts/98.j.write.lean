/-! what changes what is told: the invariant; end, feed -/
theorem Ca.sm {h f : xh} {cc : Nat → Nat} (C : Ca h cc) (F : ∀ c, 146 ≤ c → c ≤ 164 → Sm h f c) (e2 : xI f 172 = xI h 172) (e5 : xI f 175 = xI h 175) : Ca f cc := by
  obtain ⟨c1, c2, c3, c4, c5⟩ := C
  refine ⟨c1.sm (fun c z => F c (by unfold PB at z; omega) (by unfold PB at z; omega)) e2, c2.sm (fun c z => F c (by unfold P15 at z; omega) (by unfold P15 at z; omega)) e2, c3.sm (fun c z => F c (by unfold P6 at z; omega) (by unfold P6 at z; omega)) e5, c4.sm (fun c z => F c (by unfold P15 at z; omega) (by unfold P15 at z; omega)), ?_⟩
  rw [(F 163 (by decide) (by decide)).2.2.1]
  exact c5
theorem Im.ch {h g : xh} {k : Nat} (I : Im h k) (n : xN h ≤ xN g) (f6 : xR g 116 k = xR h 116 k) (f2 : xI g 192 k = xI h 192 k) (F : ∀ c, c < xN h → 193 ≤ c → Sm h g c) (M : ∀ c, 167 ≤ c → c < 176 → ∀ i, i < sW c → xI g c (sW c * (k + 1) + i) = xI h c (sW c * (k + 1) + i)) : Im g k := by
  rcases I with ⟨i1, i2⟩ | ⟨b, cc, i1, i2, i3, i4, i5⟩
  · exact Or.inl ⟨by rw [f6]; exact i1, by rw [f2]; exact i2⟩
  · have fb : ∀ c, b ≤ c → c ≤ b + 50 → Sm h g c := fun c h1 h2 => F c (by omega) (by omega)
    refine Or.inr ⟨b, cc, by rw [f6]; exact i1, ⟨i2.1, by omega⟩, ?_, by rw [f2]; exact i4, i5.sm fb M⟩
    obtain ⟨⟨t1, t2, t3⟩, ⟨t4, t5, t6⟩, t7⟩ := i3
    have g0 := fb b (by omega) (by omega)
    refine ⟨⟨by rw [g0.1]; exact t1, by rw [(fb (b + 1) (by omega) (by omega)).1]; exact t2, by rw [(fb (b + 2) (by omega) (by omega)).1]; exact t3⟩, ⟨by rw [g0.2.1]; exact t4, by rw [g0.2.1]; exact t5, fun q hq => by rw [g0.2.1]; exact t6 q hq⟩, fun q hq => ?_⟩
    have a1 : iA q ≤ 36 := by rcases q4 hq with z | z | z | z <;> subst z <;> decide
    have ga := fb (b + iA q) (by omega) (by omega)
    refine ⟨by rw [ga.1]; exact (t7 q hq).1, fun k hk => ⟨by rw [ga.2.1]; exact ((t7 q hq).2 k hk).1, ?_⟩⟩
    have ob := iO_b hq hk
    exact IT_IS hq ((t7 q hq).2 k hk).2 (fun c h1 h2 => fb c (by omega) (by omega))
theorem Iv.ch {N : Nat} {xs : Nat → Int32} {cc c2 : Nat → Nat} {h f : xh} (I : Iv N xs cc h) (n : xN f = xN h) (F : ∀ c, (c < 64 ∨ c = 116 ∨ 192 ≤ c) → Sm h f c) (L : Lay f) (M : ∀ c, 167 ≤ c → c < 176 → ∀ m, 1 ≤ m → m < 4 → ∀ i, i < sW c → xI f c (sW c * m + i) = xI h c (sW c * m + i)) (R : RT f 65 0 c2) (C : Ca f c2) : Iv N xs c2 f := by
  obtain ⟨⟨i1, i2⟩, i3, i4, i5, i7⟩ := I
  have f6 := (F 116 (Or.inr (Or.inl rfl))).2.1
  refine ⟨⟨L, i2.sm (fun c hc => F c (Or.inl hc))⟩, R, C, fun k hk => (i5 k hk).ch (by rw [n]; exact Nat.le_refl _) (by rw [f6]) (by rw [(F 192 (Or.inr (Or.inr (by decide)))).2.2.1]) (fun c _ hc => F c (Or.inr (Or.inr (by omega)))) (fun c h1 h2 i hi => M c h1 h2 (k + 1) (by omega) (by omega) i hi), ?_⟩
  unfold Sp
  rw [f6]
  exact i7
theorem a_end {n : Nat} (hn : 11 ≤ n) {N : Nat} {xs : Nat → Int32} {cc : Nat → Nat} {h : xh} (I : Iv N xs cc h) {p : Int32} : xci (xMC n) 153 [.ref 64, .int p] h (fun r h1 => Md N xs h1 ∧ xci (xMC n) 210 [.ref 166, .int p] h1 (Bt N xs r)) := by
  have R := I.2.1
  obtain ⟨hB, ⟨l, l6, e1, e2⟩, e3, e4⟩ := R
  have F1 : Fr (fun c => c = 65) h (xsI h 65 1 p) := (Fr.rf (P := fun c => c = 65)).wI rfl
  refine c_So_end (by omega) I.lay e1 l6 (fun j hj e => ⟨⟨F1.lay I.lay, I.st.sm (fun c hc => F1.g.2.2 c (by omega))⟩, c_Mo_end (by omega) (F1.lay I.lay) (l := l) (by rw [F1.i 168 (by decide)]; exact e2) l6 (fun i hi ei g F2 => ?_) (fun z => absurd e (z j hj))⟩) (fun z => ⟨I.md, c_Mo_end (by omega) I.lay e2 l6 (fun i hi ei => absurd ei (z i hi)) (fun _ g F => Bt.mk rfl (I.m F))⟩)
  subst e
  have F3 : Fr (fun c => c = 168) g (xsI g 168 0 (nI j)) := (Fr.rf (P := fun c => c = 168)).wI rfl
  have F : Fr (fun c => c = 65 ∨ PM c ∨ c = 168) h (xsI g 168 0 (nI j)) := (F1.mo (fun c z => Or.inl z)).tr ((F2.mo (fun c z => Or.inr (Or.inl z))).tr (F3.mo (fun c z => Or.inr (Or.inr z))))
  have s : ∀ c, ¬ (c = 65 ∨ PM c ∨ c = 168) → Sm h (xsI g 168 0 (nI j)) c := F.g.2.2
  have i8 : ∀ i, xI (xsI g 168 0 (nI j)) 168 i = if i = 0 then nI j else xI h 168 i := fun i => by
    rw [upI, F2.i 168 (fun z => by unfold PM at z; omega), F1.i 168 (by decide)]
  refine Bt.mk rfl (I.ch (c2 := cc) F.2.1 (fun c hc => s c (fun z => by unfold PM at z; omega)) (F.lay I.lay) (fun c h1 h2 m m1 m4 i hi => ?_) ⟨?_, ⟨j, by omega, ?_, ?_⟩, ?_, fun q hq => ?_⟩ (I.2.2.1.sm (fun c h1 h2 => s c (fun z => by unfold PM at z; omega)) (F.i 172 (fun z => by unfold PM at z; omega)) (F.i 175 (fun z => by unfold PM at z; omega))))
  · by_cases ec : c = 168
    · subst ec
      rw [i8, if_neg (by show ¬ 1 * m + i = 0; omega)]
    · rw [F.i c (fun z => by unfold PM at z; omega)]
  · rw [F.i 66 (fun z => by unfold PM at z; omega), F.i 167 (fun z => by unfold PM at z; omega)]
    exact hB
  · rw [F3.i 65 (by decide), F2.i 65 (fun z => by unfold PM at z; omega), upI_s]
  · rw [i8, if_pos rfl]
  · have e65 : ∀ i, i ≠ 1 → xI (xsI g 168 0 (nI j)) 65 i = xI h 65 i := fun i hi => by rw [F3.i 65 (by decide), F2.i 65 (fun z => by unfold PM at z; omega), upI_o _ _ _ _ hi]
    rw [e65 2 (by decide), e65 3 (by decide), F.i 169 (fun z => by unfold PM at z; omega), F.i 170 (fun z => by unfold PM at z; omega)]
    exact e3
  · obtain ⟨q1, q2, q3, q5⟩ := e4 q hq
    refine ⟨q1, by rw [F.i 67 (fun z => by unfold PM at z; omega)]; exact q2, by rw [F.i 171 (fun z => by unfold PM at z; omega)]; exact q3, fun k hk => ?_⟩
    have ob := iO_b hq (show k < 2 by omega)
    refine IT.cg hq (IT.sm hq (q5 k hk) (fun c h1 h2 => s c (fun z => by unfold PM at z; omega))) (fun i hi => ?_)
    unfold mQ
    rw [F.i (172 + q) (fun z => by unfold PM at z; omega)]
theorem sB_of {x : Int32} (h : xnar 2 x) : ∃ k, k < 256 ∧ x = sB k := by
  refine ⟨x.toInt8.toBitVec.toNat, x.toInt8.toBitVec.isLt, ?_⟩
  have e : (nI x.toInt8.toBitVec.toNat).toInt8 = x.toInt8 := by
    apply Int8.toBitVec_inj.mp
    rw [Int32.toBitVec_toInt8, BitVec.signExtend_eq_setWidth_of_le _ (by decide)]
    show ((BitVec.ofNat 32 x.toInt8.toBitVec.toNat).setWidth 8 : BitVec 8) = x.toInt8.toBitVec
    apply BitVec.eq_of_toNat_eq
    have := x.toInt8.toBitVec.isLt
    rw [BitVec.toNat_setWidth, BitVec.toNat_ofNat]
    omega
  unfold sB
  rw [e]
  exact Eq.symm h
theorem sB_n (k : Nat) : xnar 2 (sB k) := byt_n _
theorem bb_o {f : Nat → Int32} (l : Nat) (v : Int32) {i : Nat} : ∀ j, l + j ≤ i → bb f l v j i = f i
  | 0, _ => rfl
  | j + 1, h => by
    show va_up (bb f l v j) (l + j) (byt v j) i = f i
    rw [va_upn _ _ _ (by omega), bb_o l v j (by omega)]
theorem b20_o {f : Nat → Int32} (l : Nat) (a b c d e : Int32) {i : Nat} (h : l + 20 ≤ i) : b20 f l a b c d e i = f i := by
  unfold b20 b4
  rw [bb_o _ _ 4 (by omega), bb_o _ _ 4 (by omega), bb_o _ _ 4 (by omega), bb_o _ _ 4 (by omega), bb_o _ _ 4 (by omega)]
theorem a_feed {n : Nat} (hn : 11 ≤ n) {N : Nat} {xs : Nat → Int32} {cc : Nat → Nat} {h : xh} (I : Iv N xs cc h) {a b c d e : Int32} : xci (xMC n) 152 [.ref 64, .int a, .int b, .int c, .int d, .int e] h (fun r h1 => Md N xs h1 ∧ xci (xMC n) 208 [.ref 166, .int a, .int b, .int c, .int d, .int e] h1 (Bt N xs r)) := by
  have R := I.2.1
  obtain ⟨⟨B, hB⟩, ⟨l, l6, e1, e2⟩, e3, e4⟩ := R
  refine c_So_feed (by omega) I.lay e1 l6 (fun l2 g L1 F1 t1 u1 => ?_) (fun z => ⟨I.md, c_Mo_feed (by omega) I.lay e2 l6 (fun y => absurd y z) (fun _ g F => Bt.mk rfl (I.m F))⟩)
  refine ⟨⟨L1, I.st.sm (fun c hc => F1.g.2.2 c (fun z => by unfold P65 at z; omega))⟩, c_Mo_feed (by omega) L1 (l := l) (by rw [F1.i 168 (fun z => by unfold P65 at z; omega)]; exact e2) l6 (fun _ f L2 F2 t2 u2 => ?_) (fun y => absurd l2 y)⟩
  have F : Fr (fun c => P65 c ∨ PMf c) h f := (F1.mo (fun c z => Or.inl z)).tr (F2.mo (fun c z => Or.inr z))
  have nP : ∀ c, ¬ (c = 65 ∨ c = 66 ∨ c = 166 ∨ (176 ≤ c ∧ c ≤ 191) ∨ c = 167 ∨ c = 168) → ¬ (P65 c ∨ PMf c) := fun c h1 z => by unfold P65 PMf PM PM8 at z; omega
  have s : ∀ c, ¬ (c = 65 ∨ c = 66 ∨ c = 166 ∨ (176 ≤ c ∧ c ≤ 191) ∨ c = 167 ∨ c = 168) → Sm h f c := fun c hc => F.g.2.2 c (nP c hc)
  have n2 : ∀ c, c < 166 → ¬ PMf c := fun c h1 z => by unfold PMf PM PM8 at z; omega
  have n1 : ∀ c, 67 ≤ c → ¬ P65 c := fun c h1 z => by unfold P65 at z; omega
  rw [F1.i 167 (n1 167 (by decide))] at t2
  rw [F1.i 168 (n1 168 (by decide))] at u2
  have t1 : xI f 66 = b20 (xI h 66) l a b c d e := by rw [F2.i 66 (n2 66 (by decide))]; exact t1
  have u1 : xI f 65 = va_up (xI h 65) 1 (nI (l + 20)) := by rw [F2.i 65 (n2 65 (by decide))]; exact u1
  have hz : ∀ i, i < 600 → xI h 66 i = (fun i => if i < 600 then xI h 66 i else 0) i := fun i hi => by
    show _ = if i < 600 then xI h 66 i else 0
    rw [if_pos hi]
  have nz : ∀ i, xnar 2 ((fun i => if i < 600 then xI h 66 i else 0) i) := fun i => by
    show xnar 2 (if i < 600 then xI h 66 i else 0)
    by_cases hi : i < 600
    · rw [if_pos hi, (hB i hi).1]; exact sB_n _
    · rw [if_neg hi]; exact rfl
  have h67 : ∀ i, i < 600 → xI h 167 i = xI h 66 i := fun i hi => by
    have := (hB i hi).2.1
    rw [Nat.mul_zero, Nat.zero_add] at this
    rw [this, (hB i hi).1]
  have nw : ∀ i, ∃ k, i < 600 → xI f 66 i = sB k ∧ xI f 167 (600 * 0 + i) = sB k ∧ k < 256 := fun i => by
    by_cases hi : i < 600
    · have x1 : xnar 2 (xI f 66 i) := by
        rw [t1, b20_eq hz l a b c d e i hi]
        exact b20_n nz l a b c d e i
      obtain ⟨k, hk, ek⟩ := sB_of x1
      refine ⟨k, fun _ => ⟨ek, ?_, hk⟩⟩
      rw [Nat.mul_zero, Nat.zero_add, t2, b20_eq h67 l a b c d e i hi, ← t1]
      exact ek
    · exact ⟨0, fun z => absurd z hi⟩
  refine Bt.mk rfl (I.ch (c2 := cc) F.2.1 (fun c hc => s c (by omega)) L2 (fun c h1 h2 m m1 m4 i hi => ?_) ⟨?_, ⟨l + 20, l2, ?_, ?_⟩, ?_, fun q hq => ?_⟩ (I.2.2.1.sm (fun c h1 h2 => s c (by omega)) (F.i 172 (nP 172 (by omega))) (F.i 175 (nP 175 (by omega)))))
  · by_cases ec : c = 168
    · subst ec
      rw [u2, va_upn _ _ _ (by show ¬ 1 * m + i = 0; omega)]
    · by_cases ec7 : c = 167
      · subst ec7
        rw [t2, b20_o _ _ _ _ _ _ (by show l + 20 ≤ 600 * m + i; omega)]
      · rw [F.i c (nP c (by omega))]
  · exact ⟨fun i => Classical.choose (nw i), fun i hi => Classical.choose_spec (nw i) hi⟩
  · rw [u1, va_up_at]
  · rw [u2, va_up_at]
  · rw [u1, va_upn _ _ _ (by decide), va_upn _ _ _ (by decide), F.i 169 (nP 169 (by omega)), F.i 170 (nP 170 (by omega))]
    exact e3
  · obtain ⟨q1, q2, q3, q5⟩ := e4 q hq
    refine ⟨q1, by rw [F.i 67 (nP 67 (by omega))]; exact q2, by rw [F.i 171 (nP 171 (by omega))]; exact q3, fun k hk => ?_⟩
    have ob := iO_b hq (show k < 2 by omega)
    refine IT.cg hq (IT.sm hq (q5 k hk) (fun c h1 h2 => s c (by omega))) (fun i hi => ?_)
    unfold mQ
    rw [F.i (172 + q) (nP _ (by omega))]
