/-! THE INVARIANT -/
def mQ (h : xh) (q m k : Nat) : Nat → Int32 := fun i => xI h (172 + q) (sW (172 + q) * m + (stW q * k + i))
def RT (h : xh) (b m : Nat) (cc : Nat → Nat) : Prop := (∃ B : Nat → Nat, ∀ i, i < 600 → xI h (b + 1) i = sB (B i) ∧ xI h 167 (600 * m + i) = sB (B i) ∧ B i < 256) ∧ (∃ len, len ≤ 600 ∧ xI h b 1 = nI len ∧ xI h 168 m = nI len) ∧ (xI h b 2 = xI h 169 m ∧ xI h b 3 = xI h 170 m) ∧ ∀ q, q < 4 → cc q ≤ 2 ∧ xI h (b + 2) q = nI (cc q) ∧ xI h 171 (4 * m + q) = nI (cc q) ∧ ∀ k, k < cc q → IT q h (b + iO q k) (mQ h q m k)
theorem sW_q {q k i : Nat} (hq : q < 4) (hk : k < 2) (hi : i < stW q) : stW q * k + i < sW (172 + q) := by
  have k2 : k = 0 ∨ k = 1 := by omega
  rcases q4 hq with z | z | z | z <;> subst z <;> rcases k2 with y | y <;> subst y
  · exact Nat.lt_of_lt_of_le (show 70 * 0 + i < 70 from (by have : i < 70 := hi; omega)) (by decide)
  · show 70 * 1 + i < 140; have : i < 70 := hi; omega
  · show 81 * 0 + i < 162; have : i < 81 := hi; omega
  · show 81 * 1 + i < 162; have : i < 81 := hi; omega
  · show 51 * 0 + i < 102; have : i < 51 := hi; omega
  · show 51 * 1 + i < 102; have : i < 51 := hi; omega
  · show 49 * 0 + i < 98; have : i < 49 := hi; omega
  · show 49 * 1 + i < 98; have : i < 49 := hi; omega
theorem RT.cp {h f : xh} {p s a d : Nat} {cc : Nat → Nat} (R : RT h p s cc) (C1 : ∀ i, i < 600 → xI f (a + 1) i = xI h (p + 1) i) (C2 : ∀ i, 1 ≤ i → i < 4 → xI f a i = xI h p i) (C3 : ∀ i, i < 4 → xI f (a + 2) i = xI h (p + 2) i) (C4 : ∀ q k D, q < 4 → k < 2 → IT q h (p + iO q k) D → IT q f (a + iO q k) D) (M : ∀ c, 167 ≤ c → c < 176 → ∀ i, i < sW c → xI f c (sW c * d + i) = xI h c (sW c * s + i)) : RT f a d cc := by
  obtain ⟨⟨B, hB⟩, ⟨len, l6, e1, e2⟩, ⟨e3, e4⟩, it⟩ := R
  have m1 : ∀ c, sW c = 1 → 167 ≤ c → c < 176 → xI f c d = xI h c s := fun c hc h1 h2 => by
    have := M c h1 h2 0 (by omega)
    rw [hc, Nat.one_mul, Nat.one_mul] at this
    exact this
  refine ⟨⟨B, fun i hi => ⟨?_, ?_, (hB i hi).2.2⟩⟩, ⟨len, l6, ?_, ?_⟩, ⟨?_, ?_⟩, fun q hq => ?_⟩
  · rw [C1 i hi]; exact (hB i hi).1
  · exact (M 167 (by decide) (by decide) i hi).trans (hB i hi).2.1
  · rw [C2 1 (by decide) (by decide)]; exact e1
  · rw [m1 168 rfl (by decide) (by decide)]; exact e2
  · rw [C2 2 (by decide) (by decide), m1 169 rfl (by decide) (by decide)]; exact e3
  · rw [C2 3 (by decide) (by decide), m1 170 rfl (by decide) (by decide)]; exact e4
  · obtain ⟨i1, i2, i3, i4⟩ := it q hq
    refine ⟨i1, by rw [C3 q hq]; exact i2, (M 171 (by decide) (by decide) q hq).trans i3, fun k hk => ?_⟩
    refine IT.cg hq (C4 q k _ hq (by omega) (i4 k hk)) (fun i hi => ?_)
    exact M (172 + q) (by omega) (by omega) _ (sW_q hq (by omega) hi)
theorem RT.sm {h f : xh} {a m : Nat} {cc : Nat → Nat} (R : RT h a m cc) (C : ∀ c, a ≤ c → c ≤ a + 50 → Sm h f c) (M : ∀ c, 167 ≤ c → c < 176 → ∀ i, i < sW c → xI f c (sW c * m + i) = xI h c (sW c * m + i)) : RT f a m cc := by
  refine R.cp (fun i _ => by rw [(C (a + 1) (by omega) (by omega)).2.2.1]) (fun i _ _ => by rw [(C a (by omega) (by omega)).2.2.1]) (fun i _ => by rw [(C (a + 2) (by omega) (by omega)).2.2.1]) (fun q k D hq hk H => IT.sm hq H (fun c h1 h2 => ?_)) M
  have := iO_b hq hk
  exact C c (by omega) (by omega)
theorem IT_IS {q : Nat} (hq : q < 4) {h g : xh} {a : Nat} (H : IS q h a) (F : ∀ c, a ≤ c → c ≤ a + iL q → Sm h g c) : IS q g a := by
  have f0 := F a (by omega) (by omega)
  have k : ∀ j, j < iL q → xS g (a + 1 + j) = xS h (a + 1 + j) := fun j hj => (F _ (by omega) (by omega)).1
  rcases q4 hq with z | z | z | z <;> subst z
  · have H : TnS h a := H
    exact ⟨f0.1.trans H.1, fun j hj => by rw [f0.2.1, k j hj]; exact H.2 j hj⟩
  · have H : EvS h a := H
    exact ⟨f0.1.trans H.1, fun j hj => by rw [f0.2.1, k j hj]; exact H.2 j hj⟩
  · have H : BoS h a := H
    exact ⟨f0.1.trans H.1, fun j hj => by rw [f0.2.1, k j hj]; exact H.2 j hj⟩
  · have H : ShS h a := H
    exact ⟨f0.1.trans H.1, fun j hj => by rw [f0.2.1, k j hj]; exact H.2 j hj⟩
/-- image k on both sides -/
def Im (h : xh) (k : Nat) : Prop := (xR h 116 k = none ∧ xI h 192 k = 0) ∨ ∃ b cc, xR h 116 k = some b ∧ (193 ≤ b ∧ b + 51 ≤ xN h) ∧ TSh h b ∧ xI h 192 k = 1 ∧ RT h b (k + 1) cc
def Ca (h : xh) (cc : Nat → Nat) : Prop := CB h (cc 0) ∧ CRr h (cc 0) ∧ CSr h (cc 3) ∧ Z3 h ∧ xI h 163 0 = 0
def Sp (h : xh) : Prop := ∀ k j b b', k < 3 → j < 3 → k ≠ j → xR h 116 k = some b → xR h 116 j = some b' → b + 50 < b' ∨ b' + 50 < b
def Iv (N : Nat) (xs : Nat → Int32) (cc : Nat → Nat) (h : xh) : Prop := (Lay h ∧ St0 h N xs) ∧ RT h 65 0 cc ∧ Ca h cc ∧ (∀ k, k < 3 → Im h k) ∧ Sp h
theorem Iv.lay {N : Nat} {xs : Nat → Int32} {cc : Nat → Nat} {h : xh} (I : Iv N xs cc h) : Lay h := I.1.1
theorem Iv.st {N : Nat} {xs : Nat → Int32} {cc : Nat → Nat} {h : xh} (I : Iv N xs cc h) : St0 h N xs := I.1.2
theorem mQ_0 (h : xh) (k : Nat) : mQ h 0 0 k = mT h k := by
  funext i
  show xI h 172 (sW 172 * 0 + (70 * k + i)) = xI h 172 (70 * k + i)
  rw [Nat.mul_zero, Nat.zero_add]
theorem mQ_1 (h : xh) (k : Nat) : mQ h 1 0 k = mE h k := by
  funext i
  show xI h 173 (sW 173 * 0 + (81 * k + i)) = xI h 173 (81 * k + i)
  rw [Nat.mul_zero, Nat.zero_add]
theorem mQ_2 (h : xh) (k : Nat) : mQ h 2 0 k = mB h k := by
  funext i
  show xI h 174 (sW 174 * 0 + (51 * k + i)) = xI h 174 (51 * k + i)
  rw [Nat.mul_zero, Nat.zero_add]
theorem mQ_3 (h : xh) (k : Nat) : mQ h 3 0 k = mS h k := by
  funext i
  show xI h 175 (sW 175 * 0 + (49 * k + i)) = xI h 175 (49 * k + i)
  rw [Nat.mul_zero, Nat.zero_add]
theorem Iv.tc {N : Nat} {xs : Nat → Int32} {cc : Nat → Nat} {h : xh} (I : Iv N xs cc h) : TwC h (cc 0) := by
  obtain ⟨i1, i2, i3, i4⟩ := I.2.1.2.2.2 0 (by decide)
  refine ⟨i2, i1, fun k hk => ?_⟩
  have t : Tn h (65 + (4 + 8 * k)) (mQ h 0 0 k) := i4 k hk
  rw [mQ_0, show 65 + (4 + 8 * k) = 69 + 8 * k by omega] at t
  exact t
theorem Iv.tm {N : Nat} {xs : Nat → Int32} {cc : Nat → Nat} {h : xh} (I : Iv N xs cc h) : TwM h (cc 0) := ⟨(I.2.1.2.2.2 0 (by decide)).2.2.1, I.tc.2.1, fun k hk => (I.tc.2.2 k hk).ok⟩
theorem Iv.ec {N : Nat} {xs : Nat → Int32} {cc : Nat → Nat} {h : xh} (I : Iv N xs cc h) : EvC h (cc 1) := by
  obtain ⟨i1, i2, i3, i4⟩ := I.2.1.2.2.2 1 (by decide)
  refine ⟨i2, i1, fun k hk => ?_⟩
  have t : Ev h (65 + (21 + 3 * k)) (mQ h 1 0 k) := i4 k hk
  rw [mQ_1, show 65 + (21 + 3 * k) = 86 + 3 * k by omega] at t
  exact t
theorem Iv.em {N : Nat} {xs : Nat → Int32} {cc : Nat → Nat} {h : xh} (I : Iv N xs cc h) : EvM h (cc 1) := ⟨(I.2.1.2.2.2 1 (by decide)).2.2.1, I.ec.2.1, fun k hk => (I.ec.2.2 k hk).2.2.2.2⟩
theorem Iv.bc {N : Nat} {xs : Nat → Int32} {cc : Nat → Nat} {h : xh} (I : Iv N xs cc h) : BkC h (cc 2) := by
  obtain ⟨i1, i2, i3, i4⟩ := I.2.1.2.2.2 2 (by decide)
  refine ⟨i2, i1, fun k hk => ?_⟩
  have t : Bk h (65 + (28 + 4 * k)) (mQ h 2 0 k) := i4 k hk
  rw [mQ_2, show 65 + (28 + 4 * k) = 93 + 4 * k by omega] at t
  exact t
theorem Iv.bm {N : Nat} {xs : Nat → Int32} {cc : Nat → Nat} {h : xh} (I : Iv N xs cc h) : BkM h (cc 2) := ⟨(I.2.1.2.2.2 2 (by decide)).2.2.1, I.bc.2.1, fun k hk => (I.bc.2.2 k hk).ok⟩
theorem Iv.sc {N : Nat} {xs : Nat → Int32} {cc : Nat → Nat} {h : xh} (I : Iv N xs cc h) : ShC h (cc 3) := by
  obtain ⟨i1, i2, i3, i4⟩ := I.2.1.2.2.2 3 (by decide)
  refine ⟨i2, i1, fun k hk => ?_⟩
  have t : Sh h (65 + (37 + 7 * k)) (mQ h 3 0 k) := i4 k hk
  rw [mQ_3, show 65 + (37 + 7 * k) = 102 + 7 * k by omega] at t
  exact t
theorem Iv.sm {N : Nat} {xs : Nat → Int32} {cc : Nat → Nat} {h : xh} (I : Iv N xs cc h) : ShM h (cc 3) := ⟨(I.2.1.2.2.2 3 (by decide)).2.2.1, I.sc.2.1, fun k hk => (I.sc.2.2 k hk).ok⟩
theorem Iv.b {N : Nat} {xs : Nat → Int32} {cc : Nat → Nat} {h : xh} (I : Iv N xs cc h) : CB h (cc 0) := I.2.2.1.1
theorem Iv.r {N : Nat} {xs : Nat → Int32} {cc : Nat → Nat} {h : xh} (I : Iv N xs cc h) : CRr h (cc 0) := I.2.2.1.2.1
theorem Iv.s {N : Nat} {xs : Nat → Int32} {cc : Nat → Nat} {h : xh} (I : Iv N xs cc h) : CSr h (cc 3) := I.2.2.1.2.2.1
theorem Iv.z {N : Nat} {xs : Nat → Int32} {cc : Nat → Nat} {h : xh} (I : Iv N xs cc h) : Z3 h := I.2.2.1.2.2.2.1
theorem Iv.zz {N : Nat} {xs : Nat → Int32} {cc : Nat → Nat} {h : xh} (I : Iv N xs cc h) : xI h 163 0 = 0 := I.2.2.1.2.2.2.2
/-! the caches in a frame -/
theorem mT_sm {h g : xh} (e : xI g 172 = xI h 172) (k : Nat) : mT g k = mT h k := by unfold mT; rw [e]
theorem mS_sm {h g : xh} (e : xI g 175 = xI h 175) (k : Nat) : mS g k = mS h k := by unfold mS; rw [e]
theorem CB.sm {h g : xh} {c : Nat} (H : CB h c) (F : ∀ c, PB c → Sm h g c) (e : xI g 172 = xI h 172) : CB g c := fun a ea => by
  rw [(F 146 (by unfold PB; omega)).2.1] at ea
  obtain ⟨k, hk, e1, b⟩ := H a ea
  refine ⟨k, hk, e1, ?_⟩
  rw [mT_sm e]
  unfold Bo BoQ at b ⊢
  rw [(F 148 (by unfold PB; omega)).2.2.2, (F 147 (by unfold PB; omega)).2.2.2]
  exact b
theorem CRr.sm {h g : xh} {c : Nat} (H : CRr h c) (F : ∀ c, P15 c → Sm h g c) (e : xI g 172 = xI h 172) : CRr g c := fun a ea => by
  have i : ∀ c, 150 ≤ c → c ≤ 158 → xI g c = xI h c := fun c h1 h2 => (F c ⟨h1, h2⟩).2.2.1
  rw [(F 150 (by unfold P15; omega)).2.1] at ea
  obtain ⟨k, hk, e1, b⟩ := H a ea
  refine ⟨k, hk, e1, ?_⟩
  rw [mT_sm e]
  unfold Rr Ap Pq Pp Tq at b ⊢
  rw [i 150 (by decide) (by decide), i 151 (by decide) (by decide), i 152 (by decide) (by decide), i 153 (by decide) (by decide), i 154 (by decide) (by decide), i 155 (by decide) (by decide), i 157 (by decide) (by decide), i 158 (by decide) (by decide)]
  exact b
theorem CSr.sm {h g : xh} {c : Nat} (H : CSr h c) (F : ∀ c, P6 c → Sm h g c) (e : xI g 175 = xI h 175) : CSr g c := fun a ea => by
  have i : ∀ c, 159 ≤ c → c ≤ 164 → xI g c = xI h c := fun c h1 h2 => (F c ⟨h1, h2⟩).2.2.1
  rw [(F 159 (by unfold P6; omega)).2.1] at ea
  obtain ⟨k, hk, e1, b⟩ := H a ea
  refine ⟨k, hk, e1, ?_⟩
  rw [mS_sm e]
  unfold Sr at b ⊢
  rw [i 159 (by decide) (by decide), i 160 (by decide) (by decide), i 161 (by decide) (by decide), i 164 (by decide) (by decide)]
  exact b
theorem Z3.sm {h g : xh} (H : Z3 h) (F : ∀ c, P15 c → Sm h g c) : Z3 g := by
  unfold Z3 at H ⊢
  rw [(F 153 (by unfold P15; omega)).2.2.1, (F 154 (by unfold P15; omega)).2.2.1, (F 155 (by unfold P15; omega)).2.2.1]
  exact H
/-! the invariant in a frame -/
def PQ (c : Nat) : Prop := (117 ≤ c ∧ c ≤ 166) ∨ (176 ≤ c ∧ c ≤ 191)
def PN (c : Nat) : Prop := (117 ≤ c ∧ c ≤ 145) ∨ (165 ≤ c ∧ c ≤ 166) ∨ (176 ≤ c ∧ c ≤ 191)
theorem St0.sm {h g : xh} {N : Nat} {xs : Nat → Int32} (S : St0 h N xs) (F : ∀ c, c < 64 → Sm h g c) : St0 g N xs := fun c hc => by
  obtain ⟨s1, s2, s3, s4⟩ := F c hc
  rw [s3, s2, s1]
  exact S c hc
theorem Im.sm {h g : xh} {k : Nat} (I : Im h k) (hk : k < 3) (n : xN h ≤ xN g) (F : ∀ c, c < xN h → (c = 116 ∨ (167 ≤ c ∧ c ≤ 175) ∨ 192 ≤ c) → Sm h g c) (L : Lay h) : Im g k := by
  have n1 := L.1
  have f6 : xR g 116 = xR h 116 := (F 116 (by omega) (Or.inl rfl)).2.1
  have f2 : xI g 192 = xI h 192 := (F 192 (by omega) (Or.inr (Or.inr (by omega)))).2.2.1
  rcases I with ⟨i1, i2⟩ | ⟨b, cc, i1, i2, i3, i4, i5⟩
  · exact Or.inl ⟨by rw [f6]; exact i1, by rw [f2]; exact i2⟩
  · have fb : ∀ c, b ≤ c → c ≤ b + 50 → Sm h g c := fun c h1 h2 => F c (by omega) (Or.inr (Or.inr (by omega)))
    refine Or.inr ⟨b, cc, by rw [f6]; exact i1, ⟨i2.1, by omega⟩, ?_, by rw [f2]; exact i4, i5.sm fb (fun c h1 h2 i _ => by rw [(F c (by omega) (Or.inr (Or.inl ⟨h1, by omega⟩))).2.2.1])⟩
    obtain ⟨⟨t1, t2, t3⟩, ⟨t4, t5, t6⟩, t7⟩ := i3
    have g0 := fb b (by omega) (by omega)
    refine ⟨⟨by rw [g0.1]; exact t1, by rw [(fb (b + 1) (by omega) (by omega)).1]; exact t2, by rw [(fb (b + 2) (by omega) (by omega)).1]; exact t3⟩, ⟨by rw [g0.2.1]; exact t4, by rw [g0.2.1]; exact t5, fun q hq => by rw [g0.2.1]; exact t6 q hq⟩, fun q hq => ?_⟩
    have a1 : iA q ≤ 36 := by rcases q4 hq with z | z | z | z <;> subst z <;> decide
    have ga := fb (b + iA q) (by omega) (by omega)
    refine ⟨by rw [ga.1]; exact (t7 q hq).1, fun k hk => ⟨by rw [ga.2.1]; exact ((t7 q hq).2 k hk).1, ?_⟩⟩
    have ob := iO_b hq hk
    exact IT_IS hq ((t7 q hq).2 k hk).2 (fun c h1 h2 => fb c (by omega) (by omega))
