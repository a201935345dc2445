/-! the invariant in a frame -/
theorem Iv.q {N : Nat} {xs : Nat → Int32} {cc : Nat → Nat} {h g : xh} (I : Iv N xs cc h) (F : Fg PQ h g) (L : Lay g) (C : Ca g cc) : Iv N xs cc g := by
  have f : ∀ c, (c < 117 ∨ (167 ≤ c ∧ c ≤ 175) ∨ 192 ≤ c) → Sm h g c := fun c hc => F.2.2 c (fun z => by unfold PQ at z; omega)
  obtain ⟨⟨i1, i2⟩, i3, i4, i5, i7⟩ := I
  refine ⟨⟨L, i2.sm (fun c hc => f c (by omega))⟩, i3.sm (fun c h1 h2 => f c (by omega)) (fun c h1 h2 i _ => by rw [(f c (by omega)).2.2.1]), C, fun k hk => (i5 k hk).sm hk (by rw [F.1]; exact Nat.le_refl _) (fun c _ hc => f c (by omega)) i1, ?_⟩
  unfold Sp
  rw [(f 116 (by omega)).2.1]
  exact i7
theorem Iv.n {N : Nat} {xs : Nat → Int32} {cc : Nat → Nat} {h g : xh} (I : Iv N xs cc h) (F : Fr PN h g) : Iv N xs cc g := by
  have f : ∀ c, ¬ PN c → Sm h g c := F.g.2.2
  have f2 : xI g 172 = xI h 172 := F.i 172 (fun z => by unfold PN at z; omega)
  have f5 : xI g 175 = xI h 175 := F.i 175 (fun z => by unfold PN at z; omega)
  refine I.q (F.g.mo (fun c z => by unfold PN at z; unfold PQ; omega)) (F.lay I.lay) ⟨I.b.sm (fun c z => f c (fun y => by unfold PB at z; unfold PN at y; omega)) f2, I.r.sm (fun c z => f c (fun y => by unfold P15 at z; unfold PN at y; omega)) f2, I.s.sm (fun c z => f c (fun y => by unfold P6 at z; unfold PN at y; omega)) f5, I.z.sm (fun c z => f c (fun y => by unfold P15 at z; unfold PN at y; omega)), ?_⟩
  rw [F.i 163 (fun z => by unfold PN at z; omega)]
  exact I.zz
theorem Iv.m {N : Nat} {xs : Nat → Int32} {cc : Nat → Nat} {h g : xh} (I : Iv N xs cc h) (F : Fr PM h g) : Iv N xs cc g := I.n (F.mo (fun c z => by unfold PM at z; unfold PN; omega))
theorem Iv.wb {N : Nat} {xs : Nat → Int32} {cc : Nat → Nat} {h g : xh} (I : Iv N xs cc h) (F : Fg PB h g) (L : Lay g) (C : CB g (cc 0)) : Iv N xs cc g := by
  have f : ∀ c, ¬ PB c → Sm h g c := F.2.2
  have f2 : xI g 172 = xI h 172 := (f 172 (fun z => by unfold PB at z; omega)).2.2.1
  have f5 : xI g 175 = xI h 175 := (f 175 (fun z => by unfold PB at z; omega)).2.2.1
  refine I.q (F.mo (fun c z => by unfold PB at z; unfold PQ; omega)) L ⟨C, I.r.sm (fun c z => f c (fun y => by unfold P15 at z; unfold PB at y; omega)) f2, I.s.sm (fun c z => f c (fun y => by unfold P6 at z; unfold PB at y; omega)) f5, I.z.sm (fun c z => f c (fun y => by unfold P15 at z; unfold PB at y; omega)), ?_⟩
  rw [(f 163 (fun z => by unfold PB at z; omega)).2.2.1]
  exact I.zz
theorem Iv.wr {N : Nat} {xs : Nat → Int32} {cc : Nat → Nat} {h g : xh} (I : Iv N xs cc h) (F : Fg P15 h g) (L : Lay g) (C : CRr g (cc 0)) (Z : Z3 g) : Iv N xs cc g := by
  have f : ∀ c, ¬ P15 c → Sm h g c := F.2.2
  have f2 : xI g 172 = xI h 172 := (f 172 (fun z => by unfold P15 at z; omega)).2.2.1
  have f5 : xI g 175 = xI h 175 := (f 175 (fun z => by unfold P15 at z; omega)).2.2.1
  refine I.q (F.mo (fun c z => by unfold P15 at z; unfold PQ; omega)) L ⟨I.b.sm (fun c z => f c (fun y => by unfold PB at z; unfold P15 at y; omega)) f2, C, I.s.sm (fun c z => f c (fun y => by unfold P6 at z; unfold P15 at y; omega)) f5, Z, ?_⟩
  rw [(f 163 (fun z => by unfold P15 at z; omega)).2.2.1]
  exact I.zz
theorem Iv.ws {N : Nat} {xs : Nat → Int32} {cc : Nat → Nat} {h g : xh} (I : Iv N xs cc h) (F : Fg P6 h g) (L : Lay g) (C : CSr g (cc 3)) (Z : xI g 163 0 = 0) : Iv N xs cc g := by
  have f : ∀ c, ¬ P6 c → Sm h g c := F.2.2
  have f2 : xI g 172 = xI h 172 := (f 172 (fun z => by unfold P6 at z; omega)).2.2.1
  exact I.q (F.mo (fun c z => by unfold P6 at z; unfold PQ; omega)) L ⟨I.b.sm (fun c z => f c (fun y => by unfold PB at z; unfold P6 at y; omega)) f2, I.r.sm (fun c z => f c (fun y => by unfold P15 at z; unfold P6 at y; omega)) f2, C, I.z.sm (fun c z => f c (fun y => by unfold P15 at z; unfold P6 at y; omega)), Z⟩
