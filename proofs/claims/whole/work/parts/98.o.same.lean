/-! what a cache holds hangs on the first 70 (49) numbers only -/
theorem Bo.tw {g k : xh} {T U : Nat → Int32} (es : stp U = stp T) (a : Bo g T) (b : Bo k T) (c : Bo k U) : Bo g U := by
  refine ⟨fun s h1 h2 => ?_, fun s so h1 h2 h3 => ?_⟩
  · have h2' : s ≤ stp T := by omega
    exact (a.1 s h1 h2').trans ((b.1 s h1 h2').symm.trans (c.1 s h1 h2))
  · have h2' : s ≤ stp T := by omega
    exact (a.2 s so h1 h2' h3).trans ((b.2 s so h1 h2' h3).symm.trans (c.2 s so h1 h2 h3))
theorem Sr.tw {g k : xh} {S U : Nat → Int32} (e1 : bN U 1 = bN S 1) (e2 : bN U 2 = bN S 2) (a : Sr g S) (b : Sr k S) (c : Sr k U) : Sr g U := by
  obtain ⟨a1, a2, a3, a4, a5⟩ := a
  obtain ⟨b1, b2, b3, b4, b5⟩ := b
  obtain ⟨c1, c2, c3, c4, c5⟩ := c
  refine ⟨a1.trans (b1.symm.trans c1), fun f hf => ?_, a3.trans (b3.symm.trans c3), a4.trans (b4.symm.trans c4), fun i hi => ?_⟩
  · have hf' : f < bN S 1 := by omega
    exact (a2 f hf').trans ((b2 f hf').symm.trans (c2 f hf))
  · have hi' : i < bN S 2 := by omega
    exact (a5 i hi').trans ((b5 i hi').symm.trans (c5 i hi))
theorem Rr.tw {g k : xh} {T U : Nat → Int32} (es : stp U = stp T) (l1 : wL T < 2 ^ 31) (l2 : wL U < 2 ^ 31) (a : Rr g T) (b : Rr k T) (c : Rr k U) : Rr g U := by
  obtain ⟨⟨a1, a2, a3, a4, a5⟩, a6, a7, ⟨a8, a9⟩, a10, a11⟩ := a
  obtain ⟨⟨b1, b2, b3, b4, b5⟩, b6, b7, ⟨b8, b9⟩, b10, b11⟩ := b
  obtain ⟨⟨c1, c2, c3, c4, c5⟩, c6, c7, ⟨c8, c9⟩, c10, c11⟩ := c
  have ew : wL U = wL T := (nI_eq l2 l1).mp (c10.symm.trans b10)
  have pe : ∀ x, plc U x → plc T x := fun x p => by unfold plc at p ⊢; rw [← es]; exact p
  refine ⟨⟨fun x s p hs => ?_, fun V x hV hx tb => ?_, fun V hV => ?_, a4.trans (b4.symm.trans c4), a5.trans (b5.symm.trans c5)⟩, fun V hV => ?_, fun i hi => ?_, ⟨a8.trans (b8.symm.trans c8), a9.trans (b9.symm.trans c9)⟩, a10.trans (b10.symm.trans c10), fun i hi => ?_⟩
  · have hs' : s < stp T := by omega
    exact (a1 x s (pe x p) hs').trans ((b1 x s (pe x p) hs').symm.trans (c1 x s p hs))
  · have hV' : V < 2 ^ stp T := by rw [← es]; exact hV
    have hx' : x < stp T := by omega
    exact (a2 V x hV' hx' tb).trans ((b2 V x hV' hx' tb).symm.trans (c2 V x hV hx tb))
  · have hV' : V < 2 ^ stp T := by rw [← es]; exact hV
    exact ⟨(a3 V hV').1.trans ((b3 V hV').1.symm.trans (c3 V hV).1), (a3 V hV').2.trans ((b3 V hV').2.symm.trans (c3 V hV).2)⟩
  · have hV' : V < 2 ^ stp T := by rw [← es]; exact hV
    exact (a6 V hV').trans ((b6 V hV').symm.trans (c6 V hV))
  · have hi' : i < stp T := by omega
    exact (a7 i hi').trans ((b7 i hi').symm.trans (c7 i hi))
  · have hi' : i < wL T := by omega
    exact (a11 i hi').trans ((b11 i hi').symm.trans (c11 i hi))
theorem Bo.cg {h g : xh} (L : Lay h) {t : Nat} {T U : Nat → Int32} (H : Tn h t T) (ht : t + 7 < 146) (h64 : 64 ≤ t) (e : ∀ i, i < 70 → U i = T i) (a : Bo g T) : Bo g U := by
  have F : Fg (fun c => c = 146) h (xsR h 146 0 none) := (Fg.rf (P := fun c => c = 146)).wR rfl
  have L1 : Lay (xsR h 146 0 none) := L.wR 146 none
  have nn : ∀ a, xR (xsR h 146 0 none) 146 0 = some a → False := fun a ea => by
    rw [xR_at, if_pos ⟨rfl, rfl⟩] at ea; exact nomatch ea
  have H1 : Tn (xsR h 146 0 none) t T := H.sm (fun c h1 h2 => F.2.2 c (by omega))
  have H2 : Tn (xsR h 146 0 none) t U := H1.cg e
  obtain ⟨k, k1, k2⟩ := xcv_two (c_Bowls_prepare (n := 4) (Nat.le_refl _) L1 H1 ht h64 (fun a ea => (nn a ea).elim) (Q := fun g => Bo g T) (fun _ _ _ _ z => z)) (c_Bowls_prepare (n := 4) (Nat.le_refl _) L1 H2 ht h64 (fun a ea => (nn a ea).elim) (Q := fun g => Bo g U) (fun _ _ _ _ z => z))
  exact a.tw (by unfold stp; rw [e 6 (by decide)]) k1 k2
theorem Rr.cg {h g : xh} (L : Lay h) (z0 : Z3 h) {t : Nat} {T U : Nat → Int32} (H : Tn h t T) (ht : t + 7 < 146) (h64 : 64 ≤ t) (e : ∀ i, i < 70 → U i = T i) (a : Rr g T) : Rr g U := by
  have F : Fg (fun c => c = 150) h (xsR h 150 0 none) := (Fg.rf (P := fun c => c = 150)).wR rfl
  have L1 : Lay (xsR h 150 0 none) := L.wR 150 none
  have nn : ∀ a, xR (xsR h 150 0 none) 150 0 = some a → False := fun a ea => by
    rw [xR_at, if_pos ⟨rfl, rfl⟩] at ea; exact nomatch ea
  have z1 : Z3 (xsR h 150 0 none) := z0
  have H1 : Tn (xsR h 150 0 none) t T := H.sm (fun c h1 h2 => F.2.2 c (by omega))
  have H2 : Tn (xsR h 150 0 none) t U := H1.cg e
  obtain ⟨k, k1, k2⟩ := xcv_two (c_Routes_prepare (n := 6) (Nat.le_refl _) L1 H1 (by omega) h64 z1 (fun a ea => (nn a ea).elim) (Q := fun g => Rr g T) (fun _ _ _ _ _ z => z)) (c_Routes_prepare (n := 6) (Nat.le_refl _) L1 H2 (by omega) h64 z1 (fun a ea => (nn a ea).elim) (Q := fun g => Rr g U) (fun _ _ _ _ _ z => z))
  have lw : ∀ {V : Nat → Int32}, TnOK V → wL V < 2 ^ 31 := fun {V} ok => by
    have := ok.s6.2
    have l : wL V ≤ 0 + stp V := (fsx_le _ _ _).2
    omega
  exact a.tw (by unfold stp; rw [e 6 (by decide)]) (lw H1.ok) (lw H2.ok) k1 k2
theorem Sr.cg {h g : xh} (L : Lay h) (z0 : xI h 163 0 = 0) {s : Nat} {S U : Nat → Int32} (H : Sh h s S) (hs : s + 6 < 146) (h64 : 64 ≤ s) (e : ∀ i, i < 49 → U i = S i) (a : Sr g S) : Sr g U := by
  have F : Fg (fun c => c = 159) h (xsR h 159 0 none) := (Fg.rf (P := fun c => c = 159)).wR rfl
  have L1 : Lay (xsR h 159 0 none) := L.wR 159 none
  have nn : ∀ a, xR (xsR h 159 0 none) 159 0 = some a → False := fun a ea => by
    rw [xR_at, if_pos ⟨rfl, rfl⟩] at ea; exact nomatch ea
  have z1 : xI (xsR h 159 0 none) 163 0 = 0 := z0
  have H1 : Sh (xsR h 159 0 none) s S := H.sm (fun c h1 h2 => F.2.2 c (by omega))
  have H2 : Sh (xsR h 159 0 none) s U := H1.cg e
  obtain ⟨k, k1, k2⟩ := xcv_two (c_Search_prepare (n := 6) (Nat.le_refl _) L1 H1 (by omega) h64 z1 (fun a ea => (nn a ea).elim) (Q := fun g => Sr g S) (fun _ _ _ _ _ z => z)) (c_Search_prepare (n := 6) (Nat.le_refl _) L1 H2 (by omega) h64 z1 (fun a ea => (nn a ea).elim) (Q := fun g => Sr g U) (fun _ _ _ _ _ z => z))
  exact a.tw (by unfold bN; rw [e 1 (by decide)]) (by unfold bN; rw [e 2 (by decide)]) k1 k2
