/-! THE LAW'S LOOP -/
theorem St0.c0 {h : xh} {N : Nat} {xs : Nat → Int32} (S : St0 h N xs) : xI h 0 = xs ∧ xS h 0 = (20, N) := by
  obtain ⟨s1, s2, s3⟩ := S 0 (by decide)
  exact ⟨s1, s3⟩
theorem law_x {N : Nat} {xs : Nat → Int32} {i : Nat} (hi : i + 7 ≤ N) (hN : N ≤ 3584) {g : xh} (md : Md N xs g) : (xar g 0 20 (nI i + 1) ∧ xar g 0 20 (nI i + 2) ∧ xar g 0 20 (nI i + 3)) ∧ xar g 0 20 (nI i + 4) ∧ xar g 0 20 (nI i + 5) ∧ xar g 0 20 (nI i + 6) := by
  have k : ∀ m, m < 7 → xar g 0 20 (nI i + nI m) := fun m hm => by
    rw [nI_add]
    exact xarN (n := N) md.2.c0.2 (by omega) (by omega)
  exact ⟨⟨k 1 (by decide), k 2 (by decide), k 3 (by decide)⟩, k 4 (by decide), k 5 (by decide), k 6 (by decide)⟩
set_option maxHeartbeats 4000000 in
theorem law_step {N : Nat} {xs : Nat → Int32} {cc : Nat → Nat} {h : xh} (I : Iv N xs cc h) {i kc ks : Nat} (hi : i + 7 ≤ N) (hN : N ≤ 3584) (b1 : kc + 51 ≤ 600000) (b2 : ks + 1159 ≤ 7302249) {Q : Int32 → xh → Prop} (lo : ¬ (nI N - 7) < nI i) (nx : ∀ h2 kc2 ks2, (∃ c2, Iv N xs c2 h2) → kc2 ≤ kc + 51 → ks2 ≤ ks + 1159 → K_law 11 Q 18 [some (.ref 0), some (.ref 64), some (.ref 166), some (.int (nI i + 7))] [] h2 kc2 ks2) : K_law 11 Q 18 [some (.ref 0), some (.ref 64), some (.ref 166), some (.int (nI i))] [] h kc ks := by
  have M := xMC_mono 11
  have L := I.lay
  have X : ∀ {g}, Md N xs g → _ := fun {g} m => law_x hi hN (g := g) m
  have E : ∀ {g}, Md N xs g → xI g 0 = xI h 0 := fun {g} m => m.2.c0.1.trans I.st.c0.1.symm
  have sN := I.st.c0.2
  have fi : ∀ {α : Type} {r r2 : α} {h2 : xh}, Bt N xs r r2 h2 → (r = r2 → K_law 11 Q 18 [some (.ref 0), some (.ref 64), some (.ref 166), some (.int (nI i + 7))] [] h2 kc ks) ∧ (¬ r = r2 → Q 0 h2) := fun {_ _ _ h2} ⟨e, c⟩ => ⟨fun _ => nx h2 kc ks c (by omega) (by omega), fun z => absurd e z⟩
  have x0 : xar h 0 20 (nI i) := xarN sN (by omega) (by omega)
  refine b_law_18 ⟨by rw [sN]; exact ⟨show 20 ≤ 20 by decide, show 20 ≤ 28 by decide⟩, fun z => absurd (by rw [sN] at z; exact z) lo, fun _ => ⟨x0, ?_⟩⟩
  refine ⟨fun _ => ?_, fun _ => ?_⟩
  · refine ⟨(X I.md).1.1, (X I.md).1.2.1, (X I.md).1.2.2, (X I.md).2.1, (X I.md).2.2.1, L.s 64, xci_mono M (fun r h1 y => ⟨(X y.1).1.1, (X y.1).1.2.1, (X y.1).1.2.2, (X y.1).2.1, (X y.1).2.2.1, y.1.1.s 166, ?_⟩) (a_feed (Nat.le_refl _) I)⟩
    rw [E y.1]
    exact xci_mono M (fun r2 h2 z => fi z) y.2
  refine ⟨fun _ => ?_, fun _ => ?_⟩
  · refine ⟨(X I.md).1.1, L.s 64, xci_mono M (fun r h1 y => ⟨(X y.1).1.1, y.1.1.s 166, ?_⟩) (a_end (Nat.le_refl _) I)⟩
    rw [E y.1]
    exact xci_mono M (fun r2 h2 z => fi z) y.2
  refine ⟨fun _ => ?_, fun _ => ?_⟩
  · refine ⟨(X I.md).1.1, (X I.md).1.2.1, L.s 64, xci_mono M (fun r h1 y => ⟨(X y.1).1.1, (X y.1).1.2.1, y.1.1.s 166, ?_⟩) (a_text (Nat.le_refl _) I)⟩
    rw [E y.1]
    exact xci_mono M (fun r2 h2 z => fi z) y.2
  refine ⟨fun _ => ?_, fun _ => ?_⟩
  · refine ⟨(X I.md).1.1, L.s 64, xci_mono M (fun r h1 y => ⟨(X y.1).1.1, y.1.1.s 166, ?_⟩) (a_fault (Nat.le_refl _) I)⟩
    rw [E y.1]
    exact xci_mono M (fun r2 h2 z => fi z) y.2
  refine ⟨fun _ => ?_, fun _ => ?_⟩
  · refine ⟨(X I.md).1.1, (X I.md).1.2.1, L.s 64, xci_mono M (fun r h1 y => ⟨(X y.1).1.1, (X y.1).1.2.1, y.1.1.s 166, ?_⟩) (a_town (Nat.le_refl _) I)⟩
    rw [E y.1]
    exact xci_mono M (fun r2 h2 z => fi z) y.2
  refine ⟨fun _ => ?_, fun _ => ?_⟩
  · refine ⟨(X I.md).1.1, (X I.md).1.2.1, (X I.md).1.2.2, L.s 64, xci_mono M (fun r h1 y => ⟨(X y.1).1.1, (X y.1).1.2.1, (X y.1).1.2.2, y.1.1.s 166, ?_⟩) (a_deed (Nat.le_refl _) I)⟩
    rw [E y.1]
    exact xci_mono M (fun r2 h2 z => fi z) y.2
  refine ⟨fun _ => ?_, fun _ => ?_⟩
  · refine ⟨(X I.md).1.1, (X I.md).1.2.1, L.s 64, xci_mono M (fun r h1 y => ⟨(X y.1).1.1, (X y.1).1.2.1, y.1.1.s 166, ?_⟩) (a_till (Nat.le_refl _) I)⟩
    rw [E y.1]
    exact xci_mono M (fun r2 h2 z => fi z) y.2
  refine ⟨fun _ => ?_, fun _ => ?_⟩
  · refine ⟨(X I.md).1.1, (X I.md).1.2.1, (X I.md).1.2.2, (X I.md).2.1, L.s 64, xci_mono M (fun r h1 y => ⟨(X y.1).1.1, (X y.1).1.2.1, (X y.1).1.2.2, (X y.1).2.1, y.1.1.s 166, ?_⟩) (a_state (Nat.le_refl _) I)⟩
    rw [E y.1]
    exact xci_mono M (fun r2 h2 z => fi z) y.2
  refine ⟨fun _ => ?_, fun _ => ?_⟩
  · refine ⟨(X I.md).1.1, (X I.md).1.2.1, (X I.md).1.2.2, (X I.md).2.1, L.s 64, xci_mono M (fun r h1 y => ⟨(X y.1).1.1, (X y.1).1.2.1, (X y.1).1.2.2, (X y.1).2.1, y.1.1.s 166, ?_⟩) (a_give (Nat.le_refl _) I)⟩
    rw [E y.1]
    exact xci_mono M (fun r2 h2 z => fi z) y.2
  refine ⟨fun _ => ?_, fun _ => ?_⟩
  · refine ⟨(X I.md).1.1, (X I.md).1.2.1, (X I.md).1.2.2, (X I.md).2.1, fun z => b_law_594 ⟨L.s 64, xcj_mono M (fun r h1 y => ⟨(X y.1).1.1, (X y.1).1.2.1, (X y.1).1.2.2, (X y.1).2.1, ?_⟩) (a_mean (Nat.le_refl _) I)⟩, fun z => b_law_594 ⟨L.s 64, xcj_mono M (fun r h1 y => ⟨(X y.1).1.1, (X y.1).1.2.1, (X y.1).1.2.2, (X y.1).2.1, ?_⟩) (a_mean (Nat.le_refl _) I)⟩⟩
    · rw [E y.1]
      exact ⟨fun _ => b_law_626 ⟨y.1.1.s 166, xcj_mono M (fun r2 h2 z => fi z) y.2⟩, fun k => absurd z k⟩
    · rw [E y.1]
      exact ⟨fun k => absurd k z, fun _ => b_law_626 ⟨y.1.1.s 166, xcj_mono M (fun r2 h2 z => fi z) y.2⟩⟩
  refine ⟨fun _ => ?_, fun _ => ?_⟩
  · refine ⟨(X I.md).1.1, L.s 64, xci_mono M (fun r h1 y => ⟨(X y.1).1.1, y.1.1.s 166, ?_⟩) (a_safe (Nat.le_refl _) I)⟩
    rw [E y.1]
    exact xci_mono M (fun r2 h2 z => fi z) y.2
  refine ⟨fun _ => ?_, fun _ => ?_⟩
  · refine ⟨(X I.md).1.1, (X I.md).1.2.1, L.s 64, xci_mono M (fun r h1 y => ⟨(X y.1).1.1, (X y.1).1.2.1, y.1.1.s 166, ?_⟩) (a_way (Nat.le_refl _) I)⟩
    rw [E y.1]
    exact xci_mono M (fun r2 h2 z => fi z) y.2
  refine ⟨fun _ => ?_, fun _ => ?_⟩
  · refine ⟨(X I.md).1.1, (X I.md).1.2.1, L.s 64, xci_mono M (fun r h1 y => ⟨(X y.1).1.1, (X y.1).1.2.1, y.1.1.s 166, ?_⟩) (a_round (Nat.le_refl _) I)⟩
    rw [E y.1]
    exact xci_mono M (fun r2 h2 z => fi z) y.2
  refine ⟨fun _ => ?_, fun _ => ?_⟩
  · refine ⟨(X I.md).1.1, L.s 64, xci_mono M (fun r h1 y => ⟨(X y.1).1.1, y.1.1.s 166, ?_⟩) (a_talks (Nat.le_refl _) I)⟩
    rw [E y.1]
    exact xci_mono M (fun r2 h2 z => fi z) y.2
  refine ⟨fun _ => ?_, fun _ => ?_⟩
  · refine ⟨(X I.md).1.1, (X I.md).1.2.1, L.s 64, xci_mono M (fun r h1 y => ⟨(X y.1).1.1, (X y.1).1.2.1, y.1.1.s 166, ?_⟩) (a_lost (Nat.le_refl _) I)⟩
    rw [E y.1]
    exact xci_mono M (fun r2 h2 z => fi z) y.2
  refine ⟨fun _ => ?_, fun _ => ?_⟩
  · refine ⟨(X I.md).1.1, (X I.md).1.2.1, (X I.md).1.2.2, L.s 64, xci_mono M (fun r h1 y => ⟨(X y.1).1.1, (X y.1).1.2.1, (X y.1).1.2.2, y.1.1.s 166, ?_⟩) (a_book (Nat.le_refl _) I)⟩
    rw [E y.1]
    exact xci_mono M (fun r2 h2 z => fi z) y.2
  refine ⟨fun _ => ?_, fun _ => ?_⟩
  · refine ⟨(X I.md).1.1, (X I.md).1.2.1, L.s 64, xci_mono M (fun r h1 y => ⟨(X y.1).1.1, (X y.1).1.2.1, y.1.1.s 166, ?_⟩) (a_held (Nat.le_refl _) I)⟩
    rw [E y.1]
    exact xci_mono M (fun r2 h2 z => fi z) y.2
  refine ⟨fun _ => ?_, fun _ => ?_⟩
  · refine ⟨(X I.md).1.1, (X I.md).1.2.1, (X I.md).1.2.2, L.s 64, xci_mono M (fun r h1 y => ⟨(X y.1).1.1, (X y.1).1.2.1, (X y.1).1.2.2, y.1.1.s 166, ?_⟩) (a_bring (Nat.le_refl _) I)⟩
    rw [E y.1]
    exact xci_mono M (fun r2 h2 z => fi z) y.2
  refine ⟨fun _ => ?_, fun _ => ?_⟩
  · refine ⟨(X I.md).1.1, (X I.md).1.2.1, (X I.md).1.2.2, fun z => b_law_923 ⟨L.s 64, xci_mono M (fun r h1 y => ⟨(X y.1).1.1, (X y.1).1.2.1, (X y.1).1.2.2, ?_⟩) (a_span (Nat.le_refl _) I)⟩, fun z => b_law_923 ⟨L.s 64, xci_mono M (fun r h1 y => ⟨(X y.1).1.1, (X y.1).1.2.1, (X y.1).1.2.2, ?_⟩) (a_span (Nat.le_refl _) I)⟩⟩
    · rw [E y.1]
      exact ⟨fun _ => b_law_950 ⟨y.1.1.s 166, xci_mono M (fun r2 h2 z => fi z) y.2⟩, fun k => absurd z k⟩
    · rw [E y.1]
      exact ⟨fun k => absurd k z, fun _ => b_law_950 ⟨y.1.1.s 166, xci_mono M (fun r2 h2 z => fi z) y.2⟩⟩
  refine ⟨fun _ => ?_, fun _ => ?_⟩
  · refine ⟨(X I.md).1.1, (X I.md).1.2.1, L.s 64, xci_mono M (fun r h1 y => ⟨(X y.1).1.1, (X y.1).1.2.1, y.1.1.s 166, ?_⟩) (a_list (Nat.le_refl _) I)⟩
    rw [E y.1]
    exact xci_mono M (fun r2 h2 z => fi z) y.2
  refine ⟨fun _ => ?_, fun _ => ?_⟩
  · refine ⟨(X I.md).1.1, (X I.md).1.2.1, L.s 64, xci_mono M (fun r h1 y => ⟨(X y.1).1.1, (X y.1).1.2.1, y.1.1.s 166, ?_⟩) (a_shod (Nat.le_refl _) I)⟩
    rw [E y.1]
    exact xci_mono M (fun r2 h2 z => fi z) y.2
  refine ⟨fun _ => ?_, fun _ => ?_⟩
  · refine ⟨(X I.md).1.1, (X I.md).1.2.1, L.s 64, xci_mono M (fun r h1 y => ⟨(X y.1).1.1, (X y.1).1.2.1, y.1.1.s 166, ?_⟩) (a_look (Nat.le_refl _) I)⟩
    rw [E y.1]
    exact xci_mono M (fun r2 h2 z => fi z) y.2
  refine ⟨fun _ => ?_, fun _ => ?_⟩
  · refine ⟨(X I.md).1.1, (X I.md).1.2.1, (X I.md).1.2.2, (X I.md).2.1, fun z => b_law_1086 ⟨L.s 64, xcj_mono M (fun r h1 y => ⟨(X y.1).1.1, (X y.1).1.2.1, (X y.1).1.2.2, (X y.1).2.1, ?_⟩) (a_worry (Nat.le_refl _) I)⟩, fun z => b_law_1086 ⟨L.s 64, xcj_mono M (fun r h1 y => ⟨(X y.1).1.1, (X y.1).1.2.1, (X y.1).1.2.2, (X y.1).2.1, ?_⟩) (a_worry (Nat.le_refl _) I)⟩⟩
    · rw [E y.1]
      exact ⟨fun _ => b_law_1118 ⟨y.1.1.s 166, xcj_mono M (fun r2 h2 z => fi z) y.2⟩, fun k => absurd z k⟩
    · rw [E y.1]
      exact ⟨fun k => absurd k z, fun _ => b_law_1118 ⟨y.1.1.s 166, xcj_mono M (fun r2 h2 z => fi z) y.2⟩⟩
  refine ⟨fun _ => ?_, fun _ => ?_⟩
  · refine ⟨(X I.md).1.1, (X I.md).1.2.1, (X I.md).1.2.2, L.s 64, xci_mono M (fun r h1 y => ⟨(X y.1).1.1, (X y.1).1.2.1, (X y.1).1.2.2, y.1.1.s 166, ?_⟩) (a_when (Nat.le_refl _) I)⟩
    rw [E y.1]
    exact xci_mono M (fun r2 h2 z => fi z) y.2
  refine ⟨fun _ => ?_, fun _ => ?_⟩
  · refine ⟨(X I.md).1.1, (X I.md).1.2.1, (X I.md).1.2.2, (X I.md).2.1, (X I.md).2.2.1, L.s 64, xci_mono M (fun r h1 y => ⟨(X y.1).1.1, (X y.1).1.2.1, (X y.1).1.2.2, (X y.1).2.1, (X y.1).2.2.1, y.1.1.s 166, ?_⟩) (a_shared (Nat.le_refl _) I)⟩
    rw [E y.1]
    exact xci_mono M (fun r2 h2 z => fi z) y.2
  refine ⟨fun _ => ?_, fun _ => ?_⟩
  · refine ⟨(X I.md).1.1, (X I.md).1.2.1, (X I.md).1.2.2, L.s 64, xci_mono M (fun r h1 y => ⟨(X y.1).1.1, (X y.1).1.2.1, (X y.1).1.2.2, y.1.1.s 166, ?_⟩) (a_pair (Nat.le_refl _) I)⟩
    rw [E y.1]
    exact xci_mono M (fun r2 h2 z => fi z) y.2
  refine ⟨fun _ => ?_, fun _ => ?_⟩
  · refine ⟨(X I.md).1.1, (X I.md).1.2.1, (X I.md).1.2.2, (X I.md).2.1, L.s 64, xci_mono M (fun r h1 y => ⟨(X y.1).1.1, (X y.1).1.2.1, (X y.1).1.2.2, (X y.1).2.1, y.1.1.s 166, ?_⟩) (a_drawn (Nat.le_refl _) I)⟩
    rw [E y.1]
    exact xci_mono M (fun r2 h2 z => fi z) y.2
  refine ⟨fun _ => ?_, fun _ => ?_⟩
  · refine ⟨(X I.md).1.1, (X I.md).1.2.1, (X I.md).1.2.2, (X I.md).2.1, fun z => b_law_1358 ⟨L.s 64, xcj_mono M (fun r h1 y => ⟨(X y.1).1.1, (X y.1).1.2.1, (X y.1).1.2.2, (X y.1).2.1, ?_⟩) (a_tells (Nat.le_refl _) I)⟩, fun z => b_law_1358 ⟨L.s 64, xcj_mono M (fun r h1 y => ⟨(X y.1).1.1, (X y.1).1.2.1, (X y.1).1.2.2, (X y.1).2.1, ?_⟩) (a_tells (Nat.le_refl _) I)⟩⟩
    · rw [E y.1]
      exact ⟨fun _ => b_law_1390 ⟨y.1.1.s 166, xcj_mono M (fun r2 h2 z => fi z) y.2⟩, fun k => absurd z k⟩
    · rw [E y.1]
      exact ⟨fun k => absurd k z, fun _ => b_law_1390 ⟨y.1.1.s 166, xcj_mono M (fun r2 h2 z => fi z) y.2⟩⟩
  refine ⟨fun _ => ?_, fun _ => ?_⟩
  · refine ⟨(X I.md).1.1, (X I.md).1.2.1, fun z => b_law_1418 ⟨L.s 64, xci_mono M (fun r h1 y => ⟨(X y.1).1.1, (X y.1).1.2.1, ?_⟩) (a_depot (Nat.le_refl _) I)⟩, fun z => b_law_1418 ⟨L.s 64, xci_mono M (fun r h1 y => ⟨(X y.1).1.1, (X y.1).1.2.1, ?_⟩) (a_depot (Nat.le_refl _) I)⟩⟩
    · rw [E y.1]
      exact ⟨fun _ => b_law_1440 ⟨y.1.1.s 166, xci_mono M (fun r2 h2 z => fi z) y.2⟩, fun k => absurd z k⟩
    · rw [E y.1]
      exact ⟨fun k => absurd k z, fun _ => b_law_1440 ⟨y.1.1.s 166, xci_mono M (fun r2 h2 z => fi z) y.2⟩⟩
  refine ⟨fun _ => ?_, fun _ => ?_⟩
  · refine ⟨(X I.md).1.1, (X I.md).1.2.1, fun z => b_law_1467 ⟨L.s 64, xci_mono M (fun r h1 y => ⟨(X y.1).1.1, (X y.1).1.2.1, ?_⟩) (a_vans (Nat.le_refl _) I)⟩, fun z => b_law_1467 ⟨L.s 64, xci_mono M (fun r h1 y => ⟨(X y.1).1.1, (X y.1).1.2.1, ?_⟩) (a_vans (Nat.le_refl _) I)⟩⟩
    · rw [E y.1]
      exact ⟨fun _ => b_law_1489 ⟨y.1.1.s 166, xci_mono M (fun r2 h2 z => fi z) y.2⟩, fun k => absurd z k⟩
    · rw [E y.1]
      exact ⟨fun k => absurd k z, fun _ => b_law_1489 ⟨y.1.1.s 166, xci_mono M (fun r2 h2 z => fi z) y.2⟩⟩
  refine ⟨fun _ => ?_, fun _ => ?_⟩
  · refine ⟨(X I.md).1.1, (X I.md).1.2.1, (X I.md).1.2.2, fun z => b_law_1521 ⟨L.s 64, xci_mono M (fun r h1 y => ⟨(X y.1).1.1, (X y.1).1.2.1, (X y.1).1.2.2, ?_⟩) (a_trail (Nat.le_refl _) I)⟩, fun z => b_law_1521 ⟨L.s 64, xci_mono M (fun r h1 y => ⟨(X y.1).1.1, (X y.1).1.2.1, (X y.1).1.2.2, ?_⟩) (a_trail (Nat.le_refl _) I)⟩⟩
    · rw [E y.1]
      exact ⟨fun _ => b_law_1548 ⟨y.1.1.s 166, xci_mono M (fun r2 h2 z => fi z) y.2⟩, fun k => absurd z k⟩
    · rw [E y.1]
      exact ⟨fun k => absurd k z, fun _ => b_law_1548 ⟨y.1.1.s 166, xci_mono M (fun r2 h2 z => fi z) y.2⟩⟩
  refine ⟨fun _ => ?_, fun _ => ?_⟩
  · refine ⟨(X I.md).1.1, (X I.md).1.2.1, fun z => b_law_1575 ⟨L.s 64, xci_mono M (fun r h1 y => ⟨(X y.1).1.1, (X y.1).1.2.1, ?_⟩) (a_chat (Nat.le_refl _) I)⟩, fun z => b_law_1575 ⟨L.s 64, xci_mono M (fun r h1 y => ⟨(X y.1).1.1, (X y.1).1.2.1, ?_⟩) (a_chat (Nat.le_refl _) I)⟩⟩
    · rw [E y.1]
      exact ⟨fun _ => b_law_1597 ⟨y.1.1.s 166, xci_mono M (fun r2 h2 z => fi z) y.2⟩, fun k => absurd z k⟩
    · rw [E y.1]
      exact ⟨fun k => absurd k z, fun _ => b_law_1597 ⟨y.1.1.s 166, xci_mono M (fun r2 h2 z => fi z) y.2⟩⟩
  refine ⟨fun _ => ?_, fun _ => ?_⟩
  · refine ⟨(X I.md).1.1, (X I.md).1.2.1, (X I.md).1.2.2, fun z => b_law_1629 ⟨L.s 64, xcj_mono M (fun r h1 y => ⟨(X y.1).1.1, (X y.1).1.2.1, (X y.1).1.2.2, ?_⟩) (a_lack (Nat.le_refl _) I)⟩, fun z => b_law_1629 ⟨L.s 64, xcj_mono M (fun r h1 y => ⟨(X y.1).1.1, (X y.1).1.2.1, (X y.1).1.2.2, ?_⟩) (a_lack (Nat.le_refl _) I)⟩⟩
    · rw [E y.1]
      exact ⟨fun _ => b_law_1656 ⟨y.1.1.s 166, xcj_mono M (fun r2 h2 z => fi z) y.2⟩, fun k => absurd z k⟩
    · rw [E y.1]
      exact ⟨fun k => absurd k z, fun _ => b_law_1656 ⟨y.1.1.s 166, xcj_mono M (fun r2 h2 z => fi z) y.2⟩⟩
  refine ⟨fun _ => ?_, fun _ => ?_⟩
  · refine ⟨(X I.md).1.1, (X I.md).1.2.1, (X I.md).1.2.2, fun z => b_law_1689 ⟨L.s 64, xcj_mono M (fun r h1 y => ⟨(X y.1).1.1, (X y.1).1.2.1, (X y.1).1.2.2, ?_⟩) (a_lot (Nat.le_refl _) I)⟩, fun z => b_law_1689 ⟨L.s 64, xcj_mono M (fun r h1 y => ⟨(X y.1).1.1, (X y.1).1.2.1, (X y.1).1.2.2, ?_⟩) (a_lot (Nat.le_refl _) I)⟩⟩
    · rw [E y.1]
      exact ⟨fun _ => b_law_1716 ⟨y.1.1.s 166, xcj_mono M (fun r2 h2 z => fi z) y.2⟩, fun k => absurd z k⟩
    · rw [E y.1]
      exact ⟨fun k => absurd k z, fun _ => b_law_1716 ⟨y.1.1.s 166, xcj_mono M (fun r2 h2 z => fi z) y.2⟩⟩
  refine ⟨fun _ => ?_, fun _ => ?_⟩
  · refine ⟨(X I.md).1.1, (X I.md).1.2.1, (X I.md).1.2.2, L.s 64, xci_mono M (fun r h1 y => ⟨(X y.1).1.1, (X y.1).1.2.1, (X y.1).1.2.2, y.1.1.s 166, ?_⟩) (a_like (Nat.le_refl _) I)⟩
    rw [E y.1]
    exact xci_mono M (fun r2 h2 z => fi z) y.2
  refine ⟨fun _ => ?_, fun _ => ?_⟩
  · refine ⟨(X I.md).1.1, (X I.md).1.2.1, (X I.md).1.2.2, (X I.md).2.1, (X I.md).2.2.1, (X I.md).2.2.2, fun z => b_law_1808 ⟨L.s 64, xcj_mono M (fun r h1 y => ⟨(X y.1).1.1, (X y.1).1.2.1, (X y.1).1.2.2, (X y.1).2.1, (X y.1).2.2.1, (X y.1).2.2.2, ?_⟩) (a_sick (Nat.le_refl _) I)⟩, fun z => b_law_1808 ⟨L.s 64, xcj_mono M (fun r h1 y => ⟨(X y.1).1.1, (X y.1).1.2.1, (X y.1).1.2.2, (X y.1).2.1, (X y.1).2.2.1, (X y.1).2.2.2, ?_⟩) (a_sick (Nat.le_refl _) I)⟩⟩
    · rw [E y.1]
      exact ⟨fun _ => b_law_1851 ⟨y.1.1.s 166, xcj_mono M (fun r2 h2 z => fi z) y.2⟩, fun k => absurd z k⟩
    · rw [E y.1]
      exact ⟨fun k => absurd k z, fun _ => b_law_1851 ⟨y.1.1.s 166, xcj_mono M (fun r2 h2 z => fi z) y.2⟩⟩
  refine ⟨fun _ => ?_, fun _ => ?_⟩
  · refine ⟨(X I.md).1.1, (X I.md).1.2.1, (X I.md).1.2.2, (X I.md).2.1, (X I.md).2.2.1, L.s 64, xci_mono M (fun r h1 y => ⟨(X y.1).1.1, (X y.1).1.2.1, (X y.1).1.2.2, (X y.1).2.1, (X y.1).2.2.1, y.1.1.s 166, ?_⟩) (a_call (Nat.le_refl _) I)⟩
    rw [E y.1]
    exact xci_mono M (fun r2 h2 z => fi z) y.2
  refine ⟨fun _ => ?_, fun _ => ?_⟩
  · refine ⟨(X I.md).1.1, L.s 64, xci_mono M (fun r h1 y => ⟨(X y.1).1.1, y.1.1.s 166, ?_⟩) (a_count (Nat.le_refl _) I)⟩
    rw [E y.1]
    exact xci_mono M (fun r2 h2 z => fi z) y.2
  refine ⟨fun _ => ?_, fun _ => ?_⟩
  · refine ⟨(X I.md).1.1, L.s 64, ⟨b1, b2⟩, xci_mono M (fun r h1 y => ⟨(X y.1).1.1, y.1.1.s 166, ?_⟩) (a_image (Nat.le_refl _) I)⟩
    rw [E y.1]
    exact xci_mono M (fun r2 h2 z => ⟨fun _ => nx h2 _ _ z.2 (Nat.le_refl _) (Nat.le_refl _), fun k => absurd z.1 k⟩) y.2
  refine ⟨fun _ => ?_, fun _ => ?_⟩
  · refine ⟨(X I.md).1.1, L.s 64, xci_mono M (fun r h1 y => ⟨(X y.1).1.1, y.1.1.s 166, ?_⟩) (a_again (Nat.le_refl _) I)⟩
    rw [E y.1]
    exact xci_mono M (fun r2 h2 z => fi z) y.2
  exact nx h kc ks ⟨cc, I⟩ (by omega) (by omega)
