/-! WHAT IS TOLD stays in its ranges -/
theorem uv {D : Nat → Int32} {N : Nat → Nat} {m : Nat} (h : ∀ i, i < m → D i = nI (N i)) (j v : Nat) : ∀ i, i < m → uw D j (nI v) i = nI (vup N j v i) := fun i hi => by
  unfold uw vup
  by_cases e : i = j
  · rw [if_pos e, if_pos e]
  · rw [if_neg e, if_neg e]; exact h i hi
theorem bN_uw {D : Nat → Int32} {j v : Nat} (hv : v < 2 ^ 31) : bN (uw D j (nI v)) = vup (bN D) j v := by
  funext i
  unfold bN uw vup
  by_cases e : i = j
  · rw [if_pos e, if_pos e, nI_clamp hv]
  · rw [if_neg e, if_neg e]
theorem rt_t : (∀ c, c < 4 → tb 1 c = 4 ∧ tb 3 (c * 4 + 0) = 9 ∧ tb 3 (c * 4 + 1) = 9 ∧ tb 3 (c * 4 + 2) = 20 ∧ tb 3 (c * 4 + 3) = 20) ∧ (tb 1 4 = 3 ∧ tb 3 (4 * 4 + 0) = 8 ∧ tb 3 (4 * 4 + 1) = 8 ∧ tb 3 (4 * 4 + 2) = 9) ∧ (tb 1 5 = 2 ∧ tb 3 (5 * 4 + 0) = 9 ∧ tb 3 (5 * 4 + 1) = 9) ∧ ((tb 1 6 = 1 ∧ tb 1 7 = 1 ∧ tb 1 8 = 1 ∧ tb 1 9 = 1) ∧ tb 3 (6 * 4 + 0) = 99 ∧ (tb 2 (7 * 4 + 0) = 1 ∧ tb 3 (7 * 4 + 0) = 9) ∧ tb 3 (8 * 4 + 0) = 99 ∧ (tb 2 (9 * 4 + 0) = 1 ∧ tb 3 (9 * 4 + 0) = 30)) ∧ (tb 1 15 = 2 ∧ tb 3 (15 * 4 + 0) = 99) ∧ (tb 1 16 = 1 ∧ tb 3 (16 * 4 + 0) = 99) ∧ (tb 1 17 = 1 ∧ tb 3 (17 * 4 + 0) = 20) ∧ (tb 1 18 = 2 ∧ tb 3 (18 * 4 + 0) = 20 ∧ tb 3 (18 * 4 + 1) = 9) ∧ (tb 1 19 = 3 ∧ tb 3 (19 * 4 + 0) = 9 ∧ tb 3 (19 * 4 + 1) = 9 ∧ tb 3 (19 * 4 + 2) = 20) := by decide
theorem rg_03 {c : Nat} {R : Nat → Nat} (hc : c < 4) (h : ∀ i, i < tb 1 c → canB c i R (R i)) : R 0 ≤ 9 ∧ R 1 ≤ 9 ∧ R 2 ≤ R 3 ∧ R 3 ≤ 20 := by
  obtain ⟨t, t0, t1, t2, t3⟩ := rt_t.1 c hc
  have a := (h 0 (by omega)).1.2
  have b := (h 1 (by omega)).1.2
  have d := (h 3 (by omega)).1.2
  have e := (h 3 (by omega)).2.1 ⟨hc, rfl⟩
  omega
theorem rg_4 {R : Nat → Nat} (h : ∀ i, i < tb 1 4 → canB 4 i R (R i)) : good4 R := by
  obtain ⟨t, t0, t1, t2⟩ := rt_t.2.1
  have a := (h 0 (by omega)).1.2
  have b := (h 1 (by omega)).1.2
  have d := (h 2 (by omega)).1.2
  have e := (h 1 (by omega)).2.2.1 ⟨rfl, rfl⟩
  exact ⟨by omega, ⟨by omega, e⟩, by omega⟩
theorem TnP.up {D : Nat → Int32} {far c : Nat} {R : Nat → Nat} (P : TnP D far) (hc : c < 10) (h : ∀ i, i < tb 1 c → canB c i R (R i)) (fb : fuB c D = false) : TnP (tl0 c R D) (frU c R far) := by
  obtain ⟨N, ⟨h1, h2⟩, h3, h4, h5, h6⟩ := P
  have e6 : bN D 6 = N 6 := bN_nI (h1 6 (by omega)) (by omega)
  unfold tl0 frU
  by_cases c4 : c < 4
  · obtain ⟨r0, r1, r2, r3⟩ := rg_03 c4 h
    have k9 : N 6 < 9 := by
      have : ¬ D 6 = 9 := fun z => by
        unfold fuB at fb
        rw [if_pos c4] at fb
        exact of_decide_eq_false fb z
      have : N 6 ≠ 9 := fun z => this (by rw [h1 6 (by omega), z]; rfl)
      omega
    rw [if_pos c4, e6, if_pos k9, if_neg (by omega)]
    refine ⟨vup (vup (vup (vup (vup (vup N (7 + N 6) c) (16 + N 6) (R 0)) (25 + N 6) (R 1)) (34 + N 6) (R 2)) (43 + N 6) (R 3)) 6 (N 6 + 1), ⟨uv (uv (uv (uv (uv (uv h1 _ _) _ _) _ _) _ _) _ _) _ _, fun s hs => ?_⟩, ?_, fun s hs => ?_, fun s hs => ?_, h6⟩
    · rw [uw_o (by omega), uw_o (by omega), uw_o (by omega), uw_o (by omega), uw_o (by omega), uw_o (by omega), vup_o (by omega), vup_o (by omega), vup_o (by omega), vup_o (by omega), vup_o (by omega), vup_o (by omega)]
      exact h2 s hs
    · have o : ∀ i, i < 6 → vup (vup (vup (vup (vup (vup N (7 + N 6) c) (16 + N 6) (R 0)) (25 + N 6) (R 1)) (34 + N 6) (R 2)) (43 + N 6) (R 3)) 6 (N 6 + 1) i = N i := fun i hi => by
        rw [vup_o (by omega), vup_o (by omega), vup_o (by omega), vup_o (by omega), vup_o (by omega), vup_o (by omega)]
      rw [o 0 (by omega), o 1 (by omega), o 2 (by omega), o 3 (by omega), o 4 (by omega), o 5 (by omega), vup_s]
      omega
    · rw [vup_s] at hs
      simp only [vup]
      by_cases e : s = N 6
      · subst e
        rw [if_neg (by omega), if_neg (by omega), if_neg (by omega), if_neg (by omega), if_neg (by omega), if_pos rfl, if_neg (by omega), if_neg (by omega), if_neg (by omega), if_neg (by omega), if_pos rfl, if_neg (by omega), if_neg (by omega), if_neg (by omega), if_pos rfl, if_neg (by omega), if_neg (by omega), if_pos rfl, if_neg (by omega), if_pos rfl]
        omega
      · have := h4 s (by omega)
        rw [if_neg (by omega), if_neg (by omega), if_neg (by omega), if_neg (by omega), if_neg (by omega), if_neg (by omega), if_neg (by omega), if_neg (by omega), if_neg (by omega), if_neg (by omega), if_neg (by omega), if_neg (by omega), if_neg (by omega), if_neg (by omega), if_neg (by omega), if_neg (by omega), if_neg (by omega), if_neg (by omega), if_neg (by omega), if_neg (by omega), if_neg (by omega), if_neg (by omega), if_neg (by omega), if_neg (by omega), if_neg (by omega), if_neg (by omega), if_neg (by omega), if_neg (by omega), if_neg (by omega), if_neg (by omega)]
        exact this
    · rw [vup_o (by omega), vup_o (by omega), vup_o (by omega), vup_o (by omega), vup_o (by omega), vup_o (by omega), vup_o (by omega), vup_o (by omega), vup_o (by omega), vup_o (by omega), vup_o (by omega), vup_o (by omega)]
      exact h5 s hs
  · rw [if_neg c4]
    by_cases c4' : c = 4
    · subst c4'
      have g := rg_4 h
      rw [if_pos rfl, if_pos rfl, if_pos g]
      obtain ⟨g0, ⟨g1, g1'⟩, g2⟩ := g
      refine ⟨vup (vup N (52 + R 0) (R 2)) (61 + R 0) (R 1 + 1), ⟨fun i hi => ?_, fun s hs => ?_⟩, ?_, fun s hs => ?_, fun s hs => ?_, by omega⟩
      · rw [uw_o (by omega), vup_o (by omega)]; exact uv h1 _ _ i hi
      · by_cases e : s = R 0
        · subst e; rw [uw_s, vup_s, nI_pred]
        · rw [uw_o (by omega), uw_o (by omega), vup_o (by omega), vup_o (by omega)]; exact h2 s hs
      · have o : ∀ i, i < 52 → vup (vup N (52 + R 0) (R 2)) (61 + R 0) (R 1 + 1) i = N i := fun i hi => by
          rw [vup_o (by omega), vup_o (by omega)]
        rw [o 0 (by omega), o 1 (by omega), o 2 (by omega), o 3 (by omega), o 4 (by omega), o 5 (by omega), o 6 (by omega)]
        exact h3
      · have o : ∀ i, i < 52 → vup (vup N (52 + R 0) (R 2)) (61 + R 0) (R 1 + 1) i = N i := fun i hi => by
          rw [vup_o (by omega), vup_o (by omega)]
        rw [o 6 (by omega)] at hs
        rw [o _ (by omega), o _ (by omega), o _ (by omega), o _ (by omega), o _ (by omega)]
        exact h4 s hs
      · obtain ⟨a1, a2, a3⟩ := h5 s hs
        by_cases e : s = R 0
        · subst e
          rw [vup_o (by omega), vup_s, vup_s]
          exact ⟨g2, by omega, fun _ => by omega⟩
        · rw [vup_o (show 52 + s ≠ 61 + R 0 by omega), vup_o (show 52 + s ≠ 52 + R 0 by omega), vup_o (show 61 + s ≠ 61 + R 0 by omega), vup_o (show 61 + s ≠ 52 + R 0 by omega)]
          exact ⟨a1, by omega, fun z => by have := a3 z; omega⟩
    · rw [if_neg c4', if_neg c4']
      have gen : ∀ N' : Nat → Nat, ∀ D' : Nat → Int32, (∀ i, i < 61 → D' i = nI (N' i)) → (∀ i, 61 ≤ i → D' i = D i) → (∀ i, 6 ≤ i → N' i = N i) → (N' 0 ≤ 9 ∧ N' 1 ≤ 9 ∧ N' 2 ≤ 99 ∧ 1 ≤ N' 3 ∧ N' 3 ≤ 9 ∧ N' 4 ≤ 99 ∧ 1 ≤ N' 5 ∧ N' 5 ≤ 30) → TnP D' far := fun N' D' g1 g2 g3 g4 => by
        refine ⟨N', ⟨g1, fun s hs => ?_⟩, ?_, fun s hs => ?_, fun s hs => ?_, h6⟩
        · rw [g2 _ (by omega), g3 _ (by omega)]; exact h2 s hs
        · rw [g3 6 (by omega)]; omega
        · rw [g3 6 (by omega)] at hs
          rw [g3 _ (by omega), g3 _ (by omega), g3 _ (by omega), g3 _ (by omega), g3 _ (by omega)]
          exact h4 s hs
        · rw [g3 _ (by omega), g3 _ (by omega)]; exact h5 s hs
      obtain ⟨t5, t50, t51⟩ := rt_t.2.2.1
      obtain ⟨⟨t6, t7, t8, t9⟩, u6, ⟨u7, v7⟩, u8, ⟨u9, v9⟩⟩ := rt_t.2.2.2.1
      have : c = 5 ∨ c = 6 ∨ c = 7 ∨ c = 8 ∨ c = 9 := by omega
      rcases this with e | e | e | e | e <;> subst e
      · have a := (h 0 (by omega)).1.2
        have b := (h 1 (by omega)).1.2
        rw [if_pos rfl]
        refine gen (vup (vup N 0 (R 0)) 1 (R 1)) _ (uv (uv h1 _ _) _ _) (fun i hi => by rw [uw_o (by omega), uw_o (by omega)]) (fun i hi => by rw [vup_o (by omega), vup_o (by omega)]) ?_
        rw [vup_o (show 0 ≠ 1 by decide), vup_s, vup_s, vup_o (show 2 ≠ 1 by decide), vup_o (show 2 ≠ 0 by decide), vup_o (show 3 ≠ 1 by decide), vup_o (show 3 ≠ 0 by decide), vup_o (show 4 ≠ 1 by decide), vup_o (show 4 ≠ 0 by decide), vup_o (show 5 ≠ 1 by decide), vup_o (show 5 ≠ 0 by decide)]
        omega
      · have a := (h 0 (by omega)).1.2
        rw [if_neg (by decide), if_pos rfl]
        refine gen (vup N 2 (R 0)) _ (uv h1 _ _) (fun i hi => uw_o (by omega)) (fun i hi => vup_o (by omega)) ?_
        rw [vup_o (show 0 ≠ 2 by decide), vup_o (show 1 ≠ 2 by decide), vup_s, vup_o (show 3 ≠ 2 by decide), vup_o (show 4 ≠ 2 by decide), vup_o (show 5 ≠ 2 by decide)]
        omega
      · have a := (h 0 (by omega)).1
        rw [if_neg (by decide), if_neg (by decide), if_pos rfl]
        refine gen (vup N 3 (R 0)) _ (uv h1 _ _) (fun i hi => uw_o (by omega)) (fun i hi => vup_o (by omega)) ?_
        rw [vup_o (show 0 ≠ 3 by decide), vup_o (show 1 ≠ 3 by decide), vup_o (show 2 ≠ 3 by decide), vup_s, vup_o (show 4 ≠ 3 by decide), vup_o (show 5 ≠ 3 by decide)]
        omega
      · have a := (h 0 (by omega)).1.2
        rw [if_neg (by decide), if_neg (by decide), if_neg (by decide), if_pos rfl]
        refine gen (vup N 4 (R 0)) _ (uv h1 _ _) (fun i hi => uw_o (by omega)) (fun i hi => vup_o (by omega)) ?_
        rw [vup_o (show 0 ≠ 4 by decide), vup_o (show 1 ≠ 4 by decide), vup_o (show 2 ≠ 4 by decide), vup_o (show 3 ≠ 4 by decide), vup_s, vup_o (show 5 ≠ 4 by decide)]
        omega
      · have a := (h 0 (by omega)).1
        rw [if_neg (by decide), if_neg (by decide), if_neg (by decide), if_neg (by decide)]
        refine gen (vup N 5 (R 0)) _ (uv h1 _ _) (fun i hi => uw_o (by omega)) (fun i hi => vup_o (by omega)) ?_
        rw [vup_o (show 0 ≠ 5 by decide), vup_o (show 1 ≠ 5 by decide), vup_o (show 2 ≠ 5 by decide), vup_o (show 3 ≠ 5 by decide), vup_o (show 4 ≠ 5 by decide), vup_s]
        omega
theorem bk_up {D : Nat → Int32} {c th : Nat} {R : Nat → Nat} (P : BkOK D ∧ ∀ i, 1 + 5 * bN D 0 ≤ i → i < 51 → D i = 0) (hc : c = 15 ∨ c = 16) (ht : th < 3) (h : ∀ i, i < tb 1 c → canB c i R (R i)) : BkOK (tl2 c th R D) ∧ ∀ i, 1 + 5 * bN (tl2 c th R D) 0 ≤ i → i < 51 → tl2 c th R D i = 0 := by
  obtain ⟨⟨h1, h2, h3⟩, h4⟩ := P
  obtain ⟨t15, u15⟩ := rt_t.2.2.2.2.1
  obtain ⟨t16, u16⟩ := rt_t.2.2.2.2.2.1
  unfold tl2
  rcases hc with e | e <;> subst e
  · rw [if_pos rfl]
    have a := (h 0 (by omega)).1.2
    have b := (h 1 (by omega)).2.2.2 ⟨rfl, by decide⟩
    by_cases k : bN D 0 < 10
    · rw [if_pos k]
      have eb : bN (uw (uw (uw D (1 + 5 * bN D 0) (nI (R 0))) (2 + 5 * bN D 0) (nI (R 1))) 0 (nI (bN D 0 + 1))) = vup (vup (vup (bN D) (1 + 5 * bN D 0) (R 0)) (2 + 5 * bN D 0) (R 1)) 0 (bN D 0 + 1) := by
        rw [bN_uw (by omega), bN_uw (by omega), bN_uw (by omega)]
      refine ⟨⟨?_, ?_, fun j hj => ?_⟩, fun i hi h51 => ?_⟩
      · rw [eb]; exact uv (uv (uv h1 _ _) _ _) _ _
      · rw [eb, vup_s]; omega
      · rw [eb, vup_s] at hj
        rw [eb]
        by_cases e : j = bN D 0
        · subst e
          rw [vup_o (by omega), vup_o (by omega), vup_s, vup_o (by omega), vup_s]
          refine ⟨by omega, by omega, fun t ht => ?_⟩
          rw [vup_o (by omega), vup_o (by omega), vup_o (by omega)]
          have := h4 (3 + 5 * bN D 0 + t) (by omega) (by omega)
          unfold bN at this ⊢
          rw [this]; decide
        · rw [vup_o (by omega), vup_o (by omega), vup_o (by omega), vup_o (by omega), vup_o (by omega), vup_o (by omega)]
          refine ⟨(h3 j (by omega)).1, (h3 j (by omega)).2.1, fun t ht => ?_⟩
          rw [vup_o (by omega), vup_o (by omega), vup_o (by omega)]
          exact (h3 j (by omega)).2.2 t ht
      · rw [eb, vup_s] at hi
        rw [uw_o (by omega), uw_o (by omega), uw_o (by omega)]
        exact h4 i (by omega) h51
    · rw [if_neg k]
      exact ⟨⟨h1, h2, h3⟩, h4⟩
  · rw [if_neg (by decide)]
    have a := (h 0 (by omega)).1.2
    by_cases k : 0 < bN D 0
    · rw [if_pos k]
      have eb : bN (uw D (3 + 5 * (bN D 0 - 1) + th) (nI (R 0))) = vup (bN D) (3 + 5 * (bN D 0 - 1) + th) (R 0) := bN_uw (by omega)
      have e0 : vup (bN D) (3 + 5 * (bN D 0 - 1) + th) (R 0) 0 = bN D 0 := vup_o (by omega)
      refine ⟨⟨?_, ?_, fun j hj => ?_⟩, fun i hi h51 => ?_⟩
      · rw [eb]; exact uv h1 _ _
      · rw [eb, e0]; exact h2
      · rw [eb, e0] at hj
        rw [eb]
        rw [vup_o (by omega), vup_o (by omega)]
        refine ⟨(h3 j hj).1, (h3 j hj).2.1, fun t ht => ?_⟩
        by_cases e : 3 + 5 * j + t = 3 + 5 * (bN D 0 - 1) + th
        · rw [e, vup_s]; omega
        · rw [vup_o e]; exact (h3 j hj).2.2 t ht
      · rw [eb, e0] at hi
        rw [uw_o (by omega)]
        exact h4 i hi h51
    · rw [if_neg k]
      exact ⟨⟨h1, h2, h3⟩, h4⟩
theorem sh_up {D : Nat → Int32} {c : Nat} {R : Nat → Nat} (P : ShOK D) (hc : c = 17 ∨ c = 18 ∨ c = 19) (h : ∀ i, i < tb 1 c → canB c i R (R i)) : ShOK (tl3 c R D) := by
  obtain ⟨h1, ⟨h20, h21, h22⟩, h3, h4, h5⟩ := P
  obtain ⟨t17, u17⟩ := rt_t.2.2.2.2.2.2.1
  obtain ⟨t18, u18, v18⟩ := rt_t.2.2.2.2.2.2.2.1
  obtain ⟨t19, u19, v19, w19⟩ := rt_t.2.2.2.2.2.2.2.2
  unfold tl3
  rcases hc with e | e | e <;> subst e
  · rw [if_pos rfl]
    have a := (h 0 (by omega)).1.2
    by_cases k : bN D 0 < 6
    · rw [if_pos k]
      have eb : bN (uw (uw D (3 + bN D 0) (nI (R 0))) 0 (nI (bN D 0 + 1))) = vup (vup (bN D) (3 + bN D 0) (R 0)) 0 (bN D 0 + 1) := by rw [bN_uw (by omega), bN_uw (by omega)]
      refine ⟨by rw [eb]; exact uv (uv h1 _ _) _ _, ?_, fun j hj => ?_, fun j hj => ?_, fun j hj => ?_⟩
      · rw [eb, vup_s, vup_o (by omega), vup_o (by omega), vup_o (by omega), vup_o (by omega)]; omega
      · rw [eb, vup_s] at hj
        rw [eb]
        by_cases e : j = bN D 0
        · subst e; rw [vup_o (by omega), vup_s]; omega
        · rw [vup_o (by omega), vup_o (by omega)]; exact h3 j (by omega)
      · rw [eb, vup_o (by omega), vup_o (by omega)] at hj
        rw [eb, vup_o (by omega), vup_o (by omega), vup_o (by omega), vup_o (by omega)]; exact h4 j hj
      · rw [eb, vup_o (by omega), vup_o (by omega)] at hj
        rw [eb, vup_o (by omega), vup_o (by omega), vup_o (by omega), vup_o (by omega), vup_o (by omega), vup_o (by omega)]; exact h5 j hj
    · rw [if_neg k]; exact ⟨h1, ⟨h20, h21, h22⟩, h3, h4, h5⟩
  · rw [if_neg (by decide), if_pos rfl]
    have a := (h 0 (by omega)).1.2
    have b := (h 1 (by omega)).1.2
    by_cases k : bN D 1 < 8
    · rw [if_pos k]
      have eb : bN (uw (uw (uw D (9 + bN D 1) (nI (R 0))) (17 + bN D 1) (nI (R 1))) 1 (nI (bN D 1 + 1))) = vup (vup (vup (bN D) (9 + bN D 1) (R 0)) (17 + bN D 1) (R 1)) 1 (bN D 1 + 1) := by rw [bN_uw (by omega), bN_uw (by omega), bN_uw (by omega)]
      refine ⟨by rw [eb]; exact uv (uv (uv h1 _ _) _ _) _ _, ?_, fun j hj => ?_, fun j hj => ?_, fun j hj => ?_⟩
      · rw [eb, vup_s, vup_o (by omega), vup_o (by omega), vup_o (by omega), vup_o (by omega), vup_o (by omega), vup_o (by omega)]; omega
      · rw [eb, vup_o (by omega), vup_o (by omega), vup_o (by omega)] at hj
        rw [eb, vup_o (by omega), vup_o (by omega), vup_o (by omega)]; exact h3 j hj
      · rw [eb, vup_s] at hj
        rw [eb]
        by_cases e : j = bN D 1
        · subst e; rw [vup_o (by omega), vup_o (by omega), vup_s, vup_o (by omega), vup_s]; omega
        · rw [vup_o (by omega), vup_o (by omega), vup_o (by omega), vup_o (by omega), vup_o (by omega), vup_o (by omega)]; exact h4 j (by omega)
      · rw [eb, vup_o (by omega), vup_o (by omega), vup_o (by omega)] at hj
        rw [eb, vup_o (by omega), vup_o (by omega), vup_o (by omega), vup_o (by omega), vup_o (by omega), vup_o (by omega), vup_o (by omega), vup_o (by omega), vup_o (by omega)]; exact h5 j hj
    · rw [if_neg k]; exact ⟨h1, ⟨h20, h21, h22⟩, h3, h4, h5⟩
  · rw [if_neg (by decide), if_neg (by decide)]
    have a := (h 0 (by omega)).1.2
    have b := (h 1 (by omega)).1.2
    have d := (h 2 (by omega)).1.2
    by_cases k : bN D 2 < 8
    · rw [if_pos k]
      have eb : bN (uw (uw (uw (uw D (25 + bN D 2) (nI (R 0))) (33 + bN D 2) (nI (R 1))) (41 + bN D 2) (nI (R 2))) 2 (nI (bN D 2 + 1))) = vup (vup (vup (vup (bN D) (25 + bN D 2) (R 0)) (33 + bN D 2) (R 1)) (41 + bN D 2) (R 2)) 2 (bN D 2 + 1) := by rw [bN_uw (by omega), bN_uw (by omega), bN_uw (by omega), bN_uw (by omega)]
      refine ⟨by rw [eb]; exact uv (uv (uv (uv h1 _ _) _ _) _ _) _ _, ?_, fun j hj => ?_, fun j hj => ?_, fun j hj => ?_⟩
      · rw [eb, vup_s, vup_o (by omega), vup_o (by omega), vup_o (by omega), vup_o (by omega), vup_o (by omega), vup_o (by omega), vup_o (by omega), vup_o (by omega)]; omega
      · rw [eb, vup_o (by omega), vup_o (by omega), vup_o (by omega), vup_o (by omega)] at hj
        rw [eb, vup_o (by omega), vup_o (by omega), vup_o (by omega), vup_o (by omega)]; exact h3 j hj
      · rw [eb, vup_o (by omega), vup_o (by omega), vup_o (by omega), vup_o (by omega)] at hj
        rw [eb, vup_o (by omega), vup_o (by omega), vup_o (by omega), vup_o (by omega), vup_o (by omega), vup_o (by omega), vup_o (by omega), vup_o (by omega)]; exact h4 j hj
      · rw [eb, vup_s] at hj
        rw [eb]
        by_cases e : j = bN D 2
        · subst e; rw [vup_o (by omega), vup_o (by omega), vup_o (by omega), vup_s, vup_o (by omega), vup_o (by omega), vup_s, vup_o (by omega), vup_s]; omega
        · rw [vup_o (by omega), vup_o (by omega), vup_o (by omega), vup_o (by omega), vup_o (by omega), vup_o (by omega), vup_o (by omega), vup_o (by omega), vup_o (by omega), vup_o (by omega), vup_o (by omega), vup_o (by omega)]; exact h5 j (by omega)
    · rw [if_neg k]; exact ⟨h1, ⟨h20, h21, h22⟩, h3, h4, h5⟩
theorem pOK_up {q c th far : Nat} {D : Nat → Int32} {R : Nat → Nat} (P : pOK q D far) (hc : cq q c) (ht : th < 3) (h : ∀ i, i < tb 1 c → canB c i R (R i)) (fb : fuB c D = false) : pOK q (tl c th R D) (frU c R far) := by
  unfold cq at hc
  unfold tl
  rcases hc with ⟨e, e1⟩ | ⟨e, e1, e2⟩ | ⟨e, e1, e2⟩ | ⟨e, e1, e2⟩ <;> subst e
  · rw [if_pos e1]
    exact TnP.up P e1 h fb
  · rw [if_neg (by omega), if_pos e2]
    have P' : EvOK D := P
    show EvOK (tl1 c R D)
    unfold tl1
    by_cases k : bN D 0 < 40
    · rw [if_pos k]
      have e : dds (uw (uw (uw D (1 + 2 * bN D 0) (nI (c - 10))) (2 + 2 * bN D 0) (if c < 13 then nI (R 0) else -1)) 0 (nI (bN D 0 + 1))) = bN D 0 + 1 := bN_nI (uw_s _ _ _) (by omega)
      unfold EvOK
      rw [e, uw_s]
      exact ⟨rfl, by omega⟩
    · rw [if_neg k]; exact P'
  · rw [if_neg (by omega), if_neg (by omega), if_pos e2]
    exact bk_up P (by omega) ht h
  · rw [if_neg (by omega), if_neg (by omega), if_neg (by omega)]
    exact sh_up P (by omega) h
theorem pOK.c {q far : Nat} {D : Nat → Int32} (hq : q < 4) (P : pOK q D far) : cnO q D := by
  have : q = 0 ∨ q = 1 ∨ q = 2 ∨ q = 3 := by omega
  rcases this with e | e | e | e <;> subst e
  · obtain ⟨N, ⟨h1, h2⟩, h3, h4, h5, h6⟩ := P
    have e6 : bN D 6 = N 6 := bN_nI (h1 6 (by omega)) (by omega)
    show D 6 = nI (bN D 6) ∧ bN D 6 ≤ 9
    rw [e6]
    exact ⟨h1 6 (by omega), by omega⟩
  · exact P
  · exact ⟨P.1.1 0 (by omega), P.1.2.1⟩
  · exact ⟨⟨P.1 0 (by omega), P.2.1.1⟩, ⟨P.1 1 (by omega), P.2.1.2.1⟩, ⟨P.1 2 (by omega), P.2.1.2.2⟩⟩
