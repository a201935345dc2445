/-! ROOM in the class; the drafts -/
def DR (q : Nat) (h : xh) (D : Nat → Int32) : Prop := if q = 0 then ((∀ i, i < 7 → xI h 119 i = D i) ∧ ∀ j s, j < 7 → s < 9 → (s < bN D 6 ∨ 5 ≤ j) → xI h (120 + j) s = D (7 + 9 * j + s)) else if q = 1 then (xI h 127 0 = D 0 ∧ ∀ k, k < bN D 0 → xI h 128 k = D (1 + 2 * k) ∧ xI h 129 k = D (2 + 2 * k)) else if q = 2 then (xI h 130 0 = D 0 ∧ ∀ k, k < bN D 0 → xI h 131 k = D (1 + 5 * k) ∧ xI h 132 k = D (2 + 5 * k) ∧ ∀ t, t < 3 → xI h 133 (k * 3 + t) = D (3 + 5 * k + t)) else ((∀ i, i < 3 → xI h 134 i = D i) ∧ (∀ k, k < bN D 0 → xI h 135 k = D (3 + k)) ∧ (∀ k, k < bN D 1 → xI h 136 k = D (9 + k) ∧ xI h 137 k = D (17 + k)) ∧ ∀ k, k < bN D 2 → xI h 138 k = D (25 + k) ∧ xI h 139 k = D (33 + k) ∧ xI h 140 k = D (41 + k))
def cq (q c : Nat) : Prop := (q = 0 ∧ c < 10) ∨ (q = 1 ∧ 10 ≤ c ∧ c < 15) ∨ (q = 2 ∧ 15 ≤ c ∧ c < 17) ∨ (q = 3 ∧ 17 ≤ c ∧ c < 20)
theorem cq_of {q c : Nat} (hq : q < 4) (h1 : FC q ≤ c) (h2 : c < FC (q + 1)) : cq q c := by
  have : q = 0 ∨ q = 1 ∨ q = 2 ∨ q = 3 := by omega
  rcases this with e | e | e | e <;> subst e
  · have : FC (0 + 1) = 10 := rfl
    exact Or.inl ⟨rfl, by omega⟩
  · have : FC (1 + 1) = 15 := rfl
    have : FC 1 = 10 := rfl
    exact Or.inr (Or.inl ⟨rfl, by omega, by omega⟩)
  · have : FC (2 + 1) = 17 := rfl
    have : FC 2 = 15 := rfl
    exact Or.inr (Or.inr (Or.inl ⟨rfl, by omega, by omega⟩))
  · have : FC (3 + 1) = 20 := rfl
    have : FC 3 = 17 := rfl
    exact Or.inr (Or.inr (Or.inr ⟨rfl, by omega, by omega⟩))
theorem cq.b {q c : Nat} (h : cq q c) : c < 20 := by unfold cq at h; omega
def Sf (h : xh) : Prop := (∃ k, k ≤ 9 ∧ xI h 119 6 = nI k) ∧ (∃ k, k ≤ 40 ∧ xI h 127 0 = nI k) ∧ (∃ k, k ≤ 10 ∧ xI h 130 0 = nI k) ∧ (∃ k, k ≤ 6 ∧ xI h 134 0 = nI k) ∧ (∃ k, k ≤ 8 ∧ xI h 134 1 = nI k) ∧ ∃ k, k ≤ 8 ∧ xI h 134 2 = nI k
theorem DR.c0 {h : xh} {D : Nat → Int32} (d : DR 0 h D) : xI h 119 6 = D 6 := d.1 6 (by omega)
theorem DR.c1 {h : xh} {D : Nat → Int32} (d : DR 1 h D) : xI h 127 0 = D 0 := d.1
theorem DR.c2 {h : xh} {D : Nat → Int32} (d : DR 2 h D) : xI h 130 0 = D 0 := d.1
theorem DR.c3 {h : xh} {D : Nat → Int32} (d : DR 3 h D) : xI h 134 0 = D 0 ∧ xI h 134 1 = D 1 ∧ xI h 134 2 = D 2 := ⟨d.1 0 (by omega), d.1 1 (by omega), d.1 2 (by omega)⟩
theorem nt_k {F : Nat × Nat} {f s : Nat} (h : F.1 ≠ 0) : nt F f s = F := if_neg h
theorem c_Reader_checkRoom {n : Nat} (hn : 2 ≤ n) {h : xh} (L : Lay h) {B : Nat → Nat} {len s : Nat} {F : Nat × Nat} (C : CR h B len s F) (hs : s < 2 ^ 31) (Z : Sf h) {q c : Nat} (hc : cq q c) {D : Nat → Int32} (d : F.1 = 0 → DR q h D) {Q : xh → Prop} (hQ : ∀ g, Fr PE h g → (∀ i, i < 9 ∨ 10 < i → xI g 117 i = xI h 117 i) → CR g B len s (if fuB c D = true then nt F (fuN c) s else F) → Q g) : xcv (xMC n) 137 [.ref 117, .int (nI c)] h Q := by
  obtain ⟨n, rfl⟩ := xsucc (show 1 ≤ n by omega)
  have c20 := hc.b
  have ce : ∀ k : Nat, k < 20 → (nI c = nI k) = (c = k) := fun k hk => propext (nI_eq (by omega) (by omega))
  have cle : ∀ k : Nat, k < 20 → (nI k ≤ nI c) = (k ≤ c) := fun k hk => propext (nI_leI (by omega) (by omega))
  have clt : ∀ k : Nat, k < 20 → (nI c < nI k) = (c < k) := fun k hk => propext (nI_ltI (by omega) (by omega))
  obtain ⟨⟨z0, y0, e0⟩, ⟨z1, y1, e1⟩, ⟨z2, y2, e2⟩, ⟨z3, y3, e3⟩, ⟨z4, y4, e4⟩, ⟨z5, y5, e5⟩⟩ := Z
  have t122 : c ≠ 16 → ∀ g, Fr PE h g → (∀ i, i < 9 ∨ 10 < i → xI g 117 i = xI h 117 i) → ∀ F', CR g B len s F' → F' = (if fuB c D = true then nt F (fuN c) s else F) → K_Reader_checkRoom n Q 122 [some (.ref 117), some (.int (nI c))] [] g := fun c16 g G gi F' C' e => by
    refine b_Reader_checkRoom_122 ⟨fun _ => hQ g G gi (e ▸ C'), fun z => ?_⟩
    rw [show (16 : Int32) = nI 16 from rfl, ce 16 (by decide)] at z
    exact absurd z c16
  have n122 : c ≠ 16 → (F.1 = 0 → fuB c D = false) → K_Reader_checkRoom n Q 122 [some (.ref 117), some (.int (nI c))] [] h := fun c16 fb => by
    refine t122 c16 h Fr.rf (fun _ _ => rfl) F C ?_
    by_cases f0 : F.1 = 0
    · rw [fb f0, if_neg (by decide)]
    · rw [nt_k f0]; split <;> rfl
  have y113 : c ≠ 16 → (F.1 = 0 → fuB c D = true) → K_Reader_checkRoom n Q 113 [some (.ref 117), some (.int (nI c))] [] h := fun c16 fb => by
    refine b_Reader_checkRoom_113 ⟨L.s 117, ?_⟩
    rw [C.1.2.1]
    refine c_Reader_noteFault (f := 3) (by omega) L C (by decide) (by decide) (fun g G gi C' _ => t122 c16 g G gi _ C' ?_)
    have ef : fuN c = 3 := if_neg c16
    rw [ef]
    by_cases f0 : F.1 = 0
    · rw [fb f0, if_pos rfl]
    · rw [nt_k f0]; split <;> rfl
  have n95 : c ≠ 16 → (c ≠ 19) → (F.1 = 0 → fuB c D = false) → K_Reader_checkRoom n Q 95 [some (.ref 117), some (.int (nI c))] [] h := fun c16 c19 fb => by
    refine b_Reader_checkRoom_95 ⟨fun _ => n122 c16 fb, fun z => ?_⟩
    rw [show (19 : Int32) = nI 19 from rfl, ce 19 (by decide)] at z
    exact absurd z c19
  have n77 : c ≠ 16 → (c < 18) → (F.1 = 0 → fuB c D = false) → K_Reader_checkRoom n Q 77 [some (.ref 117), some (.int (nI c))] [] h := fun c16 c19 fb => by
    refine b_Reader_checkRoom_77 ⟨fun _ => n95 c16 (by omega) fb, fun z => ?_⟩
    rw [show (18 : Int32) = nI 18 from rfl, ce 18 (by decide)] at z
    omega
  have n59 : c ≠ 16 → (c < 17) → (F.1 = 0 → fuB c D = false) → K_Reader_checkRoom n Q 59 [some (.ref 117), some (.int (nI c))] [] h := fun c16 c19 fb => by
    refine b_Reader_checkRoom_59 ⟨fun _ => n77 c16 (by omega) fb, fun z => ?_⟩
    rw [show (17 : Int32) = nI 17 from rfl, ce 17 (by decide)] at z
    omega
  have n41 : c < 15 → (F.1 = 0 → fuB c D = false) → K_Reader_checkRoom n Q 41 [some (.ref 117), some (.int (nI c))] [] h := fun c19 fb => by
    refine b_Reader_checkRoom_41 ⟨fun _ => n59 (by omega) (by omega) fb, fun z => ?_⟩
    rw [show (15 : Int32) = nI 15 from rfl, ce 15 (by decide)] at z
    omega
  have n17 : c < 10 → (F.1 = 0 → fuB c D = false) → K_Reader_checkRoom n Q 17 [some (.ref 117), some (.int (nI c))] [] h := fun c19 fb => by
    refine b_Reader_checkRoom_17 ⟨fun _ => n41 (by omega) fb, fun z => ?_⟩
    rw [show (10 : Int32) = nI 10 from rfl, clt 10 (by decide)] at z
    omega
  have full : ∀ {x : Int32} {k m : Nat}, x = nI k → k ≤ m → m ≤ 40 → ((nI m ≤ x) ↔ k = m) := fun {x k m} e1 e2 e3 => by
    rw [e1, nI_leI (by omega) (by omega)]; omega
  refine w_Reader_checkRoom ?_
  rw [show ((4 : Int32) ≤ nI c) = (4 ≤ c) from cle 4 (by decide)]
  refine ⟨fun c4 => ?_, fun c4 => ⟨L.s 117, 119, L.r 117 11 119, L.s 119, ?_⟩⟩
  · by_cases c10 : c < 10
    · refine n17 c10 (fun _ => ?_)
      unfold fuB
      rw [if_neg (by omega), if_pos c10]
    · refine b_Reader_checkRoom_17 ?_
      rw [show (nI c < (10 : Int32)) = (c < 10) from clt 10 (by decide), show ((15 : Int32) ≤ nI c) = (15 ≤ c) from cle 15 (by decide)]
      refine ⟨fun z => absurd z c10, fun _ => ⟨fun c15 => ?_, fun c15 => ⟨L.s 117, 127, L.r 117 12 127, L.s 127, ?_⟩⟩⟩
      · refine b_Reader_checkRoom_41 ?_
        rw [show (nI c = (15 : Int32)) = (c = 15) from ce 15 (by decide)]
        refine ⟨fun cn => b_Reader_checkRoom_59 ?_, fun cn => ⟨L.s 117, 130, L.r 117 13 130, L.s 130, ?_⟩⟩
        · rw [show (nI c = (17 : Int32)) = (c = 17) from ce 17 (by decide)]
          refine ⟨fun cn2 => b_Reader_checkRoom_77 ?_, fun cn2 => ⟨L.s 117, 134, L.r 117 14 134, L.s 134, ?_⟩⟩
          · rw [show (nI c = (18 : Int32)) = (c = 18) from ce 18 (by decide)]
            refine ⟨fun cn3 => b_Reader_checkRoom_95 ?_, fun cn3 => ⟨L.s 117, 134, L.r 117 14 134, L.s 134, ?_⟩⟩
            · rw [show (nI c = (19 : Int32)) = (c = 19) from ce 19 (by decide)]
              refine ⟨fun cn4 => ?_, fun cn4 => ⟨L.s 117, 134, L.r 117 14 134, L.s 134, ?_⟩⟩
              · have c16 : c = 16 := by omega
                subst c16
                refine b_Reader_checkRoom_122 ⟨fun z => absurd rfl z, fun _ => ⟨L.s 117, 130, L.r 117 13 130, L.s 130, ?_⟩⟩
                rw [e2, nI_e0 (by omega), C.1.2.1]
                have q2 : q = 2 := by unfold cq at hc; omega
                subst q2
                have fe : ∀ b : Bool, (F.1 = 0 → fuB 16 D = b) → (if fuB 16 D = true then nt F (fuN 16) s else F) = if b = true then nt F 4 s else F := fun b fb => by
                  by_cases f0 : F.1 = 0
                  · rw [fb f0]; rfl
                  · rw [nt_k f0, nt_k f0]; split <;> split <;> rfl
                have ed : fuB 16 D = decide (D 0 = 0) := rfl
                refine ⟨fun w => hQ h Fr.rf (fun _ _ => rfl) ?_, fun w => c_Reader_noteFault (f := 4) (by omega) L C (by decide) (by decide) (fun g G gi C' _ => hQ g G gi ?_)⟩
                · rw [fe false (fun f0 => by
                    rw [ed, ← (d f0).c2, e2]
                    exact decide_eq_false (fun x => w ((nI_e0 (by omega)).mp x)))]
                  exact C
                · rw [fe true (fun f0 => by
                    rw [ed, ← (d f0).c2, e2, w]
                    exact decide_eq_true rfl)]
                  exact C'
              · subst cn4
                have q3 : q = 3 := by unfold cq at hc; omega
                subst q3
                have ed : fuB 19 D = decide (D 2 = 8) := rfl
                rw [e5, show (nI z5 < (8 : Int32)) = (z5 < 8) from propext (nI_ltI (b := 8) (by omega) (by decide))]
                refine ⟨fun w => n122 (by decide) (fun f0 => ?_), fun w => y113 (by decide) (fun f0 => ?_)⟩
                · rw [ed, ← (d f0).c3.2.2, e5]
                  exact decide_eq_false (fun x => by have := (nI_eq (b := 8) (by omega) (by decide)).mp x; omega)
                · rw [ed, ← (d f0).c3.2.2, e5, show z5 = 8 by omega]; exact decide_eq_true rfl
            · subst cn3
              have q3 : q = 3 := by unfold cq at hc; omega
              subst q3
              have ed : fuB 18 D = decide (D 1 = 8) := rfl
              rw [e4, show ((8 : Int32) ≤ nI z4) = (8 ≤ z4) from propext (nI_leI (a := 8) (by decide) (by omega))]
              refine ⟨fun w => y113 (by decide) (fun f0 => ?_), fun w => n95 (by decide) (by decide) (fun f0 => ?_)⟩
              · rw [ed, ← (d f0).c3.2.1, e4, show z4 = 8 by omega]; exact decide_eq_true rfl
              · rw [ed, ← (d f0).c3.2.1, e4]
                exact decide_eq_false (fun x => by have := (nI_eq (b := 8) (by omega) (by decide)).mp x; omega)
          · subst cn2
            have q3 : q = 3 := by unfold cq at hc; omega
            subst q3
            have ed : fuB 17 D = decide (D 0 = 6) := rfl
            rw [e3, show ((6 : Int32) ≤ nI z3) = (6 ≤ z3) from propext (nI_leI (a := 6) (by decide) (by omega))]
            refine ⟨fun w => y113 (by decide) (fun f0 => ?_), fun w => n77 (by decide) (by decide) (fun f0 => ?_)⟩
            · rw [ed, ← (d f0).c3.1, e3, show z3 = 6 by omega]; exact decide_eq_true rfl
            · rw [ed, ← (d f0).c3.1, e3]
              exact decide_eq_false (fun x => by have := (nI_eq (b := 6) (by omega) (by decide)).mp x; omega)
        · subst cn
          have q2 : q = 2 := by unfold cq at hc; omega
          subst q2
          have ed : fuB 15 D = decide (D 0 = 10) := rfl
          rw [e2, show ((10 : Int32) ≤ nI z2) = (10 ≤ z2) from propext (nI_leI (a := 10) (by decide) (by omega))]
          refine ⟨fun w => y113 (by decide) (fun f0 => ?_), fun w => n59 (by decide) (by decide) (fun f0 => ?_)⟩
          · rw [ed, ← (d f0).c2, e2, show z2 = 10 by omega]; exact decide_eq_true rfl
          · rw [ed, ← (d f0).c2, e2]
            exact decide_eq_false (fun x => by have := (nI_eq (b := 10) (by omega) (by decide)).mp x; omega)
      · have q1 : q = 1 := by unfold cq at hc; omega
        subst q1
        have ed : fuB c D = decide (D 0 = 40) := by
          unfold fuB
          rw [if_neg (by omega), if_neg c10, if_pos (by omega)]
        rw [e1, show ((40 : Int32) ≤ nI z1) = (40 ≤ z1) from propext (nI_leI (a := 40) (by decide) (by omega))]
        refine ⟨fun w => y113 (by omega) (fun f0 => ?_), fun w => n41 (by omega) (fun f0 => ?_)⟩
        · rw [ed, ← (d f0).c1, e1, show z1 = 40 by omega]; exact decide_eq_true rfl
        · rw [ed, ← (d f0).c1, e1]
          exact decide_eq_false (fun x => by have := (nI_eq (b := 40) (by omega) (by decide)).mp x; omega)
  · have q0 : q = 0 := by unfold cq at hc; omega
    subst q0
    have ed : fuB c D = decide (D 6 = 9) := by
      unfold fuB
      rw [if_pos (by omega)]
    rw [e0, show ((9 : Int32) ≤ nI z0) = (9 ≤ z0) from propext (nI_leI (a := 9) (by decide) (by omega))]
    refine ⟨fun w => y113 (by omega) (fun f0 => ?_), fun w => n17 (by omega) (fun f0 => ?_)⟩
    · rw [ed, ← (d f0).c0, e0, show z0 = 9 by omega]; exact decide_eq_true rfl
    · rw [ed, ← (d f0).c0, e0]
      exact decide_eq_false (fun x => by have := (nI_eq (b := 9) (by omega) (by decide)).mp x; omega)
