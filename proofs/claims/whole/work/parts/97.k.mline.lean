/-! LINES in the reference -/
def Pn (c : Nat) : Prop := c = 166 ∨ c = 176 ∨ c = 177
def Td (g : xh) (D : Nat → Int32) : Prop := ∀ i, i < 81 → xI g 176 i = D i
theorem Td.w {g : xh} {D : Nat → Int32} (t : Td g D) {j : Nat} {v : Int32} : Td (xsI g 176 j v) (uw D j v) := fun i hi => by
  rw [upI]
  unfold uw
  by_cases e : i = j
  · rw [if_pos e, if_pos e]
  · rw [if_neg e, if_neg e]; exact t i hi
theorem Td.fm {h g : xh} {D : Nat → Int32} (t : Td h D) (f : Fm h g) : Td g D := fun i hi => by
  rw [f.1.i 176 (fun z => by unfold Pt at z; omega)]; exact t i hi
theorem Fm.n {h g : xh} (f : Fm h g) : Fr Pn h g := f.1.mo (fun c z => by unfold Pt at z; unfold Pn; omega)
def LQ (B : Nat → Nat) (len q s : Nat) (F : Nat × Nat) (D : Nat → Int32) (far : Nat) (h : xh) (Q : Int32 → xh → Prop) : Prop := (∀ g c th s2 F2 R, lnR B len q s F D far = lnF B len c th D far (true, s2, F2, R) → Fr Pn h g → MR g B len s2 F2 → ord F2 s2 → s2 ≤ len → s < s2 → Td g (tl c th R D) → xI g 166 21 = nI (frU c R far) - 1 → cq q c → frU c R far ≤ 100 → Q 1 g) ∧ ∀ g s' F' D' far', lnR B len q s F D far = (false, s', F', D', far') → Fr Pn h g → xI g 166 16 = nI s' → s' ≤ len → Q 0 g
def Pre (h g : xh) (B : Nat → Nat) (len q s : Nat) (F : Nat × Nat) (D : Nat → Int32) (far c th s1 : Nat) (F1 : Nat × Nat) : Prop := (Lay g ∧ TpM g B ∧ len ≤ 600) ∧ (MR g B len s1 F1 ∧ ord F1 s1 ∧ s1 ≤ len ∧ s < s1) ∧ (Td g D ∧ xI g 166 21 = nI far - 1 ∧ far ≤ 100 ∧ cnO q D) ∧ lnR B len q s F D far = lnF B len c th D far (nmR B len c (tb 1 c) 0 s1 F1 (fun _ => 0)) ∧ Fr Pn h g ∧ cq q c ∧ th < 3
theorem cb_p {c i v lo hi : Nat} {R : Nat → Nat} (e2 : tb 2 (c * 4 + i) = lo) (e3 : tb 3 (c * 4 + i) = hi) (n1 : ¬ (c < 4 ∧ i = 3)) (n2 : ¬ (c = 4 ∧ i = 1)) (n3 : ¬ (c = 15 ∧ i ≠ 0)) : (lo ≤ v ∧ v ≤ hi) ↔ canB c i R v := by
  rw [← e2, ← e3]
  exact ⟨fun z => ⟨z, fun y => absurd y n1, fun y => absurd y n2, fun y => absurd y n3⟩, fun z => z.1⟩
theorem lo_t : ∀ c, c < 20 → ∀ i, i < 4 → tb 2 (c * 4 + i) = if (c = 7 ∨ c = 9 ∨ c = 11 ∨ c = 12 ∨ c = 17 ∨ c = 18) ∧ i = 0 then 1 else 0 := by decide
theorem LQ.fail {B : Nat → Nat} {len q s : Nat} {F : Nat × Nat} {D : Nat → Int32} {far : Nat} {h : xh} {Q : Int32 → xh → Prop} (lq : LQ B len q s F D far h Q) {c th : Nat} {r : Bool × Nat × (Nat × Nat) × (Nat → Nat)} (el : lnR B len q s F D far = lnF B len c th D far r) {s' : Nat} {F' : Nat × Nat} {R' : Nat → Nat} (er : r = (false, s', F', R')) {g : xh} (G : Fr Pn h g) (e : xI g 166 16 = nI s') (hs : s' ≤ len) : Q 0 g := by
  refine lq.2 g s' F' D far ?_ G e hs
  rw [el, er]; rfl
theorem m_plain {n : Nat} (hn : 5 ≤ n) {h g : xh} {B : Nat → Nat} {len q s : Nat} {F : Nat × Nat} {D : Nat → Int32} {far c s1 : Nat} {F1 : Nat × Nat} (P : Pre h g B len q s F D far c 0 s1 F1) {Q : Int32 → xh → Prop} (lq : LQ B len q s F D far h Q) {j a b : Nat} (hc : (c = 6 ∧ j = 2 ∧ a = 0 ∧ b = 99) ∨ (c = 7 ∧ j = 3 ∧ a = 1 ∧ b = 9) ∨ (c = 8 ∧ j = 4 ∧ a = 0 ∧ b = 99) ∨ (c = 9 ∧ j = 5 ∧ a = 1 ∧ b = 30)) : xci (xMC n) 231 [.ref 166, .int (nI j), .int (nI a), .int (nI b)] g Q := by
  obtain ⟨n, rfl⟩ := xsucc (show 1 ≤ n by omega)
  obtain ⟨⟨L, T, l6⟩, ⟨C, o, hs1, ss⟩, ⟨td, e21, f100, cn⟩, el, G, hq, _⟩ := P
  have t1 : tb 1 c = 1 := by rcases hc with e | e | e | e <;> rw [e.1] <;> rfl
  rw [t1] at el
  have lo := lo_t c hq.b 0 (by decide)
  have ea : tb 2 (c * 4 + 0) = a := by rcases hc with e | e | e | e <;> rw [e.1, e.2.2.1] <;> rfl
  have eb : tb 3 (c * 4 + 0) = b := by rcases hc with e | e | e | e <;> rw [e.1, e.2.2.2] <;> rfl
  refine w_Mo_plainLine ⟨L.s 166, c_Mo_take (x := 0) (by omega) L T l6 hs1 C o rfl (by decide) (by omega) (by omega) (fun v _ => cb_p ea eb (by omega) (by omega) (by omega)) (fun g2 F2 v G2 v9 er C2 o2 s12 s2l r2 _ => ⟨fun _ => ⟨(G2.1.lay L).s 166, 176, (G2.1.lay L).r 166 19 176, 177, (G2.1.lay L).r 166 20 177, (G2.1.lay L).x 177 (i := 0) (n := 4) (by omega), ?_⟩, fun z => absurd z (by decide)⟩) (fun g2 F2 R2 G2 er e16 => ⟨fun z => absurd rfl z, fun _ => lq.fail el er (G.tr G2.n) e16 hs1⟩)⟩
  have L2 := G2.1.lay L
  rw [show (0 : Int32).toNatClampNeg = 0 from rfl, nI_clamp (by omega), r2 0, if_pos rfl]
  refine ⟨⟨by decide, L2.x 176 (n := 81) (by omega)⟩, b_Mo_plainLine_24 (lq.1 _ c 0 _ F2 _ (by rw [el, er]; rfl) ((G.tr G2.n).wI (Or.inr (Or.inl rfl))) (C2.wa (by decide)) o2 s2l (by omega) ?_ ?_ hq ?_)⟩
  · have et : tl c 0 (vup (fun _ => 0) 0 v) D = uw D j (nI v) := by
      unfold tl tl0
      rw [if_pos (by omega), if_neg (by omega), if_neg (by omega), if_neg (by omega)]
      rcases hc with e | e | e | e <;> rw [e.1, e.2.1] <;> rfl
    rw [et]
    exact (td.fm G2).w
  · have ef : frU c (vup (fun _ => 0) 0 v) far = far := by unfold frU; rw [if_neg (by omega)]
    rw [ef, xsI_ne _ _ _ (by decide), G2.2]; exact e21
  · unfold frU; rw [if_neg (by omega)]; exact f100
theorem m_home {n : Nat} (hn : 5 ≤ n) {h g : xh} {B : Nat → Nat} {len q s : Nat} {F : Nat × Nat} {D : Nat → Int32} {far s1 : Nat} {F1 : Nat × Nat} (P : Pre h g B len q s F D far 5 0 s1 F1) {Q : Int32 → xh → Prop} (lq : LQ B len q s F D far h Q) : xci (xMC n) 230 [.ref 166] g Q := by
  obtain ⟨n, rfl⟩ := xsucc (show 1 ≤ n by omega)
  obtain ⟨⟨L, T, l6⟩, ⟨C, o, hs1, ss⟩, ⟨td, e21, f100, cn⟩, el, G, hq, _⟩ := P
  have el : lnR B len q s F D far = lnF B len 5 0 D far (nmR B len 5 (1 + 1) 0 s1 F1 (fun _ => 0)) := el
  refine w_Mo_homeLine ⟨L.s 166, c_Mo_take (x := 0) (a := 0) (b := 9) (by omega) L T l6 hs1 C o rfl (by decide) (by decide) (by decide) (fun v _ => cb_p rfl rfl (by omega) (by omega) (by omega)) (fun g2 F2 v G2 v9 er C2 o2 s12 s2l r2 _ => ⟨fun z => absurd z (by decide), fun _ => ⟨(G2.1.lay L).s 166, ?_⟩⟩) (fun g2 F2 R2 G2 er e16 => ⟨fun _ => lq.fail el er (G.tr G2.n) e16 hs1, fun z => absurd rfl z⟩)⟩
  have L2 := G2.1.lay L
  refine c_Mo_take (x := 1) (a := 0) (b := 9) (by omega) L2 (G2.tp T) l6 s2l C2 o2 er (by decide) (by decide) (by decide) (fun v _ => cb_p rfl rfl (by omega) (by omega) (by omega)) (fun g3 F3 w G3 w9 er3 C3 o3 s23 s3l r3 _ => ⟨fun _ => ⟨(G3.1.lay L2).s 166, 176, (G3.1.lay L2).r 166 19 176, 177, (G3.1.lay L2).r 166 20 177, (G3.1.lay L2).x 177 (i := 0) (n := 4) (by omega), ?_⟩, fun z => absurd z (by decide)⟩) (fun g3 F3 R3 G3 er3 e16 => ⟨fun z => absurd rfl z, fun _ => lq.fail el er3 ((G.tr G2.n).tr G3.n) e16 s2l⟩)
  have L3 := G3.1.lay L2
  rw [show (0 : Int32).toNatClampNeg = 0 from rfl, r3 0, if_neg (by decide), r2 0, if_pos rfl]
  have L4 : Lay (xsI g3 176 0 (nI v)) := L3
  refine ⟨⟨by decide, L3.x 176 (i := 0) (n := 81) (by omega)⟩, b_Mo_homeLine_36 ⟨L4.s 166, 176, L4.r 166 19 176, 177, L4.r 166 20 177, L4.x 177 (i := 1) (n := 4) (by omega), ?_⟩⟩
  rw [show (1 : Int32).toNatClampNeg = 1 from rfl, xsI_ne g3 0 (nI v) (show 177 ≠ 176 by decide), r3 1, if_pos rfl]
  refine ⟨⟨by decide, L4.x 176 (i := 1) (n := 81) (by omega)⟩, b_Mo_homeLine_48 (lq.1 _ 5 0 _ F3 _ (by rw [el, er3]; rfl) ((((G.tr G2.n).tr G3.n).wI (Or.inr (Or.inl rfl))).wI (Or.inr (Or.inl rfl))) ((C3.wa (by decide)).wa (by decide)) o3 s3l (by omega) ?_ ?_ hq f100)⟩
  · exact (((td.fm G2).fm G3).w).w
  · rw [xsI_ne _ _ _ (by decide), xsI_ne _ _ _ (by decide), G3.2, G2.2]; exact e21
theorem m_follow {n : Nat} (hn : 5 ≤ n) {h g : xh} {B : Nat → Nat} {len q s : Nat} {F : Nat × Nat} {D : Nat → Int32} {far s1 : Nat} {F1 : Nat × Nat} (P : Pre h g B len q s F D far 4 0 s1 F1) (g22 : xI g 166 22 = 1) {Q : Int32 → xh → Prop} (lq : LQ B len q s F D far h Q) : xci (xMC n) 228 [.ref 166] g Q := by
  obtain ⟨n, rfl⟩ := xsucc (show 1 ≤ n by omega)
  obtain ⟨⟨L, T, l6⟩, ⟨C, o, hs1, ss⟩, ⟨td, e21, f100, cn⟩, el, G, hq, _⟩ := P
  have el : lnR B len q s F D far = lnF B len 4 0 D far (nmR B len 4 (2 + 1) 0 s1 F1 (fun _ => 0)) := el
  refine w_Mo_followLine ⟨L.s 166, c_Mo_take (x := 0) (a := 0) (b := 8) (by omega) L T l6 hs1 C o rfl (by decide) (by decide) (by decide) (fun v _ => cb_p rfl rfl (by omega) (by omega) (by omega)) (fun g2 F2 v G2 v9 er C2 o2 s12 s2l r2 y2 => ⟨fun z => absurd z (by decide), fun _ => ⟨(G2.1.lay L).s 166, 177, (G2.1.lay L).r 166 20 177, (G2.1.lay L).x 177 (i := 0) (n := 4) (by omega), ?_⟩⟩) (fun g2 F2 R2 G2 er e16 => ⟨fun _ => lq.fail el er (G.tr G2.n) e16 hs1, fun z => absurd rfl z⟩)⟩
  have L2 := G2.1.lay L
  rw [show (0 : Int32).toNatClampNeg = 0 from rfl, r2 0, if_pos rfl]
  have h8 : ∀ x, x ≤ 99 → ((xbw (nI x) 0 8 ∧ ¬ nI x = nI v) ↔ canB 4 1 (vup (fun _ => 0) 0 v) x) := fun x x9 => by
    have e2 : tb 2 (4 * 4 + 1) = 0 := rfl
    have e3 : tb 3 (4 * 4 + 1) = 8 := rfl
    have ev : vup (fun _ => 0) 0 v 0 = v := vup_s _ _ _
    constructor
    · rintro ⟨⟨w1, w2⟩, w3⟩
      have w2' : x ≤ 8 := Nat.le_of_not_lt (fun y => w2 (nI_lt (a := 8) y (by omega)))
      refine ⟨⟨by omega, by omega⟩, fun y => by omega, fun _ => ?_, fun y => by omega⟩
      rw [ev]
      exact fun y => w3 (by rw [y])
    · rintro ⟨⟨w1, w2⟩, _, w3, _⟩
      have w3 := w3 ⟨rfl, rfl⟩
      rw [ev] at w3
      exact ⟨⟨nI_pos (by omega), nI_nlt (a := 8) (by omega) (by decide)⟩, fun y => w3 ((nI_eq (by omega) (by omega)).mp y)⟩
  refine c_Mo_takeBut (x := 1) (lo := 0) (hi := 8) (bu := nI v) (by omega) L2 (G2.tp T) l6 s2l C2 o2 er (by decide) h8 (fun g3 F3 w G3 w9 er3 C3 o3 s23 s3l r3 y3 => ⟨fun z => absurd z (by decide), fun _ => ⟨(G3.1.lay L2).s 166, ?_⟩⟩) (fun g3 F3 R3 G3 er3 e16 => ⟨fun _ => lq.fail el er3 ((G.tr G2.n).tr G3.n) e16 s2l, fun z => absurd rfl z⟩)
  have L3 := G3.1.lay L2
  refine c_Mo_take (x := 2) (a := 0) (b := 9) (by omega) L3 (G3.tp (G2.tp T)) l6 s3l C3 o3 er3 (by decide) (by decide) (by decide) (fun v _ => cb_p rfl rfl (by omega) (by omega) (by omega)) (fun g4 F4 u G4 u9 er4 C4 o4 s34 s4l r4 y4 => ⟨fun _ => ⟨(G4.1.lay L3).s 166, 177, (G4.1.lay L3).r 166 20 177, (G4.1.lay L3).x 177 (i := 0) (n := 4) (by omega), (G4.1.lay L3).x 177 (i := 1) (n := 4) (by omega), ?_⟩, fun z => absurd z (by decide)⟩) (fun g4 F4 R4 G4 er4 e16 => ⟨fun z => absurd rfl z, fun _ => lq.fail el er4 (((G.tr G2.n).tr G3.n).tr G4.n) e16 s3l⟩)
  have L4 := G4.1.lay L3
  have q0 : xI g4 177 0 = nI v := by rw [r4 0, if_neg (by decide), r3 0, if_neg (by decide), r2 0, if_pos rfl]
  have q1 : xI g4 177 1 = nI w := by rw [r4 1, if_neg (by decide), r3 1, if_pos rfl]
  have q2 : xI g4 177 2 = nI u := by rw [r4 2, if_pos rfl]
  have f21 : xI g4 166 21 = nI far - 1 := by rw [G4.2, G3.2, G2.2]; exact e21
  rw [show (1 : Int32).toNatClampNeg = 1 from rfl, q0, q1, f21]
  have GG := ((G.tr G2.n).tr G3.n).tr G4.n
  have tdd := ((td.fm G2).fm G3).fm G4
  refine c_Mo_greater (by omega) (c_Mo_greater (by omega) ⟨⟨by decide, L4.s 166⟩, ?_⟩)
  have em : mx (nI far - 1) (mx (nI v) (nI w)) = nI (max far (max v w + 1)) - 1 := by
    rw [mx_n (by omega) (by omega)]
    unfold mx
    by_cases c0 : far = 0
    · subst c0
      rw [if_pos (show nI 0 - 1 < nI (max v w) from Int32.lt_of_lt_of_le (by decide) (nI_pos' (by omega))), show max 0 (max v w + 1) = max v w + 1 by omega, nI_pred]
    · rw [show nI far - (1 : Int32) = nI (far - 1) from pk_sub (b := 1) (by omega)]
      by_cases c1 : far - 1 < max v w
      · rw [if_pos (nI_lt c1 (by omega)), show max far (max v w + 1) = max v w + 1 by omega, nI_pred]
      · rw [if_neg (nI_nlt (by omega) (by omega)), show max far (max v w + 1) = (far - 1) + 1 by omega, nI_pred]
  rw [em]
  generalize hR : vup (vup (vup (fun _ => 0) 0 v) 1 w) 2 u = R at er4
  have R0 : R 0 = v := by rw [← hR, vup_o (by decide), vup_o (by decide), vup_s]
  have R1 : R 1 = w := by rw [← hR, vup_o (by decide), vup_s]
  have R2 : R 2 = u := by rw [← hR, vup_s]
  have ef : frU 4 R far = max far (max v w + 1) := by unfold frU; rw [if_pos rfl, R0, R1]
  have C5 : MR (xsI g4 166 21 (nI (max far (max v w + 1)) - 1)) B len _ F4 := C4.w (by omega)
  have T5 : Td (xsI g4 166 21 (nI (max far (max v w + 1)) - 1)) D := fun i hi => by rw [xsI_ne _ _ _ (by decide)]; exact tdd i hi
  have G5 : Fr Pn h (xsI g4 166 21 (nI (max far (max v w + 1)) - 1)) := GG.wI (Or.inl rfl)
  have e5 : xI (xsI g4 166 21 (nI (max far (max v w + 1)) - 1)) 166 21 = nI (max far (max v w + 1)) - 1 := upI_s _ _ _ _
  have e22 : xI (xsI g4 166 21 (nI (max far (max v w + 1)) - 1)) 166 22 = xI g4 166 22 := upI_o _ _ _ _ (by decide)
  have e177 : xI (xsI g4 166 21 (nI (max far (max v w + 1)) - 1)) 177 = xI g4 177 := by rw [xsI_ne _ _ _ (by decide)]
  have L5 : Lay (xsI g4 166 21 (nI (max far (max v w + 1)) - 1)) := L4
  generalize xsI g4 166 21 (nI (max far (max v w + 1)) - 1) = g5 at C5 T5 G5 e5 e22 e177 L5 ⊢
  have fin : ∀ g6, Fr Pn h g6 → MR g6 B len (nxt B len (nxt B len (nxt B len s1))) F4 → Td g6 (tl 4 0 R D) → xI g6 166 21 = nI (max far (max v w + 1)) - 1 → Q 1 g6 := fun g6 G6 C6 T6 e6 => lq.1 g6 4 0 _ F4 R (by rw [el, er4]; rfl) G6 C6 o4 s4l (by omega) T6 (by rw [ef]; exact e6) hq (by rw [ef]; omega)
  have good : good4 R ↔ canB 4 0 (fun _ => 0) v ∧ canB 4 1 (vup (fun _ => 0) 0 v) w ∧ canB 4 2 (vup (vup (fun _ => 0) 0 v) 1 w) u := by
    rw [show good4 R = (R 0 ≤ 8 ∧ (R 1 ≤ 8 ∧ R 1 ≠ R 0) ∧ R 2 ≤ 9) from rfl, R0, R1, R2, ← cb_p (lo := 0) (hi := 8) (c := 4) (i := 0) (R := fun _ => 0) (v := v) rfl rfl (by omega) (by omega) (by omega), ← cb_p (lo := 0) (hi := 9) (c := 4) (i := 2) (R := vup (vup (fun _ => 0) 0 v) 1 w) (v := u) rfl rfl (by omega) (by omega) (by omega), ← h8 w w9]
    constructor
    · rintro ⟨a1, ⟨a2, a3⟩, a4⟩
      exact ⟨⟨by omega, a1⟩, ⟨⟨nI_pos (by omega), nI_nlt (a := 8) (by omega) (by decide)⟩, fun y => a3 ((nI_eq (by omega) (by omega)).mp y)⟩, by omega, a4⟩
    · rintro ⟨⟨_, a1⟩, ⟨⟨_, a2⟩, a3⟩, _, a4⟩
      exact ⟨a1, ⟨Nat.le_of_not_lt (fun y => a2 (nI_lt (a := 8) y (by omega))), fun y => a3 (by rw [y])⟩, a4⟩
  refine b_Mo_followLine_67 ⟨L5.s 166, fun z => ?_, fun z => ⟨176, L5.r 166 19 176, 177, L5.r 166 20 177, L5.x 177 (i := 0) (n := 4) (by omega), L5.x 177 (i := 2) (n := 4) (by omega), ?_⟩⟩
  · have ng : ¬ good4 R := fun y => by
      obtain ⟨a1, a2, a3⟩ := good.mp y
      rw [e22, y4.1 a3, y3.1 a2, y2.1 a1, g22] at z
      exact absurd z (by decide)
    refine b_Mo_followLine_114 (fin g5 G5 C5 ?_ e5)
    have et : tl 4 0 R D = D := by
      unfold tl tl0
      rw [if_pos (by decide), if_neg (by decide), if_pos rfl, if_neg ng]
    rw [et]
    exact T5
  · have gg : good4 R := Classical.byContradiction (fun y => by
      rw [good] at y
      rw [e22] at z
      by_cases b3 : canB 4 2 (vup (vup (fun _ => 0) 0 v) 1 w) u
      · rw [y4.1 b3] at z
        by_cases b2 : canB 4 1 (vup (fun _ => 0) 0 v) w
        · rw [y3.1 b2] at z
          by_cases b1 : canB 4 0 (fun _ => 0) v
          · exact y ⟨b1, b2, b3⟩
          · exact z (y2.2 b1)
        · exact z (y3.2 b2)
      · exact z (y4.2 b3))
    have gg' := gg
    obtain ⟨k0, ⟨k1, _⟩, k2⟩ := gg'
    rw [R0] at k0
    rw [R1] at k1
    rw [R2] at k2
    rw [show (0 : Int32).toNatClampNeg = 0 from rfl, show (2 : Int32).toNatClampNeg = 2 from rfl, e177, q0, q2, show (52 : Int32) + nI v = nI (52 + v) from nI_add 52 v, nI_clamp (by omega)]
    have L6 : Lay (xsI g5 176 (52 + v) (nI u)) := L5
    refine ⟨⟨by decide, L5.x 176 (n := 81) (by omega)⟩, b_Mo_followLine_94 ⟨L6.s 166, 176, L6.r 166 19 176, 177, L6.r 166 20 177, L6.x 177 (i := 0) (n := 4) (by omega), L6.x 177 (i := 1) (n := 4) (by omega), ?_⟩⟩
    rw [show (0 : Int32).toNatClampNeg = 0 from rfl, show (1 : Int32).toNatClampNeg = 1 from rfl, xsI_ne g5 (52 + v) (nI u) (show 177 ≠ 176 by decide), e177, q0, q1, show (61 : Int32) + nI v = nI (61 + v) from nI_add 61 v, nI_clamp (by omega)]
    refine ⟨⟨by decide, L6.x 176 (n := 81) (by omega)⟩, b_Mo_followLine_114 (fin _ ((G5.wI (Or.inr (Or.inl rfl))).wI (Or.inr (Or.inl rfl))) ((C5.wa (by decide)).wa (by decide)) ?_ ?_)⟩
    · have et : tl 4 0 R D = uw (uw D (52 + v) (nI u)) (61 + v) (nI w) := by
        unfold tl tl0
        rw [if_pos (by decide), if_neg (by decide), if_pos rfl, if_pos gg, R0, R1, R2]
      rw [et]
      exact (T5.w).w
    · rw [xsI_ne _ _ _ (by decide), xsI_ne _ _ _ (by decide)]; exact e5
