/-! THE LAYOUT of cells 64 .. 192 (lists written by wip/tools/m36.py, text by wip/tools/m36.body.txt), frames -/
def shL : List (Nat × Nat) := [(0, 0), (1, 0), (21, 600), (20, 4), (25, 2), (2, 0), (20, 9), (20, 9), (20, 9), (20, 9), (20, 9), (20, 9), (20, 9), (2, 0), (20, 9), (20, 9), (20, 9), (20, 9), (20, 9), (20, 9), (20, 9), (26, 2), (3, 0), (20, 40), (20, 40), (3, 0), (20, 40), (20, 40), (27, 2), (4, 0), (20, 10), (20, 10), (20, 30), (4, 0), (20, 10), (20, 10), (20, 30), (28, 2), (5, 0), (20, 6), (20, 8), (20, 8), (20, 8), (20, 8), (20, 8), (5, 0), (20, 6), (20, 8), (20, 8), (20, 8), (20, 8), (20, 8), (24, 3), (6, 0), (20, 4), (2, 0), (20, 9), (20, 9), (20, 9), (20, 9), (20, 9), (20, 9), (20, 9), (3, 0), (20, 40), (20, 40), (4, 0), (20, 10), (20, 10), (20, 30), (5, 0), (20, 6), (20, 8), (20, 8), (20, 8), (20, 8), (20, 8), (7, 0), (20, 9), (20, 9), (20, 9), (20, 9), (8, 0), (22, 1000), (22, 10), (22, 181), (9, 0), (20, 90), (20, 4608), (20, 512), (20, 512), (20, 512), (20, 512), (20, 9), (20, 9), (10, 0), (20, 576), (20, 8), (20, 2048), (20, 256), (20, 8), (20, 5456), (11, 0), (21, 2400), (20, 4), (20, 4), (20, 4), (20, 16), (20, 560), (20, 648), (20, 408), (20, 392), (20, 81), (20, 4), (20, 9), (20, 9), (20, 9), (20, 9), (22, 1000), (22, 10), (20, 4608), (20, 9), (20, 5120), (20, 576), (20, 2304), (22, 362), (22, 362), (22, 21791), (23, 3)]
def rfL : List (List (Option Nat)) := [[some 65, some 116, some 117, some 141, some 146, some 150, some 159, some 165], [some 66, none, none, none, some 67, some 68, some 85, some 92, some 101], [], [], [some 69, some 77], [none, none, none, none, none, none, none, some 70, some 71, some 72, some 73, some 74, some 75, some 76], [], [], [], [], [], [], [], [none, none, none, none, none, none, none, some 78, some 79, some 80, some 81, some 82, some 83, some 84], [], [], [], [], [], [], [], [some 86, some 89], [none, some 87, some 88], [], [], [none, some 90, some 91], [], [], [some 93, some 97], [none, some 94, some 95, some 96], [], [], [], [none, some 98, some 99, some 100], [], [], [], [some 102, some 109], [none, none, none, some 103, some 104, some 105, some 106, some 107, some 108], [], [], [], [], [], [], [none, none, none, some 110, some 111, some 112, some 113, some 114, some 115], [], [], [], [], [], [], [], [some 66, none, none, none, none, none, some 118, none, none, none, none, some 119, some 127, some 130, some 134], [], [none, none, none, none, none, none, none, some 120, some 121, some 122, some 123, some 124, some 125, some 126], [], [], [], [], [], [], [], [none, some 128, some 129], [], [], [none, some 131, some 132, some 133], [], [], [], [none, none, none, some 135, some 136, some 137, some 138, some 139, some 140], [], [], [], [], [], [], [none, none, none, none, none, none, none, none, some 142, some 143, some 144, some 145], [], [], [], [], [none, some 147, some 148, some 149], [], [], [], [none, none, some 151, some 152, some 153, some 154, some 155, some 156, some 157, some 158, none, none, none, none], [], [], [], [], [], [], [], [], [none, some 160, some 161, some 162, some 163, some 164, none, none], [], [], [], [], [], [], [none, some 167, some 168, some 169, some 170, some 171, some 172, some 173, some 174, some 175, none, none, none, none, none, none, none, none, none, some 176, some 177, none, none, none, none, none, none, none, some 178, some 179, some 180, some 181, none, none, none, none, none, none, none, some 182, some 183, some 184, some 185, none, none, none, none, some 186, none, none, some 187, some 188, none, some 189, some 190, some 191, some 192], [], [], [], [], [], [], [], [], [], [], [], [], [], [], [], [], [], [], [], [], [], [], [], [], [], []]
def Lay (h : xh) : Prop := 193 ≤ xN h ∧ (∀ c, 64 ≤ c → c < 193 → xS h c = shL.getD (c - 64) (99, 0)) ∧ (∀ c i v, 64 ≤ c → c < 193 → (rfL.getD (c - 64) []).getD i none = some v → xR h c i = some v)
theorem Lay.s {h : xh} (L : Lay h) (c : Nat) {p : Nat × Nat} (e : shL.getD (c - 64) (99, 0) = p := by rfl) (h1 : 64 ≤ c := by decide) (h2 : c < 193 := by decide) : xS h c = p := (L.2.1 c h1 h2).trans e
theorem Lay.r {h : xh} (L : Lay h) (c i v : Nat) (e : (rfL.getD (c - 64) []).getD i none = some v := by rfl) (h1 : 64 ≤ c := by decide) (h2 : c < 193 := by decide) : xR h c i = some v := L.2.2 c i v h1 h2 e
theorem xarN {h : xh} {a t n i : Nat} (hs : xS h a = (t, n)) (hi : i < n) (hn : n < 2 ^ 31 := by decide) : xar h a t (nI i) := ⟨by rw [hs], by rw [hs]; exact vp_in_nI hi hn⟩
theorem Lay.x {h : xh} (L : Lay h) (c : Nat) {t n i : Nat} (hi : i < n) (e : shL.getD (c - 64) (99, 0) = (t, n) := by rfl) (h1 : 64 ≤ c := by decide) (h2 : c < 193 := by decide) (hn : n < 2 ^ 31 := by decide) : xar h c t (nI i) := xarN (L.s c e h1 h2) hi hn
/-- no cell changes but those of P; no shape, no reference -/
def Fr (P : Nat → Prop) (h h' : xh) : Prop := xS h' = xS h ∧ xN h' = xN h ∧ xR h' = xR h ∧ ∀ c, ¬ P c → xI h' c = xI h c ∧ xL h' c = xL h c
theorem Fr.rf {P : Nat → Prop} {h : xh} : Fr P h h := ⟨rfl, rfl, rfl, fun _ _ => ⟨rfl, rfl⟩⟩
theorem Fr.tr {P : Nat → Prop} {a b c : xh} (f : Fr P a b) (g : Fr P b c) : Fr P a c := ⟨g.1.trans f.1, g.2.1.trans f.2.1, g.2.2.1.trans f.2.2.1, fun k hk => ⟨(g.2.2.2 k hk).1.trans (f.2.2.2 k hk).1, (g.2.2.2 k hk).2.trans (f.2.2.2 k hk).2⟩⟩
theorem Fr.mo {P R : Nat → Prop} {a b : xh} (f : Fr P a b) (g : ∀ c, P c → R c) : Fr R a b := ⟨f.1, f.2.1, f.2.2.1, fun k hk => f.2.2.2 k (fun z => hk (g k z))⟩
theorem Fr.wI {P : Nat → Prop} {h0 h : xh} (f : Fr P h0 h) {a i : Nat} {v : Int32} (ha : P a) : Fr P h0 (xsI h a i v) := f.tr ⟨rfl, rfl, rfl, fun c hc => ⟨xsI_ne h i v (fun z => hc (z ▸ ha)), rfl⟩⟩
theorem Fr.wL {P : Nat → Prop} {h0 h : xh} (f : Fr P h0 h) {a i : Nat} {v : Int64} (ha : P a) : Fr P h0 (xsL h a i v) := f.tr ⟨rfl, rfl, rfl, fun c hc => ⟨rfl, xsL_ne h i v (fun z => hc (z ▸ ha))⟩⟩
theorem Fr.i {P : Nat → Prop} {h h' : xh} (f : Fr P h h') (c : Nat) (hc : ¬ P c) : xI h' c = xI h c := (f.2.2.2 c hc).1
theorem Fr.l {P : Nat → Prop} {h h' : xh} (f : Fr P h h') (c : Nat) (hc : ¬ P c) : xL h' c = xL h c := (f.2.2.2 c hc).2
theorem Fr.lay {P : Nat → Prop} {h h' : xh} (f : Fr P h h') (L : Lay h) : Lay h' := by
  unfold Lay
  rw [f.1, f.2.1, f.2.2.1]
  exact L
theorem Lay.wI {h : xh} (L : Lay h) (a i : Nat) (v : Int32) : Lay (xsI h a i v) := L
theorem Lay.wL {h : xh} (L : Lay h) (a i : Nat) (v : Int64) : Lay (xsL h a i v) := L
theorem upI (h : xh) (a i : Nat) (v : Int32) (k : Nat) : xI (xsI h a i v) a k = if k = i then v else xI h a k := by
  rw [xsI_at]; rfl
theorem upL (h : xh) (a i : Nat) (v : Int64) (k : Nat) : xL (xsL h a i v) a k = if k = i then v else xL h a k := by
  rw [xsL_at]; rfl
theorem upI_s (h : xh) (a i : Nat) (v : Int32) : xI (xsI h a i v) a i = v := by rw [upI, if_pos rfl]
theorem upL_s (h : xh) (a i : Nat) (v : Int64) : xL (xsL h a i v) a i = v := by rw [upL, if_pos rfl]
theorem upI_o (h : xh) (a i : Nat) (v : Int32) {k : Nat} (hk : k ≠ i) : xI (xsI h a i v) a k = xI h a k := by rw [upI, if_neg hk]
theorem upL_o (h : xh) (a i : Nat) (v : Int64) {k : Nat} (hk : k ≠ i) : xL (xsL h a i v) a k = xL h a k := by rw [upL, if_neg hk]
theorem upI_c (h : xh) (a i : Nat) (v : Int32) (c k : Nat) : xI (xsI h a i v) c k = if c = a ∧ k = i then v else xI h c k := by
  by_cases e : c = a
  · subst e
    rw [upI]
    by_cases e2 : k = i
    · rw [if_pos e2, if_pos ⟨rfl, e2⟩]
    · rw [if_neg e2, if_neg (fun z => e2 z.2)]
  · rw [xsI_ne h i v e, if_neg (fun z => e z.1)]
theorem upL_c (h : xh) (a i : Nat) (v : Int64) (c k : Nat) : xL (xsL h a i v) c k = if c = a ∧ k = i then v else xL h c k := by
  by_cases e : c = a
  · subst e
    rw [upL]
    by_cases e2 : k = i
    · rw [if_pos e2, if_pos ⟨rfl, e2⟩]
    · rw [if_neg e2, if_neg (fun z => e2 z.2)]
  · rw [xsL_ne h i v e, if_neg (fun z => e z.1)]
