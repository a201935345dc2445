/-! what writes do to the relation -/
section XWR
variable {p : Program} {l : Launch} {e : Env} {R : Room} {s : State} {m : MethodId} {args : Array Value} {below : List Frame} {meth : Method} {c : Code} {H : Heap} {locs : List Loc} {cells slots : Nat} {Q : State → Prop}
variable {cc : ByteArray} {nL pc : Nat} {own : String} {dC : Nat → ClassId} {dI : Nat → Nat → Nat} {cA : Nat → ClassId} {f : Nat → Nat} {B : Nat} {h0 h : xh} {ls : Array Slot} {rest : List Value}
theorem xRel_upd (hf : ∀ k, 64 ≤ k → f k = B + (k - 64)) (hR : xRel dC dI cA f B h0 h H) {q : Nat} (hq : 64 ≤ q) {h' : xh} {H' : Heap} (eS : xS h' = xS h) (eN : xN h' = xN h) (eo : ∀ k, k ≠ q → xI h' k = xI h k ∧ xL h' k = xL h k ∧ xR h' k = xR h k)
    (hz : H'.size = H.size) (ho : ∀ a, a ≠ f q → H'[a]? = H[a]?) (hc : xOK dC dI cA f h' H' q) (hb : (xS h q).1 = 21 → ∀ j, (xI h' q j).toInt8.toInt32 = xI h' q j) : xRel dC dI cA f B h0 h' H' := by
  refine ⟨by rw [eN]; exact hR.1, by rw [hz, eN]; exact hR.2.1, fun k h1 h2 => ?_, fun k hk => by rw [eS]; exact hR.2.2.2.1 k (by rw [← eN]; exact hk), fun k hk => ?_, fun k h1 h2 j => ?_⟩
  · by_cases hkq : k = q
    · subst hkq
      exact hc
    · obtain ⟨i1, i2, i3⟩ := eo k hkq
      have hne : f k ≠ f q := by rw [hf k h1, hf q hq]; omega
      have h0' := hR.2.2.1 k h1 (by rw [← eN]; exact h2)
      unfold xOK at h0' ⊢
      rw [eS]
      have e1 : xfv f h' k (xS h k).1 = xfv f h k (xS h k).1 := by funext i; simp only [xfv, i1, i2, i3]
      have e2 : xav f h' k (xS h k).1 = xav f h k (xS h k).1 := by funext i; simp only [xav, i1, i2, i3]
      rw [e1, e2]
      rcases h0' with ⟨a, b⟩ | ⟨a, b⟩
      · exact Or.inl ⟨a, b.kept (ho _ hne)⟩
      · exact Or.inr ⟨a, (ho _ hne).trans b⟩
  · obtain ⟨i1, i2, i3⟩ := eo k (by omega)
    rw [eS, i1, i3]
    exact hR.2.2.2.2.1 k hk
  · rw [eS] at h2
    by_cases hkq : k = q
    · subst hkq
      exact hb h2 j
    · rw [(eo k hkq).1]
      exact hR.2.2.2.2.2 k h1 h2 j
theorem xsI_at (h : xh) (q i : Nat) (v : Int32) : xI (xsI h q i v) q = va_up (xI h q) i v := by
  show va_up h.1 q (va_up (h.1 q) i v) q = va_up (h.1 q) i v
  simp [va_up]
theorem xsI_ne (h : xh) {q k : Nat} (i : Nat) (v : Int32) (hk : k ≠ q) : xI (xsI h q i v) k = xI h k := by
  show va_up h.1 q (va_up (h.1 q) i v) k = h.1 k
  simp [va_up, hk]
theorem xsL_at (h : xh) (q i : Nat) (v : Int64) : xL (xsL h q i v) q = va_up (xL h q) i v := by
  show va_up h.2.1 q (va_up (h.2.1 q) i v) q = va_up (h.2.1 q) i v
  simp [va_up]
theorem xsL_ne (h : xh) {q k : Nat} (i : Nat) (v : Int64) (hk : k ≠ q) : xL (xsL h q i v) k = xL h k := by
  show va_up h.2.1 q (va_up (h.2.1 q) i v) k = h.2.1 k
  simp [va_up, hk]
theorem xsR_at (h : xh) (q i : Nat) (v : Option Nat) : xR (xsR h q i v) q = va_up (xR h q) i v := by
  show va_up h.2.2.1 q (va_up (h.2.2.1 q) i v) q = va_up (h.2.2.1 q) i v
  simp [va_up]
theorem xsR_ne (h : xh) {q k : Nat} (i : Nat) (v : Option Nat) (hk : k ≠ q) : xR (xsR h q i v) k = xR h k := by
  show va_up h.2.2.1 q (va_up (h.2.2.1 q) i v) k = h.2.2.1 k
  simp [va_up, hk]
theorem xcp_at (h : xh) (s sp d dp n : Nat) : xI (xcp h s sp d dp n) d = va_cpy (xI h s) (xI h d) sp dp n := by
  show va_up h.1 d (va_cpy (h.1 s) (h.1 d) sp dp n) d = _
  simp [va_up]; rfl
theorem xcp_ne (h : xh) (s sp : Nat) {d k : Nat} (dp n : Nat) (hk : k ≠ d) : xI (xcp h s sp d dp n) k = xI h k := by
  show va_up h.1 d (va_cpy (h.1 s) (h.1 d) sp dp n) k = h.1 k
  simp [va_up, hk]
/-- the cell of an array that may be written -/
theorem xarrW (hR : xRel dC dI cA f B h0 h H) {q t n : Nat} (hq : 64 ≤ q) (ht : xS h q = (t, n)) (h1 : 20 ≤ t) (h2 : t ≤ 28) : H[f q]? = some (arrV (cA t) n (xav f h q t)) := by
  have hN := xRel_lt hR (k := q) (by rw [ht]; show t ≠ 99; omega)
  rcases hR.2.2.1 q hq hN with ⟨g, -⟩ | ⟨-, g⟩
  · rw [ht] at g; exact absurd g (by show ¬ t < 12; omega)
  · rw [ht] at g
    exact g
theorem xst (hf : ∀ k, 64 ≤ k → f k = B + (k - 64)) (hR : xRel dC dI cA f B h0 h H) {q t n i : Nat} {w : Value} (hq : 64 ≤ q) (ht : xS h q = (t, n)) (h1 : 20 ≤ t) (h2 : t ≤ 28) {h' : xh} {H' : Heap} (eS : xS h' = xS h) (eN : xN h' = xN h) (eo : ∀ k, k ≠ q → xI h' k = xI h k ∧ xL h' k = xL h k ∧ xR h' k = xR h k)
    (hv : ∀ j, updV (xav f h q t) i w j = xav f h' q t j) (e1 : H'[f q]? = some ((arrV (cA t) n (xav f h q t)).setSlot i w)) (hz : H'.size = H.size) (ho : ∀ a, a ≠ f q → H'[a]? = H[a]?) (hb : t = 21 → ∀ j, (xI h' q j).toInt8.toInt32 = xI h' q j) : xRel dC dI cA f B h0 h' H' := by
  refine xRel_upd hf hR hq eS eN eo hz ho (Or.inr ?_) (fun z => hb (by rw [ht] at z; exact z))
  rw [eS, ht]
  refine ⟨⟨h1, h2⟩, ?_⟩
  rw [e1, arrV_store, show updV (xav f h q t) i w = xav f h' q t from funext hv]
theorem xpair {α β : Type} {p : α × β} {a : α} (h : p.1 = a) : p = (a, p.2) := by rw [← h]
theorem xA_of (hf : ∀ k, 64 ≤ k → f k = B + (k - 64)) {q : Nat} (hq : 64 ≤ q) : xA B (f q) := by rw [hf q hq]; exact Nat.le_add_right _ _
theorem xs_iast (E : xEnv p s m args c cc nL own dC dI cA f B h0) (hR : xRel dC dI cA f B h0 h H) (hS : va_S (xA B) s.heap H locs) {q : Nat} {i v : Int32} (hq : 64 ≤ q) (ht : xar h q 20 i) (hdg : decode cc pc = .ok (.iastore, 1))
    (kk : ∀ (H1 : Heap) (locs1 : List Loc), xRel dC dI cA f B h0 (xsI h q i.toNatClampNeg v) H1 → va_S (xA B) s.heap H1 locs1 → W p l e R s m args below meth c H1 locs1 cells slots Q (F0 m (pc + 1) ls rest)) : W p l e R s m args below meth c H locs cells slots Q (F0 m pc ls (.int v :: .int i :: .ref (f q) :: rest)) := by
  obtain ⟨hx, hb, -, -, -, hK, -, hf, -⟩ := E
  have hS0 := xpair ht.1
  have hin : ¬ (i < 0 ∨ (arrV (cA 20) (xS h q).2 (xav f h q 20)).slots.size ≤ i.toNatClampNeg) := by rw [arrV_size]; exact ht.2
  refine W.iast hx hb (xarrW hR hq hS0 (by omega) (by omega)) ((hK.2 _ _ (xtys_at (t := 20) (by omega) (by omega))).1 _ _) (fun z => by cases z) hin rfl rfl hdg fun H1 e1 z oq => ?_
  refine kk H1 _ (xst hf hR hq hS0 (by omega) (by omega) (h' := xsI h q i.toNatClampNeg v) rfl rfl (fun k hk => ⟨xsI_ne h _ _ hk, rfl, rfl⟩) (fun j => ?_) e1 z oq (fun z => by omega)) (hS.put z oq (xA_of hf hq))
  show (if j = i.toNatClampNeg then Value.int v else .int (xI h q j)) = .int (xI (xsI h q i.toNatClampNeg v) q j)
  rw [xsI_at]; unfold va_up; split <;> rfl
theorem xs_bast (E : xEnv p s m args c cc nL own dC dI cA f B h0) (hR : xRel dC dI cA f B h0 h H) (hS : va_S (xA B) s.heap H locs) {q : Nat} {i v : Int32} (hq : 64 ≤ q) (ht : xar h q 21 i) (hv : v.toInt8.toInt32 = v) (hdg : decode cc pc = .ok (.bastore, 1))
    (kk : ∀ (H1 : Heap) (locs1 : List Loc), xRel dC dI cA f B h0 (xsI h q i.toNatClampNeg v) H1 → va_S (xA B) s.heap H1 locs1 → W p l e R s m args below meth c H1 locs1 cells slots Q (F0 m (pc + 1) ls rest)) : W p l e R s m args below meth c H locs cells slots Q (F0 m pc ls (.int v :: .int i :: .ref (f q) :: rest)) := by
  obtain ⟨hx, hb, -, -, -, hK, -, hf, -⟩ := E
  have hS0 := xpair ht.1
  have hin : ¬ (i < 0 ∨ (arrV (cA 21) (xS h q).2 (xav f h q 21)).slots.size ≤ i.toNatClampNeg) := by rw [arrV_size]; exact ht.2
  refine W.bast hx hb (xarrW hR hq hS0 (by omega) (by omega)) ((hK.2 _ _ (xtys_at (t := 21) (by omega) (by omega))).1 _ _) (fun z => by cases z) hin rfl rfl hdg fun H1 e1 z oq => ?_
  have en : narrow .byte (.int v) = .int v := by show Value.int v.toInt8.toInt32 = _; rw [hv]
  rw [en] at e1
  refine kk H1 _ (xst hf hR hq hS0 (by omega) (by omega) (h' := xsI h q i.toNatClampNeg v) rfl rfl (fun k hk => ⟨xsI_ne h _ _ hk, rfl, rfl⟩) (fun j => ?_) e1 z oq (fun _ j => ?_)) (hS.put z oq (xA_of hf hq))
  · show (if j = i.toNatClampNeg then Value.int v else .int (xI h q j)) = .int (xI (xsI h q i.toNatClampNeg v) q j)
    rw [xsI_at]; unfold va_up; split <;> rfl
  · rw [xsI_at]
    unfold va_up
    split
    · exact hv
    · exact hR.2.2.2.2.2 q hq ht.1 j
theorem xs_zast (E : xEnv p s m args c cc nL own dC dI cA f B h0) (hR : xRel dC dI cA f B h0 h H) (hS : va_S (xA B) s.heap H locs) {q : Nat} {i v : Int32} (hq : 64 ≤ q) (ht : xar h q 23 i) (hv : v = 0 ∨ v = 1) (hdg : decode cc pc = .ok (.bastore, 1))
    (kk : ∀ (H1 : Heap) (locs1 : List Loc), xRel dC dI cA f B h0 (xsI h q i.toNatClampNeg v) H1 → va_S (xA B) s.heap H1 locs1 → W p l e R s m args below meth c H1 locs1 cells slots Q (F0 m (pc + 1) ls rest)) : W p l e R s m args below meth c H locs cells slots Q (F0 m pc ls (.int v :: .int i :: .ref (f q) :: rest)) := by
  obtain ⟨hx, hb, -, -, -, hK, -, hf, -⟩ := E
  have hS0 := xpair ht.1
  have hin : ¬ (i < 0 ∨ (arrV (cA 23) (xS h q).2 (xav f h q 23)).slots.size ≤ i.toNatClampNeg) := by rw [arrV_size]; exact ht.2
  refine W.zast hx hb (xarrW hR hq hS0 (by omega) (by omega)) ((hK.2 _ _ (xtys_at (t := 23) (by omega) (by omega))).1 _ _) (fun z => by cases z) hin rfl rfl hdg fun H1 e1 z oq => ?_
  have en : narrow .boolean (.int v) = .int v := by rcases hv with rfl | rfl <;> rfl
  rw [en] at e1
  refine kk H1 _ (xst hf hR hq hS0 (by omega) (by omega) (h' := xsI h q i.toNatClampNeg v) rfl rfl (fun k hk => ⟨xsI_ne h _ _ hk, rfl, rfl⟩) (fun j => ?_) e1 z oq (fun z => by omega)) (hS.put z oq (xA_of hf hq))
  show (if j = i.toNatClampNeg then Value.int v else .int (xI h q j)) = .int (xI (xsI h q i.toNatClampNeg v) q j)
  rw [xsI_at]; unfold va_up; split <;> rfl
theorem xs_last (E : xEnv p s m args c cc nL own dC dI cA f B h0) (hR : xRel dC dI cA f B h0 h H) (hS : va_S (xA B) s.heap H locs) {q : Nat} {i : Int32} {v : Int64} (hq : 64 ≤ q) (ht : xar h q 22 i) (hdg : decode cc pc = .ok (.lastore, 1))
    (kk : ∀ (H1 : Heap) (locs1 : List Loc), xRel dC dI cA f B h0 (xsL h q i.toNatClampNeg v) H1 → va_S (xA B) s.heap H1 locs1 → W p l e R s m args below meth c H1 locs1 cells slots Q (F0 m (pc + 1) ls rest)) : W p l e R s m args below meth c H locs cells slots Q (F0 m pc ls (.long v :: .int i :: .ref (f q) :: rest)) := by
  obtain ⟨hx, hb, -, -, -, hK, -, hf, -⟩ := E
  have hS0 := xpair ht.1
  have hin : ¬ (i < 0 ∨ (arrV (cA 22) (xS h q).2 (xav f h q 22)).slots.size ≤ i.toNatClampNeg) := by rw [arrV_size]; exact ht.2
  refine W.last hx hb (xarrW hR hq hS0 (by omega) (by omega)) ((hK.2 _ _ (xtys_at (t := 22) (by omega) (by omega))).1 _ _) (fun z => by cases z) hin rfl rfl hdg fun H1 e1 z oq => ?_
  refine kk H1 _ (xst hf hR hq hS0 (by omega) (by omega) (h' := xsL h q i.toNatClampNeg v) rfl rfl (fun k hk => ⟨rfl, xsL_ne h _ _ hk, rfl⟩) (fun j => ?_) e1 z oq (fun z => by omega)) (hS.put z oq (xA_of hf hq))
  show (if j = i.toNatClampNeg then Value.long v else .long (xL h q j)) = .long (xL (xsL h q i.toNatClampNeg v) q j)
  rw [xsL_at]; unfold va_up; split <;> rfl
theorem xav_q {t : Nat} (h1 : 24 ≤ t) (h2 : t ≤ 28) (h : xh) (q j : Nat) : xav f h q t j = va_rf ((xR h q j).map f) := by
  obtain h | h | h | h | h : t = 24 ∨ t = 25 ∨ t = 26 ∨ t = 27 ∨ t = 28 := by omega
  all_goals (subst h; rfl)
def xarc (t : Nat) : Nat := t - 23
theorem xs_aast (E : xEnv p s m args c cc nL own dC dI cA f B h0) (hR : xRel dC dI cA f B h0 h H) (hS : va_S (xA B) s.heap H locs) {q t v : Nat} {i : Int32} (hq : 64 ≤ q) (ht : xar h q t i) (h1 : 24 ≤ t) (h2 : t ≤ 28) (hv : 64 ≤ v) (hvS : xS h v = (t - 23, 0)) (hdg : decode cc pc = .ok (.aastore, 1))
    (kk : ∀ (H1 : Heap) (locs1 : List Loc), xRel dC dI cA f B h0 (xsR h q i.toNatClampNeg (some v)) H1 → va_S (xA B) s.heap H1 locs1 → W p l e R s m args below meth c H1 locs1 cells slots Q (F0 m (pc + 1) ls rest)) : W p l e R s m args below meth c H locs cells slots Q (F0 m pc ls (.ref (f v) :: .int i :: .ref (f q) :: rest)) := by
  obtain ⟨hx, hb, -, -, -, hK, -, hf, -⟩ := E
  have hS0 := xpair ht.1
  have hin : ¬ i < 0 ∧ i.toNatClampNeg < (arrV (cA t) (xS h q).2 (xav f h q t)).slots.size := ⟨fun z => ht.2 (Or.inl z), by rw [arrV_size]; exact xin_lt ht.2⟩
  have hvN := xRel_lt hR (k := v) (by rw [hvS]; show t - 23 ≠ 99; omega)
  have hOB : t_OB (f v) (dC (t - 23)) (xnf (t - 23)) (dI (t - 23)) H (xfv f h v (t - 23)) := by
    rcases hR.2.2.1 v hv hvN with ⟨-, g⟩ | ⟨g, -⟩
    · rw [hvS] at g; exact g
    · rw [hvS] at g; exact absurd g.1 (by show ¬ 20 ≤ t - 23; omega)
  obtain ⟨cv, g1, g2, g3, -⟩ := hOB
  have key : ∀ (c : Nat) (r : vw_C), xcls[c]? = some r → s.vm.findClass r.1 = some (dC c) := fun c r hr => (hK.1 c r hr).2.1
  obtain ⟨kA, comp, k1, k2, k3, C, hC, hcl⟩ : ∃ (kA : Class) (comp : ClassId), s.vm.classes[cA t]? = some kA ∧ kA.kind = .array comp (xaty t) ∧ comp = dC (t - 23) ∧ ∃ C, xcls[t - 23]? = some C ∧ (xaty t).isReference = true := by
    have ha := (hK.2 _ _ (xtys_at (cA := cA) (t := t) (by omega) h2)).2
    obtain h | h | h | h | h : t = 24 ∨ t = 25 ∨ t = 26 ∨ t = 27 ∨ t = 28 := by omega
    all_goals (
      subst h
      obtain ⟨kA, comp, k1, k2, k3, -⟩ := ha
      first
        | exact ⟨kA, comp, k1, k2, Option.some.inj (k3.symm.trans (key 1 _ rfl)), _, rfl, rfl⟩
        | exact ⟨kA, comp, k1, k2, Option.some.inj (k3.symm.trans (key 2 _ rfl)), _, rfl, rfl⟩
        | exact ⟨kA, comp, k1, k2, Option.some.inj (k3.symm.trans (key 3 _ rfl)), _, rfl, rfl⟩
        | exact ⟨kA, comp, k1, k2, Option.some.inj (k3.symm.trans (key 4 _ rfl)), _, rfl, rfl⟩
        | exact ⟨kA, comp, k1, k2, Option.some.inj (k3.symm.trans (key 5 _ rfl)), _, rfl, rfl⟩)
  subst k3
  have hcls := (hK.1 _ _ hC).2
  obtain ⟨kC, hkC, -⟩ := hcls.2
  refine W.aast hx hb (xarrW hR hq hS0 (by omega) h2) (fun _ z => by cases z) (fun z => by cases z) k1 k2 hcl hkC hin g1 (fun _ z => by rw [g3] at z; cases z) (by rw [g2]; exact hkC) (by rw [g2]; exact va_assign hcls) rfl rfl hdg fun H1 e1 z oq => ?_
  refine kk H1 _ (xst hf hR hq hS0 (by omega) h2 (h' := xsR h q i.toNatClampNeg (some v)) rfl rfl (fun k hk => ⟨rfl, rfl, xsR_ne h _ _ hk⟩) (fun j => ?_) e1 z oq (fun z => by omega)) (hS.put z oq (xA_of hf hq))
  rw [xav_q h1 h2]
  show (if j = i.toNatClampNeg then Value.ref (f v) else xav f h q t j) = _
  rw [xav_q h1 h2, xsR_at]; unfold va_up; split <;> rfl
end XWR
