/-! fields, makings, copies of rows: the machine's instructions over the relation -/
section XOP
variable {p : Program} {l : Launch} {e : Env} {R : Room} {s : State} {m : MethodId} {args : Array Value} {below : List Frame} {meth : Method} {c : Code} {H : Heap} {locs : List Loc} {cells slots : Nat} {Q : State → Prop}
variable {cc : ByteArray} {nL pc : Nat} {own : String} {dC : Nat → ClassId} {dI : Nat → Nat → Nat} {cA : Nat → ClassId} {f : Nat → Nat} {B : Nat} {h0 h : xh} {ls : Array Slot} {rest : List Value}
/-- a type by a field's kind -/
theorem xft_cases {t k : Nat} (ht : t < 12) (hk : k < xnf t) : (xft t k = 0 ∧ xtyf t k = .int) ∨ (xft t k = 1 ∧ xtyf t k = .boolean) ∨ (xft t k = 3 ∧ xtyf t k = .long) ∨ (xft t k = 2 ∧ ((∃ C, xtyf t k = .object C) ∨ ∃ u, xtyf t k = .array u)) := by
  have h := xft_ok t ht k hk
  unfold xftb at h
  split at h
  · next e => exact Or.inl ⟨e, of_decide_eq_true h⟩
  · next e => exact Or.inr (Or.inl ⟨e, of_decide_eq_true h⟩)
  · next e =>
    refine Or.inr (Or.inr (Or.inr ⟨e, ?_⟩))
    split at h
    · next C e2 => exact Or.inl ⟨C, e2⟩
    · next u e2 => exact Or.inr ⟨u, e2⟩
    · cases h
  · next e => exact Or.inr (Or.inr (Or.inl ⟨e, of_decide_eq_true h⟩))
  · cases h
/-- the rows of a kind of object -/
theorem xrow {t : Nat} (ht : t < 12) : ∃ q, xcls[t]? = some q ∧ q ∈ xcls ∧ q.2.2 = xnf t ∧ ∀ k, k < xnf t → parseFieldDescriptor (q.2.1 k).2.2.1 = some (xtyf t k) := by
  have h1 := xcls_nf t ht
  cases hq : xcls[t]? with
  | none => rw [hq] at h1; cases h1
  | some q =>
    rw [hq] at h1
    refine ⟨q, rfl, List.mem_of_getElem? hq, Option.some.inj h1, fun k hk => ?_⟩
    have h2 := xcls_ty t ht k hk
    rw [hq] at h2
    exact h2
theorem xobj (hR : xRel dC dI cA f B h0 h H) {q t n : Nat} (hq : 64 ≤ q) (ht : xS h q = (t, n)) (h1 : t < 12) : t_OB (f q) (dC t) (xnf t) (dI t) H (xfv f h q t) := by
  have hN := xRel_lt hR (k := q) (by rw [ht]; show t ≠ 99; omega)
  rcases hR.2.2.1 q hq hN with ⟨-, g⟩ | ⟨g, -⟩
  · rw [ht] at g; exact g
  · rw [ht] at g; exact absurd g.1 (by show ¬ 20 ≤ t; omega)
/-- objects of our kinds are new cells -/
theorem xnew64 (E : xEnv p s m args c cc nL own dC dI cA f B h0) (hR : xRel dC dI cA f B h0 h H) {q t n : Nat} (ht : xS h q = (t, n)) (h1 : t < 12) : 64 ≤ q := by
  obtain ⟨-, -, -, -, -, -, hC, -, -⟩ := E
  by_cases hq : q < 64
  · have e1 := (hR.2.2.2.2.1 q hq).1
    rw [ht] at e1
    rcases hC.2.2.2.1 q hq with h | h | h | h <;> rw [← e1] at h <;> (have h' : t = _ := h; omega)
  · omega
theorem xs_get (E : xEnv p s m args c cc nL own dC dI cA f B h0) (hR : xRel dC dI cA f B h0 h H) {q t k idx : Nat} {r : vw_C} (ht : xS h q = (t, 0)) (h1 : t < 12) (hk : k < xnf t) (hr : xcls[t]? = some r)
    (hl : Cond.fieldLink own idx r.1 (r.2.1 k).2.1 (r.2.1 k).2.2.1 ∈ lw_tbl) (hdg : decode cc pc = .ok (.getfield idx, 3))
    (kk : W p l e R s m args below meth c H locs cells slots Q (F0 m (pc + 3) ls (xfv f h q t k :: rest))) : W p l e R s m args below meth c H locs cells slots Q (F0 m pc ls (.ref (f q) :: rest)) := by
  have hq := xnew64 E hR ht h1
  obtain ⟨hx, hb, -, hown, hts, hK, -, hf, -⟩ := E
  obtain ⟨cl, g1, g2, g3, g4⟩ := xobj hR hq ht h1
  obtain ⟨r', hr', hm, hn, hty⟩ := xrow h1
  have er : r' = r := Option.some.inj (hr'.symm.trans hr)
  subst er
  have hk' : k < r'.2.2 := by rw [hn]; exact hk
  obtain ⟨hSl, hfc, kC, hkC, hkind⟩ := hK.1 t _ hr
  obtain ⟨cf, kf, fi, fd, hi, hsl⟩ := hSl k hk'
  have hown2 := xcls_own r' hm k hk'
  rw [hown2] at hi
  have hlay := u_lays (ws := lw_tbl.filter goodWord) (s := s) (args := args) (fun w hw => hts w (List.mem_filter.mp hw).1 (List.mem_filter.mp hw).2) (fun w hw => List.mem_filter.mpr ⟨xcls_in r' hm w hw, xcls_good r' hm w hw⟩) hk'
  rw [hown2] at hlay
  refine W.getf hx hb hown (hts _ hl rfl) hi (u_facts hfc hkC hlay hi).1 g1 (by rw [g3]; exact fun z => by cases z) ?_ rfl rfl hdg kk
  rw [hsl]
  exact g4 k hk
theorem xOK_field {t k q : Nat} {v : Value} {h' : xh} {H H' : Heap} (ht : xS h' q = (t, 0)) (h1 : t < 12) {cl : Cell} (g2 : cl.cls = dC t) (g3 : cl.vm = .none) (g4 : ∀ i, i < xnf t → cl.slots[dI t i]? = some (xfv f h q t i)) (hap : ∀ x y, x < xnf t → y < xnf t → x ≠ y → dI t x ≠ dI t y) (hk : k < xnf t)
    (e1 : H'[f q]? = some (cl.setSlot (dI t k) v)) (hv : ∀ i, i < xnf t → updV (xfv f h q t) k v i = xfv f h' q t i) : xOK dC dI cA f h' H' q := by
  refine Or.inl ?_
  rw [ht]
  exact ⟨h1, t_OB.to (V := updV (xfv f h q t) k v) ⟨_, e1, g2, g3, t_set g4 hap hk v⟩ hv⟩
theorem xs_put (E : xEnv p s m args c cc nL own dC dI cA f B h0) (hR : xRel dC dI cA f B h0 h H) (hS : va_S (xA B) s.heap H locs) {q t k idx : Nat} {r : vw_C} {v : Value} {h' : xh} (hq : 64 ≤ q) (ht : xS h q = (t, 0)) (h1 : t < 12) (hk : k < xnf t) (hr : xcls[t]? = some r)
    (hl : Cond.fieldLink own idx r.1 (r.2.1 k).2.1 (r.2.1 k).2.2.1 ∈ lw_tbl) (hfin : (r.2.1 k).2.2.2 = false ∨ (meth.name = "<init>" ∧ r.1 = own)) (hn : narrow (xtyf t k) v = v) (hfit : fits (xtyf t k) v = true)
    (eS : xS h' = xS h) (eN : xN h' = xN h) (eo : ∀ k, k ≠ q → xI h' k = xI h k ∧ xL h' k = xL h k ∧ xR h' k = xR h k) (hv : ∀ i, i < xnf t → updV (xfv f h q t) k v i = xfv f h' q t i)
    (hdg : decode cc pc = .ok (.putfield idx, 3))
    (kk : ∀ (H1 : Heap) (locs1 : List Loc), xRel dC dI cA f B h0 h' H1 → va_S (xA B) s.heap H1 locs1 → W p l e R s m args below meth c H1 locs1 cells slots Q (F0 m (pc + 3) ls rest)) : W p l e R s m args below meth c H locs cells slots Q (F0 m pc ls (v :: .ref (f q) :: rest)) := by
  obtain ⟨hx, hb, -, hown, hts, hK, -, hf, -⟩ := E
  obtain ⟨cl, g1, g2, g3, g4⟩ := xobj hR hq ht h1
  obtain ⟨r', hr', hm, hnn, hty⟩ := xrow h1
  have er : r' = r := Option.some.inj (hr'.symm.trans hr)
  subst er
  have hk' : k < r'.2.2 := by rw [hnn]; exact hk
  obtain ⟨hSl, hfc, kC, hkC, hkind⟩ := hK.1 t _ hr
  obtain ⟨cf, kf, fi, fd, hi, hsl⟩ := hSl k hk'
  have hown2 := xcls_own r' hm k hk'
  rw [hown2] at hi
  have htsF : ∀ w ∈ lw_tbl.filter goodWord, w.before args s = true := fun w hw => hts w (List.mem_filter.mp hw).1 (List.mem_filter.mp hw).2
  have hin : ∀ w ∈ u_ws r'.1 r'.2.1 r'.2.2, w ∈ lw_tbl.filter goodWord := fun w hw => List.mem_filter.mpr ⟨xcls_in r' hm w hw, xcls_good r' hm w hw⟩
  have hlay := u_lays htsF hin hk'
  rw [hown2] at hlay
  have hap : ∀ x y, x < xnf t → y < xnf t → x ≠ y → dI t x ≠ dI t y := by
    intro x y hx hy hne
    exact va_apart (D := (dC, dI)) (own := own) htsF hin (xtyf t) (fun k hk => hty k (by rw [← hnn]; exact hk)) (xcls_nm r' hm) hK hr x y (by rw [hnn]; exact hx) (by rw [hnn]; exact hy) hne
  have fin : ∀ (H1 : Heap) (k9 : Nat), H1[f q]? = some (cl.setSlot (dI t k) v) → H1.size = H.size → (∀ a, a ≠ f q → H1[a]? = H[a]?) → W p l e R s m args below meth c H1 (locs ++ [⟨f q, k9⟩]) cells slots Q (F0 m (pc + 3) ls rest) := by
    intro H1 k9 e1 z oq
    exact kk H1 _ (xRel_upd hf hR hq eS eN eo z oq (xOK_field (h := h) (H := H) (by rw [eS]; exact ht) h1 g2 g3 g4 hap hk e1 hv) (fun z => by rw [ht] at z; exact absurd z (by show ¬ t = 21; omega))) (hS.put z oq (xA_of hf hq))
  have hs0 : fd.slot < cl.slots.size := by rw [hsl]; exact k2_hasslot (g4 k hk)
  have hst := (u_facts hfc hkC hlay hi).1
  have hfl : (r'.2.1 k).2.2.2 = false ∨ (r'.2.1 k).2.2.2 = true := by cases (r'.2.1 k).2.2.2 <;> simp
  rcases hfl with hfl | hfl
  · have hl2 := htsF _ (hin _ (u_in_lay hk'))
    unfold u_lay at hl2
    rw [if_neg (by rw [hfl]; decide), hown2] at hl2
    have h6 := u_store hfc hkC hkind hl2 hi (hty k hk) hn hfit
    refine W.putK hx hb (f := fd) ⟨hown, hts _ hl rfl, ⟨_, _, _, hi⟩, hst⟩ (by rw [g2]; exact h6) g1 g3 hs0 rfl rfl hdg fun H1 e1 z oq => ?_
    rw [hsl] at e1 ⊢
    exact fin H1 _ e1 z oq
  · rcases hfin with hfin | ⟨hin2, hdecl⟩
    · rw [hfl] at hfin; cases hfin
    · have hl2 := htsF _ (hin _ (u_in_lay hk'))
      unfold u_lay at hl2
      rw [if_pos hfl, hown2] at hl2
      have hcf : m.cls = cf := by
        obtain ⟨_, _, c', _, _, _, -, -, hf', -, -, -, hown3, -⟩ := Cond.laysFinal_spec hl2
        have e1 : c' = cf := by have := hi.symm.trans hf'; simp at this; exact this.1.symm
        rw [hdecl] at hown3
        rw [← e1]; exact Option.some.inj (hown.symm.trans hown3)
      have h6 := u_fits hfc hkC hkind (Or.inr hl2) hi (hty k hk) hn hfit
      refine W.putFinK hx hb hown (hts _ hl rfl) hi hst hcf hin2 (by rw [g2]; exact h6) g1 g3 hs0 rfl rfl hdg fun H1 e1 z oq => ?_
      rw [hsl] at e1 ⊢
      exact fin H1 _ e1 z oq
end XOP
