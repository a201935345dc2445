/-! a row copied into another; values off the stack -/
theorem xpop_eq : ∀ (n : Nat) (acc st : List Value), (xpop n acc st).1.reverse ++ (xpop n acc st).2 = acc.reverse ++ st
  | 0, acc, st => rfl
  | n + 1, acc, [] => rfl
  | n + 1, acc, v :: st => by
    show (xpop n (v :: acc) st).1.reverse ++ (xpop n (v :: acc) st).2 = _
    rw [xpop_eq n (v :: acc) st]
    simp
theorem xpop_len : ∀ (n : Nat) (acc st : List Value), (xpop n acc st).2 ≠ [] → (xpop n acc st).1.length = n + acc.length
  | 0, acc, st, _ => by show acc.length = 0 + acc.length; omega
  | n + 1, acc, [], h => absurd rfl h
  | n + 1, acc, v :: st, h => by
    show (xpop n (v :: acc) st).1.length = _
    rw [xpop_len n (v :: acc) st h, List.length_cons]
    omega
section XCP
variable {p : Program} {l : Launch} {e : Env} {R : Room} {s : State} {m : MethodId} {args : Array Value} {below : List Frame} {meth : Method} {c : Code} {H : Heap} {locs : List Loc} {cells slots : Nat} {Q : State → Prop}
variable {cc : ByteArray} {nL pc : Nat} {own : String} {dC : Nat → ClassId} {dI : Nat → Nat → Nat} {cA : Nat → ClassId} {f : Nat → Nat} {B : Nat} {h0 h : xh} {ls : Array Slot} {rest : List Value}
theorem xs_copy (E : xEnv p s m args c cc nL own dC dI cA f B h0) (hR : xRel dC dI cA f B h0 h H) (hS : va_S (xA B) s.heap H locs) {x sq dq t : Nat} {sp dp n : Int32} (ht : t = 20 ∨ t = 21) (hs : 64 ≤ sq) (hd : 64 ≤ dq) (hts : (xS h sq).1 = t) (htd : (xS h dq).1 = t) (h3 : ¬ n < 0) (h1 : ¬ sp < 0) (h2 : ¬ dp < 0) (h4 : sp.toNatClampNeg + n.toNatClampNeg ≤ (xS h sq).2) (h5 : dp.toNatClampNeg + n.toNatClampNeg ≤ (xS h dq).2)
    (hl : Cond.methodLink own x arraycopyName ∈ lw_tbl) (hls : ls.size = nL) (hcs : (rest.map fun v => v.category).sum ≤ 8) (hfr : 1 ≤ R.frames) (hlo : 32 ≤ R.locals) (hdg : decode cc pc = .ok (.invokestatic x, 3))
    (kk : ∀ (H1 : Heap) (locs1 : List Loc), xRel dC dI cA f B h0 (xcp h sq sp.toNatClampNeg dq dp.toNatClampNeg n.toNatClampNeg) H1 → va_S (xA B) s.heap H1 locs1 → W p l e R s m args below meth c H1 locs1 cells slots Q (F0 m (pc + 3) ls rest)) : W p l e R s m args below meth c H locs cells slots Q (F0 m pc ls (.int n :: .int dp :: .ref (f dq) :: .int sp :: .ref (f sq) :: rest)) := by
  obtain ⟨hx, hb, hml, hown, hw, hK, -, hf, -⟩ := E
  have nn : ∀ z : Int32, ¬ z < 0 → z.toInt = (z.toNatClampNeg : Int) := by
    intro z hz
    have hz0 : (0 : Int) ≤ z.toInt := by
      have := Int32.not_lt.mp hz
      simpa using Int32.le_iff_toInt_le.mp this
    show z.toInt = ((z.toInt.toNat : Nat) : Int)
    omega
  have ht20 : 20 ≤ t ∧ t ≤ 28 := by omega
  have hc0 := xarrW hR hs (xpair hts) ht20.1 ht20.2
  have hc1 := xarrW hR hd (xpair htd) ht20.1 ht20.2
  have hav : ∀ (g : xh) (k : Nat), xav f g k t = fun j => .int (xI g k j) := by
    intro g k
    rcases ht with rfl | rfl <;> rfl
  rw [hav] at hc0 hc1
  have hty := (hK.2 _ _ (xtys_at (cA := cA) ht20.1 ht20.2)).1
  have hprim : refKind (xaty t) = false := by rcases ht with rfl | rfl <;> rfl
  have hfit : ∀ j, fits (xaty t) (.int (xI h sq j)) = true := by
    intro j
    rcases ht with rfl | rfl
    · rfl
    · have := hR.2.2.2.2.2 sq hs hts j
      rw [← this]
      exact pk_fb _
  intro T hT X
  obtain ⟨-, k0, hk0, cm0, hkk0⟩ := hty (xS h sq).2 (fun j => .int (xI h sq j))
  obtain ⟨-, k1, hk1, cm1, hkk1⟩ := hty (xS h dq).2 (fun j => .int (xI h dq j))
  obtain ⟨vm', X', step⟩ := X.arraycopy hx hown (hw _ hl rfl) (hw _ xsys_in.1 xsys_good.1) (hw _ xsys_in.2.1 xsys_good.2.1) (hw _ xsys_in.2.2 xsys_good.2.2) (src := f sq) (dst := f dq) (srcPos := sp) (destPos := dp) (n := n) (by rw [hT]; exact hc0) (by rw [hT]; exact hc1)
    (fun _ h => by cases h) (fun _ h => by cases h) (fun h => by cases h) (fun h => by cases h) hk0 hk1 hkk0 hkk1 (by simp [hprim]) h1 h2 h3
    (by rw [nn sp h1, nn n h3, arrV_size]; omega)
    (by rw [nn dp h2, nn n h3, arrV_size]; omega)
    (fun vm₁ _ i hi => by
      have e : (arrV (cA t) (xS h sq).2 (fun j => .int (xI h sq j))).slots.getD (sp.toNatClampNeg + i) .null = .int (xI h sq (sp.toNatClampNeg + i)) := by
        rw [Array.getD_eq_getD_getElem?, arrV_read _ _ (by omega)]
        rfl
      rw [e]
      exact ⟨hfit _, trivial⟩)
    (g := F0 m pc ls (.int n :: .int dp :: .ref (f dq) :: .int sp :: .ref (f sq) :: rest)) rfl (by rw [hml]; exact hls) (rest := rest) rfl (by rw [hb]; exact hdg) hfr (by show 2 * 0 + _ + (5 + 2 + 11) ≤ _; omega)
  have e1 : copied (arrV (cA t) (xS h sq).2 (fun j => .int (xI h sq j))) (arrV (cA t) (xS h dq).2 (fun j => .int (xI h dq j))) sp dp n = arrV (cA t) (xS h dq).2 (fun j => .int (va_cpy (xI h sq) (xI h dq) sp.toNatClampNeg dp.toNatClampNeg n.toNatClampNeg j)) := va_copied (fun z => .int z) (cA t) (cA t) (xI h sq) (xI h dq) h4
  rw [e1] at X' step
  have hlt : f dq < H.size := (Array.getElem?_eq_some_iff.mp hc1).1
  generalize hnew : arrV (cA t) (xS h dq).2 (fun j => .int (va_cpy (xI h sq) (xI h dq) sp.toNatClampNeg dp.toNatClampNeg n.toNatClampNeg j)) = nw at X' step
  have hheap : ((T.setVm vm').setCell (f dq) nw).heap = H.setIfInBounds (f dq) nw := by rw [← hT]; rfl
  have oq : ∀ q : Nat, q ≠ f dq → (H.setIfInBounds (f dq) nw)[q]? = H[q]? := fun q hq => by simp [Array.getElem?_setIfInBounds, Ne.symm hq]
  have hz : (H.setIfInBounds (f dq) nw).size = H.size := by simp
  have hself : (H.setIfInBounds (f dq) nw)[f dq]? = some nw := by simp [Array.getElem?_setIfInBounds, hlt]
  have hrel : xRel dC dI cA f B h0 (xcp h sq sp.toNatClampNeg dq dp.toNatClampNeg n.toNatClampNeg) (H.setIfInBounds (f dq) nw) := by
    refine xRel_upd hf hR hd rfl rfl (fun k hk => ⟨xcp_ne h _ _ _ _ hk, rfl, rfl⟩) hz oq (Or.inr ?_) (fun ht21 j => ?_)
    · have eS : xS (xcp h sq sp.toNatClampNeg dq dp.toNatClampNeg n.toNatClampNeg) dq = (t, (xS h dq).2) := xpair htd
      rw [eS]
      refine ⟨ht20, ?_⟩
      rw [hself, ← hnew, hav, xcp_at]
    · rw [xcp_at]
      unfold va_cpy
      have t21 : t = 21 := by rw [← htd]; exact ht21
      split
      · exact hR.2.2.2.2.2 sq hs (by rw [hts]; exact t21) _
      · exact hR.2.2.2.2.2 dq hd ht21 _
  obtain ⟨t', a1, b1⟩ := kk _ _ hrel ⟨by rw [hz]; exact hS.1, fun q g1 g2 => by
      rw [oq q (fun e => g2 (by rw [e]; exact xA_of hf hd))]
      exact hS.2.1 q g1 g2, fun q hq => by
      rcases List.mem_append.mp hq with h | h
      · exact hS.2.2 q h
      · obtain ⟨z, -, hz⟩ := List.mem_map.mp h
        rw [← hz]
        exact xA_of hf hd⟩ _ hheap X'
  exact ⟨t', step t' a1, b1⟩
end XCP
