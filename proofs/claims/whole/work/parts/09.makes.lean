/-! makings and copies -/
theorem xcls_inst : ∀ q ∈ xcls, Cond.instantiable q.1 q.2.2 ∈ lw_tbl ∧ Cond.initialized q.1 ∈ lw_tbl := by decide +kernel
theorem xarr_in : Cond.arrayClass .int ∈ lw_tbl ∧ Cond.arrayClass .byte ∈ lw_tbl ∧ Cond.arrayClass .long ∈ lw_tbl ∧ Cond.arrayClass .boolean ∈ lw_tbl := by decide +kernel
theorem xsys_in : Cond.native arraycopyName ∈ lw_tbl ∧ Cond.static arraycopyName ∈ lw_tbl ∧ Cond.initialized "java/lang/System" ∈ lw_tbl := by decide +kernel
theorem xsys_good : goodWord (Cond.native arraycopyName) = true ∧ goodWord (Cond.static arraycopyName) = true ∧ goodWord (Cond.initialized "java/lang/System") = true := by decide +kernel
section XMK
variable {p : Program} {l : Launch} {e : Env} {R : Room} {s : State} {m : MethodId} {args : Array Value} {below : List Frame} {meth : Method} {c : Code} {H : Heap} {locs : List Loc} {cells slots : Nat} {Q : State → Prop}
variable {cc : ByteArray} {nL pc : Nat} {own : String} {dC : Nat → ClassId} {dI : Nat → Nat → Nat} {cA : Nat → ClassId} {f : Nat → Nat} {B : Nat} {h0 h : xh} {ls : Array Slot} {rest : List Value}
theorem xnw_S (h : xh) (t n k : Nat) : xS (xnw h t n) k = if k = xN h then (t, n) else xS h k := rfl
theorem xnw_I (h : xh) (t n k : Nat) : xI (xnw h t n) k = if k = xN h then (fun _ => 0) else xI h k := rfl
theorem xnw_L (h : xh) (t n k : Nat) : xL (xnw h t n) k = if k = xN h then (fun _ => 0) else xL h k := rfl
theorem xnw_R (h : xh) (t n k : Nat) : xR (xnw h t n) k = if k = xN h then (fun _ => none) else xR h k := rfl
theorem xnw_N (h : xh) (t n : Nat) : xN (xnw h t n) = xN h + 1 := rfl
theorem xRel_new (hf : ∀ k, 64 ≤ k → f k = B + (k - 64)) (hR : xRel dC dI cA f B h0 h H) {t n : Nat} {H' : Heap} (hc : xOK dC dI cA f (xnw h t n) H' (xN h)) (z : H'.size = H.size + 1) (o : ∀ q, q < H.size → H'[q]? = H[q]?) : xRel dC dI cA f B h0 (xnw h t n) H' := by
  have h64 := hR.1
  refine ⟨by rw [xnw_N]; omega, by rw [z, xnw_N, hR.2.1]; omega, fun k h1 h2 => ?_, fun k hk => ?_, fun k hk => ?_, fun k h1 h2 j => ?_⟩
  · rw [xnw_N] at h2
    by_cases hkN : k = xN h
    · subst hkN
      exact hc
    · have hlt : k < xN h := by omega
      have hs := hR.2.2.1 k h1 hlt
      have ho : H'[f k]? = H[f k]? := o _ (by rw [hf k h1, hR.2.1]; omega)
      unfold xOK at hs ⊢
      have eS : xS (xnw h t n) k = xS h k := by rw [xnw_S, if_neg hkN]
      have e1 : xfv f (xnw h t n) k (xS h k).1 = xfv f h k (xS h k).1 := by funext i; simp only [xfv, xnw_I, xnw_L, xnw_R, if_neg hkN]
      have e2 : xav f (xnw h t n) k (xS h k).1 = xav f h k (xS h k).1 := by funext i; simp only [xav, xnw_I, xnw_L, xnw_R, if_neg hkN]
      rw [eS, e1, e2]
      rcases hs with ⟨a, b⟩ | ⟨a, b⟩
      · exact Or.inl ⟨a, b.kept ho⟩
      · exact Or.inr ⟨a, ho.trans b⟩
  · rw [xnw_N] at hk
    rw [xnw_S, if_neg (by omega)]
    exact hR.2.2.2.1 k (by omega)
  · have hne : k ≠ xN h := by omega
    rw [xnw_S, xnw_I, xnw_R, if_neg hne, if_neg hne, if_neg hne]
    exact hR.2.2.2.2.1 k hk
  · by_cases hkN : k = xN h
    · rw [xnw_I, if_pos hkN]; rfl
    · rw [xnw_S, if_neg hkN] at h2
      rw [xnw_I, if_neg hkN]
      exact hR.2.2.2.2.2 k h1 h2 j
theorem xS_new (hS : va_S (xA B) s.heap H locs) {H' : Heap} (z : H'.size = H.size + 1) (o : ∀ q, q < H.size → H'[q]? = H[q]?) : va_S (xA B) s.heap H' locs :=
  ⟨Nat.le_trans hS.1 (by omega), fun x h1 h2 => (o x (Nat.lt_of_lt_of_le h1 hS.1)).trans (hS.2.1 x h1 h2), hS.2.2⟩
theorem xfN (hf : ∀ k, 64 ≤ k → f k = B + (k - 64)) (hR : xRel dC dI cA f B h0 h H) : f (xN h) = H.size := by rw [hf _ hR.1, hR.2.1]
theorem xs_new (E : xEnv p s m args c cc nL own dC dI cA f B h0) (hR : xRel dC dI cA f B h0 h H) (hS : va_S (xA B) s.heap H locs) {t idx : Nat} {r : vw_C} (h1 : t < 12) (hr : xcls[t]? = some r) (hl : Cond.classLink own idx r.1 ∈ lw_tbl) (hcells : cells + 1 ≤ R.cells) (hslots : slots + xnf t ≤ R.slots) (hdg : decode cc pc = .ok (.new idx, 3))
    (kk : ∀ H1 : Heap, xRel dC dI cA f B h0 (xnw h t 0) H1 → va_S (xA B) s.heap H1 locs → W p l e R s m args below meth c H1 locs (cells + 1) (slots + xnf t) Q (F0 m (pc + 3) ls (.ref (f (xN h)) :: rest))) : W p l e R s m args below meth c H locs cells slots Q (F0 m pc ls rest) := by
  obtain ⟨hx, hb, -, hown, hts, hK, -, hf, -⟩ := E
  obtain ⟨r', hr', hm, hnn, hty⟩ := xrow h1
  have er : r' = r := Option.some.inj (hr'.symm.trans hr)
  subst er
  have hKn := hK.1 t _ hr
  have htsF : ∀ w ∈ lw_tbl.filter goodWord, w.before args s = true := fun w hw => hts w (List.mem_filter.mp hw).1 (List.mem_filter.mp hw).2
  have hin : ∀ w ∈ u_ws r'.1 r'.2.1 r'.2.2, w ∈ lw_tbl.filter goodWord := fun w hw => List.mem_filter.mpr ⟨xcls_in r' hm w hw, xcls_good r' hm w hw⟩
  refine W.newcK hx hb hown (hts _ hl rfl) (n := r'.2.2) (hts _ (xcls_inst r' hm).1 rfl) (hts _ (xcls_inst r' hm).2 rfl) rfl hdg hcells (by rw [hnn]; exact hslots) hKn.2.1 (h := f (xN h)) (xfN hf hR).symm fun H1 kC hkC e1 z o1 => ?_
  have z' : H1.size = H.size + 1 := by rw [z, xfN hf hR]
  have o' : ∀ q, q < H.size → H1[q]? = H[q]? := fun q hq => o1 q (by rw [xfN hf hR]; exact hq)
  rw [hnn]
  refine kk H1 (xRel_new hf hR (Or.inl ?_) z' o') (xS_new hS z' o')
  rw [xnw_S, if_pos rfl]
  refine ⟨h1, ?_⟩
  have hb2 := u_born (xtyf t) htsF hin hKn hkC e1 (fun k hk => hty k (by rw [← hnn]; exact hk))
  rw [hnn] at hb2
  refine hb2.to (fun k hk => ?_)
  simp only [xfv, xnw_I, xnw_L, xnw_R, if_pos]
  rcases xft_cases h1 hk with ⟨a, b⟩ | ⟨a, b⟩ | ⟨a, b⟩ | ⟨a, ⟨C, b⟩ | ⟨u, b⟩⟩ <;> rw [a, b] <;> rfl
theorem xs_newa (E : xEnv p s m args c cc nL own dC dI cA f B h0) (hR : xRel dC dI cA f B h0 h H) (hS : va_S (xA B) s.heap H locs) {t : Nat} {at' : ArrayType} {n : Int32} (hat : (at' = .int ∧ t = 20) ∨ (at' = .byte ∧ t = 21) ∨ (at' = .long ∧ t = 22) ∨ (at' = .boolean ∧ t = 23)) (hn : ¬ n < 0) (hRs : R.slots ≤ 8000000) (hcells : cells + 1 ≤ R.cells) (hslots : slots + n.toNatClampNeg ≤ R.slots) (hdg : decode cc pc = .ok (.newarray at', 2))
    (kk : ∀ H1 : Heap, xRel dC dI cA f B h0 (xnw h t n.toNatClampNeg) H1 → va_S (xA B) s.heap H1 locs → W p l e R s m args below meth c H1 locs (cells + 1) (slots + n.toNatClampNeg) Q (F0 m (pc + 2) ls (.ref (f (xN h)) :: rest))) : W p l e R s m args below meth c H locs cells slots Q (F0 m pc ls (.int n :: rest)) := by
  obtain ⟨hx, hb, -, hown, hts, hK, -, hf, -⟩ := E
  have ht : 20 ≤ t ∧ t ≤ 23 := by rcases hat with ⟨-, h⟩ | ⟨-, h⟩ | ⟨-, h⟩ | ⟨-, h⟩ <;> omega
  have hty : newarray.typeOf at' = xaty t := by rcases hat with ⟨h, h'⟩ | ⟨h, h'⟩ | ⟨h, h'⟩ | ⟨h, h'⟩ <;> (subst h; subst h'; rfl)
  have hw : (Cond.arrayClass (newarray.typeOf at')).before args s = true := by
    rcases hat with ⟨h, -⟩ | ⟨h, -⟩ | ⟨h, -⟩ | ⟨h, -⟩ <;> subst h
    · exact hts _ xarr_in.1 rfl
    · exact hts _ xarr_in.2.1 rfl
    · exact hts _ xarr_in.2.2.1 rfl
    · exact hts _ xarr_in.2.2.2 rfl
  have hbytes : n.toNatClampNeg * componentBytes (newarray.typeOf at') ≤ 536870912 := by
    have : componentBytes (newarray.typeOf at') ≤ 8 := by rcases hat with ⟨h, -⟩ | ⟨h, -⟩ | ⟨h, -⟩ | ⟨h, -⟩ <;> subst h <;> decide
    calc n.toNatClampNeg * componentBytes (newarray.typeOf at') ≤ n.toNatClampNeg * 8 := Nat.mul_le_mul_left _ this
      _ ≤ 536870912 := by omega
  refine va_newaK hx hb hw rfl hdg rfl hn rfl hbytes hcells hslots (h := f (xN h)) (xfN hf hR).symm fun H1 cA' e1 z o1 hAr hNm => ?_
  have hcA : cA' = cA t := by
    have ha := (hK.2 _ _ (xtys_at (cA := cA) (t := t) (by omega) (by omega))).2
    rcases hat with ⟨h, h'⟩ | ⟨h, h'⟩ | ⟨h, h'⟩ | ⟨h, h'⟩ <;> (subst h; subst h'; exact Option.some.inj (hNm.symm.trans ha))
  have z' : H1.size = H.size + 1 := by rw [z, xfN hf hR]
  have o' : ∀ q, q < H.size → H1[q]? = H[q]? := fun q hq => o1 q (by rw [xfN hf hR]; exact hq)
  refine kk H1 (xRel_new hf hR (Or.inr ?_) z' o') (xS_new hS z' o')
  rw [xnw_S, if_pos rfl]
  refine ⟨⟨ht.1, by show t ≤ 28; omega⟩, ?_⟩
  rw [e1, hcA, hty]
  congr 2
  funext j
  rcases hat with ⟨-, h'⟩ | ⟨-, h'⟩ | ⟨-, h'⟩ | ⟨-, h'⟩ <;> subst h' <;> simp only [xav, xnw_I, xnw_L, if_pos] <;> rfl
theorem xs_anew (E : xEnv p s m args c cc nL own dC dI cA f B h0) (hR : xRel dC dI cA f B h0 h H) (hS : va_S (xA B) s.heap H locs) {t idx : Nat} {C : String} {n : Int32} (h1 : 24 ≤ t) (h2 : t ≤ 28) (hC : xaty t = .object C) (hov : C ∈ xovr) (hl : Cond.classLink own idx C ∈ lw_tbl) (hn : ¬ n < 0) (hRs : R.slots ≤ 8000000) (hcells : cells + 1 ≤ R.cells) (hslots : slots + n.toNatClampNeg ≤ R.slots) (hdg : decode cc pc = .ok (.anewarray idx, 3))
    (kk : ∀ H1 : Heap, xRel dC dI cA f B h0 (xnw h t n.toNatClampNeg) H1 → va_S (xA B) s.heap H1 locs → W p l e R s m args below meth c H1 locs (cells + 1) (slots + n.toNatClampNeg) Q (F0 m (pc + 3) ls (.ref (f (xN h)) :: rest))) : W p l e R s m args below meth c H locs cells slots Q (F0 m pc ls (.int n :: rest)) := by
  obtain ⟨hx, hb, -, hown, hts, hK, hCn, hf, -⟩ := E
  refine W.anew hx hb hown (hts _ hl rfl) (va_AO.use (hCn.2.2.2.2.2.2.2.2 C hov)) rfl hdg rfl hn (by omega) hcells hslots fun cA' kA comp f1 f2 f3 f4 => ?_
  generalize hH1 : H.push ({ cls := cA', slots := Array.replicate n.toNatClampNeg .null, vm := .none } : Cell) = H1
  have z' : H1.size = H.size + 1 := by rw [← hH1, Array.size_push]
  have e1 : H1[H.size]? = some (arrV cA' n.toNatClampNeg (fun _ => .null)) := by rw [← hH1, Array.getElem?_push_size, ← arrV_new]
  have o' : ∀ q : Nat, q < H.size → H1[q]? = H[q]? := fun q hq => by rw [← hH1, Array.getElem?_push, if_neg (Nat.ne_of_lt hq)]
  have hcA : cA' = cA t := by
    have ha := (hK.2 _ _ (xtys_at (cA := cA) (t := t) (by omega) h2)).2
    dsimp only at ha
    rw [hC] at ha
    obtain ⟨-, -, -, -, -, k4⟩ := ha
    exact Option.some.inj (f1.symm.trans k4)
  have eN := xfN hf hR
  rw [← eN]
  refine kk H1 (xRel_new hf hR (Or.inr ?_) z' o') (xS_new hS z' o')
  rw [xnw_S, if_pos rfl]
  refine ⟨⟨by show 20 ≤ t; omega, h2⟩, ?_⟩
  rw [eN, e1, hcA]
  congr 2
  funext j
  rw [xav_q h1 h2, xnw_R, if_pos rfl]
  rfl
end XMK
