/-! calls: a method's contract by the abstract machine, and what a caller gets of it -/
def xPc (dC : Nat → ClassId) (dI : Nat → Nat → Nat) (cA : Nat → ClassId) (f : Nat → Nat) (B : Nat) (h0 h : xh) (as : List Value) : Array Value → State → Prop := fun v U =>
  v = (as.map (xtv f)).toArray ∧ va_K (dC, dI) xcls (xtys cA) U ∧ xCon f h0 B U U.heap ∧ xRel dC dI cA f B h0 h U.heap ∧ B ≤ U.heap.size
def xQc (dC : Nat → ClassId) (dI : Nat → Nat → Nat) (cA : Nat → ClassId) (f : Nat → Nat) (B : Nat) (h0 : xh) (Q : Option Value → xh → Prop) : Array Value → State → Outcome → State → Prop := fun _ st o t =>
  (∃ r h', o = .returned (r.map (xtv f)) ∧ Q r h' ∧ xRel dC dI cA f B h0 h' t.heap) ∧ va_F (xA B) st t
theorem xCon_same {f : Nat → Nat} {h0 : xh} {B : Nat} {s U : State} {H : Heap} (hv : U.vm = s.vm) (h : xCon f h0 B s H) : xCon f h0 B U H := by
  have hvm : s.vm.Alike U.vm := by rw [hv]; exact Vm.Alike.refl _
  obtain ⟨c1, c2, c3, c4, ⟨z1, z2, z3, z4, z5⟩, z6, c6, c7, c8⟩ := h
  refine ⟨fun k n hk e => (c1 k n hk e).moved hvm, fun k n hk e => (c2 k n hk e).moved hvm, fun k n hk e => ?_, c4, ⟨z1.moved hvm, z2.moved hvm, z3.moved hvm, z4.moved hvm, z5.moved hvm⟩, ?_, fun q h => (c6 q h).same hv, fun q h => va_Nw.same rfl hv.symm (c7 q h), fun C h => (c8 C h).moved hvm⟩
  · obtain ⟨d1, d2, v, d3, d4⟩ := c3 k n hk e
    exact ⟨d1.moved hvm, d2.moved hvm, v, d3, d4.moved hvm⟩
  · rcases z6 with z6 | z6
    · exact Or.inl (z6.moved hvm)
    · exact Or.inr (z6.moved hvm)
theorem xPc_blind {dC : Nat → ClassId} {dI : Nat → Nat → Nat} {cA : Nat → ClassId} {f : Nat → Nat} {B : Nat} {h0 h : xh} {as : List Value} : FrameBlind (xPc dC dI cA f B h0 h as) := by
  intro a U g mk' ⟨h1, h2, h3, h4, h5⟩
  exact ⟨h1, va_K.moved (u := U) (U := U.calling g mk' a) (Vm.Alike.refl U.vm) h2, xCon_same (s := U) (U := U.calling g mk' a) rfl h3, h4, h5⟩
/-- the words of a method -/
def xwd (q : xme) : List Cond := Cond.code q.1 q.2.1 q.2.2.1 q.2.2.2.1 :: lw_tbl.filter goodWord
def xrm (n : Nat) (q : xme) : Room := { frames := n, cells := q.2.2.2.2.2.2.2.2.1, slots := q.2.2.2.2.2.2.2.2.2.1, locals := 32 * n }
section XCL
variable {p : Program} {l : Launch} {e : Env} {R : Room} {s : State} {m : MethodId} {args : Array Value} {below : List Frame} {meth : Method} {c : Code} {H : Heap} {locs : List Loc} {cells slots : Nat} {Q : State → Prop}
variable {cc : ByteArray} {nL pc : Nat} {own : String} {dC : Nat → ClassId} {dI : Nat → Nat → Nat} {cA : Nat → ClassId} {f : Nat → Nat} {B : Nat} {h0 h : xh} {ls : Array Slot}
theorem xwd_good (q : xme) (hcode : Cond.code q.1 q.2.1 q.2.2.1 q.2.2.2.1 ∈ lw_tbl) : GoodIn (lw_tbl.filter goodWord) (xwd q) := by
  intro w hw
  rcases List.mem_cons.mp hw with h | h
  · subst h
    exact ⟨List.mem_filter.mpr ⟨hcode, rfl⟩, Or.inl rfl⟩
  · exact ⟨h, good_of_word (List.mem_filter.mp h).2⟩
theorem xtsF (E : xEnv p s m args c cc nL own dC dI cA f B h0) : ∀ w ∈ lw_tbl.filter goodWord, w.before args s = true := fun w hw => E.2.2.2.2.1 w (List.mem_filter.mp hw).1 (List.mem_filter.mp hw).2
theorem xcs_eq (f : Nat → Nat) : ∀ r : List Value, ((r.map (xtv f)).map fun v => v.category).sum = xcs r
  | [] => rfl
  | v :: r => by
    show (xtv f v).category + ((r.map (xtv f)).map fun v => v.category).sum = v.category + xcs r
    rw [xtv_cat, xcs_eq f r]
theorem xPre (E : xEnv p s m args c cc nL own dC dI cA f B h0) (hR : xRel dC dI cA f B h0 h H) (hS : va_S (xA B) s.heap H locs) (as : List Value) : ∀ U : State, U.heap = H → s.WarmedH U.vm → xPc dC dI cA f B h0 h as (as.map (xtv f)).toArray U := by
  intro U hU hW
  obtain ⟨-, -, -, -, -, hK, hC, -, hB⟩ := E
  refine ⟨rfl, va_K.moved hW.alike hK, ?_, by rw [hU]; exact hR, by rw [hU]; exact Nat.le_trans hB hS.1⟩
  rw [hU]
  exact xCon_move hW hS.2.1 hC
/-- what comes behind a call -/
theorem xs_back {g : JFrame} {rest : List Value} {Q' : Option Value → xh → Prop} {a : Array Value} {mc ms : Nat} (hS : va_S (xA B) s.heap H locs)
    (hr : va_Run p l e R s m args below meth c H locs cells slots mc ms g rest (xQc dC dI cA f B h0 Q' a) (xA B))
    (kk : ∀ (r : Option Value) (h' : xh) (H1 : Heap) (locs1 : List Loc), Q' r h' → xRel dC dI cA f B h0 h' H1 → va_S (xA B) s.heap H1 locs1 → W p l e R s m args below meth c H1 locs1 (cells + mc) (slots + ms) Q { g with pc := g.pc + 3, stack := (r.map (xtv f)).toList ++ rest }) : W p l e R s m args below meth c H locs cells slots Q g := by
  intro T hT X
  obtain ⟨v, st₀, t, T', L, e0, X', hL, e1, e2, ⟨⟨r, h', ev, hq, hrel⟩, hF⟩, st⟩ := hr T hT X
  have ev' : v = r.map (xtv f) := by injection ev
  subst ev'
  have hS' : va_S (xA B) s.heap t.heap (locs ++ L) := by
    rw [va_F, e0] at hF
    refine ⟨Nat.le_trans hS.1 hF.1, fun q h1 h2 => ?_, fun q hq => ?_⟩
    · rw [hF.2 q (Nat.lt_of_lt_of_le h1 hS.1) h2]
      exact hS.2.1 q h1 h2
    · rcases List.mem_append.mp hq with h | h
      · exact hS.2.2 q h
      · exact hL q h
  obtain ⟨t2, a1, b1⟩ := kk r h' t.heap (locs ++ L) hq hrel hS' T' e1 X'
  exact ⟨t2, st t2 a1, b1⟩
/-- the three kinds of call -/
theorem xs_runV (E : xEnv p s m args c cc nL own dC dI cA f B h0) (hR : xRel dC dI cA f B h0 h H) (hS : va_S (xA B) s.heap H locs) {n x qr : Nat} {y : MethodName} {b : ByteArray} {ml : Nat} {rt : Option FieldType} {cd : List (List xop)} {na tg mc ms rc : Nat} {ps : List Nat} {Q' : Option Value → xh → Prop} {as r : List Value}
    (hM : Met l y (Cond.code y b ml rt :: lw_tbl.filter goodWord) ({ frames := n, cells := mc, slots := ms, locals := 32 * n } : Room) (xPc dC dI cA f B h0 h (.ref qr :: as)) (xQc dC dI cA f B h0 Q') mc ms (xA B))
    (hmo : xmo (y, b, ml, rt, cd, 1, na, tg, mc, ms, rc, ps) = true) (hl : Cond.methodLink own x y ∈ lw_tbl) (hq : xS h qr = (tg, 0)) (hna : as.length = na) (hfr : n + 1 ≤ R.frames) (hlo : 32 * (n + 1) ≤ R.locals) (hcs : xcs r ≤ 8) (hls : ls.size = nL) (hdg : decode cc pc = .ok (.invokevirtual x, 3)) (hf : cells + mc ≤ R.cells ∧ slots + ms ≤ R.slots) :
    va_Run p l e R s m args below meth c H locs cells slots mc ms (F0 m pc ls ((as.map (xtv f)).reverse ++ .ref (f qr) :: r.map (xtv f))) (r.map (xtv f)) (xQc dC dI cA f B h0 Q' (Value.ref (f qr) :: as.map (xtv f)).toArray) (xA B) := by
  have hts := xtsF E
  unfold xmo at hmo
  split at hmo
  next y' b' ml' rt' cd' kd' na' tg' mc' ms' rc' p0 p1 p2 p3 heq =>
    simp only [Prod.mk.injEq] at heq
    obtain ⟨rfl, rfl, rfl, rfl, rfl, rfl, rfl, rfl, rfl, rfl, rfl, rfl⟩ := heq
    simp only [Bool.and_eq_true, decide_eq_true_eq] at hmo
    obtain ⟨m0, m1, ⟨m2, m3⟩, m4, m5, m6, m7, m8, m9, m10, m11⟩ := hmo
    have g0 := List.mem_of_getElem? m0
    have g1 := List.mem_of_getElem? m1
    have g2 := List.mem_of_getElem? m2
    have g3 := List.mem_of_getElem? m3
    have hG := xwd_good (y, b, ml, rt, cd, 1, na, tg, mc, ms, rc, [p0, p1, p2, p3]) g0
    have hcb : CallW R s args own y.cls x y b ml rt (Cond.code y b ml rt :: lw_tbl.filter goodWord) ({ frames := n, cells := mc, slots := ms, locals := 32 * n } : Room) mc ms na :=
      ⟨callB_of na hts hG rfl rfl rfl (E.2.2.2.2.1 _ g1 rfl) (E.2.2.2.2.1 _ hl rfl) ⟨m4.1, m4.2, m5⟩ ⟨hfr, by show 8 + (ml + 11) + 32 * n ≤ R.locals; omega⟩, E.2.2.2.2.1 _ g2 rfl, E.2.2.2.2.1 _ g3 rfl⟩
    have hrecv : ∃ cellB : Cell, H[f qr]? = some cellB ∧ cellB.vm.isStatics = false ∧ s.vm.findClass y.cls = some cellB.cls := by
      split at m9
      · next r' hr' =>
        simp only [Bool.and_eq_true, decide_eq_true_eq] at m9
        obtain ⟨cl, g1, g2, g3, -⟩ := xobj hR (xnew64 E hR hq m9.2) hq m9.2
        exact ⟨cl, g1, by rw [g3]; rfl, by rw [g2, ← m9.1]; exact (E.2.2.2.2.2.1.1 _ _ hr').2.1⟩
      · simp only [Bool.and_eq_true, decide_eq_true_eq] at m9
        obtain ⟨e1, e2⟩ := m9
        subst e1
        have hlt : qr < 64 := by
          by_cases hlt : qr < 64
          · exact hlt
          · rcases hR.2.2.1 qr (by omega) (xRel_lt hR (by rw [hq]; decide)) with ⟨z, -⟩ | ⟨z, -⟩
            · rw [hq] at z; exact absurd z (by decide)
            · rw [hq] at z; exact absurd z.2 (by decide)
        have e3 := (hR.2.2.2.2.1 qr hlt).1
        obtain ⟨d1, -⟩ := E.2.2.2.2.2.2.1.2.2.1 qr 0 hlt (e3.symm.trans hq)
        obtain ⟨cl, k1, k2, k3, -⟩ := d1.kept hS.2.1
        exact ⟨cl, k1, k2, by rw [e2]; exact k3⟩
    refine va_runV (Ts := lw_tbl.filter goodWord) (nL := nL) ⟨E.1, E.2.1, E.2.2.1, E.2.2.2.1, hts⟩ hM hcb ⟨xPc_blind, hrecv, fun U hU hW => ?_⟩ rfl (by rw [List.length_map]; exact hna) hls rfl (by
      show 2 * 0 + _ ≤ 8
      rw [xcs_eq]; omega) hdg hf
    exact xPre E hR hS (.ref qr :: as) U hU hW
  next => cases hmo
theorem xs_runS (E : xEnv p s m args c cc nL own dC dI cA f B h0) (hR : xRel dC dI cA f B h0 h H) (hS : va_S (xA B) s.heap H locs) {n x : Nat} {y : MethodName} {b : ByteArray} {ml : Nat} {rt : Option FieldType} {cd : List (List xop)} {na tg mc ms rc : Nat} {ps : List Nat} {ts : List (Int32 × Nat)} {Q' : Option Value → xh → Prop} {as r : List Value}
    (hM : Met l y (Cond.code y b ml rt :: lw_tbl.filter goodWord) ({ frames := n, cells := mc, slots := ms, locals := 32 * n } : Room) (xPc dC dI cA f B h0 h as) (xQc dC dI cA f B h0 Q') mc ms (xA B))
    (hmo : xmo (y, b, ml, rt, cd, 0, na, tg, mc, ms, rc, ps) = true) (hl : xlk own x y ts = true) (hna : as.length = na) (hfr : n + 1 ≤ R.frames) (hlo : 32 * (n + 1) ≤ R.locals) (hcs : xcs r ≤ 8) (hls : ls.size = nL) (hdg : decode cc pc = .ok (.invokestatic x, 3)) (hf : cells + mc ≤ R.cells ∧ slots + ms ≤ R.slots) :
    va_Run p l e R s m args below meth c H locs cells slots mc ms (F0 m pc ls ((as.map (xtv f)).reverse ++ r.map (xtv f))) (r.map (xtv f)) (xQc dC dI cA f B h0 Q' (as.map (xtv f)).toArray) (xA B) := by
  have hts := xtsF E
  unfold xmo at hmo
  split at hmo
  next y' b' ml' rt' cd' kd' na' tg' mc' ms' rc' p0 p1 p2 p3 heq =>
    simp only [Prod.mk.injEq] at heq
    obtain ⟨rfl, rfl, rfl, rfl, rfl, rfl, rfl, rfl, rfl, rfl, rfl, rfl⟩ := heq
    simp only [Bool.and_eq_true, decide_eq_true_eq] at hmo
    obtain ⟨m0, m1, m2, m4, m5, m6, m7, m8, -, m10, m11⟩ := hmo
    have g0 := List.mem_of_getElem? m0
    have g1 := List.mem_of_getElem? m1
    have g2 := List.mem_of_getElem? m2
    have hG := xwd_good (y, b, ml, rt, cd, 0, na, tg, mc, ms, rc, [p0, p1, p2, p3]) g0
    have hRm : n + 1 ≤ R.frames ∧ 8 + (ml + 11) + 32 * n ≤ R.locals := ⟨hfr, by omega⟩
    unfold xlk at hl
    split at hl
    · next pl =>
      have hl2 := List.mem_of_getElem? (of_decide_eq_true hl)
      refine va_runS (Ts := lw_tbl.filter goodWord) (nL := nL) ⟨E.1, E.2.1, E.2.2.1, E.2.2.2.1, hts⟩ hM ⟨callB_of na hts hG rfl rfl rfl (E.2.2.2.2.1 _ g1 rfl) (E.2.2.2.2.1 _ hl2 rfl) ⟨m4.1, m4.2, m5⟩ hRm, E.2.2.2.2.1 _ g2 rfl⟩ ⟨xPc_blind, fun U hU hW => xPre E hR hS as U hU hW⟩ rfl (by rw [List.length_map]; exact hna) hls rfl (by
        show 2 * 0 + _ ≤ 8
        rw [xcs_eq]; omega) hdg hf
    · have hl2 := E.2.2.2.2.2.2.1.2.2.2.2.2.2.2.1 _ (of_decide_eq_true hl)
      refine va_runSN (Ts := lw_tbl.filter goodWord) (nL := nL) (host := "SoupNine") ⟨E.1, E.2.1, E.2.2.1, E.2.2.2.1, hts⟩ hM ⟨va_cnB na hts hG rfl rfl rfl hl2 (E.2.2.2.2.1 _ g1 rfl) ⟨m4.1, m4.2, m5⟩ hRm, E.2.2.2.2.1 _ g2 rfl, trivial⟩ ⟨xPc_blind, fun U hU hW => xPre E hR hS as U hU hW⟩ rfl (by rw [List.length_map]; exact hna) hls rfl (by
        show 2 * 0 + _ ≤ 8
        rw [xcs_eq]; omega) hdg hf
    · cases hl
  next => cases hmo
theorem xs_runI (E : xEnv p s m args c cc nL own dC dI cA f B h0) (hR : xRel dC dI cA f B h0 h H) (hS : va_S (xA B) s.heap H locs) {n x qr : Nat} {y : MethodName} {b : ByteArray} {ml : Nat} {rt : Option FieldType} {cd : List (List xop)} {na tg mc ms rc : Nat} {ps : List Nat} {ts : List (Int32 × Nat)} {Q' : Option Value → xh → Prop} {as r : List Value}
    (hM : Met l y (Cond.code y b ml rt :: lw_tbl.filter goodWord) ({ frames := n, cells := mc, slots := ms, locals := 32 * n } : Room) (xPc dC dI cA f B h0 h (.ref qr :: as)) (xQc dC dI cA f B h0 Q') mc ms (xA B))
    (hmo : xmo (y, b, ml, rt, cd, 2, na, tg, mc, ms, rc, ps) = true) (hl : xlk own x y ts = true) (hna : as.length = na) (hfr : n + 1 ≤ R.frames) (hlo : 32 * (n + 1) ≤ R.locals) (hcs : xcs r ≤ 8) (hls : ls.size = nL) (hdg : decode cc pc = .ok (.invokespecial x, 3)) (hf : cells + mc ≤ R.cells ∧ slots + ms ≤ R.slots) :
    va_Run p l e R s m args below meth c H locs cells slots mc ms (F0 m pc ls ((as.map (xtv f)).reverse ++ .ref (f qr) :: r.map (xtv f))) (r.map (xtv f)) (xQc dC dI cA f B h0 Q' (Value.ref (f qr) :: as.map (xtv f)).toArray) (xA B) := by
  have hts := xtsF E
  unfold xmo at hmo
  split at hmo
  next y' b' ml' rt' cd' kd' na' tg' mc' ms' rc' p0 p1 p2 p3 heq =>
    simp only [Prod.mk.injEq] at heq
    obtain ⟨rfl, rfl, rfl, rfl, rfl, rfl, rfl, rfl, rfl, rfl, rfl, rfl⟩ := heq
    simp only [Bool.and_eq_true, decide_eq_true_eq] at hmo
    obtain ⟨m0, m1, ⟨m2, m3, mr⟩, m4, m5, m6, m7, m8, m9, m10, m11⟩ := hmo
    subst mr
    have g0 := List.mem_of_getElem? m0
    have g1 := List.mem_of_getElem? m1
    have g2 := List.mem_of_getElem? m2
    have hG := xwd_good (y, b, ml, none, cd, 2, na, tg, mc, ms, rc, [p0, p1, p2, p3]) g0
    have hRm : n + 1 ≤ R.frames ∧ 8 + (ml + 11) + 32 * n ≤ R.locals := ⟨hfr, by omega⟩
    unfold xlk at hl
    split at hl
    · next pl =>
      have hl2 := List.mem_of_getElem? (of_decide_eq_true hl)
      refine va_runI (Ts := lw_tbl.filter goodWord) (nL := nL) ⟨E.1, E.2.1, E.2.2.1, E.2.2.2.1, hts⟩ hM ⟨callB_of na hts hG rfl rfl rfl (E.2.2.2.2.1 _ g1 rfl) (E.2.2.2.2.1 _ hl2 rfl) ⟨m4.1, m4.2, m5⟩ hRm, m3, E.2.2.2.2.1 _ g2 rfl⟩ ⟨xPc_blind, fun U hU hW => xPre E hR hS (.ref qr :: as) U hU hW⟩ rfl (by rw [List.length_map]; exact hna) hls rfl (by
        show 2 * 0 + _ ≤ 8
        rw [xcs_eq]; omega) hdg hf
    · have hl2 := E.2.2.2.2.2.2.1.2.2.2.2.2.2.2.1 _ (of_decide_eq_true hl)
      refine va_runIN (Ts := lw_tbl.filter goodWord) (nL := nL) (host := "SoupNine") ⟨E.1, E.2.1, E.2.2.1, E.2.2.2.1, hts⟩ hM ⟨va_cnB na hts hG rfl rfl rfl hl2 (E.2.2.2.2.1 _ g1 rfl) ⟨m4.1, m4.2, m5⟩ hRm, m3, E.2.2.2.2.1 _ g2 rfl⟩ ⟨xPc_blind, fun U hU hW => xPre E hR hS (.ref qr :: as) U hU hW⟩ rfl (by rw [List.length_map]; exact hna) hls rfl (by
        show 2 * 0 + _ ≤ 8
        rw [xcs_eq]; omega) hdg hf
    · cases hl
  next => cases hmo
end XCL
