-- the skeleton's own text (a starting text), up to lw_At; then the start by the abstract machine
/-! THE CLAIM OUT OF ONE WALK OF THE LAW'S BODY. Your part is whole_start (and what it stands on); all else here is the same for every law, but numbers. -/
def R_law : String := "SoupNineLaw"
def lw_P (b : Addr) (xs : List Int32) (args : Array Value) (s : State) : Prop := args = #[.ref b] ∧ s.IntsAt b xs ∧ xs.length ≤ 3584 ∧ (Jvm.Cond.and given_1 narrow_1).before args s = true
def lw_Q (_ : Array Value) (s : State) (o : Outcome) (t : State) : Prop := o = .returned (some (.int 1)) ∧ Framed s o t [] 600000 7302249
def lw_Z (below : List Frame) (a : Array Value) (s : State) : State → Prop := fun t => ∃ o, t.status = .running ∧ Ended t below o ∧ lw_Q a s o t
/-- the law's own end, with 1 on the stack, nothing written that was there before, its room as the claim has it -/
theorem lw_ret {p : Program} {l : Launch} {e : Env} {s : State} {m : MethodId} {below : List Frame} {meth : Method} {c : Code} {b : Nat} (hx : p.tables.exec = Jvm.exec) (hb : c.code = code) (hr : meth.sig.returnType = ret) (hlocks : meth.locks = false) {pc : Nat} {H : Heap} {ls : Array Slot} (hdg : decode code pc = .ok (.ireturn, 1)) : W p l e room_1 s m #[Value.ref b] below meth c H [] 600000 7302249 (lw_Z below #[Value.ref b] s) (F0 m pc ls [.int 1]) := by
  intro T hT X
  obtain ⟨fs, hret, hrun, hended, hW, hframe⟩ := X.leave (v := some (.int 1)) (hlocks := hlocks) (fun h => by rw [hr] at h; cases h)
  have hmeth' : T.vm.method? m = some meth := X.method'
  refine ⟨T.setFrames fs, ?_, .returned (some (.int 1)), hrun, hended, rfl, ⟨_, rfl⟩, hW, hframe⟩
  jvm_step X.here [X.here.top, hx, hb, hdg, hmeth', hr, ret, narrow_b1]
  (try refine ⟨rfl, ?_⟩); (try refine ⟨rfl, ?_⟩)
  first | (intro acts; rw [hret _ acts rfl rfl rfl]) | rw [hret _ _ rfl rfl rfl]
  exact Steps.refl _
/-- what holds at the law's entry: the machine, the code, the tables' words (any of lw_tbl by 'hts w (by decide +kernel)'), the script of L ints xs at the cell b, what the Statement gives of the start (any of its parts by flat_of_before) -/
def lw_At (p : Program) (s : State) (m : MethodId) (meth : Method) (c : Code) (b L : Nat) (xs : Nat → Int32) : Prop :=
  p.tables.exec = Jvm.exec ∧ c.code = code ∧ meth.sig.returnType = ret ∧ c.maxLocals = 4 ∧ s.vm.findClass R_law = some m.cls ∧ (∀ w ∈ lw_tbl, w.before #[Value.ref b] s = true) ∧ va_X b L xs s s.heap ∧ b < s.heap.size ∧ meth.locks = false ∧ (Jvm.Cond.and given_1 narrow_1).before #[Value.ref b] s = true
def xf0 (b : Nat) (t : Nat → Nat) (u : Nat) (adK adV : Nat → Nat) (B k : Nat) : Nat := if k < 64 then (if k = 0 then b else if k < 5 then t (k - 1) else if k = 5 then u else if 8 ≤ k ∧ k < 30 then adK (k - 8) else if 32 ≤ k ∧ k < 54 then adV (k - 32) else 0) else B + (k - 64)
theorem xcA_of {s : State} {args : Array Value} (hts : ∀ w ∈ lw_tbl, w.before args s = true) : ∃ cA : Nat → ClassId, ∀ (k : Nat) (q : ClassId × FieldType), (xtys cA)[k]? = some q → ArrOfT s q.1 q.2 ∧ va_RA s q.1 q.2 := by
  have prim : ∀ ty : FieldType, Cond.arrayClass ty ∈ lw_tbl → (∀ C, ty ≠ .object C) → ∃ cA, ArrOfT s cA ty ∧ va_RA s cA ty := by
    intro ty hw hne
    obtain ⟨cA, k, comp, h1, h2, h3⟩ := Cond.arrayClass_spec (hts _ hw)
    refine ⟨cA, fun n z => ⟨fun k h => (by cases h), k, h2, comp, h3⟩, ?_⟩
    cases ty with
    | object C => exact absurd rfl (hne C)
    | _ => exact h1
  have obj : ∀ C : String, C ∈ xovr → ∃ cA, ArrOfT s cA (.object C) ∧ va_RA s cA (.object C) := by
    intro C hC
    obtain ⟨comp, cA, k, h1, -, h2, h3, h4⟩ := Cond.arrayOver_spec (hts _ (xn_ovr C hC))
    exact ⟨cA, fun n z => ⟨fun k h => (by cases h), k, h2, comp, h3⟩, k, comp, h2, h3, h1, h4⟩
  obtain ⟨c0, p0⟩ := prim .int xarr_in.1 (fun C h => by cases h)
  obtain ⟨c1, p1⟩ := prim .byte xarr_in.2.1 (fun C h => by cases h)
  obtain ⟨c2, p2⟩ := prim .long xarr_in.2.2.1 (fun C h => by cases h)
  obtain ⟨c3, p3⟩ := prim .boolean xarr_in.2.2.2 (fun C h => by cases h)
  obtain ⟨c4, p4⟩ := obj "SoupNine$Told" (by decide)
  obtain ⟨c5, p5⟩ := obj "SoupNine$Town" (by decide)
  obtain ⟨c6, p6⟩ := obj "SoupNine$Evening" (by decide)
  obtain ⟨c7, p7⟩ := obj "SoupNine$Book" (by decide)
  obtain ⟨c8, p8⟩ := obj "SoupNine$Sheet" (by decide)
  refine ⟨fun k => [c0, c1, c2, c3, c4, c5, c6, c7, c8].getD (k - 20) 0, fun k q hq => ?_⟩
  match k, hq with
  | 0, hq => cases hq; exact p0
  | 1, hq => cases hq; exact p1
  | 2, hq => cases hq; exact p2
  | 3, hq => cases hq; exact p3
  | 4, hq => cases hq; exact p4
  | 5, hq => cases hq; exact p5
  | 6, hq => cases hq; exact p6
  | 7, hq => cases hq; exact p7
  | 8, hq => cases hq; exact p8
  | k + 9, hq => simp [xtys] at hq
theorem xdC_of {s : State} {args : Array Value} (hts : ∀ w ∈ lw_tbl, w.before args s = true) : ∃ (dC : Nat → ClassId) (dI : Nat → Nat → Nat), ∀ (k : Nat) (q : vw_C), xcls[k]? = some q → u_Kn s q.1 q.2.1 q.2.2 (dC k) (dI k) := by
  have h : ∀ t : Nat, ∃ d : ClassId × (Nat → Nat), ∀ q : vw_C, xcls[t]? = some q → u_Kn s q.1 q.2.1 q.2.2 d.1 d.2 := by
    intro t
    cases hq : xcls[t]? with
    | none => exact ⟨(0, fun _ => 0), fun q h => by cases h⟩
    | some r =>
      have hm := List.mem_of_getElem? hq
      obtain ⟨cC, iS, hk⟩ := u_known (args := args) hts (xcls_in r hm) (hts _ (xcls_inst r hm).1)
      exact ⟨(cC, iS), fun q h => by cases h; exact hk⟩
  obtain ⟨g, hg⟩ := Classical.axiomOfChoice h
  exact ⟨fun k => (g k).1, fun k => (g k).2, fun k q hq => hg k q hq⟩
set_option maxHeartbeats 4000000 in
/-- the law from its entry, out of the abstract machine's law -/
theorem xstart (hmt : ∀ q ∈ xmt, xmo q = true) (hmd : ∀ q ∈ xmt, xmd q = true) (hlawd : xdc "SoupNineLaw" 4 false (some .boolean) code 0 cd_law = true) (hlaw : ∀ (L : Nat) (xs : Nat → Int32), L ≤ 3584 → xW (xMC 11) cd_law 600000 7302249 (fun v _ => v = some (.int 1)) 0 [some (.ref 0), none, none, none] [] (xh0 L xs) 0 0)
    {p : Program} {e : Env} {s : State} {m : MethodId} {below : List Frame} {meth : Method} {c : Code} (l : Launch) {b L : Nat} {xs : Nat → Int32} (hL : L ≤ 3584) (C0 : lw_At p s m meth c b L xs) : W p l e room_1 s m #[Value.ref b] below meth c s.heap [] 0 0 (lw_Z below #[Value.ref b] s) (entryFrame m ([Value.ref b] : List Value).toArray 4) := by
  obtain ⟨hx, hb, hr, hml, hown, hts, hX, hbl, hlocks, hgv⟩ := C0
  have hs := flat_of_before xgn hgv
  have hA : ∀ a : Nat, a < s.heap.size → ¬ xA s.heap.size a := fun a h => Nat.not_le.mpr h
  obtain ⟨cA, hcA⟩ := xcA_of hts
  obtain ⟨dC, dI, hdC⟩ := xdC_of hts
  have hT : ∀ i : Nat, ∃ t : Nat, i < 4 → (Term.static "SoupNine$Reader" (xtn.getD i "") "[I").eval #[Value.ref b] s none [] s = some (.ref t) ∧ va_T .int t (xtab.getD i []).length (fun j => .int ((xtab.getD i []).getD j 0)) (xA s.heap.size) s s.heap := by
    intro i
    by_cases hi : i < 4
    · obtain ⟨h1, h2, h3⟩ := xn_tab i hi
      have hlt : (xtab.getD i []).length < 2 ^ 31 := by
        have : ∀ i, i < 4 → (xtab.getD i []).length < 2 ^ 31 := by decide
        exact this i hi
      obtain ⟨t, e1, e2⟩ := va_Tof (f := fun j => .int ((xtab.getD i []).getD j 0)) (A := xA s.heap.size) hlt (hs _ h1) (va_eqt (hs _ h2)) (fun j hj => va_eqt (hs _ (h3 j hj))) hA
      exact ⟨t, fun _ => ⟨e1, e2⟩⟩
    · exact ⟨0, fun h => absurd h hi⟩
  obtain ⟨t, ht⟩ := Classical.axiomOfChoice hT
  obtain ⟨adK, adV, hSt, hSe⟩ := vk_Sof (N := 22) (tm := xsm) (len := xsln) (byt := xbyt) (A := xA s.heap.size) xn_len (fun i hi => hs _ (xn_s1 i hi).1) (fun i hi => hs _ (xn_s1 i hi).2.1) (fun i hi => hs _ (xn_s1 i hi).2.2.1) (fun i hi => hs _ (xn_s1 i hi).2.2.2) (fun i hi j hj => hs _ (xn_s2 i hi j hj)) (fun i j hi hj hne => by
    rcases Nat.lt_or_gt_of_ne hne with h | h
    · rcases xn_s3 j hj i h with q | q
      · exact Or.inr (hs _ q)
      · exact Or.inl (hs _ q)
    · rcases xn_s3 i hi j h with q | q
      · exact Or.inl (hs _ q)
      · exact Or.inr (hs _ q)) hA
  obtain ⟨i1, i2, i3, i4, i5⟩ := xn_ini
  have hu : ∃ u : Nat, va_Z "jdk/internal/util/Preconditions" "SIOOBE_FORMATTER" "Ljava/util/function/BiFunction;" .null (xA s.heap.size) s s.heap ∨ va_Z "jdk/internal/util/Preconditions" "SIOOBE_FORMATTER" "Ljava/util/function/BiFunction;" (.ref u) (xA s.heap.size) s s.heap := by
    rcases va_Zqof (hts _ i5) (hts _ i3) (hs _ xn_com.2) hA with h | ⟨u, h⟩
    · exact ⟨0, Or.inl h⟩
    · exact ⟨u, Or.inr h⟩
  obtain ⟨u, hu⟩ := hu
  generalize hf0 : xf0 b t u adK adV s.heap.size = f
  have hf : ∀ k, 64 ≤ k → f k = s.heap.size + (k - 64) := fun k hk => by rw [← hf0]; unfold xf0; rw [if_neg (by omega)]
  have fT : ∀ i, i < 4 → f (i + 1) = t i := fun i hi => by
    rw [← hf0]; unfold xf0
    rw [if_pos (by omega), if_neg (by omega), if_pos (by omega)]; rfl
  have f5 : f 5 = u := by rw [← hf0]; rfl
  have fb : f 0 = b := by rw [← hf0]; rfl
  have fK : ∀ k, 8 ≤ k → k < 30 → f k = adK (k - 8) := fun k h1 h2 => by
    rw [← hf0]; unfold xf0
    rw [if_pos (by omega), if_neg (by omega), if_neg (by omega), if_neg (by omega), if_pos ⟨h1, h2⟩]
  have fV : ∀ k, 32 ≤ k → k < 54 → f k = adV (k - 32) := fun k h1 h2 => by
    rw [← hf0]; unfold xf0
    rw [if_pos (by omega), if_neg (by omega), if_neg (by omega), if_neg (by omega), if_neg (by omega), if_pos ⟨h1, h2⟩]
  have hTZ : ∀ i, i < 4 → va_Z "SoupNine$Reader" (xtn.getD i "") "[I" (.ref (f (i + 1))) (xA s.heap.size) s s.heap := fun i hi => by
    rw [fT i hi]
    exact va_Zref (hts _ (xn_tab2 i hi)) (hts _ i1) (ht i hi).1 hA
  have hC : xCon f (xh0 L xs) s.heap.size s s.heap := by
    refine ⟨fun k n hk e1 => ?_, fun k n hk e1 => ?_, fun k n hk e1 => ?_, fun k hk => ?_, ⟨hTZ 0 (by omega), hTZ 1 (by omega), hTZ 2 (by omega), hTZ 3 (by omega), va_Zof (hts _ i4) (hts _ i2) (va_eqi (hs _ xn_com.1)) hA⟩, by rw [f5]; exact hu, fun q hq => ?_, fun q hq => va_Nw.of rfl (hts _ (xn_nst q hq)), fun C hC => va_AO.of (hts _ (xn_ovr C hC))⟩
    · change (if k = 0 then (20, L) else if k < 5 then (20, (xtab.getD (k - 1) []).length) else if 8 ≤ k ∧ k < 30 then (30, 0) else if 32 ≤ k ∧ k < 54 then (21, xsln.getD (k - 32) 0) else (99, 0)) = (20, n) at e1
      by_cases h0 : k = 0
      · subst h0
        rw [if_pos rfl] at e1
        obtain rfl : L = n := by injection e1
        rw [fb]
        obtain ⟨scr, x1, x2, x3, x4, x5⟩ := hX
        exact ⟨scr, x1, x2, x3, Nat.le_of_eq x4.symm, by rw [x4] <;> rfl, fun j hj => x5 j hj, hA b hbl⟩
      · rw [if_neg h0] at e1
        by_cases h5 : k < 5
        · rw [if_pos h5] at e1
          obtain rfl : (xtab.getD (k - 1) []).length = n := by injection e1
          have := (ht (k - 1) (by omega)).2
          rw [← fT (k - 1) (by omega), show k - 1 + 1 = k by omega] at this
          have e2 : (fun j => Value.int ((xtab.getD (k - 1) []).getD j 0)) = fun j => .int (xI (xh0 L xs) k j) := by
            funext j
            show _ = Value.int (if k = 0 then xs j else if k < 5 then (xtab.getD (k - 1) []).getD j 0 else _)
            rw [if_neg h0, if_pos h5]
          rw [← e2]
          exact this
        · rw [if_neg h5] at e1
          split at e1
          · cases e1
          · split at e1
            · cases e1
            · cases e1
    · change (if k = 0 then (20, L) else if k < 5 then (20, (xtab.getD (k - 1) []).length) else if 8 ≤ k ∧ k < 30 then (30, 0) else if 32 ≤ k ∧ k < 54 then (21, xsln.getD (k - 32) 0) else (99, 0)) = (21, n) at e1
      split at e1
      · cases e1
      · next h0 =>
        split at e1
        · cases e1
        · next h5 =>
          split at e1
          · cases e1
          · split at e1
            · next h32 =>
              obtain rfl : xsln.getD (k - 32) 0 = n := by injection e1
              have := (hSt.1 (k - 32) (by omega)).2.2.2
              rw [← fV k h32.1 h32.2] at this
              have e2 : (fun j => Value.int ((xbyt.getD (k - 32) []).getD j 0)) = fun j => .int (xI (xh0 L xs) k j) := by
                funext j
                show _ = Value.int (if k = 0 then xs j else if k < 5 then (xtab.getD (k - 1) []).getD j 0 else if 32 ≤ k ∧ k < 54 then (xbyt.getD (k - 32) []).getD j 0 else 0)
                rw [if_neg h0, if_neg h5, if_pos h32]
              rw [← e2]
              exact this
            · cases e1
    · change (if k = 0 then (20, L) else if k < 5 then (20, (xtab.getD (k - 1) []).length) else if 8 ≤ k ∧ k < 30 then (30, 0) else if 32 ≤ k ∧ k < 54 then (21, xsln.getD (k - 32) 0) else (99, 0)) = (30, n) at e1
      split at e1
      · cases e1
      · next h0 =>
        split at e1
        · cases e1
        · next h5 =>
          split at e1
          · next h8 =>
            obtain ⟨d1, d2, d3, -⟩ := hSt.1 (k - 8) (by omega)
            rw [← fK k h8.1 h8.2] at d1 d2 d3
            refine ⟨d1, ?_, k + 24, ?_, ?_⟩
            · have e2 : xI (xh0 L xs) k 1 = 0 := by
                show (if k = 0 then xs 1 else if k < 5 then (xtab.getD (k - 1) []).getD 1 0 else if 32 ≤ k ∧ k < 54 then (xbyt.getD (k - 32) []).getD 1 0 else 0) = 0
                rw [if_neg h0, if_neg h5, if_neg (by omega)]
              rw [e2]
              exact d2
            · show (if (8 ≤ k ∧ k < 30) ∧ 0 = 0 then some (k + 24) else none) = some (k + 24)
              rw [if_pos ⟨h8, rfl⟩]
            · rw [fV (k + 24) (by omega) (by omega), show k + 24 - 32 = k - 8 by omega]
              exact d3
          · split at e1
            · cases e1
            · cases e1
    · show (if k = 0 then (20, L) else if k < 5 then (20, (xtab.getD (k - 1) []).length) else if 8 ≤ k ∧ k < 30 then (30, 0) else if 32 ≤ k ∧ k < 54 then (21, xsln.getD (k - 32) 0) else (99, 0)).1 = 20 ∨ (if k = 0 then (20, L) else if k < 5 then (20, (xtab.getD (k - 1) []).length) else if 8 ≤ k ∧ k < 30 then (30, 0) else if 32 ≤ k ∧ k < 54 then (21, xsln.getD (k - 32) 0) else (99, 0)).1 = 21 ∨ (if k = 0 then (20, L) else if k < 5 then (20, (xtab.getD (k - 1) []).length) else if 8 ≤ k ∧ k < 30 then (30, 0) else if 32 ≤ k ∧ k < 54 then (21, xsln.getD (k - 32) 0) else (99, 0)).1 = 30 ∨ (if k = 0 then (20, L) else if k < 5 then (20, (xtab.getD (k - 1) []).length) else if 8 ≤ k ∧ k < 30 then (30, 0) else if 32 ≤ k ∧ k < 54 then (21, xsln.getD (k - 32) 0) else (99, 0)).1 = 99
      by_cases h0 : k = 0
      · simp [h0]
      · by_cases h5 : k < 5
        · simp [h0, h5]
        · by_cases h8 : 8 ≤ k ∧ k < 30
          · simp [h0, h5, h8]
          · by_cases h32 : 32 ≤ k ∧ k < 54
            · simp [h0, h5, h8, h32]
            · simp [h0, h5, h8, h32]
    · obtain ⟨g1, g2, g3⟩ := xn_st2 q hq
      have h3 := hSe (q.2.2 - 8) (by omega)
      unfold xsm at h3
      rw [g3, ← fK q.2.2 g1 g2] at h3
      exact vk_R.of (hts _ (xn_str q hq)) (by rw [← h3])
  have E : xEnv p s m #[Value.ref b] c code 4 "SoupNineLaw" dC dI cA f s.heap.size (xh0 L xs) := ⟨hx, hb, hml, hown, fun w h1 _ => hts w h1, ⟨hdC, hcA⟩, hC, hf, Nat.le_refl _⟩
  have hret : xRet p l e room_1 s m #[Value.ref b] below meth c (lw_Z below #[Value.ref b] s) dC dI cA f s.heap.size (xh0 L xs) code (some .boolean) (fun v _ => v = some (.int 1)) := by
    intro v h' H locs lsA kc ks pc i hdg hok hq hR' hS' hc1 hc2
    subst hq
    rcases hok with ⟨rfl, -⟩ | ⟨rfl, ⟨x, h⟩, -⟩ | ⟨rfl, ⟨x, h⟩ | h, -⟩ | ⟨rfl, h, -⟩
    · refine va_forget (fun q hq => hS'.2.2 q hq) ?_
      refine W.widen (k := 600000) (n := 7302249) hc1 hc2 ?_
      exact lw_ret hx hb hr hlocks hdg
    · cases h
    · cases h
    · cases h
    · cases h
  have key := hlaw L xs hL (xKW p l e room_1 s m #[Value.ref b] below meth c (lw_Z below #[Value.ref b] s) 4 dC dI cA f s.heap.size (xh0 L xs)) (fun pc ls st h kc ks hF => xs_step (n := 11) (R := room_1) (ini := false) E (by decide) (by decide) (by decide) (fun h => by cases h) hmt (xMC_met hf hmt hmd 11) hret (xd_at hlawd pc) hF)
  have hRel : xRel dC dI cA f s.heap.size (xh0 L xs) (xh0 L xs) s.heap := by
    refine ⟨Nat.le_refl _, rfl, fun k h1 h2 => absurd h2 (by show ¬ k < 64; omega), fun k hk => ?_, fun k hk => ⟨rfl, rfl, rfl⟩, fun k h1 h2 => ?_⟩
    · have hk' : 64 ≤ k := hk
      show (if k = 0 then (20, L) else if k < 5 then (20, (xtab.getD (k - 1) []).length) else if 8 ≤ k ∧ k < 30 then (30, 0) else if 32 ≤ k ∧ k < 54 then (21, xsln.getD (k - 32) 0) else (99, 0)) = (99, 0)
      rw [if_neg (by omega), if_neg (by omega), if_neg (by omega), if_neg (by omega)]
    · exfalso
      have : (if k = 0 then (20, L) else if k < 5 then (20, (xtab.getD (k - 1) []).length) else if 8 ≤ k ∧ k < 30 then (30, 0) else if 32 ≤ k ∧ k < 54 then (21, xsln.getD (k - 32) 0) else (99, 0)).1 = 21 := h2
      rw [if_neg (by omega), if_neg (by omega), if_neg (by omega), if_neg (by omega)] at this
      cases this
  have hl := xlv_entry f (as := [.ref 0]) (nL := 4) (by decide) rfl
  rw [lg_entry_eq]
  have hl2 : xlv f ((lg_sl [Value.ref b] ++ List.replicate (4 - (lg_sl [Value.ref b]).length) Slot.unset).toArray) 4 [some (.ref 0), none, none, none] := by
    have e1 : ([Value.ref 0] : List Value).map (xtv f) = [Value.ref b] := by show [Value.ref (f 0)] = _; rw [fb]
    rw [e1] at hl
    exact hl
  exact key s.heap [] _ hRel va_S.rf hl2 (Nat.zero_le _) (Nat.zero_le _)
