/-! ONE STEP: an instruction of the abstract machine is one of the machine -/
def xKW (p : Program) (l : Launch) (e : Env) (R : Room) (s : State) (m : MethodId) (args : Array Value) (below : List Frame) (meth : Method) (c : Code) (QW : State → Prop) (nL : Nat) (dC : Nat → ClassId) (dI : Nat → Nat → Nat) (cA : Nat → ClassId) (f : Nat → Nat) (B : Nat) (h0 : xh) : Nat → List (Option Value) → List Value → xh → Nat → Nat → Prop :=
  fun pc ls st h kc ks => ∀ (H : Heap) (locs : List Loc) (lsA : Array Slot), xRel dC dI cA f B h0 h H → va_S (xA B) s.heap H locs → xlv f lsA nL ls → kc ≤ R.cells → ks ≤ R.slots → W p l e R s m args below meth c H locs kc ks QW (F0 m pc lsA (st.map (xtv f)))
/-- what a return gives back -/
def xrok (rt : Option FieldType) (i : Instr) (v : Option Value) : Prop :=
  (i = .ireturn ∧ ∃ x ty, v = some (.int x) ∧ rt = some ty ∧ narrow ty (.int x) = .int x) ∨ (i = .lreturn ∧ (∃ x, v = some (.long x)) ∧ rt = some .long) ∨ (i = .areturn ∧ ((∃ q, v = some (.ref q)) ∨ v = some .null) ∧ ∃ ty, rt = some ty ∧ ((∃ n, ty = .object n) ∨ ∃ t, ty = .array t)) ∨ (i = .return_ ∧ v = none ∧ rt = none)
def xRet (p : Program) (l : Launch) (e : Env) (R : Room) (s : State) (m : MethodId) (args : Array Value) (below : List Frame) (meth : Method) (c : Code) (QW : State → Prop) (dC : Nat → ClassId) (dI : Nat → Nat → Nat) (cA : Nat → ClassId) (f : Nat → Nat) (B : Nat) (h0 : xh) (cc : ByteArray) (rt : Option FieldType) (Qa : Option Value → xh → Prop) : Prop :=
  ∀ (v : Option Value) (h' : xh) (H : Heap) (locs : List Loc) (lsA : Array Slot) (kc ks pc : Nat) (i : Instr), decode cc pc = .ok (i, 1) → xrok rt i v → Qa v h' → xRel dC dI cA f B h0 h' H → va_S (xA B) s.heap H locs → kc ≤ R.cells → ks ≤ R.slots → W p l e R s m args below meth c H locs kc ks QW (F0 m pc lsA (v.toList.map (xtv f)))
/-- the contracts of the methods that may be called -/
def xCon2 (l : Launch) (n : Nat) (MC : Nat → List Value → xh → (Option Value → xh → Prop) → Prop) (dC : Nat → ClassId) (dI : Nat → Nat → Nat) (cA : Nat → ClassId) (f : Nat → Nat) (B : Nat) (h0 : xh) : Prop :=
  ∀ (j : Nat) (q : xme) (as : List Value) (h : xh) (Q' : Option Value → xh → Prop), xmt[j]? = some q → MC j as h Q' → Met l q.1 (Cond.code q.1 q.2.1 q.2.2.1 q.2.2.2.1 :: lw_tbl.filter goodWord) ({ frames := n, cells := q.2.2.2.2.2.2.2.2.1, slots := q.2.2.2.2.2.2.2.2.2.1, locals := 32 * n } : Room) (xPc dC dI cA f B h0 h as) (xQc dC dI cA f B h0 Q') q.2.2.2.2.2.2.2.2.1 q.2.2.2.2.2.2.2.2.2.1 (xA B)
theorem xtsw {pc : Nat} {x : Int32} {K : Nat → Prop} : ∀ (lo : Int) (os : List Int) (ts : List (Int32 × Nat)) (d : Nat), xts pc lo os ts = true → xsw x K ts d →
    (∀ i : Nat, ∀ off, os[i]? = some off → x.toInt = lo + i → ∃ t : Nat, (pc : Int) + off = (t : Int) ∧ K t) ∧ ((x.toInt < lo ∨ lo + os.length ≤ x.toInt) → K d)
  | lo, [], [], d, _, hs => ⟨fun i off h => by simp at h, fun _ => hs⟩
  | lo, [], _ :: _, d, h, _ => by cases h
  | lo, _ :: _, [], d, h, _ => by cases h
  | lo, o :: os, t :: ts, d, h, hs => by
    simp only [xts, Bool.and_eq_true, decide_eq_true_eq] at h
    obtain ⟨h1, h2, h3⟩ := h
    obtain ⟨s1, s2⟩ := hs
    by_cases hx : x = t.1
    · refine ⟨fun i off hi he => ?_, fun hr => ?_⟩
      · have e0 : i = 0 := by rw [hx, h1] at he; omega
        subst e0
        have : o = off := by simpa using hi
        subst this
        exact ⟨t.2, h2, s1 hx⟩
      · rw [hx, h1] at hr
        simp only [List.length_cons] at hr
        omega
    · obtain ⟨r1, r2⟩ := xtsw (lo + 1) os ts d h3 (s2 hx)
      have hne : x.toInt ≠ lo := fun z => hx (Int32.toInt_inj.mp (z.trans h1.symm))
      refine ⟨fun i off hi he => ?_, fun hr => r2 ?_⟩
      · cases i with
        | zero => exact absurd (by simpa using he) hne
        | succ i =>
          refine r1 i off (by simpa using hi) (by rw [he]; push_cast; omega)
      · simp only [List.length_cons] at hr
        push_cast at hr
        omega
section XST
variable {p : Program} {l : Launch} {e : Env} {R : Room} {s : State} {m : MethodId} {args : Array Value} {below : List Frame} {meth : Method} {c : Code} {QW : State → Prop} {cc : ByteArray} {nL : Nat} {own : String} {dC : Nat → ClassId} {dI : Nat → Nat → Nat} {cA : Nat → ClassId} {f : Nat → Nat} {B : Nat} {h0 : xh}
theorem xs_cm {MC : Nat → List Value → xh → (Option Value → xh → Prop) → Prop} {rc j mc ms pc : Nat} {as r : List Value} {h : xh} {ls : List (Option Value)} {kc ks : Nat} {H : Heap} {locs : List Loc} {lsA : Array Slot} {st : List Value}
    (hcm : xcm MC R.cells R.slots rc j mc ms as h (fun st h kc ks => xKW p l e R s m args below meth c QW nL dC dI cA f B h0 (pc + 3) ls st h kc ks) kc ks r) (h00 : mc = 0 → ms = 0) (hS : va_S (xA B) s.heap H locs) (hl : xlv f lsA nL ls) (hc1 : kc ≤ R.cells) (hc2 : ks ≤ R.slots) {av : Array Value}
    (hrun : ∀ Q' : Option Value → xh → Prop, MC j as h Q' → xcs r ≤ 8 → kc + mc ≤ R.cells ∧ ks + ms ≤ R.slots → va_Run p l e R s m args below meth c H locs kc ks mc ms (F0 m pc lsA st) (r.map (xtv f)) (xQc dC dI cA f B h0 Q' av) (xA B)) : W p l e R s m args below meth c H locs kc ks QW (F0 m pc lsA st) := by
  have key : ∀ kc' ks', kc' = kc + mc → ks' = ks + ms → kc + mc ≤ R.cells ∧ ks + ms ≤ R.slots → xcs r ≤ 8 → xcall MC rc j as h (fun st h' => xKW p l e R s m args below meth c QW nL dC dI cA f B h0 (pc + 3) ls st h' kc' ks') r → W p l e R s m args below meth c H locs kc ks QW (F0 m pc lsA st) := by
    intro kc' ks' e1 e2 hb hcs hc
    subst e1; subst e2
    unfold xcall at hc
    split at hc
    · refine xs_back hS (hrun _ hc hcs hb) fun v h' H1 locs1 hq hR1 hS1 => ?_
      split at hq
      · exact hq H1 locs1 lsA hR1 hS1 hl hb.1 hb.2
      · exact hq.elim
    · refine xs_back hS (hrun _ hc hcs hb) fun v h' H1 locs1 hq hR1 hS1 => ?_
      split at hq
      · exact hq H1 locs1 lsA hR1 hS1 hl hb.1 hb.2
      · exact hq.elim
    · refine xs_back hS (hrun _ hc hcs hb) fun v h' H1 locs1 hq hR1 hS1 => ?_
      split at hq
      · exact hq.1 _ rfl H1 locs1 lsA hR1 hS1 hl hb.1 hb.2
      · exact hq.2 rfl H1 locs1 lsA hR1 hS1 hl hb.1 hb.2
      · exact hq.elim
    · refine xs_back hS (hrun _ hc hcs hb) fun v h' H1 locs1 hq hR1 hS1 => ?_
      split at hq
      · exact hq H1 locs1 lsA hR1 hS1 hl hb.1 hb.2
      · exact hq.elim
  unfold xcm at hcm
  split at hcm
  · exact hcm.elim
  · next hble =>
    have hcs : xcs r ≤ 8 := Nat.le_of_ble_eq_true hble
    cases mc with
    | zero =>
      have e0 : ms = 0 := h00 rfl
      subst e0
      exact key kc ks rfl rfl ⟨hc1, hc2⟩ hcs hcm
    | succ mc =>
      exact key _ _ rfl rfl hcm.1 hcs hcm.2
theorem xf_inj (hf : ∀ k, 64 ≤ k → f k = B + (k - 64)) {x y : Nat} (g1 : 64 ≤ x) (g2 : 64 ≤ y) (h : f x = f y) : x = y := by
  rw [hf x g1, hf y g2] at h
  omega
theorem xmo_00 {y : MethodName} {b : ByteArray} {ml : Nat} {rt : Option FieldType} {cd : List (List xop)} {kd na tg mc ms rc : Nat} {ps : List Nat} (hmo : xmo (y, b, ml, rt, cd, kd, na, tg, mc, ms, rc, ps) = true) : mc = 0 → ms = 0 := by
  unfold xmo at hmo
  split at hmo
  next y' b' ml' rt' cd' kd' na' tg' mc' ms' rc' p0 p1 p2 p3 heq =>
    simp only [Prod.mk.injEq] at heq
    obtain ⟨rfl, rfl, rfl, rfl, rfl, rfl, rfl, rfl, rfl, rfl, rfl, rfl⟩ := heq
    simp only [Bool.and_eq_true, decide_eq_true_eq] at hmo
    exact hmo.2.2.2.2.2.2.1
  next => cases hmo
theorem xobj_in : Cond.instanceMethod objectInit ∈ lw_tbl ∧ Cond.code objectInit ⟨#[0xb1]⟩ 1 none ∈ lw_tbl := by decide +kernel
set_option maxHeartbeats 4000000 in
set_option maxRecDepth 100000 in
theorem xz_iconst {MC : Nat → List Value → xh → (Option Value → xh → Prop) → Prop} {Qa : Option Value → xh → Prop} {n : Nat} {ini : Bool} {rt : Option FieldType} (E : xEnv p s m args c cc nL own dC dI cA f B h0) (hRs : R.slots ≤ 8000000) (hfr : n + 1 ≤ R.frames) (hlo : 32 * (n + 1) ≤ R.locals) (hini : ini = true → meth.name = "<init>") (hmt : ∀ q ∈ xmt, xmo q = true) (hMC : xCon2 l n MC dC dI cA f B h0)
    (hret : xRet p l e R s m args below meth c QW dC dI cA f B h0 cc rt Qa) {pc : Nat} (n : Int) {nx a b c' e' f' g' : Nat} {k : Int32} {kl : Int64} {ts : List (Int32 × Nat)} {ls : List (Option Value)} {st : List Value} {h : xh} {kc ks : Nat} (hd : xd1 own nL ini rt cc pc (.iconst n, nx, a, b, c', e', f', g', k, kl, ts) = true)
    (hF : xF MC R.cells R.slots Qa (xKW p l e R s m args below meth c QW nL dC dI cA f B h0) (.iconst n, nx, a, b, c', e', f', g', k, kl, ts) ls st h kc ks) : xKW p l e R s m args below meth c QW nL dC dI cA f B h0 pc ls st h kc ks := by
  obtain ⟨hx, hb, hml, hown, hts, hK, hC, hf, hB⟩ := id E
  unfold xd1 at hd; dsimp only at hd; unfold xdt at hd; dsimp only at hd; simp only [Bool.and_eq_true, decide_eq_true_eq] at hd
  obtain ⟨hdg, rfl, hk⟩ := hd
  rw [Nat.add_sub_cancel_left] at hdg
  intro H locs lsA hR hS hl hc1 hc2
  exact lv_iconst hx hb hdg hk (hF H locs lsA hR hS hl hc1 hc2)
set_option maxHeartbeats 4000000 in
set_option maxRecDepth 100000 in
theorem xz_bipush {MC : Nat → List Value → xh → (Option Value → xh → Prop) → Prop} {Qa : Option Value → xh → Prop} {n : Nat} {ini : Bool} {rt : Option FieldType} (E : xEnv p s m args c cc nL own dC dI cA f B h0) (hRs : R.slots ≤ 8000000) (hfr : n + 1 ≤ R.frames) (hlo : 32 * (n + 1) ≤ R.locals) (hini : ini = true → meth.name = "<init>") (hmt : ∀ q ∈ xmt, xmo q = true) (hMC : xCon2 l n MC dC dI cA f B h0)
    (hret : xRet p l e R s m args below meth c QW dC dI cA f B h0 cc rt Qa) {pc : Nat} (n : Int) {nx a b c' e' f' g' : Nat} {k : Int32} {kl : Int64} {ts : List (Int32 × Nat)} {ls : List (Option Value)} {st : List Value} {h : xh} {kc ks : Nat} (hd : xd1 own nL ini rt cc pc (.bipush n, nx, a, b, c', e', f', g', k, kl, ts) = true)
    (hF : xF MC R.cells R.slots Qa (xKW p l e R s m args below meth c QW nL dC dI cA f B h0) (.bipush n, nx, a, b, c', e', f', g', k, kl, ts) ls st h kc ks) : xKW p l e R s m args below meth c QW nL dC dI cA f B h0 pc ls st h kc ks := by
  obtain ⟨hx, hb, hml, hown, hts, hK, hC, hf, hB⟩ := id E
  unfold xd1 at hd; dsimp only at hd; unfold xdt at hd; dsimp only at hd; simp only [Bool.and_eq_true, decide_eq_true_eq] at hd
  obtain ⟨hdg, rfl, hk⟩ := hd
  rw [Nat.add_sub_cancel_left] at hdg
  intro H locs lsA hR hS hl hc1 hc2
  exact lv_bipush hx hb hdg hk (hF H locs lsA hR hS hl hc1 hc2)
set_option maxHeartbeats 4000000 in
set_option maxRecDepth 100000 in
theorem xz_sipush {MC : Nat → List Value → xh → (Option Value → xh → Prop) → Prop} {Qa : Option Value → xh → Prop} {n : Nat} {ini : Bool} {rt : Option FieldType} (E : xEnv p s m args c cc nL own dC dI cA f B h0) (hRs : R.slots ≤ 8000000) (hfr : n + 1 ≤ R.frames) (hlo : 32 * (n + 1) ≤ R.locals) (hini : ini = true → meth.name = "<init>") (hmt : ∀ q ∈ xmt, xmo q = true) (hMC : xCon2 l n MC dC dI cA f B h0)
    (hret : xRet p l e R s m args below meth c QW dC dI cA f B h0 cc rt Qa) {pc : Nat} (n : Int) {nx a b c' e' f' g' : Nat} {k : Int32} {kl : Int64} {ts : List (Int32 × Nat)} {ls : List (Option Value)} {st : List Value} {h : xh} {kc ks : Nat} (hd : xd1 own nL ini rt cc pc (.sipush n, nx, a, b, c', e', f', g', k, kl, ts) = true)
    (hF : xF MC R.cells R.slots Qa (xKW p l e R s m args below meth c QW nL dC dI cA f B h0) (.sipush n, nx, a, b, c', e', f', g', k, kl, ts) ls st h kc ks) : xKW p l e R s m args below meth c QW nL dC dI cA f B h0 pc ls st h kc ks := by
  obtain ⟨hx, hb, hml, hown, hts, hK, hC, hf, hB⟩ := id E
  unfold xd1 at hd; dsimp only at hd; unfold xdt at hd; dsimp only at hd; simp only [Bool.and_eq_true, decide_eq_true_eq] at hd
  obtain ⟨hdg, rfl, hk⟩ := hd
  rw [Nat.add_sub_cancel_left] at hdg
  intro H locs lsA hR hS hl hc1 hc2
  exact lv_sipush hx hb hdg hk (hF H locs lsA hR hS hl hc1 hc2)
set_option maxHeartbeats 4000000 in
set_option maxRecDepth 100000 in
theorem xz_lconst {MC : Nat → List Value → xh → (Option Value → xh → Prop) → Prop} {Qa : Option Value → xh → Prop} {n : Nat} {ini : Bool} {rt : Option FieldType} (E : xEnv p s m args c cc nL own dC dI cA f B h0) (hRs : R.slots ≤ 8000000) (hfr : n + 1 ≤ R.frames) (hlo : 32 * (n + 1) ≤ R.locals) (hini : ini = true → meth.name = "<init>") (hmt : ∀ q ∈ xmt, xmo q = true) (hMC : xCon2 l n MC dC dI cA f B h0)
    (hret : xRet p l e R s m args below meth c QW dC dI cA f B h0 cc rt Qa) {pc : Nat} (n : Fin 2) {nx a b c' e' f' g' : Nat} {k : Int32} {kl : Int64} {ts : List (Int32 × Nat)} {ls : List (Option Value)} {st : List Value} {h : xh} {kc ks : Nat} (hd : xd1 own nL ini rt cc pc (.lconst n, nx, a, b, c', e', f', g', k, kl, ts) = true)
    (hF : xF MC R.cells R.slots Qa (xKW p l e R s m args below meth c QW nL dC dI cA f B h0) (.lconst n, nx, a, b, c', e', f', g', k, kl, ts) ls st h kc ks) : xKW p l e R s m args below meth c QW nL dC dI cA f B h0 pc ls st h kc ks := by
  obtain ⟨hx, hb, hml, hown, hts, hK, hC, hf, hB⟩ := id E
  unfold xd1 at hd; dsimp only at hd; unfold xdt at hd; dsimp only at hd; simp only [Bool.and_eq_true, decide_eq_true_eq] at hd
  obtain ⟨hdg, rfl, hk⟩ := hd
  rw [Nat.add_sub_cancel_left] at hdg
  intro H locs lsA hR hS hl hc1 hc2
  exact lv_lconst hx hb hdg hk (hF H locs lsA hR hS hl hc1 hc2)
set_option maxHeartbeats 4000000 in
set_option maxRecDepth 100000 in
theorem xz_ldc_w {MC : Nat → List Value → xh → (Option Value → xh → Prop) → Prop} {Qa : Option Value → xh → Prop} {n : Nat} {ini : Bool} {rt : Option FieldType} (E : xEnv p s m args c cc nL own dC dI cA f B h0) (hRs : R.slots ≤ 8000000) (hfr : n + 1 ≤ R.frames) (hlo : 32 * (n + 1) ≤ R.locals) (hini : ini = true → meth.name = "<init>") (hmt : ∀ q ∈ xmt, xmo q = true) (hMC : xCon2 l n MC dC dI cA f B h0)
    (hret : xRet p l e R s m args below meth c QW dC dI cA f B h0 cc rt Qa) {pc : Nat} (x : Nat) {nx a b c' e' f' g' : Nat} {k : Int32} {kl : Int64} {ts : List (Int32 × Nat)} {ls : List (Option Value)} {st : List Value} {h : xh} {kc ks : Nat} (hd : xd1 own nL ini rt cc pc (.ldc_w x, nx, a, b, c', e', f', g', k, kl, ts) = true)
    (hF : xF MC R.cells R.slots Qa (xKW p l e R s m args below meth c QW nL dC dI cA f B h0) (.ldc_w x, nx, a, b, c', e', f', g', k, kl, ts) ls st h kc ks) : xKW p l e R s m args below meth c QW nL dC dI cA f B h0 pc ls st h kc ks := by
  obtain ⟨hx, hb, hml, hown, hts, hK, hC, hf, hB⟩ := id E
  unfold xd1 at hd; dsimp only at hd; unfold xdt at hd; dsimp only at hd; simp only [Bool.and_eq_true, decide_eq_true_eq] at hd
  obtain ⟨hdg, rfl, hk⟩ := hd
  rw [Nat.add_sub_cancel_left] at hdg
  intro H locs lsA hR hS hl hc1 hc2
  exact lv_ldcw hx hb hown (hts _ (List.mem_of_getElem? hk) rfl) hdg (hF H locs lsA hR hS hl hc1 hc2)
set_option maxHeartbeats 4000000 in
set_option maxRecDepth 100000 in
theorem xz_ldc2_w {MC : Nat → List Value → xh → (Option Value → xh → Prop) → Prop} {Qa : Option Value → xh → Prop} {n : Nat} {ini : Bool} {rt : Option FieldType} (E : xEnv p s m args c cc nL own dC dI cA f B h0) (hRs : R.slots ≤ 8000000) (hfr : n + 1 ≤ R.frames) (hlo : 32 * (n + 1) ≤ R.locals) (hini : ini = true → meth.name = "<init>") (hmt : ∀ q ∈ xmt, xmo q = true) (hMC : xCon2 l n MC dC dI cA f B h0)
    (hret : xRet p l e R s m args below meth c QW dC dI cA f B h0 cc rt Qa) {pc : Nat} (x : Nat) {nx a b c' e' f' g' : Nat} {k : Int32} {kl : Int64} {ts : List (Int32 × Nat)} {ls : List (Option Value)} {st : List Value} {h : xh} {kc ks : Nat} (hd : xd1 own nL ini rt cc pc (.ldc2_w x, nx, a, b, c', e', f', g', k, kl, ts) = true)
    (hF : xF MC R.cells R.slots Qa (xKW p l e R s m args below meth c QW nL dC dI cA f B h0) (.ldc2_w x, nx, a, b, c', e', f', g', k, kl, ts) ls st h kc ks) : xKW p l e R s m args below meth c QW nL dC dI cA f B h0 pc ls st h kc ks := by
  obtain ⟨hx, hb, hml, hown, hts, hK, hC, hf, hB⟩ := id E
  unfold xd1 at hd; dsimp only at hd; unfold xdt at hd; dsimp only at hd; simp only [Bool.and_eq_true, decide_eq_true_eq] at hd
  obtain ⟨hdg, rfl, hk⟩ := hd
  rw [Nat.add_sub_cancel_left] at hdg
  intro H locs lsA hR hS hl hc1 hc2
  exact lv_ldc2 hx hb hown (hts _ (List.mem_of_getElem? hk) rfl) hdg (hF H locs lsA hR hS hl hc1 hc2)
set_option maxHeartbeats 4000000 in
set_option maxRecDepth 100000 in
theorem xz_ldc {MC : Nat → List Value → xh → (Option Value → xh → Prop) → Prop} {Qa : Option Value → xh → Prop} {n : Nat} {ini : Bool} {rt : Option FieldType} (E : xEnv p s m args c cc nL own dC dI cA f B h0) (hRs : R.slots ≤ 8000000) (hfr : n + 1 ≤ R.frames) (hlo : 32 * (n + 1) ≤ R.locals) (hini : ini = true → meth.name = "<init>") (hmt : ∀ q ∈ xmt, xmo q = true) (hMC : xCon2 l n MC dC dI cA f B h0)
    (hret : xRet p l e R s m args below meth c QW dC dI cA f B h0 cc rt Qa) {pc : Nat} (x : Nat) {nx a b c' e' f' g' : Nat} {k : Int32} {kl : Int64} {ts : List (Int32 × Nat)} {ls : List (Option Value)} {st : List Value} {h : xh} {kc ks : Nat} (hd : xd1 own nL ini rt cc pc (.ldc x, nx, a, b, c', e', f', g', k, kl, ts) = true)
    (hF : xF MC R.cells R.slots Qa (xKW p l e R s m args below meth c QW nL dC dI cA f B h0) (.ldc x, nx, a, b, c', e', f', g', k, kl, ts) ls st h kc ks) : xKW p l e R s m args below meth c QW nL dC dI cA f B h0 pc ls st h kc ks := by
  obtain ⟨hx, hb, hml, hown, hts, hK, hC, hf, hB⟩ := id E
  unfold xd1 at hd; dsimp only at hd; unfold xdt at hd; dsimp only at hd; simp only [Bool.and_eq_true, decide_eq_true_eq] at hd
  obtain ⟨hdg, rfl, hk⟩ := hd
  rw [Nat.add_sub_cancel_left] at hdg
  intro H locs lsA hR hS hl hc1 hc2
  revert hF; unfold xF; intro hF; dsimp only at hF
  split at hF
  · exact lv_ldc hx hb hown (hts _ (List.mem_of_getElem? (by simpa only [decide_eq_true_eq] using hk)) rfl) hdg (hF H locs lsA hR hS hl hc1 hc2)
  · split at hk
    · next hne => exact absurd rfl hne
    · simp only [Bool.and_eq_true, decide_eq_true_eq, List.any_eq_true] at hk
      obtain ⟨rfl, q, hq, rfl, rfl⟩ := hk
      exact va_ldcS hx hb hown (hC.2.2.2.2.2.2.1 q hq) hdg (hF H locs lsA hR hS hl hc1 hc2)
set_option maxHeartbeats 4000000 in
set_option maxRecDepth 100000 in
theorem xz_aconst_null {MC : Nat → List Value → xh → (Option Value → xh → Prop) → Prop} {Qa : Option Value → xh → Prop} {n : Nat} {ini : Bool} {rt : Option FieldType} (E : xEnv p s m args c cc nL own dC dI cA f B h0) (hRs : R.slots ≤ 8000000) (hfr : n + 1 ≤ R.frames) (hlo : 32 * (n + 1) ≤ R.locals) (hini : ini = true → meth.name = "<init>") (hmt : ∀ q ∈ xmt, xmo q = true) (hMC : xCon2 l n MC dC dI cA f B h0)
    (hret : xRet p l e R s m args below meth c QW dC dI cA f B h0 cc rt Qa) {pc : Nat}  {nx a b c' e' f' g' : Nat} {k : Int32} {kl : Int64} {ts : List (Int32 × Nat)} {ls : List (Option Value)} {st : List Value} {h : xh} {kc ks : Nat} (hd : xd1 own nL ini rt cc pc (.aconst_null, nx, a, b, c', e', f', g', k, kl, ts) = true)
    (hF : xF MC R.cells R.slots Qa (xKW p l e R s m args below meth c QW nL dC dI cA f B h0) (.aconst_null, nx, a, b, c', e', f', g', k, kl, ts) ls st h kc ks) : xKW p l e R s m args below meth c QW nL dC dI cA f B h0 pc ls st h kc ks := by
  obtain ⟨hx, hb, hml, hown, hts, hK, hC, hf, hB⟩ := id E
  unfold xd1 at hd; dsimp only at hd; unfold xdt at hd; dsimp only at hd; simp only [Bool.and_eq_true, decide_eq_true_eq] at hd
  obtain ⟨hdg, rfl⟩ := hd
  rw [Nat.add_sub_cancel_left] at hdg
  intro H locs lsA hR hS hl hc1 hc2
  exact lv_null hx hb hdg (hF H locs lsA hR hS hl hc1 hc2)
set_option maxHeartbeats 4000000 in
set_option maxRecDepth 100000 in
theorem xz_iload {MC : Nat → List Value → xh → (Option Value → xh → Prop) → Prop} {Qa : Option Value → xh → Prop} {n : Nat} {ini : Bool} {rt : Option FieldType} (E : xEnv p s m args c cc nL own dC dI cA f B h0) (hRs : R.slots ≤ 8000000) (hfr : n + 1 ≤ R.frames) (hlo : 32 * (n + 1) ≤ R.locals) (hini : ini = true → meth.name = "<init>") (hmt : ∀ q ∈ xmt, xmo q = true) (hMC : xCon2 l n MC dC dI cA f B h0)
    (hret : xRet p l e R s m args below meth c QW dC dI cA f B h0 cc rt Qa) {pc : Nat} (n : Nat) {nx a b c' e' f' g' : Nat} {k : Int32} {kl : Int64} {ts : List (Int32 × Nat)} {ls : List (Option Value)} {st : List Value} {h : xh} {kc ks : Nat} (hd : xd1 own nL ini rt cc pc (.iload n, nx, a, b, c', e', f', g', k, kl, ts) = true)
    (hF : xF MC R.cells R.slots Qa (xKW p l e R s m args below meth c QW nL dC dI cA f B h0) (.iload n, nx, a, b, c', e', f', g', k, kl, ts) ls st h kc ks) : xKW p l e R s m args below meth c QW nL dC dI cA f B h0 pc ls st h kc ks := by
  obtain ⟨hx, hb, hml, hown, hts, hK, hC, hf, hB⟩ := id E
  unfold xd1 at hd; dsimp only at hd; unfold xdt at hd; dsimp only at hd; simp only [Bool.and_eq_true, decide_eq_true_eq] at hd
  obtain ⟨hdg, rfl, hk⟩ := hd
  rw [Nat.add_sub_cancel_left] at hdg
  intro H locs lsA hR hS hl hc1 hc2
  revert hF; unfold xF; intro hF; dsimp only at hF
  split at hF
  · next x hg =>
    have ha := xlv_at hl hg
    subst hk
    exact lv_iload hx hb hdg ha (hF H locs lsA hR hS hl hc1 hc2)
  · exact hF.elim
set_option maxHeartbeats 4000000 in
set_option maxRecDepth 100000 in
theorem xz_iload_n {MC : Nat → List Value → xh → (Option Value → xh → Prop) → Prop} {Qa : Option Value → xh → Prop} {n : Nat} {ini : Bool} {rt : Option FieldType} (E : xEnv p s m args c cc nL own dC dI cA f B h0) (hRs : R.slots ≤ 8000000) (hfr : n + 1 ≤ R.frames) (hlo : 32 * (n + 1) ≤ R.locals) (hini : ini = true → meth.name = "<init>") (hmt : ∀ q ∈ xmt, xmo q = true) (hMC : xCon2 l n MC dC dI cA f B h0)
    (hret : xRet p l e R s m args below meth c QW dC dI cA f B h0 cc rt Qa) {pc : Nat} (n : Fin 4) {nx a b c' e' f' g' : Nat} {k : Int32} {kl : Int64} {ts : List (Int32 × Nat)} {ls : List (Option Value)} {st : List Value} {h : xh} {kc ks : Nat} (hd : xd1 own nL ini rt cc pc (.iload_n n, nx, a, b, c', e', f', g', k, kl, ts) = true)
    (hF : xF MC R.cells R.slots Qa (xKW p l e R s m args below meth c QW nL dC dI cA f B h0) (.iload_n n, nx, a, b, c', e', f', g', k, kl, ts) ls st h kc ks) : xKW p l e R s m args below meth c QW nL dC dI cA f B h0 pc ls st h kc ks := by
  obtain ⟨hx, hb, hml, hown, hts, hK, hC, hf, hB⟩ := id E
  unfold xd1 at hd; dsimp only at hd; unfold xdt at hd; dsimp only at hd; simp only [Bool.and_eq_true, decide_eq_true_eq] at hd
  obtain ⟨hdg, rfl, hk⟩ := hd
  rw [Nat.add_sub_cancel_left] at hdg
  intro H locs lsA hR hS hl hc1 hc2
  revert hF; unfold xF; intro hF; dsimp only at hF
  split at hF
  · next x hg =>
    have ha := xlv_at hl hg
    exact lv_iload_n hx hb hdg hk ha (hF H locs lsA hR hS hl hc1 hc2)
  · exact hF.elim
set_option maxHeartbeats 4000000 in
set_option maxRecDepth 100000 in
theorem xz_lload {MC : Nat → List Value → xh → (Option Value → xh → Prop) → Prop} {Qa : Option Value → xh → Prop} {n : Nat} {ini : Bool} {rt : Option FieldType} (E : xEnv p s m args c cc nL own dC dI cA f B h0) (hRs : R.slots ≤ 8000000) (hfr : n + 1 ≤ R.frames) (hlo : 32 * (n + 1) ≤ R.locals) (hini : ini = true → meth.name = "<init>") (hmt : ∀ q ∈ xmt, xmo q = true) (hMC : xCon2 l n MC dC dI cA f B h0)
    (hret : xRet p l e R s m args below meth c QW dC dI cA f B h0 cc rt Qa) {pc : Nat} (n : Nat) {nx a b c' e' f' g' : Nat} {k : Int32} {kl : Int64} {ts : List (Int32 × Nat)} {ls : List (Option Value)} {st : List Value} {h : xh} {kc ks : Nat} (hd : xd1 own nL ini rt cc pc (.lload n, nx, a, b, c', e', f', g', k, kl, ts) = true)
    (hF : xF MC R.cells R.slots Qa (xKW p l e R s m args below meth c QW nL dC dI cA f B h0) (.lload n, nx, a, b, c', e', f', g', k, kl, ts) ls st h kc ks) : xKW p l e R s m args below meth c QW nL dC dI cA f B h0 pc ls st h kc ks := by
  obtain ⟨hx, hb, hml, hown, hts, hK, hC, hf, hB⟩ := id E
  unfold xd1 at hd; dsimp only at hd; unfold xdt at hd; dsimp only at hd; simp only [Bool.and_eq_true, decide_eq_true_eq] at hd
  obtain ⟨hdg, rfl, hk⟩ := hd
  rw [Nat.add_sub_cancel_left] at hdg
  intro H locs lsA hR hS hl hc1 hc2
  revert hF; unfold xF; intro hF; dsimp only at hF
  split at hF
  · next x hg =>
    have ha := xlv_at hl hg
    subst hk
    exact lv_lload hx hb hdg ha (hF H locs lsA hR hS hl hc1 hc2)
  · exact hF.elim
set_option maxHeartbeats 4000000 in
set_option maxRecDepth 100000 in
theorem xz_lload_n {MC : Nat → List Value → xh → (Option Value → xh → Prop) → Prop} {Qa : Option Value → xh → Prop} {n : Nat} {ini : Bool} {rt : Option FieldType} (E : xEnv p s m args c cc nL own dC dI cA f B h0) (hRs : R.slots ≤ 8000000) (hfr : n + 1 ≤ R.frames) (hlo : 32 * (n + 1) ≤ R.locals) (hini : ini = true → meth.name = "<init>") (hmt : ∀ q ∈ xmt, xmo q = true) (hMC : xCon2 l n MC dC dI cA f B h0)
    (hret : xRet p l e R s m args below meth c QW dC dI cA f B h0 cc rt Qa) {pc : Nat} (n : Fin 4) {nx a b c' e' f' g' : Nat} {k : Int32} {kl : Int64} {ts : List (Int32 × Nat)} {ls : List (Option Value)} {st : List Value} {h : xh} {kc ks : Nat} (hd : xd1 own nL ini rt cc pc (.lload_n n, nx, a, b, c', e', f', g', k, kl, ts) = true)
    (hF : xF MC R.cells R.slots Qa (xKW p l e R s m args below meth c QW nL dC dI cA f B h0) (.lload_n n, nx, a, b, c', e', f', g', k, kl, ts) ls st h kc ks) : xKW p l e R s m args below meth c QW nL dC dI cA f B h0 pc ls st h kc ks := by
  obtain ⟨hx, hb, hml, hown, hts, hK, hC, hf, hB⟩ := id E
  unfold xd1 at hd; dsimp only at hd; unfold xdt at hd; dsimp only at hd; simp only [Bool.and_eq_true, decide_eq_true_eq] at hd
  obtain ⟨hdg, rfl, hk⟩ := hd
  rw [Nat.add_sub_cancel_left] at hdg
  intro H locs lsA hR hS hl hc1 hc2
  revert hF; unfold xF; intro hF; dsimp only at hF
  split at hF
  · next x hg =>
    have ha := xlv_at hl hg
    exact lv_lload_n hx hb hdg hk ha (hF H locs lsA hR hS hl hc1 hc2)
  · exact hF.elim
set_option maxHeartbeats 4000000 in
set_option maxRecDepth 100000 in
theorem xz_aload {MC : Nat → List Value → xh → (Option Value → xh → Prop) → Prop} {Qa : Option Value → xh → Prop} {n : Nat} {ini : Bool} {rt : Option FieldType} (E : xEnv p s m args c cc nL own dC dI cA f B h0) (hRs : R.slots ≤ 8000000) (hfr : n + 1 ≤ R.frames) (hlo : 32 * (n + 1) ≤ R.locals) (hini : ini = true → meth.name = "<init>") (hmt : ∀ q ∈ xmt, xmo q = true) (hMC : xCon2 l n MC dC dI cA f B h0)
    (hret : xRet p l e R s m args below meth c QW dC dI cA f B h0 cc rt Qa) {pc : Nat} (n : Nat) {nx a b c' e' f' g' : Nat} {k : Int32} {kl : Int64} {ts : List (Int32 × Nat)} {ls : List (Option Value)} {st : List Value} {h : xh} {kc ks : Nat} (hd : xd1 own nL ini rt cc pc (.aload n, nx, a, b, c', e', f', g', k, kl, ts) = true)
    (hF : xF MC R.cells R.slots Qa (xKW p l e R s m args below meth c QW nL dC dI cA f B h0) (.aload n, nx, a, b, c', e', f', g', k, kl, ts) ls st h kc ks) : xKW p l e R s m args below meth c QW nL dC dI cA f B h0 pc ls st h kc ks := by
  obtain ⟨hx, hb, hml, hown, hts, hK, hC, hf, hB⟩ := id E
  unfold xd1 at hd; dsimp only at hd; unfold xdt at hd; dsimp only at hd; simp only [Bool.and_eq_true, decide_eq_true_eq] at hd
  obtain ⟨hdg, rfl, hk⟩ := hd
  rw [Nat.add_sub_cancel_left] at hdg
  intro H locs lsA hR hS hl hc1 hc2
  revert hF; unfold xF; intro hF; dsimp only at hF
  split at hF
  · next x hg =>
    subst hk
    exact lv_aload hx hb hdg (xlv_at hl hg) (hF H locs lsA hR hS hl hc1 hc2)
  · next hg =>
    subst hk
    exact lv_aloadN hx hb hdg (xlv_at hl hg) (hF H locs lsA hR hS hl hc1 hc2)
  · exact hF.elim
set_option maxHeartbeats 4000000 in
set_option maxRecDepth 100000 in
theorem xz_aload_n {MC : Nat → List Value → xh → (Option Value → xh → Prop) → Prop} {Qa : Option Value → xh → Prop} {n : Nat} {ini : Bool} {rt : Option FieldType} (E : xEnv p s m args c cc nL own dC dI cA f B h0) (hRs : R.slots ≤ 8000000) (hfr : n + 1 ≤ R.frames) (hlo : 32 * (n + 1) ≤ R.locals) (hini : ini = true → meth.name = "<init>") (hmt : ∀ q ∈ xmt, xmo q = true) (hMC : xCon2 l n MC dC dI cA f B h0)
    (hret : xRet p l e R s m args below meth c QW dC dI cA f B h0 cc rt Qa) {pc : Nat} (n : Fin 4) {nx a b c' e' f' g' : Nat} {k : Int32} {kl : Int64} {ts : List (Int32 × Nat)} {ls : List (Option Value)} {st : List Value} {h : xh} {kc ks : Nat} (hd : xd1 own nL ini rt cc pc (.aload_n n, nx, a, b, c', e', f', g', k, kl, ts) = true)
    (hF : xF MC R.cells R.slots Qa (xKW p l e R s m args below meth c QW nL dC dI cA f B h0) (.aload_n n, nx, a, b, c', e', f', g', k, kl, ts) ls st h kc ks) : xKW p l e R s m args below meth c QW nL dC dI cA f B h0 pc ls st h kc ks := by
  obtain ⟨hx, hb, hml, hown, hts, hK, hC, hf, hB⟩ := id E
  unfold xd1 at hd; dsimp only at hd; unfold xdt at hd; dsimp only at hd; simp only [Bool.and_eq_true, decide_eq_true_eq] at hd
  obtain ⟨hdg, rfl, hk⟩ := hd
  rw [Nat.add_sub_cancel_left] at hdg
  intro H locs lsA hR hS hl hc1 hc2
  revert hF; unfold xF; intro hF; dsimp only at hF
  split at hF
  · next x hg =>
    exact lv_aload_n hx hb hdg hk (xlv_at hl hg) (hF H locs lsA hR hS hl hc1 hc2)
  · next hg =>
    exact lv_aload_nN hx hb hdg hk (xlv_at hl hg) (hF H locs lsA hR hS hl hc1 hc2)
  · exact hF.elim
set_option maxHeartbeats 4000000 in
set_option maxRecDepth 100000 in
theorem xz_istore {MC : Nat → List Value → xh → (Option Value → xh → Prop) → Prop} {Qa : Option Value → xh → Prop} {n : Nat} {ini : Bool} {rt : Option FieldType} (E : xEnv p s m args c cc nL own dC dI cA f B h0) (hRs : R.slots ≤ 8000000) (hfr : n + 1 ≤ R.frames) (hlo : 32 * (n + 1) ≤ R.locals) (hini : ini = true → meth.name = "<init>") (hmt : ∀ q ∈ xmt, xmo q = true) (hMC : xCon2 l n MC dC dI cA f B h0)
    (hret : xRet p l e R s m args below meth c QW dC dI cA f B h0 cc rt Qa) {pc : Nat} (n : Nat) {nx a b c' e' f' g' : Nat} {k : Int32} {kl : Int64} {ts : List (Int32 × Nat)} {ls : List (Option Value)} {st : List Value} {h : xh} {kc ks : Nat} (hd : xd1 own nL ini rt cc pc (.istore n, nx, a, b, c', e', f', g', k, kl, ts) = true)
    (hF : xF MC R.cells R.slots Qa (xKW p l e R s m args below meth c QW nL dC dI cA f B h0) (.istore n, nx, a, b, c', e', f', g', k, kl, ts) ls st h kc ks) : xKW p l e R s m args below meth c QW nL dC dI cA f B h0 pc ls st h kc ks := by
  obtain ⟨hx, hb, hml, hown, hts, hK, hC, hf, hB⟩ := id E
  unfold xd1 at hd; dsimp only at hd; unfold xdt at hd; dsimp only at hd; simp only [Bool.and_eq_true, decide_eq_true_eq] at hd
  obtain ⟨hdg, rfl, hk, hlt⟩ := hd
  rw [Nat.add_sub_cancel_left] at hdg
  intro H locs lsA hR hS hl hc1 hc2
  revert hF; unfold xF; intro hF; dsimp only at hF
  split at hF
  · next x r =>
    subst hk
    exact lv_istore hx hb hdg hl hlt rfl (fun ls2 hl2 => hF H locs ls2 hR hS (xlv_set (v := .int x) hl2) hc1 hc2)
  · exact hF.elim
set_option maxHeartbeats 4000000 in
set_option maxRecDepth 100000 in
theorem xz_istore_n {MC : Nat → List Value → xh → (Option Value → xh → Prop) → Prop} {Qa : Option Value → xh → Prop} {n : Nat} {ini : Bool} {rt : Option FieldType} (E : xEnv p s m args c cc nL own dC dI cA f B h0) (hRs : R.slots ≤ 8000000) (hfr : n + 1 ≤ R.frames) (hlo : 32 * (n + 1) ≤ R.locals) (hini : ini = true → meth.name = "<init>") (hmt : ∀ q ∈ xmt, xmo q = true) (hMC : xCon2 l n MC dC dI cA f B h0)
    (hret : xRet p l e R s m args below meth c QW dC dI cA f B h0 cc rt Qa) {pc : Nat} (n : Fin 4) {nx a b c' e' f' g' : Nat} {k : Int32} {kl : Int64} {ts : List (Int32 × Nat)} {ls : List (Option Value)} {st : List Value} {h : xh} {kc ks : Nat} (hd : xd1 own nL ini rt cc pc (.istore_n n, nx, a, b, c', e', f', g', k, kl, ts) = true)
    (hF : xF MC R.cells R.slots Qa (xKW p l e R s m args below meth c QW nL dC dI cA f B h0) (.istore_n n, nx, a, b, c', e', f', g', k, kl, ts) ls st h kc ks) : xKW p l e R s m args below meth c QW nL dC dI cA f B h0 pc ls st h kc ks := by
  obtain ⟨hx, hb, hml, hown, hts, hK, hC, hf, hB⟩ := id E
  unfold xd1 at hd; dsimp only at hd; unfold xdt at hd; dsimp only at hd; simp only [Bool.and_eq_true, decide_eq_true_eq] at hd
  obtain ⟨hdg, rfl, hk, hlt⟩ := hd
  rw [Nat.add_sub_cancel_left] at hdg
  intro H locs lsA hR hS hl hc1 hc2
  revert hF; unfold xF; intro hF; dsimp only at hF
  split at hF
  · next x r =>
    exact lv_istore_n hx hb hdg hk hl hlt rfl (fun ls2 hl2 => hF H locs ls2 hR hS (xlv_set (v := .int x) hl2) hc1 hc2)
  · exact hF.elim
set_option maxHeartbeats 4000000 in
set_option maxRecDepth 100000 in
theorem xz_lstore {MC : Nat → List Value → xh → (Option Value → xh → Prop) → Prop} {Qa : Option Value → xh → Prop} {n : Nat} {ini : Bool} {rt : Option FieldType} (E : xEnv p s m args c cc nL own dC dI cA f B h0) (hRs : R.slots ≤ 8000000) (hfr : n + 1 ≤ R.frames) (hlo : 32 * (n + 1) ≤ R.locals) (hini : ini = true → meth.name = "<init>") (hmt : ∀ q ∈ xmt, xmo q = true) (hMC : xCon2 l n MC dC dI cA f B h0)
    (hret : xRet p l e R s m args below meth c QW dC dI cA f B h0 cc rt Qa) {pc : Nat} (n : Nat) {nx a b c' e' f' g' : Nat} {k : Int32} {kl : Int64} {ts : List (Int32 × Nat)} {ls : List (Option Value)} {st : List Value} {h : xh} {kc ks : Nat} (hd : xd1 own nL ini rt cc pc (.lstore n, nx, a, b, c', e', f', g', k, kl, ts) = true)
    (hF : xF MC R.cells R.slots Qa (xKW p l e R s m args below meth c QW nL dC dI cA f B h0) (.lstore n, nx, a, b, c', e', f', g', k, kl, ts) ls st h kc ks) : xKW p l e R s m args below meth c QW nL dC dI cA f B h0 pc ls st h kc ks := by
  obtain ⟨hx, hb, hml, hown, hts, hK, hC, hf, hB⟩ := id E
  unfold xd1 at hd; dsimp only at hd; unfold xdt at hd; dsimp only at hd; simp only [Bool.and_eq_true, decide_eq_true_eq] at hd
  obtain ⟨hdg, rfl, hk, hlt⟩ := hd
  rw [Nat.add_sub_cancel_left] at hdg
  intro H locs lsA hR hS hl hc1 hc2
  revert hF; unfold xF; intro hF; dsimp only at hF
  split at hF
  · next x r =>
    subst hk
    exact lv_lstore hx hb hdg hl hlt rfl (fun ls2 hl2 => hF H locs ls2 hR hS (xlv_set2 (v := .long x) hl2) hc1 hc2)
  · exact hF.elim
set_option maxHeartbeats 4000000 in
set_option maxRecDepth 100000 in
theorem xz_lstore_n {MC : Nat → List Value → xh → (Option Value → xh → Prop) → Prop} {Qa : Option Value → xh → Prop} {n : Nat} {ini : Bool} {rt : Option FieldType} (E : xEnv p s m args c cc nL own dC dI cA f B h0) (hRs : R.slots ≤ 8000000) (hfr : n + 1 ≤ R.frames) (hlo : 32 * (n + 1) ≤ R.locals) (hini : ini = true → meth.name = "<init>") (hmt : ∀ q ∈ xmt, xmo q = true) (hMC : xCon2 l n MC dC dI cA f B h0)
    (hret : xRet p l e R s m args below meth c QW dC dI cA f B h0 cc rt Qa) {pc : Nat} (n : Fin 4) {nx a b c' e' f' g' : Nat} {k : Int32} {kl : Int64} {ts : List (Int32 × Nat)} {ls : List (Option Value)} {st : List Value} {h : xh} {kc ks : Nat} (hd : xd1 own nL ini rt cc pc (.lstore_n n, nx, a, b, c', e', f', g', k, kl, ts) = true)
    (hF : xF MC R.cells R.slots Qa (xKW p l e R s m args below meth c QW nL dC dI cA f B h0) (.lstore_n n, nx, a, b, c', e', f', g', k, kl, ts) ls st h kc ks) : xKW p l e R s m args below meth c QW nL dC dI cA f B h0 pc ls st h kc ks := by
  obtain ⟨hx, hb, hml, hown, hts, hK, hC, hf, hB⟩ := id E
  unfold xd1 at hd; dsimp only at hd; unfold xdt at hd; dsimp only at hd; simp only [Bool.and_eq_true, decide_eq_true_eq] at hd
  obtain ⟨hdg, rfl, hk, hlt⟩ := hd
  rw [Nat.add_sub_cancel_left] at hdg
  intro H locs lsA hR hS hl hc1 hc2
  revert hF; unfold xF; intro hF; dsimp only at hF
  split at hF
  · next x r =>
    exact lv_lstore_n hx hb hdg hk hl hlt rfl (fun ls2 hl2 => hF H locs ls2 hR hS (xlv_set2 (v := .long x) hl2) hc1 hc2)
  · exact hF.elim
set_option maxHeartbeats 4000000 in
set_option maxRecDepth 100000 in
theorem xz_astore {MC : Nat → List Value → xh → (Option Value → xh → Prop) → Prop} {Qa : Option Value → xh → Prop} {n : Nat} {ini : Bool} {rt : Option FieldType} (E : xEnv p s m args c cc nL own dC dI cA f B h0) (hRs : R.slots ≤ 8000000) (hfr : n + 1 ≤ R.frames) (hlo : 32 * (n + 1) ≤ R.locals) (hini : ini = true → meth.name = "<init>") (hmt : ∀ q ∈ xmt, xmo q = true) (hMC : xCon2 l n MC dC dI cA f B h0)
    (hret : xRet p l e R s m args below meth c QW dC dI cA f B h0 cc rt Qa) {pc : Nat} (n : Nat) {nx a b c' e' f' g' : Nat} {k : Int32} {kl : Int64} {ts : List (Int32 × Nat)} {ls : List (Option Value)} {st : List Value} {h : xh} {kc ks : Nat} (hd : xd1 own nL ini rt cc pc (.astore n, nx, a, b, c', e', f', g', k, kl, ts) = true)
    (hF : xF MC R.cells R.slots Qa (xKW p l e R s m args below meth c QW nL dC dI cA f B h0) (.astore n, nx, a, b, c', e', f', g', k, kl, ts) ls st h kc ks) : xKW p l e R s m args below meth c QW nL dC dI cA f B h0 pc ls st h kc ks := by
  obtain ⟨hx, hb, hml, hown, hts, hK, hC, hf, hB⟩ := id E
  unfold xd1 at hd; dsimp only at hd; unfold xdt at hd; dsimp only at hd; simp only [Bool.and_eq_true, decide_eq_true_eq] at hd
  obtain ⟨hdg, rfl, hk, hlt⟩ := hd
  rw [Nat.add_sub_cancel_left] at hdg
  intro H locs lsA hR hS hl hc1 hc2
  revert hF; unfold xF; intro hF; dsimp only at hF
  split at hF
  · next x r =>
    subst hk
    exact lv_astore hx hb hdg hl hlt rfl (fun ls2 hl2 => hF H locs ls2 hR hS (xlv_set (v := .ref x) hl2) hc1 hc2)
  · next r =>
    subst hk
    exact lv_astoreN hx hb hdg hl hlt rfl (fun ls2 hl2 => hF H locs ls2 hR hS (xlv_set (v := .null) hl2) hc1 hc2)
  · exact hF.elim
set_option maxHeartbeats 4000000 in
set_option maxRecDepth 100000 in
theorem xz_astore_n {MC : Nat → List Value → xh → (Option Value → xh → Prop) → Prop} {Qa : Option Value → xh → Prop} {n : Nat} {ini : Bool} {rt : Option FieldType} (E : xEnv p s m args c cc nL own dC dI cA f B h0) (hRs : R.slots ≤ 8000000) (hfr : n + 1 ≤ R.frames) (hlo : 32 * (n + 1) ≤ R.locals) (hini : ini = true → meth.name = "<init>") (hmt : ∀ q ∈ xmt, xmo q = true) (hMC : xCon2 l n MC dC dI cA f B h0)
    (hret : xRet p l e R s m args below meth c QW dC dI cA f B h0 cc rt Qa) {pc : Nat} (n : Fin 4) {nx a b c' e' f' g' : Nat} {k : Int32} {kl : Int64} {ts : List (Int32 × Nat)} {ls : List (Option Value)} {st : List Value} {h : xh} {kc ks : Nat} (hd : xd1 own nL ini rt cc pc (.astore_n n, nx, a, b, c', e', f', g', k, kl, ts) = true)
    (hF : xF MC R.cells R.slots Qa (xKW p l e R s m args below meth c QW nL dC dI cA f B h0) (.astore_n n, nx, a, b, c', e', f', g', k, kl, ts) ls st h kc ks) : xKW p l e R s m args below meth c QW nL dC dI cA f B h0 pc ls st h kc ks := by
  obtain ⟨hx, hb, hml, hown, hts, hK, hC, hf, hB⟩ := id E
  unfold xd1 at hd; dsimp only at hd; unfold xdt at hd; dsimp only at hd; simp only [Bool.and_eq_true, decide_eq_true_eq] at hd
  obtain ⟨hdg, rfl, hk, hlt⟩ := hd
  rw [Nat.add_sub_cancel_left] at hdg
  intro H locs lsA hR hS hl hc1 hc2
  revert hF; unfold xF; intro hF; dsimp only at hF
  split at hF
  · next x r =>
    exact lv_astore_n hx hb hdg hk hl hlt rfl (fun ls2 hl2 => hF H locs ls2 hR hS (xlv_set (v := .ref x) hl2) hc1 hc2)
  · next r =>
    exact lv_astore_nN hx hb hdg hk hl hlt rfl (fun ls2 hl2 => hF H locs ls2 hR hS (xlv_set (v := .null) hl2) hc1 hc2)
  · exact hF.elim
set_option maxHeartbeats 4000000 in
set_option maxRecDepth 100000 in
theorem xz_iinc {MC : Nat → List Value → xh → (Option Value → xh → Prop) → Prop} {Qa : Option Value → xh → Prop} {n : Nat} {ini : Bool} {rt : Option FieldType} (E : xEnv p s m args c cc nL own dC dI cA f B h0) (hRs : R.slots ≤ 8000000) (hfr : n + 1 ≤ R.frames) (hlo : 32 * (n + 1) ≤ R.locals) (hini : ini = true → meth.name = "<init>") (hmt : ∀ q ∈ xmt, xmo q = true) (hMC : xCon2 l n MC dC dI cA f B h0)
    (hret : xRet p l e R s m args below meth c QW dC dI cA f B h0 cc rt Qa) {pc : Nat} (n : Nat) (d : Int) {nx a b c' e' f' g' : Nat} {k : Int32} {kl : Int64} {ts : List (Int32 × Nat)} {ls : List (Option Value)} {st : List Value} {h : xh} {kc ks : Nat} (hd : xd1 own nL ini rt cc pc (.iinc n d, nx, a, b, c', e', f', g', k, kl, ts) = true)
    (hF : xF MC R.cells R.slots Qa (xKW p l e R s m args below meth c QW nL dC dI cA f B h0) (.iinc n d, nx, a, b, c', e', f', g', k, kl, ts) ls st h kc ks) : xKW p l e R s m args below meth c QW nL dC dI cA f B h0 pc ls st h kc ks := by
  obtain ⟨hx, hb, hml, hown, hts, hK, hC, hf, hB⟩ := id E
  unfold xd1 at hd; dsimp only at hd; unfold xdt at hd; dsimp only at hd; simp only [Bool.and_eq_true, decide_eq_true_eq] at hd
  obtain ⟨hdg, rfl, hk, hkk, hlt⟩ := hd
  rw [Nat.add_sub_cancel_left] at hdg
  intro H locs lsA hR hS hl hc1 hc2
  revert hF; unfold xF; intro hF; dsimp only at hF
  split at hF
  · next x hg =>
    subst hk
    have hm := xents_mem f ls 0 _ _ hg
    rw [Nat.zero_add] at hm
    obtain ⟨kk, hkx⟩ := List.getElem?_of_mem hm
    exact lv_iinc (x := x) hx hb hdg hl hkx (by rw [hkk]) hlt rfl (fun ls2 hl2 => hF H locs ls2 hR hS (xlv_set (v := .int (x + k)) hl2) hc1 hc2)
  · exact hF.elim
set_option maxHeartbeats 4000000 in
set_option maxRecDepth 100000 in
theorem xz_iadd {MC : Nat → List Value → xh → (Option Value → xh → Prop) → Prop} {Qa : Option Value → xh → Prop} {n : Nat} {ini : Bool} {rt : Option FieldType} (E : xEnv p s m args c cc nL own dC dI cA f B h0) (hRs : R.slots ≤ 8000000) (hfr : n + 1 ≤ R.frames) (hlo : 32 * (n + 1) ≤ R.locals) (hini : ini = true → meth.name = "<init>") (hmt : ∀ q ∈ xmt, xmo q = true) (hMC : xCon2 l n MC dC dI cA f B h0)
    (hret : xRet p l e R s m args below meth c QW dC dI cA f B h0 cc rt Qa) {pc : Nat}  {nx a b c' e' f' g' : Nat} {k : Int32} {kl : Int64} {ts : List (Int32 × Nat)} {ls : List (Option Value)} {st : List Value} {h : xh} {kc ks : Nat} (hd : xd1 own nL ini rt cc pc (.iadd, nx, a, b, c', e', f', g', k, kl, ts) = true)
    (hF : xF MC R.cells R.slots Qa (xKW p l e R s m args below meth c QW nL dC dI cA f B h0) (.iadd, nx, a, b, c', e', f', g', k, kl, ts) ls st h kc ks) : xKW p l e R s m args below meth c QW nL dC dI cA f B h0 pc ls st h kc ks := by
  obtain ⟨hx, hb, hml, hown, hts, hK, hC, hf, hB⟩ := id E
  unfold xd1 at hd; dsimp only at hd; unfold xdt at hd; dsimp only at hd; simp only [Bool.and_eq_true, decide_eq_true_eq] at hd
  obtain ⟨hdg, rfl⟩ := hd
  rw [Nat.add_sub_cancel_left] at hdg
  intro H locs lsA hR hS hl hc1 hc2
  revert hF; unfold xF; intro hF; dsimp only at hF
  split at hF
  · exact lv_iadd hx hb hdg (hF H locs lsA hR hS hl hc1 hc2)
  · exact hF.elim
set_option maxHeartbeats 4000000 in
set_option maxRecDepth 100000 in
theorem xz_isub {MC : Nat → List Value → xh → (Option Value → xh → Prop) → Prop} {Qa : Option Value → xh → Prop} {n : Nat} {ini : Bool} {rt : Option FieldType} (E : xEnv p s m args c cc nL own dC dI cA f B h0) (hRs : R.slots ≤ 8000000) (hfr : n + 1 ≤ R.frames) (hlo : 32 * (n + 1) ≤ R.locals) (hini : ini = true → meth.name = "<init>") (hmt : ∀ q ∈ xmt, xmo q = true) (hMC : xCon2 l n MC dC dI cA f B h0)
    (hret : xRet p l e R s m args below meth c QW dC dI cA f B h0 cc rt Qa) {pc : Nat}  {nx a b c' e' f' g' : Nat} {k : Int32} {kl : Int64} {ts : List (Int32 × Nat)} {ls : List (Option Value)} {st : List Value} {h : xh} {kc ks : Nat} (hd : xd1 own nL ini rt cc pc (.isub, nx, a, b, c', e', f', g', k, kl, ts) = true)
    (hF : xF MC R.cells R.slots Qa (xKW p l e R s m args below meth c QW nL dC dI cA f B h0) (.isub, nx, a, b, c', e', f', g', k, kl, ts) ls st h kc ks) : xKW p l e R s m args below meth c QW nL dC dI cA f B h0 pc ls st h kc ks := by
  obtain ⟨hx, hb, hml, hown, hts, hK, hC, hf, hB⟩ := id E
  unfold xd1 at hd; dsimp only at hd; unfold xdt at hd; dsimp only at hd; simp only [Bool.and_eq_true, decide_eq_true_eq] at hd
  obtain ⟨hdg, rfl⟩ := hd
  rw [Nat.add_sub_cancel_left] at hdg
  intro H locs lsA hR hS hl hc1 hc2
  revert hF; unfold xF; intro hF; dsimp only at hF
  split at hF
  · exact lv_isub hx hb hdg (hF H locs lsA hR hS hl hc1 hc2)
  · exact hF.elim
set_option maxHeartbeats 4000000 in
set_option maxRecDepth 100000 in
theorem xz_imul {MC : Nat → List Value → xh → (Option Value → xh → Prop) → Prop} {Qa : Option Value → xh → Prop} {n : Nat} {ini : Bool} {rt : Option FieldType} (E : xEnv p s m args c cc nL own dC dI cA f B h0) (hRs : R.slots ≤ 8000000) (hfr : n + 1 ≤ R.frames) (hlo : 32 * (n + 1) ≤ R.locals) (hini : ini = true → meth.name = "<init>") (hmt : ∀ q ∈ xmt, xmo q = true) (hMC : xCon2 l n MC dC dI cA f B h0)
    (hret : xRet p l e R s m args below meth c QW dC dI cA f B h0 cc rt Qa) {pc : Nat}  {nx a b c' e' f' g' : Nat} {k : Int32} {kl : Int64} {ts : List (Int32 × Nat)} {ls : List (Option Value)} {st : List Value} {h : xh} {kc ks : Nat} (hd : xd1 own nL ini rt cc pc (.imul, nx, a, b, c', e', f', g', k, kl, ts) = true)
    (hF : xF MC R.cells R.slots Qa (xKW p l e R s m args below meth c QW nL dC dI cA f B h0) (.imul, nx, a, b, c', e', f', g', k, kl, ts) ls st h kc ks) : xKW p l e R s m args below meth c QW nL dC dI cA f B h0 pc ls st h kc ks := by
  obtain ⟨hx, hb, hml, hown, hts, hK, hC, hf, hB⟩ := id E
  unfold xd1 at hd; dsimp only at hd; unfold xdt at hd; dsimp only at hd; simp only [Bool.and_eq_true, decide_eq_true_eq] at hd
  obtain ⟨hdg, rfl⟩ := hd
  rw [Nat.add_sub_cancel_left] at hdg
  intro H locs lsA hR hS hl hc1 hc2
  revert hF; unfold xF; intro hF; dsimp only at hF
  split at hF
  · exact lv_imul hx hb hdg (hF H locs lsA hR hS hl hc1 hc2)
  · exact hF.elim
set_option maxHeartbeats 4000000 in
set_option maxRecDepth 100000 in
theorem xz_iand {MC : Nat → List Value → xh → (Option Value → xh → Prop) → Prop} {Qa : Option Value → xh → Prop} {n : Nat} {ini : Bool} {rt : Option FieldType} (E : xEnv p s m args c cc nL own dC dI cA f B h0) (hRs : R.slots ≤ 8000000) (hfr : n + 1 ≤ R.frames) (hlo : 32 * (n + 1) ≤ R.locals) (hini : ini = true → meth.name = "<init>") (hmt : ∀ q ∈ xmt, xmo q = true) (hMC : xCon2 l n MC dC dI cA f B h0)
    (hret : xRet p l e R s m args below meth c QW dC dI cA f B h0 cc rt Qa) {pc : Nat}  {nx a b c' e' f' g' : Nat} {k : Int32} {kl : Int64} {ts : List (Int32 × Nat)} {ls : List (Option Value)} {st : List Value} {h : xh} {kc ks : Nat} (hd : xd1 own nL ini rt cc pc (.iand, nx, a, b, c', e', f', g', k, kl, ts) = true)
    (hF : xF MC R.cells R.slots Qa (xKW p l e R s m args below meth c QW nL dC dI cA f B h0) (.iand, nx, a, b, c', e', f', g', k, kl, ts) ls st h kc ks) : xKW p l e R s m args below meth c QW nL dC dI cA f B h0 pc ls st h kc ks := by
  obtain ⟨hx, hb, hml, hown, hts, hK, hC, hf, hB⟩ := id E
  unfold xd1 at hd; dsimp only at hd; unfold xdt at hd; dsimp only at hd; simp only [Bool.and_eq_true, decide_eq_true_eq] at hd
  obtain ⟨hdg, rfl⟩ := hd
  rw [Nat.add_sub_cancel_left] at hdg
  intro H locs lsA hR hS hl hc1 hc2
  revert hF; unfold xF; intro hF; dsimp only at hF
  split at hF
  · exact lv_iand hx hb hdg (hF H locs lsA hR hS hl hc1 hc2)
  · exact hF.elim
set_option maxHeartbeats 4000000 in
set_option maxRecDepth 100000 in
theorem xz_ior {MC : Nat → List Value → xh → (Option Value → xh → Prop) → Prop} {Qa : Option Value → xh → Prop} {n : Nat} {ini : Bool} {rt : Option FieldType} (E : xEnv p s m args c cc nL own dC dI cA f B h0) (hRs : R.slots ≤ 8000000) (hfr : n + 1 ≤ R.frames) (hlo : 32 * (n + 1) ≤ R.locals) (hini : ini = true → meth.name = "<init>") (hmt : ∀ q ∈ xmt, xmo q = true) (hMC : xCon2 l n MC dC dI cA f B h0)
    (hret : xRet p l e R s m args below meth c QW dC dI cA f B h0 cc rt Qa) {pc : Nat}  {nx a b c' e' f' g' : Nat} {k : Int32} {kl : Int64} {ts : List (Int32 × Nat)} {ls : List (Option Value)} {st : List Value} {h : xh} {kc ks : Nat} (hd : xd1 own nL ini rt cc pc (.ior, nx, a, b, c', e', f', g', k, kl, ts) = true)
    (hF : xF MC R.cells R.slots Qa (xKW p l e R s m args below meth c QW nL dC dI cA f B h0) (.ior, nx, a, b, c', e', f', g', k, kl, ts) ls st h kc ks) : xKW p l e R s m args below meth c QW nL dC dI cA f B h0 pc ls st h kc ks := by
  obtain ⟨hx, hb, hml, hown, hts, hK, hC, hf, hB⟩ := id E
  unfold xd1 at hd; dsimp only at hd; unfold xdt at hd; dsimp only at hd; simp only [Bool.and_eq_true, decide_eq_true_eq] at hd
  obtain ⟨hdg, rfl⟩ := hd
  rw [Nat.add_sub_cancel_left] at hdg
  intro H locs lsA hR hS hl hc1 hc2
  revert hF; unfold xF; intro hF; dsimp only at hF
  split at hF
  · exact lv_ior hx hb hdg (hF H locs lsA hR hS hl hc1 hc2)
  · exact hF.elim
set_option maxHeartbeats 4000000 in
set_option maxRecDepth 100000 in
theorem xz_ixor {MC : Nat → List Value → xh → (Option Value → xh → Prop) → Prop} {Qa : Option Value → xh → Prop} {n : Nat} {ini : Bool} {rt : Option FieldType} (E : xEnv p s m args c cc nL own dC dI cA f B h0) (hRs : R.slots ≤ 8000000) (hfr : n + 1 ≤ R.frames) (hlo : 32 * (n + 1) ≤ R.locals) (hini : ini = true → meth.name = "<init>") (hmt : ∀ q ∈ xmt, xmo q = true) (hMC : xCon2 l n MC dC dI cA f B h0)
    (hret : xRet p l e R s m args below meth c QW dC dI cA f B h0 cc rt Qa) {pc : Nat}  {nx a b c' e' f' g' : Nat} {k : Int32} {kl : Int64} {ts : List (Int32 × Nat)} {ls : List (Option Value)} {st : List Value} {h : xh} {kc ks : Nat} (hd : xd1 own nL ini rt cc pc (.ixor, nx, a, b, c', e', f', g', k, kl, ts) = true)
    (hF : xF MC R.cells R.slots Qa (xKW p l e R s m args below meth c QW nL dC dI cA f B h0) (.ixor, nx, a, b, c', e', f', g', k, kl, ts) ls st h kc ks) : xKW p l e R s m args below meth c QW nL dC dI cA f B h0 pc ls st h kc ks := by
  obtain ⟨hx, hb, hml, hown, hts, hK, hC, hf, hB⟩ := id E
  unfold xd1 at hd; dsimp only at hd; unfold xdt at hd; dsimp only at hd; simp only [Bool.and_eq_true, decide_eq_true_eq] at hd
  obtain ⟨hdg, rfl⟩ := hd
  rw [Nat.add_sub_cancel_left] at hdg
  intro H locs lsA hR hS hl hc1 hc2
  revert hF; unfold xF; intro hF; dsimp only at hF
  split at hF
  · exact lv_ixor hx hb hdg (hF H locs lsA hR hS hl hc1 hc2)
  · exact hF.elim
set_option maxHeartbeats 4000000 in
set_option maxRecDepth 100000 in
theorem xz_ishl {MC : Nat → List Value → xh → (Option Value → xh → Prop) → Prop} {Qa : Option Value → xh → Prop} {n : Nat} {ini : Bool} {rt : Option FieldType} (E : xEnv p s m args c cc nL own dC dI cA f B h0) (hRs : R.slots ≤ 8000000) (hfr : n + 1 ≤ R.frames) (hlo : 32 * (n + 1) ≤ R.locals) (hini : ini = true → meth.name = "<init>") (hmt : ∀ q ∈ xmt, xmo q = true) (hMC : xCon2 l n MC dC dI cA f B h0)
    (hret : xRet p l e R s m args below meth c QW dC dI cA f B h0 cc rt Qa) {pc : Nat}  {nx a b c' e' f' g' : Nat} {k : Int32} {kl : Int64} {ts : List (Int32 × Nat)} {ls : List (Option Value)} {st : List Value} {h : xh} {kc ks : Nat} (hd : xd1 own nL ini rt cc pc (.ishl, nx, a, b, c', e', f', g', k, kl, ts) = true)
    (hF : xF MC R.cells R.slots Qa (xKW p l e R s m args below meth c QW nL dC dI cA f B h0) (.ishl, nx, a, b, c', e', f', g', k, kl, ts) ls st h kc ks) : xKW p l e R s m args below meth c QW nL dC dI cA f B h0 pc ls st h kc ks := by
  obtain ⟨hx, hb, hml, hown, hts, hK, hC, hf, hB⟩ := id E
  unfold xd1 at hd; dsimp only at hd; unfold xdt at hd; dsimp only at hd; simp only [Bool.and_eq_true, decide_eq_true_eq] at hd
  obtain ⟨hdg, rfl⟩ := hd
  rw [Nat.add_sub_cancel_left] at hdg
  intro H locs lsA hR hS hl hc1 hc2
  revert hF; unfold xF; intro hF; dsimp only at hF
  split at hF
  · exact lv_ishl hx hb hdg (hF H locs lsA hR hS hl hc1 hc2)
  · exact hF.elim
set_option maxHeartbeats 4000000 in
set_option maxRecDepth 100000 in
theorem xz_ishr {MC : Nat → List Value → xh → (Option Value → xh → Prop) → Prop} {Qa : Option Value → xh → Prop} {n : Nat} {ini : Bool} {rt : Option FieldType} (E : xEnv p s m args c cc nL own dC dI cA f B h0) (hRs : R.slots ≤ 8000000) (hfr : n + 1 ≤ R.frames) (hlo : 32 * (n + 1) ≤ R.locals) (hini : ini = true → meth.name = "<init>") (hmt : ∀ q ∈ xmt, xmo q = true) (hMC : xCon2 l n MC dC dI cA f B h0)
    (hret : xRet p l e R s m args below meth c QW dC dI cA f B h0 cc rt Qa) {pc : Nat}  {nx a b c' e' f' g' : Nat} {k : Int32} {kl : Int64} {ts : List (Int32 × Nat)} {ls : List (Option Value)} {st : List Value} {h : xh} {kc ks : Nat} (hd : xd1 own nL ini rt cc pc (.ishr, nx, a, b, c', e', f', g', k, kl, ts) = true)
    (hF : xF MC R.cells R.slots Qa (xKW p l e R s m args below meth c QW nL dC dI cA f B h0) (.ishr, nx, a, b, c', e', f', g', k, kl, ts) ls st h kc ks) : xKW p l e R s m args below meth c QW nL dC dI cA f B h0 pc ls st h kc ks := by
  obtain ⟨hx, hb, hml, hown, hts, hK, hC, hf, hB⟩ := id E
  unfold xd1 at hd; dsimp only at hd; unfold xdt at hd; dsimp only at hd; simp only [Bool.and_eq_true, decide_eq_true_eq] at hd
  obtain ⟨hdg, rfl⟩ := hd
  rw [Nat.add_sub_cancel_left] at hdg
  intro H locs lsA hR hS hl hc1 hc2
  revert hF; unfold xF; intro hF; dsimp only at hF
  split at hF
  · exact lv_ishr hx hb hdg (hF H locs lsA hR hS hl hc1 hc2)
  · exact hF.elim
set_option maxHeartbeats 4000000 in
set_option maxRecDepth 100000 in
theorem xz_ineg {MC : Nat → List Value → xh → (Option Value → xh → Prop) → Prop} {Qa : Option Value → xh → Prop} {n : Nat} {ini : Bool} {rt : Option FieldType} (E : xEnv p s m args c cc nL own dC dI cA f B h0) (hRs : R.slots ≤ 8000000) (hfr : n + 1 ≤ R.frames) (hlo : 32 * (n + 1) ≤ R.locals) (hini : ini = true → meth.name = "<init>") (hmt : ∀ q ∈ xmt, xmo q = true) (hMC : xCon2 l n MC dC dI cA f B h0)
    (hret : xRet p l e R s m args below meth c QW dC dI cA f B h0 cc rt Qa) {pc : Nat}  {nx a b c' e' f' g' : Nat} {k : Int32} {kl : Int64} {ts : List (Int32 × Nat)} {ls : List (Option Value)} {st : List Value} {h : xh} {kc ks : Nat} (hd : xd1 own nL ini rt cc pc (.ineg, nx, a, b, c', e', f', g', k, kl, ts) = true)
    (hF : xF MC R.cells R.slots Qa (xKW p l e R s m args below meth c QW nL dC dI cA f B h0) (.ineg, nx, a, b, c', e', f', g', k, kl, ts) ls st h kc ks) : xKW p l e R s m args below meth c QW nL dC dI cA f B h0 pc ls st h kc ks := by
  obtain ⟨hx, hb, hml, hown, hts, hK, hC, hf, hB⟩ := id E
  unfold xd1 at hd; dsimp only at hd; unfold xdt at hd; dsimp only at hd; simp only [Bool.and_eq_true, decide_eq_true_eq] at hd
  obtain ⟨hdg, rfl⟩ := hd
  rw [Nat.add_sub_cancel_left] at hdg
  intro H locs lsA hR hS hl hc1 hc2
  revert hF; unfold xF; intro hF; dsimp only at hF
  split at hF
  · exact lv_ineg hx hb hdg (hF H locs lsA hR hS hl hc1 hc2)
  · exact hF.elim
set_option maxHeartbeats 4000000 in
set_option maxRecDepth 100000 in
theorem xz_ladd {MC : Nat → List Value → xh → (Option Value → xh → Prop) → Prop} {Qa : Option Value → xh → Prop} {n : Nat} {ini : Bool} {rt : Option FieldType} (E : xEnv p s m args c cc nL own dC dI cA f B h0) (hRs : R.slots ≤ 8000000) (hfr : n + 1 ≤ R.frames) (hlo : 32 * (n + 1) ≤ R.locals) (hini : ini = true → meth.name = "<init>") (hmt : ∀ q ∈ xmt, xmo q = true) (hMC : xCon2 l n MC dC dI cA f B h0)
    (hret : xRet p l e R s m args below meth c QW dC dI cA f B h0 cc rt Qa) {pc : Nat}  {nx a b c' e' f' g' : Nat} {k : Int32} {kl : Int64} {ts : List (Int32 × Nat)} {ls : List (Option Value)} {st : List Value} {h : xh} {kc ks : Nat} (hd : xd1 own nL ini rt cc pc (.ladd, nx, a, b, c', e', f', g', k, kl, ts) = true)
    (hF : xF MC R.cells R.slots Qa (xKW p l e R s m args below meth c QW nL dC dI cA f B h0) (.ladd, nx, a, b, c', e', f', g', k, kl, ts) ls st h kc ks) : xKW p l e R s m args below meth c QW nL dC dI cA f B h0 pc ls st h kc ks := by
  obtain ⟨hx, hb, hml, hown, hts, hK, hC, hf, hB⟩ := id E
  unfold xd1 at hd; dsimp only at hd; unfold xdt at hd; dsimp only at hd; simp only [Bool.and_eq_true, decide_eq_true_eq] at hd
  obtain ⟨hdg, rfl⟩ := hd
  rw [Nat.add_sub_cancel_left] at hdg
  intro H locs lsA hR hS hl hc1 hc2
  revert hF; unfold xF; intro hF; dsimp only at hF
  split at hF
  · exact lv_ladd hx hb hdg (hF H locs lsA hR hS hl hc1 hc2)
  · exact hF.elim
set_option maxHeartbeats 4000000 in
set_option maxRecDepth 100000 in
theorem xz_lmul {MC : Nat → List Value → xh → (Option Value → xh → Prop) → Prop} {Qa : Option Value → xh → Prop} {n : Nat} {ini : Bool} {rt : Option FieldType} (E : xEnv p s m args c cc nL own dC dI cA f B h0) (hRs : R.slots ≤ 8000000) (hfr : n + 1 ≤ R.frames) (hlo : 32 * (n + 1) ≤ R.locals) (hini : ini = true → meth.name = "<init>") (hmt : ∀ q ∈ xmt, xmo q = true) (hMC : xCon2 l n MC dC dI cA f B h0)
    (hret : xRet p l e R s m args below meth c QW dC dI cA f B h0 cc rt Qa) {pc : Nat}  {nx a b c' e' f' g' : Nat} {k : Int32} {kl : Int64} {ts : List (Int32 × Nat)} {ls : List (Option Value)} {st : List Value} {h : xh} {kc ks : Nat} (hd : xd1 own nL ini rt cc pc (.lmul, nx, a, b, c', e', f', g', k, kl, ts) = true)
    (hF : xF MC R.cells R.slots Qa (xKW p l e R s m args below meth c QW nL dC dI cA f B h0) (.lmul, nx, a, b, c', e', f', g', k, kl, ts) ls st h kc ks) : xKW p l e R s m args below meth c QW nL dC dI cA f B h0 pc ls st h kc ks := by
  obtain ⟨hx, hb, hml, hown, hts, hK, hC, hf, hB⟩ := id E
  unfold xd1 at hd; dsimp only at hd; unfold xdt at hd; dsimp only at hd; simp only [Bool.and_eq_true, decide_eq_true_eq] at hd
  obtain ⟨hdg, rfl⟩ := hd
  rw [Nat.add_sub_cancel_left] at hdg
  intro H locs lsA hR hS hl hc1 hc2
  revert hF; unfold xF; intro hF; dsimp only at hF
  split at hF
  · exact lv_lmul hx hb hdg (hF H locs lsA hR hS hl hc1 hc2)
  · exact hF.elim
set_option maxHeartbeats 4000000 in
set_option maxRecDepth 100000 in
theorem xz_lor {MC : Nat → List Value → xh → (Option Value → xh → Prop) → Prop} {Qa : Option Value → xh → Prop} {n : Nat} {ini : Bool} {rt : Option FieldType} (E : xEnv p s m args c cc nL own dC dI cA f B h0) (hRs : R.slots ≤ 8000000) (hfr : n + 1 ≤ R.frames) (hlo : 32 * (n + 1) ≤ R.locals) (hini : ini = true → meth.name = "<init>") (hmt : ∀ q ∈ xmt, xmo q = true) (hMC : xCon2 l n MC dC dI cA f B h0)
    (hret : xRet p l e R s m args below meth c QW dC dI cA f B h0 cc rt Qa) {pc : Nat}  {nx a b c' e' f' g' : Nat} {k : Int32} {kl : Int64} {ts : List (Int32 × Nat)} {ls : List (Option Value)} {st : List Value} {h : xh} {kc ks : Nat} (hd : xd1 own nL ini rt cc pc (.lor, nx, a, b, c', e', f', g', k, kl, ts) = true)
    (hF : xF MC R.cells R.slots Qa (xKW p l e R s m args below meth c QW nL dC dI cA f B h0) (.lor, nx, a, b, c', e', f', g', k, kl, ts) ls st h kc ks) : xKW p l e R s m args below meth c QW nL dC dI cA f B h0 pc ls st h kc ks := by
  obtain ⟨hx, hb, hml, hown, hts, hK, hC, hf, hB⟩ := id E
  unfold xd1 at hd; dsimp only at hd; unfold xdt at hd; dsimp only at hd; simp only [Bool.and_eq_true, decide_eq_true_eq] at hd
  obtain ⟨hdg, rfl⟩ := hd
  rw [Nat.add_sub_cancel_left] at hdg
  intro H locs lsA hR hS hl hc1 hc2
  revert hF; unfold xF; intro hF; dsimp only at hF
  split at hF
  · exact lv_lor hx hb hdg (hF H locs lsA hR hS hl hc1 hc2)
  · exact hF.elim
set_option maxHeartbeats 4000000 in
set_option maxRecDepth 100000 in
theorem xz_iushr {MC : Nat → List Value → xh → (Option Value → xh → Prop) → Prop} {Qa : Option Value → xh → Prop} {n : Nat} {ini : Bool} {rt : Option FieldType} (E : xEnv p s m args c cc nL own dC dI cA f B h0) (hRs : R.slots ≤ 8000000) (hfr : n + 1 ≤ R.frames) (hlo : 32 * (n + 1) ≤ R.locals) (hini : ini = true → meth.name = "<init>") (hmt : ∀ q ∈ xmt, xmo q = true) (hMC : xCon2 l n MC dC dI cA f B h0)
    (hret : xRet p l e R s m args below meth c QW dC dI cA f B h0 cc rt Qa) {pc : Nat}  {nx a b c' e' f' g' : Nat} {k : Int32} {kl : Int64} {ts : List (Int32 × Nat)} {ls : List (Option Value)} {st : List Value} {h : xh} {kc ks : Nat} (hd : xd1 own nL ini rt cc pc (.iushr, nx, a, b, c', e', f', g', k, kl, ts) = true)
    (hF : xF MC R.cells R.slots Qa (xKW p l e R s m args below meth c QW nL dC dI cA f B h0) (.iushr, nx, a, b, c', e', f', g', k, kl, ts) ls st h kc ks) : xKW p l e R s m args below meth c QW nL dC dI cA f B h0 pc ls st h kc ks := by
  obtain ⟨hx, hb, hml, hown, hts, hK, hC, hf, hB⟩ := id E
  unfold xd1 at hd; dsimp only at hd; unfold xdt at hd; dsimp only at hd; simp only [Bool.and_eq_true, decide_eq_true_eq] at hd
  obtain ⟨hdg, rfl⟩ := hd
  rw [Nat.add_sub_cancel_left] at hdg
  intro H locs lsA hR hS hl hc1 hc2
  revert hF; unfold xF; intro hF; dsimp only at hF
  split at hF
  · exact lv_iushr hx hb hdg rfl (hF H locs lsA hR hS hl hc1 hc2)
  · exact hF.elim
set_option maxHeartbeats 4000000 in
set_option maxRecDepth 100000 in
theorem xz_lshl {MC : Nat → List Value → xh → (Option Value → xh → Prop) → Prop} {Qa : Option Value → xh → Prop} {n : Nat} {ini : Bool} {rt : Option FieldType} (E : xEnv p s m args c cc nL own dC dI cA f B h0) (hRs : R.slots ≤ 8000000) (hfr : n + 1 ≤ R.frames) (hlo : 32 * (n + 1) ≤ R.locals) (hini : ini = true → meth.name = "<init>") (hmt : ∀ q ∈ xmt, xmo q = true) (hMC : xCon2 l n MC dC dI cA f B h0)
    (hret : xRet p l e R s m args below meth c QW dC dI cA f B h0 cc rt Qa) {pc : Nat}  {nx a b c' e' f' g' : Nat} {k : Int32} {kl : Int64} {ts : List (Int32 × Nat)} {ls : List (Option Value)} {st : List Value} {h : xh} {kc ks : Nat} (hd : xd1 own nL ini rt cc pc (.lshl, nx, a, b, c', e', f', g', k, kl, ts) = true)
    (hF : xF MC R.cells R.slots Qa (xKW p l e R s m args below meth c QW nL dC dI cA f B h0) (.lshl, nx, a, b, c', e', f', g', k, kl, ts) ls st h kc ks) : xKW p l e R s m args below meth c QW nL dC dI cA f B h0 pc ls st h kc ks := by
  obtain ⟨hx, hb, hml, hown, hts, hK, hC, hf, hB⟩ := id E
  unfold xd1 at hd; dsimp only at hd; unfold xdt at hd; dsimp only at hd; simp only [Bool.and_eq_true, decide_eq_true_eq] at hd
  obtain ⟨hdg, rfl⟩ := hd
  rw [Nat.add_sub_cancel_left] at hdg
  intro H locs lsA hR hS hl hc1 hc2
  revert hF; unfold xF; intro hF; dsimp only at hF
  split at hF
  · exact lv_lshl hx hb hdg rfl (hF H locs lsA hR hS hl hc1 hc2)
  · exact hF.elim
set_option maxHeartbeats 4000000 in
set_option maxRecDepth 100000 in
theorem xz_i2l {MC : Nat → List Value → xh → (Option Value → xh → Prop) → Prop} {Qa : Option Value → xh → Prop} {n : Nat} {ini : Bool} {rt : Option FieldType} (E : xEnv p s m args c cc nL own dC dI cA f B h0) (hRs : R.slots ≤ 8000000) (hfr : n + 1 ≤ R.frames) (hlo : 32 * (n + 1) ≤ R.locals) (hini : ini = true → meth.name = "<init>") (hmt : ∀ q ∈ xmt, xmo q = true) (hMC : xCon2 l n MC dC dI cA f B h0)
    (hret : xRet p l e R s m args below meth c QW dC dI cA f B h0 cc rt Qa) {pc : Nat}  {nx a b c' e' f' g' : Nat} {k : Int32} {kl : Int64} {ts : List (Int32 × Nat)} {ls : List (Option Value)} {st : List Value} {h : xh} {kc ks : Nat} (hd : xd1 own nL ini rt cc pc (.i2l, nx, a, b, c', e', f', g', k, kl, ts) = true)
    (hF : xF MC R.cells R.slots Qa (xKW p l e R s m args below meth c QW nL dC dI cA f B h0) (.i2l, nx, a, b, c', e', f', g', k, kl, ts) ls st h kc ks) : xKW p l e R s m args below meth c QW nL dC dI cA f B h0 pc ls st h kc ks := by
  obtain ⟨hx, hb, hml, hown, hts, hK, hC, hf, hB⟩ := id E
  unfold xd1 at hd; dsimp only at hd; unfold xdt at hd; dsimp only at hd; simp only [Bool.and_eq_true, decide_eq_true_eq] at hd
  obtain ⟨hdg, rfl⟩ := hd
  rw [Nat.add_sub_cancel_left] at hdg
  intro H locs lsA hR hS hl hc1 hc2
  revert hF; unfold xF; intro hF; dsimp only at hF
  split at hF
  · exact lv_i2l hx hb hdg rfl (hF H locs lsA hR hS hl hc1 hc2)
  · exact hF.elim
set_option maxHeartbeats 4000000 in
set_option maxRecDepth 100000 in
theorem xz_l2i {MC : Nat → List Value → xh → (Option Value → xh → Prop) → Prop} {Qa : Option Value → xh → Prop} {n : Nat} {ini : Bool} {rt : Option FieldType} (E : xEnv p s m args c cc nL own dC dI cA f B h0) (hRs : R.slots ≤ 8000000) (hfr : n + 1 ≤ R.frames) (hlo : 32 * (n + 1) ≤ R.locals) (hini : ini = true → meth.name = "<init>") (hmt : ∀ q ∈ xmt, xmo q = true) (hMC : xCon2 l n MC dC dI cA f B h0)
    (hret : xRet p l e R s m args below meth c QW dC dI cA f B h0 cc rt Qa) {pc : Nat}  {nx a b c' e' f' g' : Nat} {k : Int32} {kl : Int64} {ts : List (Int32 × Nat)} {ls : List (Option Value)} {st : List Value} {h : xh} {kc ks : Nat} (hd : xd1 own nL ini rt cc pc (.l2i, nx, a, b, c', e', f', g', k, kl, ts) = true)
    (hF : xF MC R.cells R.slots Qa (xKW p l e R s m args below meth c QW nL dC dI cA f B h0) (.l2i, nx, a, b, c', e', f', g', k, kl, ts) ls st h kc ks) : xKW p l e R s m args below meth c QW nL dC dI cA f B h0 pc ls st h kc ks := by
  obtain ⟨hx, hb, hml, hown, hts, hK, hC, hf, hB⟩ := id E
  unfold xd1 at hd; dsimp only at hd; unfold xdt at hd; dsimp only at hd; simp only [Bool.and_eq_true, decide_eq_true_eq] at hd
  obtain ⟨hdg, rfl⟩ := hd
  rw [Nat.add_sub_cancel_left] at hdg
  intro H locs lsA hR hS hl hc1 hc2
  revert hF; unfold xF; intro hF; dsimp only at hF
  split at hF
  · exact lv_l2i hx hb hdg rfl (hF H locs lsA hR hS hl hc1 hc2)
  · exact hF.elim
set_option maxHeartbeats 4000000 in
set_option maxRecDepth 100000 in
theorem xz_i2b {MC : Nat → List Value → xh → (Option Value → xh → Prop) → Prop} {Qa : Option Value → xh → Prop} {n : Nat} {ini : Bool} {rt : Option FieldType} (E : xEnv p s m args c cc nL own dC dI cA f B h0) (hRs : R.slots ≤ 8000000) (hfr : n + 1 ≤ R.frames) (hlo : 32 * (n + 1) ≤ R.locals) (hini : ini = true → meth.name = "<init>") (hmt : ∀ q ∈ xmt, xmo q = true) (hMC : xCon2 l n MC dC dI cA f B h0)
    (hret : xRet p l e R s m args below meth c QW dC dI cA f B h0 cc rt Qa) {pc : Nat}  {nx a b c' e' f' g' : Nat} {k : Int32} {kl : Int64} {ts : List (Int32 × Nat)} {ls : List (Option Value)} {st : List Value} {h : xh} {kc ks : Nat} (hd : xd1 own nL ini rt cc pc (.i2b, nx, a, b, c', e', f', g', k, kl, ts) = true)
    (hF : xF MC R.cells R.slots Qa (xKW p l e R s m args below meth c QW nL dC dI cA f B h0) (.i2b, nx, a, b, c', e', f', g', k, kl, ts) ls st h kc ks) : xKW p l e R s m args below meth c QW nL dC dI cA f B h0 pc ls st h kc ks := by
  obtain ⟨hx, hb, hml, hown, hts, hK, hC, hf, hB⟩ := id E
  unfold xd1 at hd; dsimp only at hd; unfold xdt at hd; dsimp only at hd; simp only [Bool.and_eq_true, decide_eq_true_eq] at hd
  obtain ⟨hdg, rfl⟩ := hd
  rw [Nat.add_sub_cancel_left] at hdg
  intro H locs lsA hR hS hl hc1 hc2
  revert hF; unfold xF; intro hF; dsimp only at hF
  split at hF
  · exact lv_i2b hx hb hdg rfl (hF H locs lsA hR hS hl hc1 hc2)
  · exact hF.elim
set_option maxHeartbeats 4000000 in
set_option maxRecDepth 100000 in
theorem xz_i2c {MC : Nat → List Value → xh → (Option Value → xh → Prop) → Prop} {Qa : Option Value → xh → Prop} {n : Nat} {ini : Bool} {rt : Option FieldType} (E : xEnv p s m args c cc nL own dC dI cA f B h0) (hRs : R.slots ≤ 8000000) (hfr : n + 1 ≤ R.frames) (hlo : 32 * (n + 1) ≤ R.locals) (hini : ini = true → meth.name = "<init>") (hmt : ∀ q ∈ xmt, xmo q = true) (hMC : xCon2 l n MC dC dI cA f B h0)
    (hret : xRet p l e R s m args below meth c QW dC dI cA f B h0 cc rt Qa) {pc : Nat}  {nx a b c' e' f' g' : Nat} {k : Int32} {kl : Int64} {ts : List (Int32 × Nat)} {ls : List (Option Value)} {st : List Value} {h : xh} {kc ks : Nat} (hd : xd1 own nL ini rt cc pc (.i2c, nx, a, b, c', e', f', g', k, kl, ts) = true)
    (hF : xF MC R.cells R.slots Qa (xKW p l e R s m args below meth c QW nL dC dI cA f B h0) (.i2c, nx, a, b, c', e', f', g', k, kl, ts) ls st h kc ks) : xKW p l e R s m args below meth c QW nL dC dI cA f B h0 pc ls st h kc ks := by
  obtain ⟨hx, hb, hml, hown, hts, hK, hC, hf, hB⟩ := id E
  unfold xd1 at hd; dsimp only at hd; unfold xdt at hd; dsimp only at hd; simp only [Bool.and_eq_true, decide_eq_true_eq] at hd
  obtain ⟨hdg, rfl⟩ := hd
  rw [Nat.add_sub_cancel_left] at hdg
  intro H locs lsA hR hS hl hc1 hc2
  revert hF; unfold xF; intro hF; dsimp only at hF
  split at hF
  · exact lv_i2c hx hb hdg rfl (hF H locs lsA hR hS hl hc1 hc2)
  · exact hF.elim
set_option maxHeartbeats 4000000 in
set_option maxRecDepth 100000 in
theorem xz_idiv {MC : Nat → List Value → xh → (Option Value → xh → Prop) → Prop} {Qa : Option Value → xh → Prop} {n : Nat} {ini : Bool} {rt : Option FieldType} (E : xEnv p s m args c cc nL own dC dI cA f B h0) (hRs : R.slots ≤ 8000000) (hfr : n + 1 ≤ R.frames) (hlo : 32 * (n + 1) ≤ R.locals) (hini : ini = true → meth.name = "<init>") (hmt : ∀ q ∈ xmt, xmo q = true) (hMC : xCon2 l n MC dC dI cA f B h0)
    (hret : xRet p l e R s m args below meth c QW dC dI cA f B h0 cc rt Qa) {pc : Nat}  {nx a b c' e' f' g' : Nat} {k : Int32} {kl : Int64} {ts : List (Int32 × Nat)} {ls : List (Option Value)} {st : List Value} {h : xh} {kc ks : Nat} (hd : xd1 own nL ini rt cc pc (.idiv, nx, a, b, c', e', f', g', k, kl, ts) = true)
    (hF : xF MC R.cells R.slots Qa (xKW p l e R s m args below meth c QW nL dC dI cA f B h0) (.idiv, nx, a, b, c', e', f', g', k, kl, ts) ls st h kc ks) : xKW p l e R s m args below meth c QW nL dC dI cA f B h0 pc ls st h kc ks := by
  obtain ⟨hx, hb, hml, hown, hts, hK, hC, hf, hB⟩ := id E
  unfold xd1 at hd; dsimp only at hd; unfold xdt at hd; dsimp only at hd; simp only [Bool.and_eq_true, decide_eq_true_eq] at hd
  obtain ⟨hdg, rfl⟩ := hd
  rw [Nat.add_sub_cancel_left] at hdg
  intro H locs lsA hR hS hl hc1 hc2
  revert hF; unfold xF; intro hF; dsimp only at hF
  split at hF
  · exact lv_idiv hx hb hdg hF.1 (hF.2 H locs lsA hR hS hl hc1 hc2)
  · exact hF.elim
set_option maxHeartbeats 4000000 in
set_option maxRecDepth 100000 in
theorem xz_irem {MC : Nat → List Value → xh → (Option Value → xh → Prop) → Prop} {Qa : Option Value → xh → Prop} {n : Nat} {ini : Bool} {rt : Option FieldType} (E : xEnv p s m args c cc nL own dC dI cA f B h0) (hRs : R.slots ≤ 8000000) (hfr : n + 1 ≤ R.frames) (hlo : 32 * (n + 1) ≤ R.locals) (hini : ini = true → meth.name = "<init>") (hmt : ∀ q ∈ xmt, xmo q = true) (hMC : xCon2 l n MC dC dI cA f B h0)
    (hret : xRet p l e R s m args below meth c QW dC dI cA f B h0 cc rt Qa) {pc : Nat}  {nx a b c' e' f' g' : Nat} {k : Int32} {kl : Int64} {ts : List (Int32 × Nat)} {ls : List (Option Value)} {st : List Value} {h : xh} {kc ks : Nat} (hd : xd1 own nL ini rt cc pc (.irem, nx, a, b, c', e', f', g', k, kl, ts) = true)
    (hF : xF MC R.cells R.slots Qa (xKW p l e R s m args below meth c QW nL dC dI cA f B h0) (.irem, nx, a, b, c', e', f', g', k, kl, ts) ls st h kc ks) : xKW p l e R s m args below meth c QW nL dC dI cA f B h0 pc ls st h kc ks := by
  obtain ⟨hx, hb, hml, hown, hts, hK, hC, hf, hB⟩ := id E
  unfold xd1 at hd; dsimp only at hd; unfold xdt at hd; dsimp only at hd; simp only [Bool.and_eq_true, decide_eq_true_eq] at hd
  obtain ⟨hdg, rfl⟩ := hd
  rw [Nat.add_sub_cancel_left] at hdg
  intro H locs lsA hR hS hl hc1 hc2
  revert hF; unfold xF; intro hF; dsimp only at hF
  split at hF
  · exact lv_irem hx hb hdg hF.1 (hF.2 H locs lsA hR hS hl hc1 hc2)
  · exact hF.elim
set_option maxHeartbeats 4000000 in
set_option maxRecDepth 100000 in
theorem xz_ldiv {MC : Nat → List Value → xh → (Option Value → xh → Prop) → Prop} {Qa : Option Value → xh → Prop} {n : Nat} {ini : Bool} {rt : Option FieldType} (E : xEnv p s m args c cc nL own dC dI cA f B h0) (hRs : R.slots ≤ 8000000) (hfr : n + 1 ≤ R.frames) (hlo : 32 * (n + 1) ≤ R.locals) (hini : ini = true → meth.name = "<init>") (hmt : ∀ q ∈ xmt, xmo q = true) (hMC : xCon2 l n MC dC dI cA f B h0)
    (hret : xRet p l e R s m args below meth c QW dC dI cA f B h0 cc rt Qa) {pc : Nat}  {nx a b c' e' f' g' : Nat} {k : Int32} {kl : Int64} {ts : List (Int32 × Nat)} {ls : List (Option Value)} {st : List Value} {h : xh} {kc ks : Nat} (hd : xd1 own nL ini rt cc pc (.ldiv, nx, a, b, c', e', f', g', k, kl, ts) = true)
    (hF : xF MC R.cells R.slots Qa (xKW p l e R s m args below meth c QW nL dC dI cA f B h0) (.ldiv, nx, a, b, c', e', f', g', k, kl, ts) ls st h kc ks) : xKW p l e R s m args below meth c QW nL dC dI cA f B h0 pc ls st h kc ks := by
  obtain ⟨hx, hb, hml, hown, hts, hK, hC, hf, hB⟩ := id E
  unfold xd1 at hd; dsimp only at hd; unfold xdt at hd; dsimp only at hd; simp only [Bool.and_eq_true, decide_eq_true_eq] at hd
  obtain ⟨hdg, rfl⟩ := hd
  rw [Nat.add_sub_cancel_left] at hdg
  intro H locs lsA hR hS hl hc1 hc2
  revert hF; unfold xF; intro hF; dsimp only at hF
  split at hF
  · exact lv_ldiv hx hb hdg hF.1 (hF.2 H locs lsA hR hS hl hc1 hc2)
  · exact hF.elim
set_option maxHeartbeats 4000000 in
set_option maxRecDepth 100000 in
theorem xz_lrem {MC : Nat → List Value → xh → (Option Value → xh → Prop) → Prop} {Qa : Option Value → xh → Prop} {n : Nat} {ini : Bool} {rt : Option FieldType} (E : xEnv p s m args c cc nL own dC dI cA f B h0) (hRs : R.slots ≤ 8000000) (hfr : n + 1 ≤ R.frames) (hlo : 32 * (n + 1) ≤ R.locals) (hini : ini = true → meth.name = "<init>") (hmt : ∀ q ∈ xmt, xmo q = true) (hMC : xCon2 l n MC dC dI cA f B h0)
    (hret : xRet p l e R s m args below meth c QW dC dI cA f B h0 cc rt Qa) {pc : Nat}  {nx a b c' e' f' g' : Nat} {k : Int32} {kl : Int64} {ts : List (Int32 × Nat)} {ls : List (Option Value)} {st : List Value} {h : xh} {kc ks : Nat} (hd : xd1 own nL ini rt cc pc (.lrem, nx, a, b, c', e', f', g', k, kl, ts) = true)
    (hF : xF MC R.cells R.slots Qa (xKW p l e R s m args below meth c QW nL dC dI cA f B h0) (.lrem, nx, a, b, c', e', f', g', k, kl, ts) ls st h kc ks) : xKW p l e R s m args below meth c QW nL dC dI cA f B h0 pc ls st h kc ks := by
  obtain ⟨hx, hb, hml, hown, hts, hK, hC, hf, hB⟩ := id E
  unfold xd1 at hd; dsimp only at hd; unfold xdt at hd; dsimp only at hd; simp only [Bool.and_eq_true, decide_eq_true_eq] at hd
  obtain ⟨hdg, rfl⟩ := hd
  rw [Nat.add_sub_cancel_left] at hdg
  intro H locs lsA hR hS hl hc1 hc2
  revert hF; unfold xF; intro hF; dsimp only at hF
  split at hF
  · exact lv_lrem hx hb hdg hF.1 (hF.2 H locs lsA hR hS hl hc1 hc2)
  · exact hF.elim
set_option maxHeartbeats 4000000 in
set_option maxRecDepth 100000 in
theorem xz_lcmp {MC : Nat → List Value → xh → (Option Value → xh → Prop) → Prop} {Qa : Option Value → xh → Prop} {n : Nat} {ini : Bool} {rt : Option FieldType} (E : xEnv p s m args c cc nL own dC dI cA f B h0) (hRs : R.slots ≤ 8000000) (hfr : n + 1 ≤ R.frames) (hlo : 32 * (n + 1) ≤ R.locals) (hini : ini = true → meth.name = "<init>") (hmt : ∀ q ∈ xmt, xmo q = true) (hMC : xCon2 l n MC dC dI cA f B h0)
    (hret : xRet p l e R s m args below meth c QW dC dI cA f B h0 cc rt Qa) {pc : Nat}  {nx a b c' e' f' g' : Nat} {k : Int32} {kl : Int64} {ts : List (Int32 × Nat)} {ls : List (Option Value)} {st : List Value} {h : xh} {kc ks : Nat} (hd : xd1 own nL ini rt cc pc (.lcmp, nx, a, b, c', e', f', g', k, kl, ts) = true)
    (hF : xF MC R.cells R.slots Qa (xKW p l e R s m args below meth c QW nL dC dI cA f B h0) (.lcmp, nx, a, b, c', e', f', g', k, kl, ts) ls st h kc ks) : xKW p l e R s m args below meth c QW nL dC dI cA f B h0 pc ls st h kc ks := by
  obtain ⟨hx, hb, hml, hown, hts, hK, hC, hf, hB⟩ := id E
  unfold xd1 at hd; dsimp only at hd; unfold xdt at hd; dsimp only at hd; simp only [Bool.and_eq_true, decide_eq_true_eq] at hd
  obtain ⟨hdg, rfl⟩ := hd
  rw [Nat.add_sub_cancel_left] at hdg
  intro H locs lsA hR hS hl hc1 hc2
  revert hF; unfold xF; intro hF; dsimp only at hF
  split at hF
  · next y x r =>
    refine W.lcmp hx hb hdg ?_
    have tri : x < y ∨ x = y ∨ y < x := by
      by_cases q1 : x.toInt < y.toInt
      · exact Or.inl (Int64.lt_iff_toInt_lt.mpr q1)
      · by_cases q2 : x.toInt = y.toInt
        · exact Or.inr (Or.inl (Int64.toInt_inj.mp q2))
        · exact Or.inr (Or.inr (Int64.lt_iff_toInt_lt.mpr (by omega)))
    rcases tri with h1 | h1 | h1
    · have e1 : lg_cmp x y = -1 := by
        have h2 : ¬ y < x := fun z => by rw [Int64.lt_iff_toInt_lt] at z h1; omega
        have h3 : ¬ x = y := fun z => by rw [z, Int64.lt_iff_toInt_lt] at h1; omega
        simp [lg_cmp, h2, h3, h1]
      rw [e1]
      exact hF.1 h1 H locs lsA hR hS hl hc1 hc2
    · have e1 : lg_cmp x y = 0 := by subst h1; simp [lg_cmp]
      rw [e1]
      exact hF.2.1 h1 H locs lsA hR hS hl hc1 hc2
    · have e1 : lg_cmp x y = 1 := by simp [lg_cmp, h1]
      rw [e1]
      exact hF.2.2 h1 H locs lsA hR hS hl hc1 hc2
  · exact hF.elim
set_option maxHeartbeats 4000000 in
set_option maxRecDepth 100000 in
theorem xz_dup {MC : Nat → List Value → xh → (Option Value → xh → Prop) → Prop} {Qa : Option Value → xh → Prop} {n : Nat} {ini : Bool} {rt : Option FieldType} (E : xEnv p s m args c cc nL own dC dI cA f B h0) (hRs : R.slots ≤ 8000000) (hfr : n + 1 ≤ R.frames) (hlo : 32 * (n + 1) ≤ R.locals) (hini : ini = true → meth.name = "<init>") (hmt : ∀ q ∈ xmt, xmo q = true) (hMC : xCon2 l n MC dC dI cA f B h0)
    (hret : xRet p l e R s m args below meth c QW dC dI cA f B h0 cc rt Qa) {pc : Nat}  {nx a b c' e' f' g' : Nat} {k : Int32} {kl : Int64} {ts : List (Int32 × Nat)} {ls : List (Option Value)} {st : List Value} {h : xh} {kc ks : Nat} (hd : xd1 own nL ini rt cc pc (.dup, nx, a, b, c', e', f', g', k, kl, ts) = true)
    (hF : xF MC R.cells R.slots Qa (xKW p l e R s m args below meth c QW nL dC dI cA f B h0) (.dup, nx, a, b, c', e', f', g', k, kl, ts) ls st h kc ks) : xKW p l e R s m args below meth c QW nL dC dI cA f B h0 pc ls st h kc ks := by
  obtain ⟨hx, hb, hml, hown, hts, hK, hC, hf, hB⟩ := id E
  unfold xd1 at hd; dsimp only at hd; unfold xdt at hd; dsimp only at hd; simp only [Bool.and_eq_true, decide_eq_true_eq] at hd
  obtain ⟨hdg, rfl⟩ := hd
  rw [Nat.add_sub_cancel_left] at hdg
  intro H locs lsA hR hS hl hc1 hc2
  revert hF; unfold xF; intro hF; dsimp only at hF
  split at hF
  · exact lv_dup hx hb hdg rfl (hF H locs lsA hR hS hl hc1 hc2)
  · exact lv_dup hx hb hdg rfl (hF H locs lsA hR hS hl hc1 hc2)
  · exact hF.elim
set_option maxHeartbeats 4000000 in
set_option maxRecDepth 100000 in
theorem xz_pop {MC : Nat → List Value → xh → (Option Value → xh → Prop) → Prop} {Qa : Option Value → xh → Prop} {n : Nat} {ini : Bool} {rt : Option FieldType} (E : xEnv p s m args c cc nL own dC dI cA f B h0) (hRs : R.slots ≤ 8000000) (hfr : n + 1 ≤ R.frames) (hlo : 32 * (n + 1) ≤ R.locals) (hini : ini = true → meth.name = "<init>") (hmt : ∀ q ∈ xmt, xmo q = true) (hMC : xCon2 l n MC dC dI cA f B h0)
    (hret : xRet p l e R s m args below meth c QW dC dI cA f B h0 cc rt Qa) {pc : Nat}  {nx a b c' e' f' g' : Nat} {k : Int32} {kl : Int64} {ts : List (Int32 × Nat)} {ls : List (Option Value)} {st : List Value} {h : xh} {kc ks : Nat} (hd : xd1 own nL ini rt cc pc (.pop, nx, a, b, c', e', f', g', k, kl, ts) = true)
    (hF : xF MC R.cells R.slots Qa (xKW p l e R s m args below meth c QW nL dC dI cA f B h0) (.pop, nx, a, b, c', e', f', g', k, kl, ts) ls st h kc ks) : xKW p l e R s m args below meth c QW nL dC dI cA f B h0 pc ls st h kc ks := by
  obtain ⟨hx, hb, hml, hown, hts, hK, hC, hf, hB⟩ := id E
  unfold xd1 at hd; dsimp only at hd; unfold xdt at hd; dsimp only at hd; simp only [Bool.and_eq_true, decide_eq_true_eq] at hd
  obtain ⟨hdg, rfl⟩ := hd
  rw [Nat.add_sub_cancel_left] at hdg
  intro H locs lsA hR hS hl hc1 hc2
  revert hF; unfold xF; intro hF; dsimp only at hF
  split at hF
  · exact lv_pop hx hb hdg rfl (hF H locs lsA hR hS hl hc1 hc2)
  · exact lv_pop hx hb hdg rfl (hF H locs lsA hR hS hl hc1 hc2)
  · exact hF.elim
set_option maxHeartbeats 4000000 in
set_option maxRecDepth 100000 in
theorem xz_dup2 {MC : Nat → List Value → xh → (Option Value → xh → Prop) → Prop} {Qa : Option Value → xh → Prop} {n : Nat} {ini : Bool} {rt : Option FieldType} (E : xEnv p s m args c cc nL own dC dI cA f B h0) (hRs : R.slots ≤ 8000000) (hfr : n + 1 ≤ R.frames) (hlo : 32 * (n + 1) ≤ R.locals) (hini : ini = true → meth.name = "<init>") (hmt : ∀ q ∈ xmt, xmo q = true) (hMC : xCon2 l n MC dC dI cA f B h0)
    (hret : xRet p l e R s m args below meth c QW dC dI cA f B h0 cc rt Qa) {pc : Nat}  {nx a b c' e' f' g' : Nat} {k : Int32} {kl : Int64} {ts : List (Int32 × Nat)} {ls : List (Option Value)} {st : List Value} {h : xh} {kc ks : Nat} (hd : xd1 own nL ini rt cc pc (.dup2, nx, a, b, c', e', f', g', k, kl, ts) = true)
    (hF : xF MC R.cells R.slots Qa (xKW p l e R s m args below meth c QW nL dC dI cA f B h0) (.dup2, nx, a, b, c', e', f', g', k, kl, ts) ls st h kc ks) : xKW p l e R s m args below meth c QW nL dC dI cA f B h0 pc ls st h kc ks := by
  obtain ⟨hx, hb, hml, hown, hts, hK, hC, hf, hB⟩ := id E
  unfold xd1 at hd; dsimp only at hd; unfold xdt at hd; dsimp only at hd; simp only [Bool.and_eq_true, decide_eq_true_eq] at hd
  obtain ⟨hdg, rfl⟩ := hd
  rw [Nat.add_sub_cancel_left] at hdg
  intro H locs lsA hR hS hl hc1 hc2
  revert hF; unfold xF; intro hF; dsimp only at hF
  split at hF
  · exact lv_dup2_11 hx hb hdg rfl rfl (hF H locs lsA hR hS hl hc1 hc2)
  · exact hF.elim
set_option maxHeartbeats 4000000 in
set_option maxRecDepth 100000 in
theorem xz_goto {MC : Nat → List Value → xh → (Option Value → xh → Prop) → Prop} {Qa : Option Value → xh → Prop} {n : Nat} {ini : Bool} {rt : Option FieldType} (E : xEnv p s m args c cc nL own dC dI cA f B h0) (hRs : R.slots ≤ 8000000) (hfr : n + 1 ≤ R.frames) (hlo : 32 * (n + 1) ≤ R.locals) (hini : ini = true → meth.name = "<init>") (hmt : ∀ q ∈ xmt, xmo q = true) (hMC : xCon2 l n MC dC dI cA f B h0)
    (hret : xRet p l e R s m args below meth c QW dC dI cA f B h0 cc rt Qa) {pc : Nat} (off : Int) {nx a b c' e' f' g' : Nat} {k : Int32} {kl : Int64} {ts : List (Int32 × Nat)} {ls : List (Option Value)} {st : List Value} {h : xh} {kc ks : Nat} (hd : xd1 own nL ini rt cc pc (.goto off, nx, a, b, c', e', f', g', k, kl, ts) = true)
    (hF : xF MC R.cells R.slots Qa (xKW p l e R s m args below meth c QW nL dC dI cA f B h0) (.goto off, nx, a, b, c', e', f', g', k, kl, ts) ls st h kc ks) : xKW p l e R s m args below meth c QW nL dC dI cA f B h0 pc ls st h kc ks := by
  obtain ⟨hx, hb, hml, hown, hts, hK, hC, hf, hB⟩ := id E
  unfold xd1 at hd; dsimp only at hd; unfold xdt at hd; dsimp only at hd; simp only [Bool.and_eq_true, decide_eq_true_eq] at hd
  obtain ⟨hdg, ht, rfl⟩ := hd
  rw [Nat.add_sub_cancel_left] at hdg
  intro H locs lsA hR hS hl hc1 hc2
  exact lv_goto hx hb hdg ht (hF H locs lsA hR hS hl hc1 hc2)
set_option maxHeartbeats 4000000 in
set_option maxRecDepth 100000 in
theorem xz_ifCond {MC : Nat → List Value → xh → (Option Value → xh → Prop) → Prop} {Qa : Option Value → xh → Prop} {n : Nat} {ini : Bool} {rt : Option FieldType} (E : xEnv p s m args c cc nL own dC dI cA f B h0) (hRs : R.slots ≤ 8000000) (hfr : n + 1 ≤ R.frames) (hlo : 32 * (n + 1) ≤ R.locals) (hini : ini = true → meth.name = "<init>") (hmt : ∀ q ∈ xmt, xmo q = true) (hMC : xCon2 l n MC dC dI cA f B h0)
    (hret : xRet p l e R s m args below meth c QW dC dI cA f B h0 cc rt Qa) {pc : Nat} (cd : ClassFile.Cond) (off : Int) {nx a b c' e' f' g' : Nat} {k : Int32} {kl : Int64} {ts : List (Int32 × Nat)} {ls : List (Option Value)} {st : List Value} {h : xh} {kc ks : Nat} (hd : xd1 own nL ini rt cc pc (.ifCond cd off, nx, a, b, c', e', f', g', k, kl, ts) = true)
    (hF : xF MC R.cells R.slots Qa (xKW p l e R s m args below meth c QW nL dC dI cA f B h0) (.ifCond cd off, nx, a, b, c', e', f', g', k, kl, ts) ls st h kc ks) : xKW p l e R s m args below meth c QW nL dC dI cA f B h0 pc ls st h kc ks := by
  obtain ⟨hx, hb, hml, hown, hts, hK, hC, hf, hB⟩ := id E
  unfold xd1 at hd; dsimp only at hd; unfold xdt at hd; dsimp only at hd; simp only [Bool.and_eq_true, decide_eq_true_eq] at hd
  obtain ⟨hdg, rfl, ht⟩ := hd
  rw [Nat.add_sub_cancel_left] at hdg
  intro H locs lsA hR hS hl hc1 hc2
  cases cd <;> (revert hF; unfold xF; intro hF; dsimp only at hF; split at hF <;> first
    | exact hF.elim
    | exact lv_if_eq hx hb hdg ht (fun z => hF.1 z H locs lsA hR hS hl hc1 hc2) (fun z => hF.2 z H locs lsA hR hS hl hc1 hc2)
    | exact lv_if_ne hx hb hdg ht (fun z => hF.1 z H locs lsA hR hS hl hc1 hc2) (fun z => hF.2 z H locs lsA hR hS hl hc1 hc2)
    | exact lv_if_lt hx hb hdg ht (fun z => hF.1 z H locs lsA hR hS hl hc1 hc2) (fun z => hF.2 z H locs lsA hR hS hl hc1 hc2)
    | exact lv_if_ge hx hb hdg ht (fun z => hF.1 z H locs lsA hR hS hl hc1 hc2) (fun z => hF.2 z H locs lsA hR hS hl hc1 hc2)
    | exact lv_if_gt hx hb hdg ht (fun z => hF.1 z H locs lsA hR hS hl hc1 hc2) (fun z => hF.2 z H locs lsA hR hS hl hc1 hc2)
    | exact lv_if_le hx hb hdg ht (fun z => hF.1 z H locs lsA hR hS hl hc1 hc2) (fun z => hF.2 z H locs lsA hR hS hl hc1 hc2))
set_option maxHeartbeats 4000000 in
set_option maxRecDepth 100000 in
theorem xz_if_icmp {MC : Nat → List Value → xh → (Option Value → xh → Prop) → Prop} {Qa : Option Value → xh → Prop} {n : Nat} {ini : Bool} {rt : Option FieldType} (E : xEnv p s m args c cc nL own dC dI cA f B h0) (hRs : R.slots ≤ 8000000) (hfr : n + 1 ≤ R.frames) (hlo : 32 * (n + 1) ≤ R.locals) (hini : ini = true → meth.name = "<init>") (hmt : ∀ q ∈ xmt, xmo q = true) (hMC : xCon2 l n MC dC dI cA f B h0)
    (hret : xRet p l e R s m args below meth c QW dC dI cA f B h0 cc rt Qa) {pc : Nat} (cd : ClassFile.Cond) (off : Int) {nx a b c' e' f' g' : Nat} {k : Int32} {kl : Int64} {ts : List (Int32 × Nat)} {ls : List (Option Value)} {st : List Value} {h : xh} {kc ks : Nat} (hd : xd1 own nL ini rt cc pc (.if_icmp cd off, nx, a, b, c', e', f', g', k, kl, ts) = true)
    (hF : xF MC R.cells R.slots Qa (xKW p l e R s m args below meth c QW nL dC dI cA f B h0) (.if_icmp cd off, nx, a, b, c', e', f', g', k, kl, ts) ls st h kc ks) : xKW p l e R s m args below meth c QW nL dC dI cA f B h0 pc ls st h kc ks := by
  obtain ⟨hx, hb, hml, hown, hts, hK, hC, hf, hB⟩ := id E
  unfold xd1 at hd; dsimp only at hd; unfold xdt at hd; dsimp only at hd; simp only [Bool.and_eq_true, decide_eq_true_eq] at hd
  obtain ⟨hdg, rfl, ht⟩ := hd
  rw [Nat.add_sub_cancel_left] at hdg
  intro H locs lsA hR hS hl hc1 hc2
  cases cd <;> (revert hF; unfold xF; intro hF; dsimp only at hF; split at hF <;> first
    | exact hF.elim
    | exact lv_icmp_eq hx hb hdg ht (fun z => hF.1 z H locs lsA hR hS hl hc1 hc2) (fun z => hF.2 z H locs lsA hR hS hl hc1 hc2)
    | exact lv_icmp_ne hx hb hdg ht (fun z => hF.1 z H locs lsA hR hS hl hc1 hc2) (fun z => hF.2 z H locs lsA hR hS hl hc1 hc2)
    | exact lv_icmp_lt hx hb hdg ht (fun z => hF.1 z H locs lsA hR hS hl hc1 hc2) (fun z => hF.2 z H locs lsA hR hS hl hc1 hc2)
    | exact lv_icmp_ge hx hb hdg ht (fun z => hF.1 z H locs lsA hR hS hl hc1 hc2) (fun z => hF.2 z H locs lsA hR hS hl hc1 hc2)
    | exact lv_icmp_gt hx hb hdg ht (fun z => hF.1 z H locs lsA hR hS hl hc1 hc2) (fun z => hF.2 z H locs lsA hR hS hl hc1 hc2)
    | exact lv_icmp_le hx hb hdg ht (fun z => hF.1 z H locs lsA hR hS hl hc1 hc2) (fun z => hF.2 z H locs lsA hR hS hl hc1 hc2))
set_option maxHeartbeats 4000000 in
set_option maxRecDepth 100000 in
theorem xz_if_acmp {MC : Nat → List Value → xh → (Option Value → xh → Prop) → Prop} {Qa : Option Value → xh → Prop} {n : Nat} {ini : Bool} {rt : Option FieldType} (E : xEnv p s m args c cc nL own dC dI cA f B h0) (hRs : R.slots ≤ 8000000) (hfr : n + 1 ≤ R.frames) (hlo : 32 * (n + 1) ≤ R.locals) (hini : ini = true → meth.name = "<init>") (hmt : ∀ q ∈ xmt, xmo q = true) (hMC : xCon2 l n MC dC dI cA f B h0)
    (hret : xRet p l e R s m args below meth c QW dC dI cA f B h0 cc rt Qa) {pc : Nat} (cd : ACond) (off : Int) {nx a b c' e' f' g' : Nat} {k : Int32} {kl : Int64} {ts : List (Int32 × Nat)} {ls : List (Option Value)} {st : List Value} {h : xh} {kc ks : Nat} (hd : xd1 own nL ini rt cc pc (.if_acmp cd off, nx, a, b, c', e', f', g', k, kl, ts) = true)
    (hF : xF MC R.cells R.slots Qa (xKW p l e R s m args below meth c QW nL dC dI cA f B h0) (.if_acmp cd off, nx, a, b, c', e', f', g', k, kl, ts) ls st h kc ks) : xKW p l e R s m args below meth c QW nL dC dI cA f B h0 pc ls st h kc ks := by
  obtain ⟨hx, hb, hml, hown, hts, hK, hC, hf, hB⟩ := id E
  unfold xd1 at hd; dsimp only at hd; unfold xdt at hd; dsimp only at hd; simp only [Bool.and_eq_true, decide_eq_true_eq] at hd
  obtain ⟨hdg, rfl, ht⟩ := hd
  rw [Nat.add_sub_cancel_left] at hdg
  intro H locs lsA hR hS hl hc1 hc2
  cases cd with
  | eq => exact (show False from hF).elim
  | ne =>
    revert hF; unfold xF; intro hF; dsimp only at hF
    split at hF
    · next y x r =>
      obtain ⟨⟨g1, g2⟩, g3, g4⟩ := hF
      refine lv_acmp_ne (rx := some (f x)) (ry := some (f y)) hx hb hdg ht (fun z => g3 (fun z2 => z (by rw [z2])) H locs lsA hR hS hl hc1 hc2) (fun z => g4 ?_ H locs lsA hR hS hl hc1 hc2)
      exact xf_inj hf g1 g2 (Option.some.inj z)
    · next y r => exact lv_acmp_ne (rx := none) (ry := some (f y)) hx hb hdg ht (fun _ => hF H locs lsA hR hS hl hc1 hc2) (fun z => by cases z)
    · exact hF.elim
set_option maxHeartbeats 4000000 in
set_option maxRecDepth 100000 in
theorem xz_ifnonnull {MC : Nat → List Value → xh → (Option Value → xh → Prop) → Prop} {Qa : Option Value → xh → Prop} {n : Nat} {ini : Bool} {rt : Option FieldType} (E : xEnv p s m args c cc nL own dC dI cA f B h0) (hRs : R.slots ≤ 8000000) (hfr : n + 1 ≤ R.frames) (hlo : 32 * (n + 1) ≤ R.locals) (hini : ini = true → meth.name = "<init>") (hmt : ∀ q ∈ xmt, xmo q = true) (hMC : xCon2 l n MC dC dI cA f B h0)
    (hret : xRet p l e R s m args below meth c QW dC dI cA f B h0 cc rt Qa) {pc : Nat} (off : Int) {nx a b c' e' f' g' : Nat} {k : Int32} {kl : Int64} {ts : List (Int32 × Nat)} {ls : List (Option Value)} {st : List Value} {h : xh} {kc ks : Nat} (hd : xd1 own nL ini rt cc pc (.ifnonnull off, nx, a, b, c', e', f', g', k, kl, ts) = true)
    (hF : xF MC R.cells R.slots Qa (xKW p l e R s m args below meth c QW nL dC dI cA f B h0) (.ifnonnull off, nx, a, b, c', e', f', g', k, kl, ts) ls st h kc ks) : xKW p l e R s m args below meth c QW nL dC dI cA f B h0 pc ls st h kc ks := by
  obtain ⟨hx, hb, hml, hown, hts, hK, hC, hf, hB⟩ := id E
  unfold xd1 at hd; dsimp only at hd; unfold xdt at hd; dsimp only at hd; simp only [Bool.and_eq_true, decide_eq_true_eq] at hd
  obtain ⟨hdg, rfl, ht⟩ := hd
  rw [Nat.add_sub_cancel_left] at hdg
  intro H locs lsA hR hS hl hc1 hc2
  revert hF; unfold xF; intro hF; dsimp only at hF
  split at hF
  · exact lv_ifnonnull hx hb hdg ht (hF H locs lsA hR hS hl hc1 hc2)
  · exact lv_ifnonnullN hx hb hdg (hF H locs lsA hR hS hl hc1 hc2)
  · exact hF.elim
set_option maxHeartbeats 4000000 in
set_option maxRecDepth 100000 in
theorem xz_ifnull {MC : Nat → List Value → xh → (Option Value → xh → Prop) → Prop} {Qa : Option Value → xh → Prop} {n : Nat} {ini : Bool} {rt : Option FieldType} (E : xEnv p s m args c cc nL own dC dI cA f B h0) (hRs : R.slots ≤ 8000000) (hfr : n + 1 ≤ R.frames) (hlo : 32 * (n + 1) ≤ R.locals) (hini : ini = true → meth.name = "<init>") (hmt : ∀ q ∈ xmt, xmo q = true) (hMC : xCon2 l n MC dC dI cA f B h0)
    (hret : xRet p l e R s m args below meth c QW dC dI cA f B h0 cc rt Qa) {pc : Nat} (off : Int) {nx a b c' e' f' g' : Nat} {k : Int32} {kl : Int64} {ts : List (Int32 × Nat)} {ls : List (Option Value)} {st : List Value} {h : xh} {kc ks : Nat} (hd : xd1 own nL ini rt cc pc (.ifnull off, nx, a, b, c', e', f', g', k, kl, ts) = true)
    (hF : xF MC R.cells R.slots Qa (xKW p l e R s m args below meth c QW nL dC dI cA f B h0) (.ifnull off, nx, a, b, c', e', f', g', k, kl, ts) ls st h kc ks) : xKW p l e R s m args below meth c QW nL dC dI cA f B h0 pc ls st h kc ks := by
  obtain ⟨hx, hb, hml, hown, hts, hK, hC, hf, hB⟩ := id E
  unfold xd1 at hd; dsimp only at hd; unfold xdt at hd; dsimp only at hd; simp only [Bool.and_eq_true, decide_eq_true_eq] at hd
  obtain ⟨hdg, rfl, ht⟩ := hd
  rw [Nat.add_sub_cancel_left] at hdg
  intro H locs lsA hR hS hl hc1 hc2
  revert hF; unfold xF; intro hF; dsimp only at hF
  split at hF
  · exact lv_ifnull hx hb hdg (hF H locs lsA hR hS hl hc1 hc2)
  · exact lv_ifnullN hx hb hdg ht (hF H locs lsA hR hS hl hc1 hc2)
  · exact hF.elim
set_option maxHeartbeats 4000000 in
set_option maxRecDepth 100000 in
theorem xz_tableswitch {MC : Nat → List Value → xh → (Option Value → xh → Prop) → Prop} {Qa : Option Value → xh → Prop} {n : Nat} {ini : Bool} {rt : Option FieldType} (E : xEnv p s m args c cc nL own dC dI cA f B h0) (hRs : R.slots ≤ 8000000) (hfr : n + 1 ≤ R.frames) (hlo : 32 * (n + 1) ≤ R.locals) (hini : ini = true → meth.name = "<init>") (hmt : ∀ q ∈ xmt, xmo q = true) (hMC : xCon2 l n MC dC dI cA f B h0)
    (hret : xRet p l e R s m args below meth c QW dC dI cA f B h0 cc rt Qa) {pc : Nat} (d lo hi : Int) (offs : Array Int) {nx a b c' e' f' g' : Nat} {k : Int32} {kl : Int64} {ts : List (Int32 × Nat)} {ls : List (Option Value)} {st : List Value} {h : xh} {kc ks : Nat} (hd : xd1 own nL ini rt cc pc (.tableswitch d lo hi offs, nx, a, b, c', e', f', g', k, kl, ts) = true)
    (hF : xF MC R.cells R.slots Qa (xKW p l e R s m args below meth c QW nL dC dI cA f B h0) (.tableswitch d lo hi offs, nx, a, b, c', e', f', g', k, kl, ts) ls st h kc ks) : xKW p l e R s m args below meth c QW nL dC dI cA f B h0 pc ls st h kc ks := by
  obtain ⟨hx, hb, hml, hown, hts, hK, hC, hf, hB⟩ := id E
  unfold xd1 at hd; dsimp only at hd; unfold xdt at hd; dsimp only at hd; simp only [Bool.and_eq_true, decide_eq_true_eq] at hd
  obtain ⟨hdg, h1, h2, h3⟩ := hd
  intro H locs lsA hR hS hl hc1 hc2
  revert hF; unfold xF; intro hF; dsimp only at hF
  split at hF
  · next x r =>
    obtain ⟨t1, t2⟩ := xtsw lo _ ts a h1 hF
    by_cases hr : x.toInt < lo ∨ hi < x.toInt
    · exact lv_tableOut hx hb hdg hr h2 (t2 (by omega) H locs lsA hR hS hl hc1 hc2)
    · have hr1 : ¬ x.toInt < lo := fun z => hr (Or.inl z)
      have hr2 : ¬ hi < x.toInt := fun z => hr (Or.inr z)
      have hlt : (x.toInt - lo).toNat < offs.toList.length := by omega
      have ho : offs.toList[(x.toInt - lo).toNat]? = some (offs.toList[(x.toInt - lo).toNat]) := List.getElem?_eq_getElem hlt
      obtain ⟨t, e1, e2⟩ := t1 _ _ ho (by omega)
      refine lv_tableIn (off := offs.toList[(x.toInt - lo).toNat]) hx hb hdg hr1 hr2 ?_ e1 (e2 H locs lsA hR hS hl hc1 hc2)
      rw [← Array.getElem?_toList]
      exact ho
  · exact hF.elim
set_option maxHeartbeats 4000000 in
set_option maxRecDepth 100000 in
theorem xz_arraylength {MC : Nat → List Value → xh → (Option Value → xh → Prop) → Prop} {Qa : Option Value → xh → Prop} {n : Nat} {ini : Bool} {rt : Option FieldType} (E : xEnv p s m args c cc nL own dC dI cA f B h0) (hRs : R.slots ≤ 8000000) (hfr : n + 1 ≤ R.frames) (hlo : 32 * (n + 1) ≤ R.locals) (hini : ini = true → meth.name = "<init>") (hmt : ∀ q ∈ xmt, xmo q = true) (hMC : xCon2 l n MC dC dI cA f B h0)
    (hret : xRet p l e R s m args below meth c QW dC dI cA f B h0 cc rt Qa) {pc : Nat}  {nx a b c' e' f' g' : Nat} {k : Int32} {kl : Int64} {ts : List (Int32 × Nat)} {ls : List (Option Value)} {st : List Value} {h : xh} {kc ks : Nat} (hd : xd1 own nL ini rt cc pc (.arraylength, nx, a, b, c', e', f', g', k, kl, ts) = true)
    (hF : xF MC R.cells R.slots Qa (xKW p l e R s m args below meth c QW nL dC dI cA f B h0) (.arraylength, nx, a, b, c', e', f', g', k, kl, ts) ls st h kc ks) : xKW p l e R s m args below meth c QW nL dC dI cA f B h0 pc ls st h kc ks := by
  obtain ⟨hx, hb, hml, hown, hts, hK, hC, hf, hB⟩ := id E
  unfold xd1 at hd; dsimp only at hd; unfold xdt at hd; dsimp only at hd; simp only [Bool.and_eq_true, decide_eq_true_eq] at hd
  obtain ⟨hdg, rfl⟩ := hd
  rw [Nat.add_sub_cancel_left] at hdg
  intro H locs lsA hR hS hl hc1 hc2
  revert hF; unfold xF; intro hF; dsimp only at hF
  split at hF
  · exact xs_alen E hR hS hF.1 hdg (hF.2 H locs lsA hR hS hl hc1 hc2)
  · exact hF.elim
set_option maxHeartbeats 4000000 in
set_option maxRecDepth 100000 in
theorem xz_iaload {MC : Nat → List Value → xh → (Option Value → xh → Prop) → Prop} {Qa : Option Value → xh → Prop} {n : Nat} {ini : Bool} {rt : Option FieldType} (E : xEnv p s m args c cc nL own dC dI cA f B h0) (hRs : R.slots ≤ 8000000) (hfr : n + 1 ≤ R.frames) (hlo : 32 * (n + 1) ≤ R.locals) (hini : ini = true → meth.name = "<init>") (hmt : ∀ q ∈ xmt, xmo q = true) (hMC : xCon2 l n MC dC dI cA f B h0)
    (hret : xRet p l e R s m args below meth c QW dC dI cA f B h0 cc rt Qa) {pc : Nat}  {nx a b c' e' f' g' : Nat} {k : Int32} {kl : Int64} {ts : List (Int32 × Nat)} {ls : List (Option Value)} {st : List Value} {h : xh} {kc ks : Nat} (hd : xd1 own nL ini rt cc pc (.iaload, nx, a, b, c', e', f', g', k, kl, ts) = true)
    (hF : xF MC R.cells R.slots Qa (xKW p l e R s m args below meth c QW nL dC dI cA f B h0) (.iaload, nx, a, b, c', e', f', g', k, kl, ts) ls st h kc ks) : xKW p l e R s m args below meth c QW nL dC dI cA f B h0 pc ls st h kc ks := by
  obtain ⟨hx, hb, hml, hown, hts, hK, hC, hf, hB⟩ := id E
  unfold xd1 at hd; dsimp only at hd; unfold xdt at hd; dsimp only at hd; simp only [Bool.and_eq_true, decide_eq_true_eq] at hd
  obtain ⟨hdg, rfl⟩ := hd
  rw [Nat.add_sub_cancel_left] at hdg
  intro H locs lsA hR hS hl hc1 hc2
  revert hF; unfold xF; intro hF; dsimp only at hF
  split at hF
  · exact xs_iald E hR hS hF.1 hdg (hF.2 H locs lsA hR hS hl hc1 hc2)
  · exact hF.elim
set_option maxHeartbeats 4000000 in
set_option maxRecDepth 100000 in
theorem xz_laload {MC : Nat → List Value → xh → (Option Value → xh → Prop) → Prop} {Qa : Option Value → xh → Prop} {n : Nat} {ini : Bool} {rt : Option FieldType} (E : xEnv p s m args c cc nL own dC dI cA f B h0) (hRs : R.slots ≤ 8000000) (hfr : n + 1 ≤ R.frames) (hlo : 32 * (n + 1) ≤ R.locals) (hini : ini = true → meth.name = "<init>") (hmt : ∀ q ∈ xmt, xmo q = true) (hMC : xCon2 l n MC dC dI cA f B h0)
    (hret : xRet p l e R s m args below meth c QW dC dI cA f B h0 cc rt Qa) {pc : Nat}  {nx a b c' e' f' g' : Nat} {k : Int32} {kl : Int64} {ts : List (Int32 × Nat)} {ls : List (Option Value)} {st : List Value} {h : xh} {kc ks : Nat} (hd : xd1 own nL ini rt cc pc (.laload, nx, a, b, c', e', f', g', k, kl, ts) = true)
    (hF : xF MC R.cells R.slots Qa (xKW p l e R s m args below meth c QW nL dC dI cA f B h0) (.laload, nx, a, b, c', e', f', g', k, kl, ts) ls st h kc ks) : xKW p l e R s m args below meth c QW nL dC dI cA f B h0 pc ls st h kc ks := by
  obtain ⟨hx, hb, hml, hown, hts, hK, hC, hf, hB⟩ := id E
  unfold xd1 at hd; dsimp only at hd; unfold xdt at hd; dsimp only at hd; simp only [Bool.and_eq_true, decide_eq_true_eq] at hd
  obtain ⟨hdg, rfl⟩ := hd
  rw [Nat.add_sub_cancel_left] at hdg
  intro H locs lsA hR hS hl hc1 hc2
  revert hF; unfold xF; intro hF; dsimp only at hF
  split at hF
  · exact xs_lald E hR hS hF.1 hdg (hF.2 H locs lsA hR hS hl hc1 hc2)
  · exact hF.elim
set_option maxHeartbeats 4000000 in
set_option maxRecDepth 100000 in
theorem xz_baload {MC : Nat → List Value → xh → (Option Value → xh → Prop) → Prop} {Qa : Option Value → xh → Prop} {n : Nat} {ini : Bool} {rt : Option FieldType} (E : xEnv p s m args c cc nL own dC dI cA f B h0) (hRs : R.slots ≤ 8000000) (hfr : n + 1 ≤ R.frames) (hlo : 32 * (n + 1) ≤ R.locals) (hini : ini = true → meth.name = "<init>") (hmt : ∀ q ∈ xmt, xmo q = true) (hMC : xCon2 l n MC dC dI cA f B h0)
    (hret : xRet p l e R s m args below meth c QW dC dI cA f B h0 cc rt Qa) {pc : Nat}  {nx a b c' e' f' g' : Nat} {k : Int32} {kl : Int64} {ts : List (Int32 × Nat)} {ls : List (Option Value)} {st : List Value} {h : xh} {kc ks : Nat} (hd : xd1 own nL ini rt cc pc (.baload, nx, a, b, c', e', f', g', k, kl, ts) = true)
    (hF : xF MC R.cells R.slots Qa (xKW p l e R s m args below meth c QW nL dC dI cA f B h0) (.baload, nx, a, b, c', e', f', g', k, kl, ts) ls st h kc ks) : xKW p l e R s m args below meth c QW nL dC dI cA f B h0 pc ls st h kc ks := by
  obtain ⟨hx, hb, hml, hown, hts, hK, hC, hf, hB⟩ := id E
  unfold xd1 at hd; dsimp only at hd; unfold xdt at hd; dsimp only at hd; simp only [Bool.and_eq_true, Bool.or_eq_true, decide_eq_true_eq] at hd
  obtain ⟨hdg, rfl, hk⟩ := hd
  rw [Nat.add_sub_cancel_left] at hdg
  intro H locs lsA hR hS hl hc1 hc2
  revert hF; unfold xF; intro hF; dsimp only at hF
  split at hF
  · rcases hk with hk | hk
    · subst hk; exact xs_bald E hR hS hF.1 hdg (hF.2 H locs lsA hR hS hl hc1 hc2)
    · subst hk; exact xs_zald E hR hS hF.1 hdg (hF.2 H locs lsA hR hS hl hc1 hc2)
  · exact hF.elim
set_option maxHeartbeats 4000000 in
set_option maxRecDepth 100000 in
theorem xz_aaload {MC : Nat → List Value → xh → (Option Value → xh → Prop) → Prop} {Qa : Option Value → xh → Prop} {n : Nat} {ini : Bool} {rt : Option FieldType} (E : xEnv p s m args c cc nL own dC dI cA f B h0) (hRs : R.slots ≤ 8000000) (hfr : n + 1 ≤ R.frames) (hlo : 32 * (n + 1) ≤ R.locals) (hini : ini = true → meth.name = "<init>") (hmt : ∀ q ∈ xmt, xmo q = true) (hMC : xCon2 l n MC dC dI cA f B h0)
    (hret : xRet p l e R s m args below meth c QW dC dI cA f B h0 cc rt Qa) {pc : Nat}  {nx a b c' e' f' g' : Nat} {k : Int32} {kl : Int64} {ts : List (Int32 × Nat)} {ls : List (Option Value)} {st : List Value} {h : xh} {kc ks : Nat} (hd : xd1 own nL ini rt cc pc (.aaload, nx, a, b, c', e', f', g', k, kl, ts) = true)
    (hF : xF MC R.cells R.slots Qa (xKW p l e R s m args below meth c QW nL dC dI cA f B h0) (.aaload, nx, a, b, c', e', f', g', k, kl, ts) ls st h kc ks) : xKW p l e R s m args below meth c QW nL dC dI cA f B h0 pc ls st h kc ks := by
  obtain ⟨hx, hb, hml, hown, hts, hK, hC, hf, hB⟩ := id E
  unfold xd1 at hd; dsimp only at hd; unfold xdt at hd; dsimp only at hd; simp only [Bool.and_eq_true, decide_eq_true_eq] at hd
  obtain ⟨hdg, rfl, k1, k2⟩ := hd
  rw [Nat.add_sub_cancel_left] at hdg
  intro H locs lsA hR hS hl hc1 hc2
  revert hF; unfold xF; intro hF; dsimp only at hF
  split at hF
  · next i q r =>
    refine xs_aald E hR hS hF.1 k1 k2 hdg ?_
    cases hr : xR h q i.toNatClampNeg with
    | none => exact hF.2.2 hr H locs lsA hR hS hl hc1 hc2
    | some v => exact hF.2.1 v hr H locs lsA hR hS hl hc1 hc2
  · exact hF.elim
set_option maxHeartbeats 4000000 in
set_option maxRecDepth 100000 in
theorem xz_iastore {MC : Nat → List Value → xh → (Option Value → xh → Prop) → Prop} {Qa : Option Value → xh → Prop} {n : Nat} {ini : Bool} {rt : Option FieldType} (E : xEnv p s m args c cc nL own dC dI cA f B h0) (hRs : R.slots ≤ 8000000) (hfr : n + 1 ≤ R.frames) (hlo : 32 * (n + 1) ≤ R.locals) (hini : ini = true → meth.name = "<init>") (hmt : ∀ q ∈ xmt, xmo q = true) (hMC : xCon2 l n MC dC dI cA f B h0)
    (hret : xRet p l e R s m args below meth c QW dC dI cA f B h0 cc rt Qa) {pc : Nat}  {nx a b c' e' f' g' : Nat} {k : Int32} {kl : Int64} {ts : List (Int32 × Nat)} {ls : List (Option Value)} {st : List Value} {h : xh} {kc ks : Nat} (hd : xd1 own nL ini rt cc pc (.iastore, nx, a, b, c', e', f', g', k, kl, ts) = true)
    (hF : xF MC R.cells R.slots Qa (xKW p l e R s m args below meth c QW nL dC dI cA f B h0) (.iastore, nx, a, b, c', e', f', g', k, kl, ts) ls st h kc ks) : xKW p l e R s m args below meth c QW nL dC dI cA f B h0 pc ls st h kc ks := by
  obtain ⟨hx, hb, hml, hown, hts, hK, hC, hf, hB⟩ := id E
  unfold xd1 at hd; dsimp only at hd; unfold xdt at hd; dsimp only at hd; simp only [Bool.and_eq_true, decide_eq_true_eq] at hd
  obtain ⟨hdg, rfl⟩ := hd
  rw [Nat.add_sub_cancel_left] at hdg
  intro H locs lsA hR hS hl hc1 hc2
  revert hF; unfold xF; intro hF; dsimp only at hF
  split at hF
  · exact xs_iast E hR hS hF.1.1 hF.1.2 hdg (fun H1 locs1 hR1 hS1 => hF.2 H1 locs1 lsA hR1 hS1 hl hc1 hc2)
  · exact hF.elim
set_option maxHeartbeats 4000000 in
set_option maxRecDepth 100000 in
theorem xz_lastore {MC : Nat → List Value → xh → (Option Value → xh → Prop) → Prop} {Qa : Option Value → xh → Prop} {n : Nat} {ini : Bool} {rt : Option FieldType} (E : xEnv p s m args c cc nL own dC dI cA f B h0) (hRs : R.slots ≤ 8000000) (hfr : n + 1 ≤ R.frames) (hlo : 32 * (n + 1) ≤ R.locals) (hini : ini = true → meth.name = "<init>") (hmt : ∀ q ∈ xmt, xmo q = true) (hMC : xCon2 l n MC dC dI cA f B h0)
    (hret : xRet p l e R s m args below meth c QW dC dI cA f B h0 cc rt Qa) {pc : Nat}  {nx a b c' e' f' g' : Nat} {k : Int32} {kl : Int64} {ts : List (Int32 × Nat)} {ls : List (Option Value)} {st : List Value} {h : xh} {kc ks : Nat} (hd : xd1 own nL ini rt cc pc (.lastore, nx, a, b, c', e', f', g', k, kl, ts) = true)
    (hF : xF MC R.cells R.slots Qa (xKW p l e R s m args below meth c QW nL dC dI cA f B h0) (.lastore, nx, a, b, c', e', f', g', k, kl, ts) ls st h kc ks) : xKW p l e R s m args below meth c QW nL dC dI cA f B h0 pc ls st h kc ks := by
  obtain ⟨hx, hb, hml, hown, hts, hK, hC, hf, hB⟩ := id E
  unfold xd1 at hd; dsimp only at hd; unfold xdt at hd; dsimp only at hd; simp only [Bool.and_eq_true, decide_eq_true_eq] at hd
  obtain ⟨hdg, rfl⟩ := hd
  rw [Nat.add_sub_cancel_left] at hdg
  intro H locs lsA hR hS hl hc1 hc2
  revert hF; unfold xF; intro hF; dsimp only at hF
  split at hF
  · exact xs_last E hR hS hF.1.1 hF.1.2 hdg (fun H1 locs1 hR1 hS1 => hF.2 H1 locs1 lsA hR1 hS1 hl hc1 hc2)
  · exact hF.elim
set_option maxHeartbeats 4000000 in
set_option maxRecDepth 100000 in
theorem xz_bastore {MC : Nat → List Value → xh → (Option Value → xh → Prop) → Prop} {Qa : Option Value → xh → Prop} {n : Nat} {ini : Bool} {rt : Option FieldType} (E : xEnv p s m args c cc nL own dC dI cA f B h0) (hRs : R.slots ≤ 8000000) (hfr : n + 1 ≤ R.frames) (hlo : 32 * (n + 1) ≤ R.locals) (hini : ini = true → meth.name = "<init>") (hmt : ∀ q ∈ xmt, xmo q = true) (hMC : xCon2 l n MC dC dI cA f B h0)
    (hret : xRet p l e R s m args below meth c QW dC dI cA f B h0 cc rt Qa) {pc : Nat}  {nx a b c' e' f' g' : Nat} {k : Int32} {kl : Int64} {ts : List (Int32 × Nat)} {ls : List (Option Value)} {st : List Value} {h : xh} {kc ks : Nat} (hd : xd1 own nL ini rt cc pc (.bastore, nx, a, b, c', e', f', g', k, kl, ts) = true)
    (hF : xF MC R.cells R.slots Qa (xKW p l e R s m args below meth c QW nL dC dI cA f B h0) (.bastore, nx, a, b, c', e', f', g', k, kl, ts) ls st h kc ks) : xKW p l e R s m args below meth c QW nL dC dI cA f B h0 pc ls st h kc ks := by
  obtain ⟨hx, hb, hml, hown, hts, hK, hC, hf, hB⟩ := id E
  unfold xd1 at hd; dsimp only at hd; unfold xdt at hd; dsimp only at hd; simp only [Bool.and_eq_true, Bool.or_eq_true, decide_eq_true_eq] at hd
  obtain ⟨hdg, rfl, hk⟩ := hd
  rw [Nat.add_sub_cancel_left] at hdg
  intro H locs lsA hR hS hl hc1 hc2
  revert hF; unfold xF; intro hF; dsimp only at hF
  split at hF
  · rcases hk with ⟨hk, hk2⟩ | ⟨hk, hk2⟩
    · subst hk; subst hk2; exact xs_bast E hR hS hF.1.1 hF.1.2.1 hF.1.2.2 hdg (fun H1 locs1 hR1 hS1 => hF.2 H1 locs1 lsA hR1 hS1 hl hc1 hc2)
    · subst hk; subst hk2; exact xs_zast E hR hS hF.1.1 hF.1.2.1 hF.1.2.2 hdg (fun H1 locs1 hR1 hS1 => hF.2 H1 locs1 lsA hR1 hS1 hl hc1 hc2)
  · exact hF.elim
set_option maxHeartbeats 4000000 in
set_option maxRecDepth 100000 in
theorem xz_aastore {MC : Nat → List Value → xh → (Option Value → xh → Prop) → Prop} {Qa : Option Value → xh → Prop} {n : Nat} {ini : Bool} {rt : Option FieldType} (E : xEnv p s m args c cc nL own dC dI cA f B h0) (hRs : R.slots ≤ 8000000) (hfr : n + 1 ≤ R.frames) (hlo : 32 * (n + 1) ≤ R.locals) (hini : ini = true → meth.name = "<init>") (hmt : ∀ q ∈ xmt, xmo q = true) (hMC : xCon2 l n MC dC dI cA f B h0)
    (hret : xRet p l e R s m args below meth c QW dC dI cA f B h0 cc rt Qa) {pc : Nat}  {nx a b c' e' f' g' : Nat} {k : Int32} {kl : Int64} {ts : List (Int32 × Nat)} {ls : List (Option Value)} {st : List Value} {h : xh} {kc ks : Nat} (hd : xd1 own nL ini rt cc pc (.aastore, nx, a, b, c', e', f', g', k, kl, ts) = true)
    (hF : xF MC R.cells R.slots Qa (xKW p l e R s m args below meth c QW nL dC dI cA f B h0) (.aastore, nx, a, b, c', e', f', g', k, kl, ts) ls st h kc ks) : xKW p l e R s m args below meth c QW nL dC dI cA f B h0 pc ls st h kc ks := by
  obtain ⟨hx, hb, hml, hown, hts, hK, hC, hf, hB⟩ := id E
  unfold xd1 at hd; dsimp only at hd; unfold xdt at hd; dsimp only at hd; simp only [Bool.and_eq_true, decide_eq_true_eq] at hd
  obtain ⟨hdg, rfl, k1, k2, k3⟩ := hd
  rw [Nat.add_sub_cancel_left] at hdg
  intro H locs lsA hR hS hl hc1 hc2
  revert hF; unfold xF; intro hF; dsimp only at hF
  split at hF
  · subst k3; exact xs_aast E hR hS hF.1.1 hF.1.2.1 k1 k2 hF.1.2.2.1 hF.1.2.2.2 hdg (fun H1 locs1 hR1 hS1 => hF.2 H1 locs1 lsA hR1 hS1 hl hc1 hc2)
  · exact hF.elim
set_option maxHeartbeats 4000000 in
set_option maxRecDepth 100000 in
theorem xz_newarray {MC : Nat → List Value → xh → (Option Value → xh → Prop) → Prop} {Qa : Option Value → xh → Prop} {n : Nat} {ini : Bool} {rt : Option FieldType} (E : xEnv p s m args c cc nL own dC dI cA f B h0) (hRs : R.slots ≤ 8000000) (hfr : n + 1 ≤ R.frames) (hlo : 32 * (n + 1) ≤ R.locals) (hini : ini = true → meth.name = "<init>") (hmt : ∀ q ∈ xmt, xmo q = true) (hMC : xCon2 l n MC dC dI cA f B h0)
    (hret : xRet p l e R s m args below meth c QW dC dI cA f B h0 cc rt Qa) {pc : Nat} (t : ArrayType) {nx a b c' e' f' g' : Nat} {k : Int32} {kl : Int64} {ts : List (Int32 × Nat)} {ls : List (Option Value)} {st : List Value} {h : xh} {kc ks : Nat} (hd : xd1 own nL ini rt cc pc (.newarray t, nx, a, b, c', e', f', g', k, kl, ts) = true)
    (hF : xF MC R.cells R.slots Qa (xKW p l e R s m args below meth c QW nL dC dI cA f B h0) (.newarray t, nx, a, b, c', e', f', g', k, kl, ts) ls st h kc ks) : xKW p l e R s m args below meth c QW nL dC dI cA f B h0 pc ls st h kc ks := by
  obtain ⟨hx, hb, hml, hown, hts, hK, hC, hf, hB⟩ := id E
  unfold xd1 at hd; dsimp only at hd; unfold xdt at hd; dsimp only at hd; simp only [Bool.and_eq_true, Bool.or_eq_true, decide_eq_true_eq] at hd
  obtain ⟨hdg, rfl, hk⟩ := hd
  rw [Nat.add_sub_cancel_left] at hdg
  intro H locs lsA hR hS hl hc1 hc2
  revert hF; unfold xF; intro hF; dsimp only at hF
  split at hF
  · exact xs_newa E hR hS (by rcases hk with (hk | hk) | hk | hk <;> simp [hk]) hF.1.1 hRs hF.1.2.1 hF.1.2.2 hdg (fun H1 hR1 hS1 => hF.2 H1 locs lsA hR1 hS1 hl hF.1.2.1 hF.1.2.2)
  · exact hF.elim
set_option maxHeartbeats 4000000 in
set_option maxRecDepth 100000 in
theorem xz_anewarray {MC : Nat → List Value → xh → (Option Value → xh → Prop) → Prop} {Qa : Option Value → xh → Prop} {n : Nat} {ini : Bool} {rt : Option FieldType} (E : xEnv p s m args c cc nL own dC dI cA f B h0) (hRs : R.slots ≤ 8000000) (hfr : n + 1 ≤ R.frames) (hlo : 32 * (n + 1) ≤ R.locals) (hini : ini = true → meth.name = "<init>") (hmt : ∀ q ∈ xmt, xmo q = true) (hMC : xCon2 l n MC dC dI cA f B h0)
    (hret : xRet p l e R s m args below meth c QW dC dI cA f B h0 cc rt Qa) {pc : Nat} (x : Nat) {nx a b c' e' f' g' : Nat} {k : Int32} {kl : Int64} {ts : List (Int32 × Nat)} {ls : List (Option Value)} {st : List Value} {h : xh} {kc ks : Nat} (hd : xd1 own nL ini rt cc pc (.anewarray x, nx, a, b, c', e', f', g', k, kl, ts) = true)
    (hF : xF MC R.cells R.slots Qa (xKW p l e R s m args below meth c QW nL dC dI cA f B h0) (.anewarray x, nx, a, b, c', e', f', g', k, kl, ts) ls st h kc ks) : xKW p l e R s m args below meth c QW nL dC dI cA f B h0 pc ls st h kc ks := by
  obtain ⟨hx, hb, hml, hown, hts, hK, hC, hf, hB⟩ := id E
  unfold xd1 at hd; dsimp only at hd; unfold xdt at hd; dsimp only at hd; simp only [Bool.and_eq_true, decide_eq_true_eq] at hd
  obtain ⟨hdg, rfl, k1, k2, k3⟩ := hd
  rw [Nat.add_sub_cancel_left] at hdg
  intro H locs lsA hR hS hl hc1 hc2
  revert hF; unfold xF; intro hF; dsimp only at hF
  split at hF
  · split at k3
    · next C hC =>
      simp only [Bool.and_eq_true, decide_eq_true_eq] at k3
      exact xs_anew E hR hS k1 k2 hC k3.1 (List.mem_of_getElem? k3.2) hF.1.1 hRs hF.1.2.1 hF.1.2.2 hdg (fun H1 hR1 hS1 => hF.2 H1 locs lsA hR1 hS1 hl hF.1.2.1 hF.1.2.2)
    · cases k3
  · exact hF.elim
set_option maxHeartbeats 4000000 in
set_option maxRecDepth 100000 in
theorem xz_new {MC : Nat → List Value → xh → (Option Value → xh → Prop) → Prop} {Qa : Option Value → xh → Prop} {n : Nat} {ini : Bool} {rt : Option FieldType} (E : xEnv p s m args c cc nL own dC dI cA f B h0) (hRs : R.slots ≤ 8000000) (hfr : n + 1 ≤ R.frames) (hlo : 32 * (n + 1) ≤ R.locals) (hini : ini = true → meth.name = "<init>") (hmt : ∀ q ∈ xmt, xmo q = true) (hMC : xCon2 l n MC dC dI cA f B h0)
    (hret : xRet p l e R s m args below meth c QW dC dI cA f B h0 cc rt Qa) {pc : Nat} (x : Nat) {nx a b c' e' f' g' : Nat} {k : Int32} {kl : Int64} {ts : List (Int32 × Nat)} {ls : List (Option Value)} {st : List Value} {h : xh} {kc ks : Nat} (hd : xd1 own nL ini rt cc pc (.new x, nx, a, b, c', e', f', g', k, kl, ts) = true)
    (hF : xF MC R.cells R.slots Qa (xKW p l e R s m args below meth c QW nL dC dI cA f B h0) (.new x, nx, a, b, c', e', f', g', k, kl, ts) ls st h kc ks) : xKW p l e R s m args below meth c QW nL dC dI cA f B h0 pc ls st h kc ks := by
  obtain ⟨hx, hb, hml, hown, hts, hK, hC, hf, hB⟩ := id E
  unfold xd1 at hd; dsimp only at hd; unfold xdt at hd; dsimp only at hd; simp only [Bool.and_eq_true, decide_eq_true_eq] at hd
  obtain ⟨hdg, rfl, k1, rfl, k3⟩ := hd
  rw [Nat.add_sub_cancel_left] at hdg
  intro H locs lsA hR hS hl hc1 hc2
  revert hF; unfold xF; intro hF; dsimp only at hF
  split at k3
  · next r hr =>
    exact xs_new E hR hS k1 hr (List.mem_of_getElem? (of_decide_eq_true k3)) hF.1.1 hF.1.2 hdg (fun H1 hR1 hS1 => hF.2 H1 locs lsA hR1 hS1 hl hF.1.1 hF.1.2)
  · cases k3
set_option maxHeartbeats 4000000 in
set_option maxRecDepth 100000 in
theorem xz_getfield {MC : Nat → List Value → xh → (Option Value → xh → Prop) → Prop} {Qa : Option Value → xh → Prop} {n : Nat} {ini : Bool} {rt : Option FieldType} (E : xEnv p s m args c cc nL own dC dI cA f B h0) (hRs : R.slots ≤ 8000000) (hfr : n + 1 ≤ R.frames) (hlo : 32 * (n + 1) ≤ R.locals) (hini : ini = true → meth.name = "<init>") (hmt : ∀ q ∈ xmt, xmo q = true) (hMC : xCon2 l n MC dC dI cA f B h0)
    (hret : xRet p l e R s m args below meth c QW dC dI cA f B h0 cc rt Qa) {pc : Nat} (x : Nat) {nx a b c' e' f' g' : Nat} {k : Int32} {kl : Int64} {ts : List (Int32 × Nat)} {ls : List (Option Value)} {st : List Value} {h : xh} {kc ks : Nat} (hd : xd1 own nL ini rt cc pc (.getfield x, nx, a, b, c', e', f', g', k, kl, ts) = true)
    (hF : xF MC R.cells R.slots Qa (xKW p l e R s m args below meth c QW nL dC dI cA f B h0) (.getfield x, nx, a, b, c', e', f', g', k, kl, ts) ls st h kc ks) : xKW p l e R s m args below meth c QW nL dC dI cA f B h0 pc ls st h kc ks := by
  obtain ⟨hx, hb, hml, hown, hts, hK, hC, hf, hB⟩ := id E
  unfold xd1 at hd; dsimp only at hd; unfold xdt at hd; dsimp only at hd; simp only [Bool.and_eq_true, decide_eq_true_eq] at hd
  obtain ⟨hdg, rfl, hk⟩ := hd
  rw [Nat.add_sub_cancel_left] at hdg
  intro H locs lsA hR hS hl hc1 hc2
  revert hF; unfold xF; intro hF; dsimp only at hF
  split at hF
  · next q r =>
    obtain ⟨hq, hF⟩ := hF
    split at hk
    · next rr hr =>
      simp only [Bool.and_eq_true, Bool.or_eq_true, decide_eq_true_eq] at hk
      obtain ⟨k1, k2, k3, k4⟩ := hk
      refine xs_get E hR hq k1 k2 hr (List.mem_of_getElem? k3) hdg ?_
      rcases k4 with ⟨rfl, k4 | k4⟩ | ⟨rfl, k4⟩ | ⟨rfl, k4⟩
      · simp only [xfv, k4]; exact hF H locs lsA hR hS hl hc1 hc2
      · simp only [xfv, k4]; exact hF H locs lsA hR hS hl hc1 hc2
      · simp only [xfv, k4]; exact hF H locs lsA hR hS hl hc1 hc2
      · simp only [xfv, k4]
        cases hv : xR h q b with
        | none => exact hF.2 hv H locs lsA hR hS hl hc1 hc2
        | some v => exact hF.1 v hv H locs lsA hR hS hl hc1 hc2
    · simp only [Bool.and_eq_true, Bool.or_eq_true, decide_eq_true_eq] at hk
      obtain ⟨rfl, hk⟩ := hk
      have hlt : q < 64 := by
        by_cases hlt : q < 64
        · exact hlt
        · rcases hR.2.2.1 q (Nat.not_lt.mp hlt) (xRel_lt hR (by rw [hq]; decide)) with ⟨z, -⟩ | ⟨z, -⟩
          · rw [hq] at z; exact absurd z (by decide)
          · rw [hq] at z; exact absurd z.2 (by decide)
      obtain ⟨e3, e4, e5⟩ := hR.2.2.2.2.1 q hlt
      obtain ⟨d1, d2, v, d3, d4⟩ := hC.2.2.1 q 0 hlt (e3.symm.trans hq)
      rcases hk with ⟨⟨rfl, rfl⟩, k3⟩ | ⟨⟨rfl, rfl⟩, k3⟩
      · refine vk_getf hx hb d4 hS hown (hts _ (List.mem_of_getElem? k3) rfl) (fun _ z => z) hdg ?_
        exact hF.1 v (by rw [e5]; exact d3) H locs lsA hR hS hl hc1 hc2
      · refine vk_getf hx hb d2 hS hown (hts _ (List.mem_of_getElem? k3) rfl) (fun _ z => z) hdg ?_
        rw [← e4]
        exact hF H locs lsA hR hS hl hc1 hc2
  · exact hF.elim
set_option maxHeartbeats 4000000 in
set_option maxRecDepth 100000 in
theorem xz_putfield {MC : Nat → List Value → xh → (Option Value → xh → Prop) → Prop} {Qa : Option Value → xh → Prop} {n : Nat} {ini : Bool} {rt : Option FieldType} (E : xEnv p s m args c cc nL own dC dI cA f B h0) (hRs : R.slots ≤ 8000000) (hfr : n + 1 ≤ R.frames) (hlo : 32 * (n + 1) ≤ R.locals) (hini : ini = true → meth.name = "<init>") (hmt : ∀ q ∈ xmt, xmo q = true) (hMC : xCon2 l n MC dC dI cA f B h0)
    (hret : xRet p l e R s m args below meth c QW dC dI cA f B h0 cc rt Qa) {pc : Nat} (x : Nat) {nx a b c' e' f' g' : Nat} {k : Int32} {kl : Int64} {ts : List (Int32 × Nat)} {ls : List (Option Value)} {st : List Value} {h : xh} {kc ks : Nat} (hd : xd1 own nL ini rt cc pc (.putfield x, nx, a, b, c', e', f', g', k, kl, ts) = true)
    (hF : xF MC R.cells R.slots Qa (xKW p l e R s m args below meth c QW nL dC dI cA f B h0) (.putfield x, nx, a, b, c', e', f', g', k, kl, ts) ls st h kc ks) : xKW p l e R s m args below meth c QW nL dC dI cA f B h0 pc ls st h kc ks := by
  obtain ⟨hx, hb, hml, hown, hts, hK, hC, hf, hB⟩ := id E
  unfold xd1 at hd; dsimp only at hd; unfold xdt at hd; dsimp only at hd; simp only [Bool.and_eq_true, decide_eq_true_eq] at hd
  obtain ⟨hdg, rfl, hk⟩ := hd
  rw [Nat.add_sub_cancel_left] at hdg
  intro H locs lsA hR hS hl hc1 hc2
  revert hF; unfold xF; intro hF; dsimp only at hF
  split at hk
  · next rr hr =>
    simp only [Bool.and_eq_true, Bool.or_eq_true, decide_eq_true_eq] at hk
    obtain ⟨k1, k2, k3, k4, k5⟩ := hk
    have hfin : (rr.2.1 b).2.2.2 = false ∨ (meth.name = "<init>" ∧ rr.1 = own) := by
      rcases k5 with k5 | ⟨k5, k6⟩
      · exact Or.inl k5
      · exact Or.inr ⟨hini k5, k6⟩
    have hty := xft_cases k1 k2
    split at hF
    · next v q r =>
      have hz : ∀ (hn : narrow (xtyf a b) (.int v) = .int v) (hfit : fits (xtyf a b) (.int v) = true) (hk4 : xft a b = 0 ∨ xft a b = 1) (g1 : 64 ≤ q) (g2 : xS h q = (a, 0)) (hF : xKW p l e R s m args below meth c QW nL dC dI cA f B h0 (pc + 3) ls r (xsI h q b v) kc ks), W p l e R s m args below meth c H locs kc ks QW (F0 m pc lsA (.int v :: .ref (f q) :: r.map (xtv f))) := by
        intro hn hfit hk4 g1 g2 hF
        refine xs_put (h' := xsI h q b v) E hR hS g1 g2 k1 k2 hr (List.mem_of_getElem? k3) hfin hn hfit rfl rfl (fun k9 hk9 => ⟨xsI_ne h _ _ hk9, rfl, rfl⟩) (fun i9 _ => ?_) hdg (fun H1 locs1 hR1 hS1 => hF H1 locs1 lsA hR1 hS1 hl hc1 hc2)
        show (if i9 = b then Value.int v else xfv f h q a i9) = xfv f (xsI h q b v) q a i9
        by_cases hi9 : i9 = b
        · subst hi9
          rw [if_pos rfl]
          rcases hk4 with hk4 | hk4 <;> simp only [xfv, hk4, xsI_at, va_up, if_pos]
        · rw [if_neg hi9]
          simp only [xfv, xsI_at, va_up, if_neg hi9]
          rfl
      split at hF
      · rcases hty with ⟨t1, t2⟩ | ⟨t1, t2⟩ | ⟨t1, t2⟩ | ⟨t1, t2⟩ <;> rw [t1] at k4
        · exact hz (by rw [t2]; rfl) (by rw [t2]; rfl) (Or.inl t1) hF.1.1 hF.1.2 hF.2
        · cases k4
        · cases k4
        · cases k4
      · rcases hty with ⟨t1, t2⟩ | ⟨t1, t2⟩ | ⟨t1, t2⟩ | ⟨t1, t2⟩ <;> rw [t1] at k4
        · cases k4
        · refine hz ?_ ?_ (Or.inr t1) hF.1.1.1 hF.1.1.2 hF.2
          · rw [t2]; rcases hF.1.2 with z | z <;> rw [z] <;> rfl
          · rw [t2]; rcases hF.1.2 with z | z <;> rw [z] <;> rfl
        · cases k4
        · cases k4
      · exact hF.elim
    · next v q r =>
      split at hF
      · rcases hty with ⟨t1, t2⟩ | ⟨t1, t2⟩ | ⟨t1, t2⟩ | ⟨t1, t2⟩ <;> rw [t1] at k4
        · cases k4
        · cases k4
        · refine xs_put (h' := xsL h q b v) E hR hS hF.1.1 hF.1.2 k1 k2 hr (List.mem_of_getElem? k3) hfin (by rw [t2]; rfl) (by rw [t2]; rfl) rfl rfl (fun k9 hk9 => ⟨rfl, xsL_ne h _ _ hk9, rfl⟩) (fun i9 _ => ?_) hdg (fun H1 locs1 hR1 hS1 => hF.2 H1 locs1 lsA hR1 hS1 hl hc1 hc2)
          show (if i9 = b then Value.long v else xfv f h q a i9) = xfv f (xsL h q b v) q a i9
          by_cases hi9 : i9 = b
          · subst hi9
            rw [if_pos rfl]
            simp only [xfv, t1, xsL_at, va_up, if_pos]
          · rw [if_neg hi9]
            simp only [xfv, xsL_at, va_up, if_neg hi9]
            rfl
        · cases k4
      · exact hF.elim
    · next v q r =>
      split at hF
      · rcases hty with ⟨t1, t2⟩ | ⟨t1, t2⟩ | ⟨t1, t2⟩ | ⟨t1, t2⟩ <;> rw [t1] at k4
        · cases k4
        · cases k4
        · cases k4
        · refine xs_put (v := .ref (f v)) (h' := xsR h q b (some v)) E hR hS hF.1.1 hF.1.2 k1 k2 hr (List.mem_of_getElem? k3) hfin (by rcases t2 with ⟨z, t2⟩ | ⟨z, t2⟩ <;> rw [t2] <;> rfl) (by rcases t2 with ⟨z, t2⟩ | ⟨z, t2⟩ <;> rw [t2] <;> rfl) rfl rfl (fun k9 hk9 => ⟨rfl, rfl, xsR_ne h _ _ hk9⟩) (fun i9 _ => ?_) hdg (fun H1 locs1 hR1 hS1 => hF.2 H1 locs1 lsA hR1 hS1 hl hc1 hc2)
          show (if i9 = b then Value.ref (f v) else xfv f h q a i9) = xfv f (xsR h q b (some v)) q a i9
          by_cases hi9 : i9 = b
          · subst hi9
            rw [if_pos rfl]
            simp only [xfv, t1, xsR_at, va_up, if_pos]
            rfl
          · rw [if_neg hi9]
            simp only [xfv, xsR_at, va_up, if_neg hi9]
            rfl
      · exact hF.elim
    · next q r =>
      split at hF
      · rcases hty with ⟨t1, t2⟩ | ⟨t1, t2⟩ | ⟨t1, t2⟩ | ⟨t1, t2⟩ <;> rw [t1] at k4
        · cases k4
        · cases k4
        · cases k4
        · refine xs_put (v := .null) (h' := xsR h q b none) E hR hS hF.1.1 hF.1.2 k1 k2 hr (List.mem_of_getElem? k3) hfin (by rcases t2 with ⟨z, t2⟩ | ⟨z, t2⟩ <;> rw [t2] <;> rfl) (by rcases t2 with ⟨z, t2⟩ | ⟨z, t2⟩ <;> rw [t2] <;> rfl) rfl rfl (fun k9 hk9 => ⟨rfl, rfl, xsR_ne h _ _ hk9⟩) (fun i9 _ => ?_) hdg (fun H1 locs1 hR1 hS1 => hF.2 H1 locs1 lsA hR1 hS1 hl hc1 hc2)
          show (if i9 = b then Value.null else xfv f h q a i9) = xfv f (xsR h q b none) q a i9
          by_cases hi9 : i9 = b
          · subst hi9
            rw [if_pos rfl]
            simp only [xfv, t1, xsR_at, va_up, if_pos]
            rfl
          · rw [if_neg hi9]
            simp only [xfv, xsR_at, va_up, if_neg hi9]
            rfl
      · exact hF.elim
    · exact hF.elim
  · cases hk
set_option maxHeartbeats 4000000 in
set_option maxRecDepth 100000 in
theorem xz_getstatic {MC : Nat → List Value → xh → (Option Value → xh → Prop) → Prop} {Qa : Option Value → xh → Prop} {n : Nat} {ini : Bool} {rt : Option FieldType} (E : xEnv p s m args c cc nL own dC dI cA f B h0) (hRs : R.slots ≤ 8000000) (hfr : n + 1 ≤ R.frames) (hlo : 32 * (n + 1) ≤ R.locals) (hini : ini = true → meth.name = "<init>") (hmt : ∀ q ∈ xmt, xmo q = true) (hMC : xCon2 l n MC dC dI cA f B h0)
    (hret : xRet p l e R s m args below meth c QW dC dI cA f B h0 cc rt Qa) {pc : Nat} (x : Nat) {nx a b c' e' f' g' : Nat} {k : Int32} {kl : Int64} {ts : List (Int32 × Nat)} {ls : List (Option Value)} {st : List Value} {h : xh} {kc ks : Nat} (hd : xd1 own nL ini rt cc pc (.getstatic x, nx, a, b, c', e', f', g', k, kl, ts) = true)
    (hF : xF MC R.cells R.slots Qa (xKW p l e R s m args below meth c QW nL dC dI cA f B h0) (.getstatic x, nx, a, b, c', e', f', g', k, kl, ts) ls st h kc ks) : xKW p l e R s m args below meth c QW nL dC dI cA f B h0 pc ls st h kc ks := by
  obtain ⟨hx, hb, hml, hown, hts, hK, hC, hf, hB⟩ := id E
  unfold xd1 at hd; dsimp only at hd; unfold xdt at hd; dsimp only at hd; simp only [Bool.and_eq_true, decide_eq_true_eq] at hd
  obtain ⟨hdg, rfl, hk⟩ := hd
  rw [Nat.add_sub_cancel_left] at hdg
  intro H locs lsA hR hS hl hc1 hc2
  revert hF; unfold xF; intro hF; dsimp only at hF
  obtain ⟨z1, z2, z3, z4, z5⟩ := hC.2.2.2.2.1
  split at hF
  · simp only [Bool.and_eq_true, decide_eq_true_eq] at hk
    obtain ⟨rfl, hk⟩ := hk
    exact va_gets hx hb z5 hS hown (hts _ (List.mem_of_getElem? hk) rfl) (fun _ z => z) hdg (hF H locs lsA hR hS hl hc1 hc2)
  · simp only [Bool.and_eq_true, Bool.or_eq_true, decide_eq_true_eq] at hk
    rcases hk with (⟨rfl, hk⟩ | ⟨rfl, hk⟩) | ⟨rfl, hk⟩ | ⟨rfl, hk⟩
    · exact va_gets hx hb z1 hS hown (hts _ (List.mem_of_getElem? hk) rfl) (fun _ z => z) hdg (hF H locs lsA hR hS hl hc1 hc2)
    · exact va_gets hx hb z2 hS hown (hts _ (List.mem_of_getElem? hk) rfl) (fun _ z => z) hdg (hF H locs lsA hR hS hl hc1 hc2)
    · exact va_gets hx hb z3 hS hown (hts _ (List.mem_of_getElem? hk) rfl) (fun _ z => z) hdg (hF H locs lsA hR hS hl hc1 hc2)
    · exact va_gets hx hb z4 hS hown (hts _ (List.mem_of_getElem? hk) rfl) (fun _ z => z) hdg (hF H locs lsA hR hS hl hc1 hc2)
  · next n0 n1 =>
    split at hk
    · exact absurd rfl n0
    · exact absurd rfl n1
    · simp only [Bool.and_eq_true, decide_eq_true_eq] at hk
      obtain ⟨rfl, hk⟩ := hk
      rcases hC.2.2.2.2.2.1 with z6 | z6
      · exact va_gets hx hb z6 hS hown (hts _ (List.mem_of_getElem? hk) rfl) (fun _ z => z) hdg (hF.2 H locs lsA hR hS hl hc1 hc2)
      · exact va_gets hx hb z6 hS hown (hts _ (List.mem_of_getElem? hk) rfl) (fun _ z => z) hdg (hF.1 H locs lsA hR hS hl hc1 hc2)
set_option maxHeartbeats 4000000 in
set_option maxRecDepth 100000 in
theorem xz_invokestatic {MC : Nat → List Value → xh → (Option Value → xh → Prop) → Prop} {Qa : Option Value → xh → Prop} {n : Nat} {ini : Bool} {rt : Option FieldType} (E : xEnv p s m args c cc nL own dC dI cA f B h0) (hRs : R.slots ≤ 8000000) (hfr : n + 1 ≤ R.frames) (hlo : 32 * (n + 1) ≤ R.locals) (hini : ini = true → meth.name = "<init>") (hmt : ∀ q ∈ xmt, xmo q = true) (hMC : xCon2 l n MC dC dI cA f B h0)
    (hret : xRet p l e R s m args below meth c QW dC dI cA f B h0 cc rt Qa) {pc : Nat} (x : Nat) {nx a b c' e' f' g' : Nat} {k : Int32} {kl : Int64} {ts : List (Int32 × Nat)} {ls : List (Option Value)} {st : List Value} {h : xh} {kc ks : Nat} (hd : xd1 own nL ini rt cc pc (.invokestatic x, nx, a, b, c', e', f', g', k, kl, ts) = true)
    (hF : xF MC R.cells R.slots Qa (xKW p l e R s m args below meth c QW nL dC dI cA f B h0) (.invokestatic x, nx, a, b, c', e', f', g', k, kl, ts) ls st h kc ks) : xKW p l e R s m args below meth c QW nL dC dI cA f B h0 pc ls st h kc ks := by
  obtain ⟨hx, hb, hml, hown, hts, hK, hC, hf, hB⟩ := id E
  unfold xCon2 at hMC; unfold xd1 at hd; dsimp only at hd; unfold xdt at hd; generalize xmt = X at hd hmt hMC; dsimp only at hd; simp only [Bool.and_eq_true, decide_eq_true_eq] at hd
  obtain ⟨hdg, rfl, hk⟩ := hd
  rw [Nat.add_sub_cancel_left] at hdg
  intro H locs lsA hR hS hl hc1 hc2
  revert hF; unfold xF; intro hF; dsimp only at hF
  split at hF
  · simp only [Bool.and_eq_true, Bool.or_eq_true, decide_eq_true_eq] at hk
    split at hF
    · next n dp d sp s9 r =>
      split at hF
      · exact hF.elim
      · next hble =>
        obtain ⟨k1, k2⟩ := hk
        split at k2
        · next w pl =>
          obtain ⟨⟨⟨g1, g2⟩, ⟨g3, g4⟩, ⟨g5, g6, g7⟩, g8, g9⟩, hF⟩ := hF
          exact xs_copy E hR hS k1 g2 g1 g3 g4 g5 g6 g7 g8 g9 (List.mem_of_getElem? (of_decide_eq_true k2)) hl.1 (by rw [xcs_eq]; exact Nat.le_of_ble_eq_true hble) (by omega) (by omega) hdg (fun H1 locs1 hR1 hS1 => hF H1 locs1 lsA hR1 hS1 hl hc1 hc2)
        · cases k2
    · exact hF.elim
  · next hne =>
    split at hk
    · exact absurd rfl hne
    · split at hF
      · exact hF.elim
      · next hbeq =>
        split at hk
        · next y b9 ml rt9 cd kd na tg mc9 ms9 rc9 ps hq =>
          simp only [Bool.and_eq_true, decide_eq_true_eq] at hk
          obtain ⟨rfl, rfl, rfl, rfl, rfl, hlk⟩ := hk
          have hm := hmt _ (List.mem_of_getElem? hq)
          have hst : st.map (xtv f) = ((xpop na [] st).1.map (xtv f)).reverse ++ (xpop na [] st).2.map (xtv f) := by
            rw [← List.map_reverse, ← List.map_append, xpop_eq]
            rfl
          rw [hst]
          refine xs_cm (av := ((xpop na [] st).1.map (xtv f)).toArray) hF (xmo_00 hm) hS hl hc1 hc2 (fun Q' hmc hcs hb2 => ?_)
          have hM2 := hMC _ _ _ _ _ hq hmc
          dsimp only at hM2
          have hmc2 : kc + mc9 ≤ R.cells ∧ ks + ms9 ≤ R.slots := hb2
          exact xs_runS (n := n) (Q' := Q') (as := (xpop na [] st).1) (r := (xpop na [] st).2) E hR hS hM2 hm hlk (Nat.eq_of_beq_eq_true hbeq) hfr hlo hcs hl.1 hdg hmc2
        · cases hk
set_option maxHeartbeats 4000000 in
set_option maxRecDepth 100000 in
theorem xz_invokevirtual {MC : Nat → List Value → xh → (Option Value → xh → Prop) → Prop} {Qa : Option Value → xh → Prop} {n : Nat} {ini : Bool} {rt : Option FieldType} (E : xEnv p s m args c cc nL own dC dI cA f B h0) (hRs : R.slots ≤ 8000000) (hfr : n + 1 ≤ R.frames) (hlo : 32 * (n + 1) ≤ R.locals) (hini : ini = true → meth.name = "<init>") (hmt : ∀ q ∈ xmt, xmo q = true) (hMC : xCon2 l n MC dC dI cA f B h0)
    (hret : xRet p l e R s m args below meth c QW dC dI cA f B h0 cc rt Qa) {pc : Nat} (x : Nat) {nx a b c' e' f' g' : Nat} {k : Int32} {kl : Int64} {ts : List (Int32 × Nat)} {ls : List (Option Value)} {st : List Value} {h : xh} {kc ks : Nat} (hd : xd1 own nL ini rt cc pc (.invokevirtual x, nx, a, b, c', e', f', g', k, kl, ts) = true)
    (hF : xF MC R.cells R.slots Qa (xKW p l e R s m args below meth c QW nL dC dI cA f B h0) (.invokevirtual x, nx, a, b, c', e', f', g', k, kl, ts) ls st h kc ks) : xKW p l e R s m args below meth c QW nL dC dI cA f B h0 pc ls st h kc ks := by
  obtain ⟨hx, hb, hml, hown, hts, hK, hC, hf, hB⟩ := id E
  unfold xCon2 at hMC; unfold xd1 at hd; dsimp only at hd; unfold xdt at hd; generalize xmt = X at hd hmt hMC; dsimp only at hd; simp only [Bool.and_eq_true, decide_eq_true_eq] at hd
  obtain ⟨hdg, rfl, hk⟩ := hd
  rw [Nat.add_sub_cancel_left] at hdg
  intro H locs lsA hR hS hl hc1 hc2
  revert hF; unfold xF; intro hF; dsimp only at hF
  split at hF
  · next as q r hpop =>
    obtain ⟨hqs, hF⟩ := hF
    split at hk
    · next y b9 ml rt9 cd kd na tg mc9 ms9 rc9 ps hq =>
      simp only [Bool.and_eq_true, decide_eq_true_eq] at hk
      obtain ⟨rfl, rfl, rfl, rfl, rfl, rfl, hlk⟩ := hk
      have hm := hmt _ (List.mem_of_getElem? hq)
      have hst : st.map (xtv f) = (as.map (xtv f)).reverse ++ .ref (f q) :: r.map (xtv f) := by
        have e1 := xpop_eq na [] st
        rw [hpop] at e1
        have e2 : st = as.reverse ++ (.ref q :: r) := e1.symm
        rw [e2, List.map_append, List.map_reverse]
        rfl
      have hlen : as.length = na := by
        have e1 := xpop_len na [] st
        rw [hpop] at e1
        exact e1 (by simp)
      rw [hst]
      split at hlk
      · next pl =>
        refine xs_cm (av := (Value.ref (f q) :: as.map (xtv f)).toArray) hF (xmo_00 hm) hS hl hc1 hc2 (fun Q' hmc hcs hb2 => ?_)
        have hM2 := hMC _ _ _ _ _ hq hmc
        dsimp only at hM2
        have hl2 := List.mem_of_getElem? (of_decide_eq_true hlk)
        have hmc2 : kc + mc9 ≤ R.cells ∧ ks + ms9 ≤ R.slots := hb2
        exact xs_runV (n := n) (Q' := Q') (as := as) (r := r) E hR hS hM2 hm hl2 hqs hlen hfr hlo hcs hl.1 hdg hmc2
      · cases hlk
    · cases hk
  · exact hF.elim
set_option maxHeartbeats 4000000 in
set_option maxRecDepth 100000 in
theorem xz_invokespecial {MC : Nat → List Value → xh → (Option Value → xh → Prop) → Prop} {Qa : Option Value → xh → Prop} {n : Nat} {ini : Bool} {rt : Option FieldType} (E : xEnv p s m args c cc nL own dC dI cA f B h0) (hRs : R.slots ≤ 8000000) (hfr : n + 1 ≤ R.frames) (hlo : 32 * (n + 1) ≤ R.locals) (hini : ini = true → meth.name = "<init>") (hmt : ∀ q ∈ xmt, xmo q = true) (hMC : xCon2 l n MC dC dI cA f B h0)
    (hret : xRet p l e R s m args below meth c QW dC dI cA f B h0 cc rt Qa) {pc : Nat} (x : Nat) {nx a b c' e' f' g' : Nat} {k : Int32} {kl : Int64} {ts : List (Int32 × Nat)} {ls : List (Option Value)} {st : List Value} {h : xh} {kc ks : Nat} (hd : xd1 own nL ini rt cc pc (.invokespecial x, nx, a, b, c', e', f', g', k, kl, ts) = true)
    (hF : xF MC R.cells R.slots Qa (xKW p l e R s m args below meth c QW nL dC dI cA f B h0) (.invokespecial x, nx, a, b, c', e', f', g', k, kl, ts) ls st h kc ks) : xKW p l e R s m args below meth c QW nL dC dI cA f B h0 pc ls st h kc ks := by
  obtain ⟨hx, hb, hml, hown, hts, hK, hC, hf, hB⟩ := id E
  unfold xCon2 at hMC; unfold xd1 at hd; dsimp only at hd; unfold xdt at hd; generalize xmt = X at hd hmt hMC; dsimp only at hd; simp only [Bool.and_eq_true, decide_eq_true_eq] at hd
  obtain ⟨hdg, rfl, hk⟩ := hd
  rw [Nat.add_sub_cancel_left] at hdg
  intro H locs lsA hR hS hl hc1 hc2
  revert hF; unfold xF; intro hF; dsimp only at hF
  split at hF
  · next as q r hpop =>
    have hst : st.map (xtv f) = (as.map (xtv f)).reverse ++ .ref (f q) :: r.map (xtv f) := by
      have e1 := xpop_eq b [] st
      rw [hpop] at e1
      have e2 : st = as.reverse ++ (.ref q :: r) := e1.symm
      rw [e2, List.map_append, List.map_reverse]
      rfl
    have hlen : as.length = b := by
      have e1 := xpop_len b [] st
      rw [hpop] at e1
      exact e1 (by simp)
    rw [hst]
    split at hF
    · simp only [Bool.and_eq_true, decide_eq_true_eq] at hk
      obtain ⟨rfl, hk⟩ := hk
      have has : as = [] := List.eq_nil_of_length_eq_zero hlen
      subst has
      split at hF
      · exact hF.elim
      · next hble =>
        split at hk
        · next w pl =>
          refine W.objInit hx hb hown (hts _ (List.mem_of_getElem? (of_decide_eq_true hk)) rfl) (hts _ xobj_in.1 rfl) (hts _ xobj_in.2 rfl) rfl (by rw [hml]; exact hl.1) rfl hdg (by omega) ?_ (hF H locs lsA hR hS hl hc1 hc2)
          show 2 * 0 + ((r.map (xtv f)).map fun v => v.category).sum + 12 ≤ R.locals
          rw [xcs_eq]
          have := Nat.le_of_ble_eq_true hble
          omega
        · cases hk
    · next hne =>
      obtain ⟨hqs, hF⟩ := hF
      split at hk
      · exact absurd rfl hne
      · split at hk
        · next y b9 ml rt9 cd kd na tg mc9 ms9 rc9 ps hq =>
          simp only [Bool.and_eq_true, decide_eq_true_eq] at hk
          obtain ⟨rfl, rfl, rfl, rfl, e3, rfl, rfl, hlk⟩ := hk
          have hm := hmt _ (List.mem_of_getElem? hq)
          refine xs_cm (av := (Value.ref (f q) :: as.map (xtv f)).toArray) hF (xmo_00 hm) hS hl hc1 hc2 (fun Q' hmc hcs hb2 => ?_)
          have hM2 := hMC _ _ _ _ _ hq hmc
          dsimp only at hM2
          have hmc2 : kc + mc9 ≤ R.cells ∧ ks + ms9 ≤ R.slots := hb2
          exact xs_runI (n := n) (Q' := Q') (as := as) (r := r) E hR hS hM2 hm hlk hlen hfr hlo hcs hl.1 hdg hmc2
        · cases hk
  · exact hF.elim
set_option maxHeartbeats 4000000 in
set_option maxRecDepth 100000 in
theorem xz_ireturn {MC : Nat → List Value → xh → (Option Value → xh → Prop) → Prop} {Qa : Option Value → xh → Prop} {n : Nat} {ini : Bool} {rt : Option FieldType} (E : xEnv p s m args c cc nL own dC dI cA f B h0) (hRs : R.slots ≤ 8000000) (hfr : n + 1 ≤ R.frames) (hlo : 32 * (n + 1) ≤ R.locals) (hini : ini = true → meth.name = "<init>") (hmt : ∀ q ∈ xmt, xmo q = true) (hMC : xCon2 l n MC dC dI cA f B h0)
    (hret : xRet p l e R s m args below meth c QW dC dI cA f B h0 cc rt Qa) {pc : Nat}  {nx a b c' e' f' g' : Nat} {k : Int32} {kl : Int64} {ts : List (Int32 × Nat)} {ls : List (Option Value)} {st : List Value} {h : xh} {kc ks : Nat} (hd : xd1 own nL ini rt cc pc (.ireturn, nx, a, b, c', e', f', g', k, kl, ts) = true)
    (hF : xF MC R.cells R.slots Qa (xKW p l e R s m args below meth c QW nL dC dI cA f B h0) (.ireturn, nx, a, b, c', e', f', g', k, kl, ts) ls st h kc ks) : xKW p l e R s m args below meth c QW nL dC dI cA f B h0 pc ls st h kc ks := by
  obtain ⟨hx, hb, hml, hown, hts, hK, hC, hf, hB⟩ := id E
  unfold xd1 at hd; dsimp only at hd; unfold xdt at hd; dsimp only at hd; simp only [Bool.and_eq_true, decide_eq_true_eq] at hd
  obtain ⟨hdg, rfl, hk⟩ := hd
  rw [Nat.add_sub_cancel_left] at hdg
  intro H locs lsA hR hS hl hc1 hc2
  revert hF; unfold xF; intro hF; dsimp only at hF
  split at hF
  · next x =>
    split at hF
    · refine hret (some (.int x)) h H locs lsA kc ks pc .ireturn hdg (Or.inl ⟨rfl, x, .int, rfl, of_decide_eq_true hk, rfl⟩) hF hR hS hc1 hc2
    · next hne =>
      obtain ⟨hn, hF⟩ := hF
      split at hk
      · exact absurd rfl hne
      · refine hret (some (.int x)) h H locs lsA kc ks pc .ireturn hdg (Or.inl ⟨rfl, x, .boolean, rfl, of_decide_eq_true hk, ?_⟩) hF hR hS hc1 hc2
        rcases (show x = 0 ∨ x = 1 from hn) with z | z <;> rw [z] <;> rfl
      · refine hret (some (.int x)) h H locs lsA kc ks pc .ireturn hdg (Or.inl ⟨rfl, x, .byte, rfl, of_decide_eq_true hk, ?_⟩) hF hR hS hc1 hc2
        show Value.int x.toInt8.toInt32 = .int x
        rw [show x.toInt8.toInt32 = x from hn]
      · next n0 n1 n2 =>
        have hn' : (x.toUInt32 % 65536).toInt32 = x := by
          unfold xnar at hn
          split at hn
          · exact absurd rfl n0
          · exact absurd rfl n1
          · exact absurd rfl n2
          · exact hn
        refine hret (some (.int x)) h H locs lsA kc ks pc .ireturn hdg (Or.inl ⟨rfl, x, .char, rfl, of_decide_eq_true hk, ?_⟩) hF hR hS hc1 hc2
        have := pk_nc x
        rw [hn'] at this
        exact this
  · exact hF.elim
set_option maxHeartbeats 4000000 in
set_option maxRecDepth 100000 in
theorem xz_lreturn {MC : Nat → List Value → xh → (Option Value → xh → Prop) → Prop} {Qa : Option Value → xh → Prop} {n : Nat} {ini : Bool} {rt : Option FieldType} (E : xEnv p s m args c cc nL own dC dI cA f B h0) (hRs : R.slots ≤ 8000000) (hfr : n + 1 ≤ R.frames) (hlo : 32 * (n + 1) ≤ R.locals) (hini : ini = true → meth.name = "<init>") (hmt : ∀ q ∈ xmt, xmo q = true) (hMC : xCon2 l n MC dC dI cA f B h0)
    (hret : xRet p l e R s m args below meth c QW dC dI cA f B h0 cc rt Qa) {pc : Nat}  {nx a b c' e' f' g' : Nat} {k : Int32} {kl : Int64} {ts : List (Int32 × Nat)} {ls : List (Option Value)} {st : List Value} {h : xh} {kc ks : Nat} (hd : xd1 own nL ini rt cc pc (.lreturn, nx, a, b, c', e', f', g', k, kl, ts) = true)
    (hF : xF MC R.cells R.slots Qa (xKW p l e R s m args below meth c QW nL dC dI cA f B h0) (.lreturn, nx, a, b, c', e', f', g', k, kl, ts) ls st h kc ks) : xKW p l e R s m args below meth c QW nL dC dI cA f B h0 pc ls st h kc ks := by
  obtain ⟨hx, hb, hml, hown, hts, hK, hC, hf, hB⟩ := id E
  unfold xd1 at hd; dsimp only at hd; unfold xdt at hd; dsimp only at hd; simp only [Bool.and_eq_true, decide_eq_true_eq] at hd
  obtain ⟨hdg, rfl, hk⟩ := hd
  rw [Nat.add_sub_cancel_left] at hdg
  intro H locs lsA hR hS hl hc1 hc2
  revert hF; unfold xF; intro hF; dsimp only at hF
  split at hF
  · next x => exact hret (some (.long x)) h H locs lsA kc ks pc .lreturn hdg (Or.inr (Or.inl ⟨rfl, ⟨x, rfl⟩, hk⟩)) hF hR hS hc1 hc2
  · exact hF.elim
set_option maxHeartbeats 4000000 in
set_option maxRecDepth 100000 in
theorem xz_areturn {MC : Nat → List Value → xh → (Option Value → xh → Prop) → Prop} {Qa : Option Value → xh → Prop} {n : Nat} {ini : Bool} {rt : Option FieldType} (E : xEnv p s m args c cc nL own dC dI cA f B h0) (hRs : R.slots ≤ 8000000) (hfr : n + 1 ≤ R.frames) (hlo : 32 * (n + 1) ≤ R.locals) (hini : ini = true → meth.name = "<init>") (hmt : ∀ q ∈ xmt, xmo q = true) (hMC : xCon2 l n MC dC dI cA f B h0)
    (hret : xRet p l e R s m args below meth c QW dC dI cA f B h0 cc rt Qa) {pc : Nat}  {nx a b c' e' f' g' : Nat} {k : Int32} {kl : Int64} {ts : List (Int32 × Nat)} {ls : List (Option Value)} {st : List Value} {h : xh} {kc ks : Nat} (hd : xd1 own nL ini rt cc pc (.areturn, nx, a, b, c', e', f', g', k, kl, ts) = true)
    (hF : xF MC R.cells R.slots Qa (xKW p l e R s m args below meth c QW nL dC dI cA f B h0) (.areturn, nx, a, b, c', e', f', g', k, kl, ts) ls st h kc ks) : xKW p l e R s m args below meth c QW nL dC dI cA f B h0 pc ls st h kc ks := by
  obtain ⟨hx, hb, hml, hown, hts, hK, hC, hf, hB⟩ := id E
  unfold xd1 at hd; dsimp only at hd; unfold xdt at hd; dsimp only at hd; simp only [Bool.and_eq_true, decide_eq_true_eq] at hd
  obtain ⟨hdg, rfl, hk⟩ := hd
  rw [Nat.add_sub_cancel_left] at hdg
  intro H locs lsA hR hS hl hc1 hc2
  revert hF; unfold xF; intro hF; dsimp only at hF
  have hty : ∃ ty, rt = some ty ∧ ((∃ n, ty = .object n) ∨ ∃ t, ty = .array t) := by
    split at hk
    · next n => exact ⟨_, rfl, Or.inl ⟨n, rfl⟩⟩
    · next t => exact ⟨_, rfl, Or.inr ⟨t, rfl⟩⟩
    · cases hk
  split at hF
  · next x => exact hret (some (.ref x)) h H locs lsA kc ks pc .areturn hdg (Or.inr (Or.inr (Or.inl ⟨rfl, Or.inl ⟨x, rfl⟩, hty⟩))) hF hR hS hc1 hc2
  · exact hret (some .null) h H locs lsA kc ks pc .areturn hdg (Or.inr (Or.inr (Or.inl ⟨rfl, Or.inr rfl, hty⟩))) hF hR hS hc1 hc2
  · exact hF.elim
set_option maxHeartbeats 4000000 in
set_option maxRecDepth 100000 in
theorem xz_return_ {MC : Nat → List Value → xh → (Option Value → xh → Prop) → Prop} {Qa : Option Value → xh → Prop} {n : Nat} {ini : Bool} {rt : Option FieldType} (E : xEnv p s m args c cc nL own dC dI cA f B h0) (hRs : R.slots ≤ 8000000) (hfr : n + 1 ≤ R.frames) (hlo : 32 * (n + 1) ≤ R.locals) (hini : ini = true → meth.name = "<init>") (hmt : ∀ q ∈ xmt, xmo q = true) (hMC : xCon2 l n MC dC dI cA f B h0)
    (hret : xRet p l e R s m args below meth c QW dC dI cA f B h0 cc rt Qa) {pc : Nat}  {nx a b c' e' f' g' : Nat} {k : Int32} {kl : Int64} {ts : List (Int32 × Nat)} {ls : List (Option Value)} {st : List Value} {h : xh} {kc ks : Nat} (hd : xd1 own nL ini rt cc pc (.return_, nx, a, b, c', e', f', g', k, kl, ts) = true)
    (hF : xF MC R.cells R.slots Qa (xKW p l e R s m args below meth c QW nL dC dI cA f B h0) (.return_, nx, a, b, c', e', f', g', k, kl, ts) ls st h kc ks) : xKW p l e R s m args below meth c QW nL dC dI cA f B h0 pc ls st h kc ks := by
  obtain ⟨hx, hb, hml, hown, hts, hK, hC, hf, hB⟩ := id E
  unfold xd1 at hd; dsimp only at hd; unfold xdt at hd; dsimp only at hd; simp only [Bool.and_eq_true, decide_eq_true_eq] at hd
  obtain ⟨hdg, rfl, hk⟩ := hd
  rw [Nat.add_sub_cancel_left] at hdg
  intro H locs lsA hR hS hl hc1 hc2
  revert hF; unfold xF; intro hF; dsimp only at hF
  split at hF
  · exact hret none h H locs lsA kc ks pc .return_ hdg (Or.inr (Or.inr (Or.inr ⟨rfl, rfl, hk⟩))) hF hR hS hc1 hc2
  · exact hF.elim
set_option maxHeartbeats 32000000 in
set_option maxRecDepth 100000 in
theorem xs_step {MC : Nat → List Value → xh → (Option Value → xh → Prop) → Prop} {Qa : Option Value → xh → Prop} {n : Nat} {ini : Bool} {rt : Option FieldType} (E : xEnv p s m args c cc nL own dC dI cA f B h0) (hRs : R.slots ≤ 8000000) (hfr : n + 1 ≤ R.frames) (hlo : 32 * (n + 1) ≤ R.locals) (hini : ini = true → meth.name = "<init>") (hmt : ∀ q ∈ xmt, xmo q = true) (hMC : xCon2 l n MC dC dI cA f B h0)
    (hret : xRet p l e R s m args below meth c QW dC dI cA f B h0 cc rt Qa) {pc : Nat} {o : xop} {ls : List (Option Value)} {st : List Value} {h : xh} {kc ks : Nat} (hd : xd1 own nL ini rt cc pc o = true)
    (hF : xF MC R.cells R.slots Qa (xKW p l e R s m args below meth c QW nL dC dI cA f B h0) o ls st h kc ks) : xKW p l e R s m args below meth c QW nL dC dI cA f B h0 pc ls st h kc ks := by
  obtain ⟨i, nx, a, b, c', e', f', g', k, kl, ts⟩ := o
  cases i
  case iconst n => exact xz_iconst E hRs hfr hlo hini hmt hMC hret n hd hF
  case bipush n => exact xz_bipush E hRs hfr hlo hini hmt hMC hret n hd hF
  case sipush n => exact xz_sipush E hRs hfr hlo hini hmt hMC hret n hd hF
  case lconst n => exact xz_lconst E hRs hfr hlo hini hmt hMC hret n hd hF
  case ldc_w x => exact xz_ldc_w E hRs hfr hlo hini hmt hMC hret x hd hF
  case ldc2_w x => exact xz_ldc2_w E hRs hfr hlo hini hmt hMC hret x hd hF
  case ldc x => exact xz_ldc E hRs hfr hlo hini hmt hMC hret x hd hF
  case aconst_null => exact xz_aconst_null E hRs hfr hlo hini hmt hMC hret hd hF
  case iload n => exact xz_iload E hRs hfr hlo hini hmt hMC hret n hd hF
  case iload_n n => exact xz_iload_n E hRs hfr hlo hini hmt hMC hret n hd hF
  case lload n => exact xz_lload E hRs hfr hlo hini hmt hMC hret n hd hF
  case lload_n n => exact xz_lload_n E hRs hfr hlo hini hmt hMC hret n hd hF
  case aload n => exact xz_aload E hRs hfr hlo hini hmt hMC hret n hd hF
  case aload_n n => exact xz_aload_n E hRs hfr hlo hini hmt hMC hret n hd hF
  case istore n => exact xz_istore E hRs hfr hlo hini hmt hMC hret n hd hF
  case istore_n n => exact xz_istore_n E hRs hfr hlo hini hmt hMC hret n hd hF
  case lstore n => exact xz_lstore E hRs hfr hlo hini hmt hMC hret n hd hF
  case lstore_n n => exact xz_lstore_n E hRs hfr hlo hini hmt hMC hret n hd hF
  case astore n => exact xz_astore E hRs hfr hlo hini hmt hMC hret n hd hF
  case astore_n n => exact xz_astore_n E hRs hfr hlo hini hmt hMC hret n hd hF
  case iinc n d => exact xz_iinc E hRs hfr hlo hini hmt hMC hret n d hd hF
  case iadd => exact xz_iadd E hRs hfr hlo hini hmt hMC hret hd hF
  case isub => exact xz_isub E hRs hfr hlo hini hmt hMC hret hd hF
  case imul => exact xz_imul E hRs hfr hlo hini hmt hMC hret hd hF
  case iand => exact xz_iand E hRs hfr hlo hini hmt hMC hret hd hF
  case ior => exact xz_ior E hRs hfr hlo hini hmt hMC hret hd hF
  case ixor => exact xz_ixor E hRs hfr hlo hini hmt hMC hret hd hF
  case ishl => exact xz_ishl E hRs hfr hlo hini hmt hMC hret hd hF
  case ishr => exact xz_ishr E hRs hfr hlo hini hmt hMC hret hd hF
  case ineg => exact xz_ineg E hRs hfr hlo hini hmt hMC hret hd hF
  case ladd => exact xz_ladd E hRs hfr hlo hini hmt hMC hret hd hF
  case lmul => exact xz_lmul E hRs hfr hlo hini hmt hMC hret hd hF
  case lor => exact xz_lor E hRs hfr hlo hini hmt hMC hret hd hF
  case iushr => exact xz_iushr E hRs hfr hlo hini hmt hMC hret hd hF
  case lshl => exact xz_lshl E hRs hfr hlo hini hmt hMC hret hd hF
  case i2l => exact xz_i2l E hRs hfr hlo hini hmt hMC hret hd hF
  case l2i => exact xz_l2i E hRs hfr hlo hini hmt hMC hret hd hF
  case i2b => exact xz_i2b E hRs hfr hlo hini hmt hMC hret hd hF
  case i2c => exact xz_i2c E hRs hfr hlo hini hmt hMC hret hd hF
  case idiv => exact xz_idiv E hRs hfr hlo hini hmt hMC hret hd hF
  case irem => exact xz_irem E hRs hfr hlo hini hmt hMC hret hd hF
  case ldiv => exact xz_ldiv E hRs hfr hlo hini hmt hMC hret hd hF
  case lrem => exact xz_lrem E hRs hfr hlo hini hmt hMC hret hd hF
  case lcmp => exact xz_lcmp E hRs hfr hlo hini hmt hMC hret hd hF
  case dup => exact xz_dup E hRs hfr hlo hini hmt hMC hret hd hF
  case pop => exact xz_pop E hRs hfr hlo hini hmt hMC hret hd hF
  case dup2 => exact xz_dup2 E hRs hfr hlo hini hmt hMC hret hd hF
  case goto off => exact xz_goto E hRs hfr hlo hini hmt hMC hret off hd hF
  case ifCond cd off => exact xz_ifCond E hRs hfr hlo hini hmt hMC hret cd off hd hF
  case if_icmp cd off => exact xz_if_icmp E hRs hfr hlo hini hmt hMC hret cd off hd hF
  case if_acmp cd off => exact xz_if_acmp E hRs hfr hlo hini hmt hMC hret cd off hd hF
  case ifnonnull off => exact xz_ifnonnull E hRs hfr hlo hini hmt hMC hret off hd hF
  case ifnull off => exact xz_ifnull E hRs hfr hlo hini hmt hMC hret off hd hF
  case tableswitch d lo hi offs => exact xz_tableswitch E hRs hfr hlo hini hmt hMC hret d lo hi offs hd hF
  case arraylength => exact xz_arraylength E hRs hfr hlo hini hmt hMC hret hd hF
  case iaload => exact xz_iaload E hRs hfr hlo hini hmt hMC hret hd hF
  case laload => exact xz_laload E hRs hfr hlo hini hmt hMC hret hd hF
  case baload => exact xz_baload E hRs hfr hlo hini hmt hMC hret hd hF
  case aaload => exact xz_aaload E hRs hfr hlo hini hmt hMC hret hd hF
  case iastore => exact xz_iastore E hRs hfr hlo hini hmt hMC hret hd hF
  case lastore => exact xz_lastore E hRs hfr hlo hini hmt hMC hret hd hF
  case bastore => exact xz_bastore E hRs hfr hlo hini hmt hMC hret hd hF
  case aastore => exact xz_aastore E hRs hfr hlo hini hmt hMC hret hd hF
  case newarray t => exact xz_newarray E hRs hfr hlo hini hmt hMC hret t hd hF
  case anewarray x => exact xz_anewarray E hRs hfr hlo hini hmt hMC hret x hd hF
  case new x => exact xz_new E hRs hfr hlo hini hmt hMC hret x hd hF
  case getfield x => exact xz_getfield E hRs hfr hlo hini hmt hMC hret x hd hF
  case putfield x => exact xz_putfield E hRs hfr hlo hini hmt hMC hret x hd hF
  case getstatic x => exact xz_getstatic E hRs hfr hlo hini hmt hMC hret x hd hF
  case invokestatic x => exact xz_invokestatic E hRs hfr hlo hini hmt hMC hret x hd hF
  case invokevirtual x => exact xz_invokevirtual E hRs hfr hlo hini hmt hMC hret x hd hF
  case invokespecial x => exact xz_invokespecial E hRs hfr hlo hini hmt hMC hret x hd hF
  case ireturn => exact xz_ireturn E hRs hfr hlo hini hmt hMC hret hd hF
  case lreturn => exact xz_lreturn E hRs hfr hlo hini hmt hMC hret hd hF
  case areturn => exact xz_areturn E hRs hfr hlo hini hmt hMC hret hd hF
  case return_ => exact xz_return_ E hRs hfr hlo hini hmt hMC hret hd hF
  all_goals exact (show False from hF).elim
end XST
