/-! locals; copies of rows; statics and String constants -/
def xents (f : Nat → Nat) : Nat → List (Option Value) → List (Nat × Value)
  | _, [] => []
  | k, some v :: r => (k, xtv f v) :: xents f (k + 1) r
  | k, none :: r => xents f (k + 1) r
theorem xents_mem (f : Nat → Nat) : ∀ (ls : List (Option Value)) (k i : Nat) (v : Value), xgl ls i = some v → (k + i, xtv f v) ∈ xents f k ls
  | [], _, _, _, h => by cases h
  | some u :: r, k, 0, v, h => by
    have e : u = v := Option.some.inj h
    subst e
    exact List.mem_cons_self
  | none :: r, k, 0, v, h => by cases h
  | some u :: r, k, i + 1, v, h => by
    have := xents_mem f r (k + 1) i v h
    rw [show k + (i + 1) = k + 1 + i by omega]
    exact List.mem_cons_of_mem _ this
  | none :: r, k, i + 1, v, h => by
    have := xents_mem f r (k + 1) i v h
    rw [show k + (i + 1) = k + 1 + i by omega]
    exact this
theorem xents_of (f : Nat → Nat) : ∀ (ls : List (Option Value)) (k : Nat) (q : Nat × Value), q ∈ xents f k ls → ∃ i v, q = (k + i, xtv f v) ∧ xgl ls i = some v
  | [], _, _, h => by cases h
  | some u :: r, k, q, h => by
    rcases List.mem_cons.mp h with h | h
    · exact ⟨0, u, h, rfl⟩
    · obtain ⟨i, v, h1, h2⟩ := xents_of f r (k + 1) q h
      exact ⟨i + 1, v, by rw [h1, show k + (i + 1) = k + 1 + i by omega], h2⟩
  | none :: r, k, q, h => by
    obtain ⟨i, v, h1, h2⟩ := xents_of f r (k + 1) q h
    exact ⟨i + 1, v, by rw [h1, show k + (i + 1) = k + 1 + i by omega], h2⟩
def xlv (f : Nat → Nat) (lsA : Array Slot) (nL : Nat) (ls : List (Option Value)) : Prop := lv_has lsA nL (xents f 0 ls)
theorem xlv_at {f : Nat → Nat} {lsA : Array Slot} {nL : Nat} {ls : List (Option Value)} (h : xlv f lsA nL ls) {i : Nat} {v : Value} (hv : xgl ls i = some v) : lsA[i]? = some (.val (xtv f v)) := by
  have := h.2.2 _ (xents_mem f ls 0 i v hv)
  rwa [Nat.zero_add] at this
theorem xtv_cat (f : Nat → Nat) (v : Value) : (xtv f v).category = v.category := by cases v <;> rfl
theorem xsl_get : ∀ (ls : List (Option Value)) (i : Nat) (v : Value) (j : Nat) (w : Value), xgl (xsl ls i v) j = some w → (j = i ∧ w = v) ∨ (j ≠ i ∧ xgl ls j = some w ∧ ¬ (j + 1 = i ∧ w.category = 2))
  | [], _, _, _, _, h => by cases h
  | u :: r, 0, v, 0, w, h => Or.inl ⟨rfl, (Option.some.inj h).symm⟩
  | u :: r, 0, v, j + 1, w, h => Or.inr ⟨by omega, h, by omega⟩
  | u :: r, 1, v, 0, w, h => by
    refine Or.inr ⟨by omega, ?_, ?_⟩
    · change (match xlg u with | true => none | false => u) = some w at h
      split at h
      · cases h
      · exact h
    · intro q
      change (match xlg u with | true => none | false => u) = some w at h
      split at h
      · cases h
      · next e =>
        subst h
        have : Nat.beq w.category 2 = false := e
        rw [q.2] at this
        cases this
  | u :: r, 1, v, j + 1, w, h => by
    rcases xsl_get r 0 v j w h with ⟨a, b⟩ | ⟨a, b, c⟩
    · exact Or.inl ⟨by omega, b⟩
    · exact Or.inr ⟨by omega, b, by omega⟩
  | u :: r, n + 2, v, 0, w, h => Or.inr ⟨by omega, h, by omega⟩
  | u :: r, n + 2, v, j + 1, w, h => by
    rcases xsl_get r (n + 1) v j w h with ⟨a, b⟩ | ⟨a, b, c⟩
    · exact Or.inl ⟨by omega, b⟩
    · exact Or.inr ⟨by omega, b, fun q => c ⟨by omega, q.2⟩⟩
theorem xcl_get : ∀ (ls : List (Option Value)) (k j : Nat) (w : Value), xgl (xcl ls k) j = some w → j ≠ k ∧ xgl ls j = some w
  | [], _, _, _, h => by cases h
  | u :: r, 0, 0, w, h => by cases h
  | u :: r, 0, j + 1, w, h => ⟨by omega, h⟩
  | u :: r, k + 1, 0, w, h => ⟨by omega, h⟩
  | u :: r, k + 1, j + 1, w, h => by
    obtain ⟨a, b⟩ := xcl_get r k j w h
    exact ⟨by omega, b⟩
theorem xlv_set {f : Nat → Nat} {lsA : Array Slot} {nL : Nat} {ls : List (Option Value)} {i : Nat} {v : Value} (h : lv_has lsA nL ((i, xtv f v) :: (xents f 0 ls).filter (fun q => !(q.1 == i) && !(q.1 + 1 == i && q.2.category == 2)))) : xlv f lsA nL (xsl ls i v) := by
  refine ⟨h.1, h.2.1, fun q hq => h.2.2 q ?_⟩
  obtain ⟨j, w, e1, e2⟩ := xents_of f _ 0 q hq
  rw [Nat.zero_add] at e1
  subst e1
  rcases xsl_get ls i v j w e2 with ⟨a, b⟩ | ⟨a, b, c⟩
  · subst a; subst b
    exact List.mem_cons_self
  · refine List.mem_cons_of_mem _ (List.mem_filter.mpr ⟨by have := xents_mem f ls 0 j w b; rwa [Nat.zero_add] at this, ?_⟩)
    simp only [Bool.and_eq_true, Bool.not_eq_true', beq_eq_false_iff_ne, Bool.and_eq_false_imp, beq_iff_eq, ne_eq, xtv_cat]
    exact ⟨a, fun z z2 => c ⟨z, z2⟩⟩
theorem xlv_set2 {f : Nat → Nat} {lsA : Array Slot} {nL : Nat} {ls : List (Option Value)} {i : Nat} {v : Value} (h : lv_has lsA nL ((i, xtv f v) :: (xents f 0 ls).filter (fun q => !(q.1 == i) && (!(q.1 == i + 1) && !(q.1 + 1 == i && q.2.category == 2))))) : xlv f lsA nL (xsl2 ls i v) := by
  refine ⟨h.1, h.2.1, fun q hq => h.2.2 q ?_⟩
  obtain ⟨j, w, e1, e2⟩ := xents_of f _ 0 q hq
  rw [Nat.zero_add] at e1
  subst e1
  obtain ⟨hne, e3⟩ := xcl_get _ _ _ _ e2
  rcases xsl_get ls i v j w e3 with ⟨a, b⟩ | ⟨a, b, c⟩
  · subst a; subst b
    exact List.mem_cons_self
  · refine List.mem_cons_of_mem _ (List.mem_filter.mpr ⟨by have := xents_mem f ls 0 j w b; rwa [Nat.zero_add] at this, ?_⟩)
    simp only [Bool.and_eq_true, Bool.not_eq_true', beq_eq_false_iff_ne, Bool.and_eq_false_imp, beq_iff_eq, ne_eq, xtv_cat]
    exact ⟨a, hne, fun z z2 => c ⟨z, z2⟩⟩
/-- the locals at a method's beginning -/
def xarg : List Value → List (Option Value)
  | [] => []
  | .long x :: r => some (.long x) :: none :: xarg r
  | v :: r => some v :: xarg r
theorem xarg_in (f : Nat → Nat) : ∀ (as : List Value) (k i : Nat) (v : Value), (∀ a ∈ as, ∀ x, a ≠ .double x) → xgl (xarg as) i = some v → (k + i, xtv f v) ∈ lv_args k (as.map (xtv f))
  | [], _, _, _, _, h => by cases h
  | a :: r, k, i, v, hd, h => by
    have hr := xarg_in f r
    have hd' : ∀ a ∈ r, ∀ x, a ≠ .double x := fun b hb => hd b (List.mem_cons_of_mem _ hb)
    cases a with
    | long x =>
      match i, h with
      | 0, h =>
        have e : Value.long x = v := Option.some.inj h
        subst e
        exact List.mem_cons_self
      | 1, h => cases h
      | i + 2, h =>
        have := hr (k + 2) i v hd' h
        rw [show k + (i + 2) = k + 2 + i by omega]
        exact List.mem_cons_of_mem _ this
    | double x => exact absurd rfl (hd _ List.mem_cons_self x)
    | int x =>
      match i, h with
      | 0, h => have e := Option.some.inj h; subst e; exact List.mem_cons_self
      | i + 1, h => have := hr (k + 1) i v hd' h; rw [show k + (i + 1) = k + 1 + i by omega]; exact List.mem_cons_of_mem _ this
    | float x =>
      match i, h with
      | 0, h => have e := Option.some.inj h; subst e; exact List.mem_cons_self
      | i + 1, h => have := hr (k + 1) i v hd' h; rw [show k + (i + 1) = k + 1 + i by omega]; exact List.mem_cons_of_mem _ this
    | null =>
      match i, h with
      | 0, h => have e := Option.some.inj h; subst e; exact List.mem_cons_self
      | i + 1, h => have := hr (k + 1) i v hd' h; rw [show k + (i + 1) = k + 1 + i by omega]; exact List.mem_cons_of_mem _ this
    | ref x =>
      match i, h with
      | 0, h => have e := Option.some.inj h; subst e; exact List.mem_cons_self
      | i + 1, h => have := hr (k + 1) i v hd' h; rw [show k + (i + 1) = k + 1 + i by omega]; exact List.mem_cons_of_mem _ this
    | retAddr x =>
      match i, h with
      | 0, h => have e := Option.some.inj h; subst e; exact List.mem_cons_self
      | i + 1, h => have := hr (k + 1) i v hd' h; rw [show k + (i + 1) = k + 1 + i by omega]; exact List.mem_cons_of_mem _ this
def xpad : Nat → List (Option Value) → List (Option Value)
  | 0, _ => []
  | n + 1, [] => none :: xpad n []
  | n + 1, v :: r => v :: xpad n r
theorem xpad_get : ∀ (n : Nat) (ls : List (Option Value)) (i : Nat) (v : Value), xgl (xpad n ls) i = some v → xgl ls i = some v
  | 0, _, _, _, h => by cases h
  | n + 1, [], 0, v, h => by cases h
  | n + 1, [], i + 1, v, h => by have := xpad_get n [] i v h; cases this
  | n + 1, u :: r, 0, v, h => h
  | n + 1, u :: r, i + 1, v, h => xpad_get n r i v h
