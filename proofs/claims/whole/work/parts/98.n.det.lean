/-! THE ABSTRACT MACHINE HAS ONE ANSWER -/
def xDet (MC : Nat → List Value → xh → (Option Value → xh → Prop) → Prop) : Prop := ∀ j as h (Q : Option Value → xh → Prop), MC j as h Q → ∃ v g, Q v g ∧ ∀ Q' : Option Value → xh → Prop, MC j as h Q' → Q' v g
theorem xcall_det {MC : Nat → List Value → xh → (Option Value → xh → Prop) → Prop} (hD : xDet MC) {e j : Nat} {as : List Value} {h : xh} {K : List Value → xh → Prop} {r : List Value} (hc : xcall MC e j as h K r) : ∃ st g, K st g ∧ ∀ K' : List Value → xh → Prop, xcall MC e j as h K' r → K' st g := by
  unfold xcall at hc ⊢
  split at hc
  · obtain ⟨v, g, h1, h2⟩ := hD _ _ _ _ hc
    cases v with
    | none => exact h1.elim
    | some v => cases v <;> first | exact h1.elim | exact ⟨_, _, h1, fun K' z => h2 _ z⟩
  · obtain ⟨v, g, h1, h2⟩ := hD _ _ _ _ hc
    cases v with
    | none => exact h1.elim
    | some v => cases v <;> first | exact h1.elim | exact ⟨_, _, h1, fun K' z => h2 _ z⟩
  · obtain ⟨v, g, h1, h2⟩ := hD _ _ _ _ hc
    cases v with
    | none => exact h1.elim
    | some v => cases v <;> first | exact h1.elim | exact ⟨_, _, h1.1 _ rfl, fun K' z => (h2 _ z).1 _ rfl⟩ | exact ⟨_, _, h1.2 rfl, fun K' z => (h2 _ z).2 rfl⟩
  · obtain ⟨v, g, h1, h2⟩ := hD _ _ _ _ hc
    cases v with
    | none => exact ⟨_, _, h1, fun K' z => h2 _ z⟩
    | some v => exact h1.elim
theorem xcm_det {MC : Nat → List Value → xh → (Option Value → xh → Prop) → Prop} (hD : xDet MC) {MK MS e j f g : Nat} {as : List Value} {h : xh} {K : List Value → xh → Nat → Nat → Prop} {kc ks : Nat} {r : List Value} (hc : xcm MC MK MS e j f g as h K kc ks r) : ∃ st h' kc' ks', K st h' kc' ks' ∧ ∀ K' : List Value → xh → Nat → Nat → Prop, xcm MC MK MS e j f g as h K' kc ks r → K' st h' kc' ks' := by
  unfold xcm at hc ⊢
  split at hc
  · exact hc.elim
  · split at hc
    · obtain ⟨st, g, h1, h2⟩ := xcall_det hD hc
      exact ⟨_, _, _, _, h1, fun K' z => h2 (fun a b => K' a b kc ks) z⟩
    · obtain ⟨st, g, h1, h2⟩ := xcall_det hD hc.2
      exact ⟨_, _, _, _, h1, fun K' z => h2 (fun a b => K' a b _ _) z.2⟩
theorem xsw_det {x : Int32} {K : Nat → Prop} : ∀ (ts : List (Int32 × Nat)) (d : Nat), xsw x K ts d → ∃ t, K t ∧ ∀ K' : Nat → Prop, xsw x K' ts d → K' t
  | [], d, h => ⟨d, h, fun K' z => z⟩
  | q :: r, d, h => by
    by_cases e : x = q.1
    · exact ⟨q.2, h.1 e, fun K' z => z.1 e⟩
    · obtain ⟨t, h1, h2⟩ := xsw_det r d (h.2 e)
      exact ⟨t, h1, fun K' z => h2 K' (z.2 e)⟩
abbrev XD (MC : Nat → List Value → xh → (Option Value → xh → Prop) → Prop) (MK MS : Nat) (Q : Option Value → xh → Prop) (K : Nat → List (Option Value) → List Value → xh → Nat → Nat → Prop) (X : (Option Value → xh → Prop) → (Nat → List (Option Value) → List Value → xh → Nat → Nat → Prop) → Prop) : Prop :=
  (∃ a b c d e f, K a b c d e f ∧ ∀ Q' K', X Q' K' → K' a b c d e f) ∨ ∃ v g, Q v g ∧ ∀ Q' K', X Q' K' → Q' v g
theorem det_if {p A B : Prop} (h : (p → A) ∧ (¬ p → B)) : (p ∧ A) ∨ (¬ p ∧ B) := by
  by_cases e : p
  · exact Or.inl ⟨e, h.1 e⟩
  · exact Or.inr ⟨e, h.2 e⟩
theorem det_fi {p A B : Prop} (h : (¬ p → A) ∧ (p → B)) : (¬ p ∧ A) ∨ (p ∧ B) := by
  by_cases e : p
  · exact Or.inr ⟨e, h.2 e⟩
  · exact Or.inl ⟨e, h.1 e⟩
theorem det_op {o : Option Nat} {A : Nat → Prop} {B : Prop} (h : (∀ v, o = some v → A v) ∧ (o = none → B)) : (∃ v, o = some v ∧ A v) ∨ (o = none ∧ B) := by
  cases o with
  | none => exact Or.inr ⟨rfl, h.2 rfl⟩
  | some v => exact Or.inl ⟨v, rfl, h.1 v rfl⟩
theorem det_3 {x y : Int64} {A B C : Prop} (h : (x < y → A) ∧ (x = y → B) ∧ (y < x → C)) : (x < y ∧ A) ∨ (x = y ∧ B) ∨ (y < x ∧ C) := by
  by_cases e : x < y
  · exact Or.inl ⟨e, h.1 e⟩
  · by_cases e2 : x = y
    · exact Or.inr (Or.inl ⟨e2, h.2.1 e2⟩)
    · have e3 : y < x := Int64.lt_of_le_of_ne (Int64.not_lt.mp e) (fun z => e2 z.symm)
      exact Or.inr (Or.inr ⟨e3, h.2.2 e3⟩)
set_option maxHeartbeats 16000000 in
set_option maxRecDepth 100000 in
theorem xF_det {MC : Nat → List Value → xh → (Option Value → xh → Prop) → Prop} (hD : xDet MC) {MK MS : Nat} {Q : Option Value → xh → Prop} {K : Nat → List (Option Value) → List Value → xh → Nat → Nat → Prop} {o : xop} {ls : List (Option Value)} {st : List Value} {h : xh} {kc ks : Nat} (hF : xF MC MK MS Q K o ls st h kc ks) : XD MC MK MS Q K (fun Q' K' => xF MC MK MS Q' K' o ls st h kc ks) := by
  obtain ⟨i, nx, a, b, c, e, f, g, k, kl, ts⟩ := o
  cases i
  case ifCond cd off =>
    cases cd <;> (revert hF; unfold xF; intro hF; dsimp only at hF ⊢; split at hF <;> first | exact hF.elim | (rcases det_if hF with ⟨p, z⟩ | ⟨p, z⟩ <;> first | exact Or.inl ⟨_, _, _, _, _, _, z, fun Q' K' y => y.1 p⟩ | exact Or.inl ⟨_, _, _, _, _, _, z, fun Q' K' y => y.2 p⟩) | (rcases det_fi hF with ⟨p, z⟩ | ⟨p, z⟩ <;> first | exact Or.inl ⟨_, _, _, _, _, _, z, fun Q' K' y => y.1 p⟩ | exact Or.inl ⟨_, _, _, _, _, _, z, fun Q' K' y => y.2 p⟩))
  case if_icmp cd off =>
    cases cd <;> (revert hF; unfold xF; intro hF; dsimp only at hF ⊢; split at hF <;> first | exact hF.elim | (rcases det_if hF with ⟨p, z⟩ | ⟨p, z⟩ <;> first | exact Or.inl ⟨_, _, _, _, _, _, z, fun Q' K' y => y.1 p⟩ | exact Or.inl ⟨_, _, _, _, _, _, z, fun Q' K' y => y.2 p⟩) | (rcases det_fi hF with ⟨p, z⟩ | ⟨p, z⟩ <;> first | exact Or.inl ⟨_, _, _, _, _, _, z, fun Q' K' y => y.1 p⟩ | exact Or.inl ⟨_, _, _, _, _, _, z, fun Q' K' y => y.2 p⟩))
  case if_acmp cd off =>
    cases cd <;> (revert hF; unfold xF; intro hF; dsimp only at hF ⊢) <;> first | exact hF.elim | (split at hF <;> first | exact hF.elim | exact Or.inl ⟨_, _, _, _, _, _, hF, fun Q' K' y => y⟩ | (rcases det_fi hF.2 with ⟨p, z⟩ | ⟨p, z⟩ <;> first | exact Or.inl ⟨_, _, _, _, _, _, z, fun Q' K' y => y.2.1 p⟩ | exact Or.inl ⟨_, _, _, _, _, _, z, fun Q' K' y => y.2.2 p⟩))
  all_goals (revert hF; unfold xF; intro hF; dsimp only at hF ⊢)
  all_goals (first
    | exact hF.elim
    | exact Or.inl ⟨_, _, _, _, _, _, hF, fun Q' K' y => y⟩
    | exact Or.inl ⟨_, _, _, _, _, _, hF.2, fun Q' K' y => y.2⟩
    | skip)
  all_goals (repeat' (split at hF))
  all_goals (first
    | exact hF.elim
    | exact Or.inl ⟨_, _, _, _, _, _, hF, fun Q' K' y => y⟩
    | exact Or.inl ⟨_, _, _, _, _, _, hF.2, fun Q' K' y => y.2⟩
    | exact Or.inr ⟨_, _, hF, fun Q' K' y => y⟩
    | exact Or.inr ⟨_, _, hF.2, fun Q' K' y => y.2⟩
    | (rcases det_if hF with ⟨p, z⟩ | ⟨p, z⟩ <;> first | exact Or.inl ⟨_, _, _, _, _, _, z, fun Q' K' y => y.1 p⟩ | exact Or.inl ⟨_, _, _, _, _, _, z, fun Q' K' y => y.2 p⟩)
    | (rcases det_fi hF with ⟨p, z⟩ | ⟨p, z⟩ <;> first | exact Or.inl ⟨_, _, _, _, _, _, z, fun Q' K' y => y.1 p⟩ | exact Or.inl ⟨_, _, _, _, _, _, z, fun Q' K' y => y.2 p⟩)
    | (rcases det_op hF with ⟨v, p, z⟩ | ⟨p, z⟩ <;> first | exact Or.inl ⟨_, _, _, _, _, _, z, fun Q' K' y => y.1 v p⟩ | exact Or.inl ⟨_, _, _, _, _, _, z, fun Q' K' y => y.2 p⟩)
    | (rcases det_op hF.2 with ⟨v, p, z⟩ | ⟨p, z⟩ <;> first | exact Or.inl ⟨_, _, _, _, _, _, z, fun Q' K' y => y.2.1 v p⟩ | exact Or.inl ⟨_, _, _, _, _, _, z, fun Q' K' y => y.2.2 p⟩)
    | (rcases det_3 hF with ⟨p, z⟩ | ⟨p, z⟩ | ⟨p, z⟩ <;> first | exact Or.inl ⟨_, _, _, _, _, _, z, fun Q' K' y => y.1 p⟩ | exact Or.inl ⟨_, _, _, _, _, _, z, fun Q' K' y => y.2.1 p⟩ | exact Or.inl ⟨_, _, _, _, _, _, z, fun Q' K' y => y.2.2 p⟩)
    | (obtain ⟨t, z1, z2⟩ := xsw_det _ _ hF; exact Or.inl ⟨_, _, _, _, _, _, z1, fun Q' K' y => z2 (fun t => K' t _ _ _ _ _) y⟩)
    | (obtain ⟨s1, s2, s3, s4, z1, z2⟩ := xcm_det hD hF; exact Or.inl ⟨_, _, _, _, _, _, z1, fun Q' K' y => z2 (fun p1 p2 p3 p4 => K' _ _ p1 p2 p3 p4) y⟩)
    | (obtain ⟨s1, s2, s3, s4, z1, z2⟩ := xcm_det hD hF.2; exact Or.inl ⟨_, _, _, _, _, _, z1, fun Q' K' y => z2 (fun p1 p2 p3 p4 => K' _ _ p1 p2 p3 p4) y.2⟩)
    | exact Or.inl ⟨_, _, _, _, _, _, hF.1, fun Q' K' y => y.1⟩
    | skip)
theorem xW_un {MC : Nat → List Value → xh → (Option Value → xh → Prop) → Prop} (hM : xMono MC) {cd : List (List xop)} {MK MS : Nat} {Q : Option Value → xh → Prop} {pc : Nat} {ls : List (Option Value)} {st : List Value} {h : xh} {kc ks : Nat} (hw : xW MC cd MK MS Q pc ls st h kc ks) : xF MC MK MS Q (xW MC cd MK MS Q) (xat cd pc) ls st h kc ks :=
  hw (fun pc ls st h kc ks => xF MC MK MS Q (xW MC cd MK MS Q) (xat cd pc) ls st h kc ks) (fun _ _ _ _ _ _ hF => xF_mono hM (fun _ _ q => q) (fun _ _ _ _ _ _ q => xW_step hM q) hF)
theorem xW_det {MC : Nat → List Value → xh → (Option Value → xh → Prop) → Prop} (hM : xMono MC) (hD : xDet MC) {cd : List (List xop)} {MK MS : Nat} {Q : Option Value → xh → Prop} {pc : Nat} {ls : List (Option Value)} {st : List Value} {h : xh} {kc ks : Nat} (hw : xW MC cd MK MS Q pc ls st h kc ks) : ∃ v g, Q v g ∧ ∀ Q' : Option Value → xh → Prop, xW MC cd MK MS Q' pc ls st h kc ks → Q' v g :=
  hw (fun pc ls st h kc ks => ∃ v g, Q v g ∧ ∀ Q' : Option Value → xh → Prop, xW MC cd MK MS Q' pc ls st h kc ks → Q' v g) (fun _ _ _ _ _ _ hF => by
    rcases xF_det hD hF with ⟨_, _, _, _, _, _, ⟨v, g, hq, ha⟩, hz⟩ | ⟨v, g, hq, hz⟩
    · exact ⟨v, g, hq, fun Q' w => ha Q' (hz Q' _ (xW_un hM w))⟩
    · exact ⟨v, g, hq, fun Q' w => hz Q' _ (xW_un hM w)⟩)
theorem xMC_det : ∀ n, xDet (xMC n)
  | 0 => fun _ _ _ _ h => h.elim
  | n + 1 => fun j as h Q hm => by
    obtain ⟨q, h1, h2, h3⟩ := hm
    obtain ⟨v, g, hq, ha⟩ := xW_det (xMC_mono n) (xMC_det n) h3
    refine ⟨v, g, hq, fun Q' hm' => ?_⟩
    obtain ⟨q', h1', h2', h3'⟩ := hm'
    have e : q' = q := by rw [h1] at h1'; exact (Option.some.inj h1').symm
    subst e
    exact ha Q' h3'
theorem xcv_two {n j : Nat} {as : List Value} {h : xh} {P Q : xh → Prop} (h1 : xcv (xMC n) j as h P) (h2 : xcv (xMC n) j as h Q) : ∃ g, P g ∧ Q g := by
  obtain ⟨v, g, hq, ha⟩ := xMC_det n _ _ _ _ h1
  have hb := ha _ h2
  cases v with
  | none => exact ⟨g, hq, hb⟩
  | some v => exact hq.elim
