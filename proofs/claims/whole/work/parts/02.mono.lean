/-! the transformer is monotone; a state that n instructions bring to good states is good -/
def xMono (MC : Nat → List Value → xh → (Option Value → xh → Prop) → Prop) : Prop := ∀ j as h (Q Q' : Option Value → xh → Prop), (∀ v h', Q v h' → Q' v h') → MC j as h Q → MC j as h Q'
theorem xcall_mono {MC : Nat → List Value → xh → (Option Value → xh → Prop) → Prop} (hM : xMono MC) {e j : Nat} {as : List Value} {h : xh} {K K' : List Value → xh → Prop} (hK : ∀ st h', K st h' → K' st h') {r : List Value} (hc : xcall MC e j as h K r) : xcall MC e j as h K' r := by
  unfold xcall at hc ⊢
  split at hc
  · exact hM _ _ _ _ _ (fun v h' q => by
      cases v with
      | none => exact q
      | some v => cases v <;> first | exact hK _ _ q | exact q) hc
  · exact hM _ _ _ _ _ (fun v h' q => by
      cases v with
      | none => exact q
      | some v => cases v <;> first | exact hK _ _ q | exact q) hc
  · exact hM _ _ _ _ _ (fun v h' q => by
      cases v with
      | none => exact q
      | some v => cases v <;> first | exact ⟨fun a ha => hK _ _ (q.1 a ha), fun ha => hK _ _ (q.2 ha)⟩ | exact q) hc
  · exact hM _ _ _ _ _ (fun v h' q => by
      cases v with
      | none => exact hK _ _ q
      | some v => exact q) hc
theorem xcm_mono {MC : Nat → List Value → xh → (Option Value → xh → Prop) → Prop} (hM : xMono MC) {MK MS e j f g : Nat} {as : List Value} {h : xh} {K K' : List Value → xh → Nat → Nat → Prop} (hK : ∀ st h' kc ks, K st h' kc ks → K' st h' kc ks) {kc ks : Nat} {r : List Value} (hc : xcm MC MK MS e j f g as h K kc ks r) : xcm MC MK MS e j f g as h K' kc ks r := by
  unfold xcm at hc ⊢
  split at hc
  · exact hc
  · split at hc
    · exact xcall_mono hM (fun st h' q => hK _ _ _ _ q) hc
    · exact ⟨hc.1, xcall_mono hM (fun st h' q => hK _ _ _ _ q) hc.2⟩
theorem xsw_mono {x : Int32} {K K' : Nat → Prop} (hK : ∀ t, K t → K' t) : ∀ (ts : List (Int32 × Nat)) (d : Nat), xsw x K ts d → xsw x K' ts d
  | [], d, h => hK _ h
  | _ :: r, d, h => ⟨fun q => hK _ (h.1 q), fun q => xsw_mono hK r d (h.2 q)⟩
set_option maxHeartbeats 16000000 in
set_option maxRecDepth 100000 in
theorem xF_mono {MC : Nat → List Value → xh → (Option Value → xh → Prop) → Prop} (hM : xMono MC) {MK MS : Nat} {Q Q' : Option Value → xh → Prop} (hQ : ∀ v h', Q v h' → Q' v h') {K K' : Nat → List (Option Value) → List Value → xh → Nat → Nat → Prop} (hK : ∀ pc ls st h kc ks, K pc ls st h kc ks → K' pc ls st h kc ks) {o : xop} {ls : List (Option Value)} {st : List Value} {h : xh} {kc ks : Nat} (hF : xF MC MK MS Q K o ls st h kc ks) : xF MC MK MS Q' K' o ls st h kc ks := by
  obtain ⟨i, nx, a, b, c, e, f, g, k, kl, ts⟩ := o
  cases i
  case ifCond cd off =>
    cases cd <;> (revert hF; unfold xF; intro hF; dsimp only at hF ⊢; split at hF <;> first | exact hF.elim | exact ⟨fun q => hK _ _ _ _ _ _ (hF.1 q), fun q => hK _ _ _ _ _ _ (hF.2 q)⟩)
  case if_icmp cd off =>
    cases cd <;> (revert hF; unfold xF; intro hF; dsimp only at hF ⊢; split at hF <;> first | exact hF.elim | exact ⟨fun q => hK _ _ _ _ _ _ (hF.1 q), fun q => hK _ _ _ _ _ _ (hF.2 q)⟩)
  case if_acmp cd off =>
    cases cd <;> (revert hF; unfold xF; intro hF; dsimp only at hF ⊢) <;> first | exact hF.elim | (split at hF <;> first | exact hF.elim | exact hK _ _ _ _ _ _ hF | exact ⟨hF.1, fun q => hK _ _ _ _ _ _ (hF.2.1 q), fun q => hK _ _ _ _ _ _ (hF.2.2 q)⟩)
  all_goals (revert hF; unfold xF; intro hF; dsimp only at hF ⊢)
  all_goals (first
    | exact hF.elim
    | exact hK _ _ _ _ _ _ hF
    | exact ⟨hF.1, hK _ _ _ _ _ _ hF.2⟩
    | exact xcm_mono hM (fun _ _ _ _ q => hK _ _ _ _ _ _ q) hF
    | skip)
  all_goals (repeat' (split at hF))
  all_goals (first
    | exact hF.elim
    | exact hK _ _ _ _ _ _ hF
    | exact ⟨hF.1, hK _ _ _ _ _ _ hF.2⟩
    | exact hQ _ _ hF
    | exact ⟨hF.1, hQ _ _ hF.2⟩
    | exact ⟨fun q => hK _ _ _ _ _ _ (hF.1 q), fun q => hK _ _ _ _ _ _ (hF.2 q)⟩
    | exact ⟨hK _ _ _ _ _ _ hF.1, hK _ _ _ _ _ _ hF.2⟩
    | exact ⟨hF.1, fun v q => hK _ _ _ _ _ _ (hF.2.1 v q), fun q => hK _ _ _ _ _ _ (hF.2.2 q)⟩
    | exact ⟨fun q => hK _ _ _ _ _ _ (hF.1 q), fun q => hK _ _ _ _ _ _ (hF.2.1 q), fun q => hK _ _ _ _ _ _ (hF.2.2 q)⟩
    | exact ⟨hF.1, fun v q => hK _ _ _ _ _ _ (hF.2.1 v q), fun q => hK _ _ _ _ _ _ (hF.2.2 q)⟩
    | exact xsw_mono (fun t q => hK _ _ _ _ _ _ q) _ _ hF
    | exact xcm_mono hM (fun _ _ _ _ q => hK _ _ _ _ _ _ q) hF
    | exact ⟨hF.1, xcm_mono hM (fun _ _ _ _ q => hK _ _ _ _ _ _ q) hF.2⟩
    | skip)
theorem xW_step {MC : Nat → List Value → xh → (Option Value → xh → Prop) → Prop} (hM : xMono MC) {cd : List (List xop)} {MK MS : Nat} {Q : Option Value → xh → Prop} {pc : Nat} {ls : List (Option Value)} {st : List Value} {h : xh} {kc ks : Nat} (hF : xF MC MK MS Q (xW MC cd MK MS Q) (xat cd pc) ls st h kc ks) : xW MC cd MK MS Q pc ls st h kc ks :=
  fun K hK => hK _ _ _ _ _ _ (xF_mono hM (fun _ _ q => q) (fun _ _ _ _ _ _ q => q K hK) hF)
theorem xW_mono {MC : Nat → List Value → xh → (Option Value → xh → Prop) → Prop} (hM : xMono MC) {cd : List (List xop)} {MK MS : Nat} {Q Q' : Option Value → xh → Prop} (hQ : ∀ v h', Q v h' → Q' v h') {pc : Nat} {ls : List (Option Value)} {st : List Value} {h : xh} {kc ks : Nat} (hw : xW MC cd MK MS Q pc ls st h kc ks) : xW MC cd MK MS Q' pc ls st h kc ks :=
  fun K hK => hw K (fun _ _ _ _ _ _ hF => hK _ _ _ _ _ _ (xF_mono hM hQ (fun _ _ _ _ _ _ q => q) hF))
theorem xW_n {MC : Nat → List Value → xh → (Option Value → xh → Prop) → Prop} (hM : xMono MC) {cd : List (List xop)} {MK MS : Nat} {Q : Option Value → xh → Prop} : ∀ (n : Nat) {pc : Nat} {ls : List (Option Value)} {st : List Value} {h : xh} {kc ks : Nat}, xFn MC cd MK MS Q (xW MC cd MK MS Q) n pc ls st h kc ks → xW MC cd MK MS Q pc ls st h kc ks
  | 0, _, _, _, _, _, _, hF => hF
  | n + 1, _, _, _, _, _, _, hF => xW_step hM (xF_mono hM (fun _ _ q => q) (fun _ _ _ _ _ _ q => xW_n hM n q) hF)
