/-! THE METHODS: a call of the abstract machine is a contract of the machine -/
def xnd (as : List Value) : Bool := as.all (fun v => match v with
  | .double _ => false
  | _ => true)
/-- a call of method j, with n frames of room -/
def xMC : Nat → Nat → List Value → xh → (Option Value → xh → Prop) → Prop
  | 0, _, _, _, _ => False
  | n + 1, j, as, h, Q => ∃ q : xme, xmt[j]? = some q ∧ (Nat.ble (xarg as).length q.2.2.1 && xnd as) = true ∧ xW (xMC n) q.2.2.2.2.1 q.2.2.2.2.2.2.2.2.1 q.2.2.2.2.2.2.2.2.2.1 Q 0 (xpad q.2.2.1 (xarg as)) [] h 0 0
theorem xMC_mono : ∀ n, xMono (xMC n)
  | 0 => fun _ _ _ _ _ _ h => h
  | n + 1 => fun j as h Q Q' hQ hm => by
    obtain ⟨q, h1, h2, h3⟩ := hm
    exact ⟨q, h1, h2, xW_mono (xMC_mono n) hQ h3⟩
theorem xnd_of {as : List Value} (h : xnd as = true) : ∀ a ∈ as, ∀ x, a ≠ .double x := by
  intro a ha x e
  have := List.all_eq_true.mp h a ha
  rw [e] at this
  cases this
theorem xsl_len (f : Nat → Nat) : ∀ as : List Value, xnd as = true → (lg_sl (as.map (xtv f))).length = (xarg as).length
  | [], _ => rfl
  | v :: r, h => by
    have h2 : xnd r = true := by
      have := List.all_eq_true.mp h
      exact List.all_eq_true.mpr fun a ha => this a (List.mem_cons_of_mem _ ha)
    have ih := xsl_len f r h2
    have e : ∀ (a : Value) (l : List Value), (lg_sl (a :: l)).length = (if a.category = 2 then 2 else 1) + (lg_sl l).length := by
      intro a l
      simp [lg_sl]
      split <;> rfl
    rw [List.map_cons, e, ih]
    cases v with
    | double x => exact absurd rfl (xnd_of h _ List.mem_cons_self x)
    | long x => show 2 + (xarg r).length = (xarg r).length + 1 + 1; omega
    | int x => show 1 + (xarg r).length = (xarg r).length + 1; omega
    | float x => show 1 + (xarg r).length = (xarg r).length + 1; omega
    | null => show 1 + (xarg r).length = (xarg r).length + 1; omega
    | ref x => show 1 + (xarg r).length = (xarg r).length + 1; omega
    | retAddr x => show 1 + (xarg r).length = (xarg r).length + 1; omega
theorem xlv_entry (f : Nat → Nat) {as : List Value} {nL : Nat} (h1 : (xarg as).length ≤ nL) (h2 : xnd as = true) : xlv f ((lg_sl (as.map (xtv f)) ++ List.replicate (nL - (lg_sl (as.map (xtv f))).length) Slot.unset).toArray) nL (xpad nL (xarg as)) := by
  have he := lv_entry (as.map (xtv f)) (n := nL) (by rw [xsl_len f as h2]; exact h1)
  refine ⟨he.1, he.2.1, fun q hq => he.2.2 q ?_⟩
  obtain ⟨i, v, e1, e2⟩ := xents_of f _ 0 q hq
  subst e1
  exact xarg_in f as 0 i v (xnd_of h2) (xpad_get _ _ _ _ e2)
set_option maxHeartbeats 4000000 in
theorem xMC_met {l : Launch} {dC : Nat → ClassId} {dI : Nat → Nat → Nat} {cA : Nat → ClassId} {f : Nat → Nat} {B : Nat} {h0 : xh} (hf : ∀ k, 64 ≤ k → f k = B + (k - 64)) (hmt : ∀ q ∈ xmt, xmo q = true) (hmd : ∀ q ∈ xmt, xmd q = true) : ∀ n, xCon2 l n (xMC n) dC dI cA f B h0
  | 0 => fun _ _ _ _ _ _ hm => (show False from hm).elim
  | n + 1 => by
    intro j q as h Q' hq hm
    obtain ⟨q', hq', hlen, hw⟩ := hm
    have eq : q' = q := Option.some.inj (hq'.symm.trans hq)
    subst eq
    have hmo := hmt q' (List.mem_of_getElem? hq)
    have hmdq := hmd q' (List.mem_of_getElem? hq)
    clear hq hq'
    obtain ⟨y, b, ml, rt, cd, kd, na, tg, mc, ms, rc, ps⟩ := q'
    dsimp only at hlen hw ⊢
    simp only [Bool.and_eq_true] at hlen
    have hlen1 : (xarg as).length ≤ ml := Nat.le_of_ble_eq_true hlen.1
    have hmo2 := hmo
    unfold xmo at hmo2
    split at hmo2
    next y' b' ml' rt' cd' kd' na' tg' mc' ms' rc' p0 p1 p2 p3 heq =>
      simp only [Prod.mk.injEq] at heq
      obtain ⟨rfl, rfl, rfl, rfl, rfl, rfl, rfl, rfl, rfl, rfl, rfl, rfl⟩ := heq
      simp only [Bool.and_eq_true, decide_eq_true_eq] at hmo2
      obtain ⟨-, -, -, -, -, m6, m7, m8, -, m10, -⟩ := hmo2
      refine va_MetF (cc := b) (maxL := ml) (ret := rt) m8 rfl ?_
      intro p e s m args below meth c s₁ Bd hml hv
      obtain ⟨rfl, hK, hC, hR, hB⟩ := hv
      have hts0 := atoms_spec (ws := Cond.code y b ml rt :: lw_tbl.filter goodWord) Bd.pre
      have E : xEnv p s m (as.map (xtv f)).toArray c b ml y.cls dC dI cA f B h0 := ⟨Bd.exec, Bd.bytes, hml, findClass_of_methodNamed Bd.named, fun w h1 h2 => hts0 w (List.mem_cons_of_mem _ (List.mem_filter.mpr ⟨h1, h2⟩)), hK, hC, hf, hB⟩
      have hr := Bd.returns
      have hlocks := Bd.notSynchronized
      have hret : xRet p l e ({ frames := n + 1, cells := mc, slots := ms, locals := 32 * (n + 1) } : Room) s m (as.map (xtv f)).toArray below meth c (MQ below (xQc dC dI cA f B h0 Q') (as.map (xtv f)).toArray s mc ms (xA B)) dC dI cA f B h0 b rt Q' := by
        intro v h' H locs lsA kc ks pc i hdg hok hq hR' hS' hc1 hc2
        have hQ : ∀ t : State, t.heap = H → s.WarmedH t.vm → xQc dC dI cA f B h0 Q' (as.map (xtv f)).toArray s (.returned (v.map (xtv f))) t := fun t ht _ => ⟨⟨v, h', rfl, hq, by rw [ht]; exact hR'⟩, ⟨by rw [ht]; exact hS'.1, fun q h1 h2 => by rw [ht]; exact hS'.2.1 q h1 h2⟩⟩
        refine W.widen (k := mc) (n := ms) hc1 hc2 ?_
        rcases hok with ⟨rfl, x, ty, rfl, rfl, hn⟩ | ⟨rfl, ⟨x, rfl⟩, rfl⟩ | ⟨rfl, hv, ty, rfl, hty⟩ | ⟨rfl, rfl, rfl⟩
        · exact W.zret Bd.exec Bd.bytes hr hn hQ hS'.2.2 hdg hlocks
        · exact W.lret Bd.exec Bd.bytes hr hQ hS'.2.2 hdg hlocks
        · rcases hv with ⟨x, rfl⟩ | rfl
          · exact W.aret Bd.exec Bd.bytes hr hty (Or.inr ⟨_, rfl⟩) hQ hS'.2.2 hdg hlocks
          · exact W.aret Bd.exec Bd.bytes hr hty (Or.inl rfl) hQ hS'.2.2 hdg hlocks
        · exact W.vret Bd.exec Bd.bytes hr hQ hS'.2.2 hdg hlocks
      have hini : decide (y.name = "<init>") = true → meth.name = "<init>" := fun z => by rw [(name_of_methodNamed Bd.named Bd.method).1]; exact of_decide_eq_true z
      have key := hw (xKW p l e ({ frames := n + 1, cells := mc, slots := ms, locals := 32 * (n + 1) } : Room) s m (as.map (xtv f)).toArray below meth c (MQ below (xQc dC dI cA f B h0 Q') (as.map (xtv f)).toArray s mc ms (xA B)) ml dC dI cA f B h0) (fun pc ls st h kc ks hF => xs_step (n := n) E m10 (Nat.le_refl _) (Nat.le_refl _) hini hmt (xMC_met hf hmt hmd n) hret (xd_at hmdq pc) hF)
      rw [lg_entry_eq]
      exact key s.heap [] _ hR va_S.rf (xlv_entry f hlen1 hlen.2) (Nat.zero_le _) (Nat.zero_le _)
    next => cases hmo2
