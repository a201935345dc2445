/-! AGREEMENT, call by call -/
def Md (N : Nat) (xs : Nat → Int32) (h : xh) : Prop := Lay h ∧ St0 h N xs
theorem Iv.md {N : Nat} {xs : Nat → Int32} {cc : Nat → Nat} {h : xh} (I : Iv N xs cc h) : Md N xs h := I.1
/-- behind both calls -/
def Bt {α : Type} (N : Nat) (xs : Nat → Int32) (r : α) : α → xh → Prop := fun r2 h2 => r = r2 ∧ ∃ cc, Iv N xs cc h2
theorem Bt.mk {α : Type} {N : Nat} {xs : Nat → Int32} {cc : Nat → Nat} {r r2 : α} {h2 : xh} (e : r = r2) (I : Iv N xs cc h2) : Bt N xs r r2 h2 := ⟨e, cc, I⟩
theorem nI_u {c k j : Nat} (hc : c ≤ 2) (hk : k < c) (hj : j < c) {p : Int32} (e1 : p = nI k) (e2 : p = nI j) : j = k := (nI_eq (by omega) (by omega)).mp (e2.symm.trans e1)
theorem nI_v {k j : Nat} (hk : k < 2 ^ 31) (hj : j < 2 ^ 31) {p : Int32} (e1 : p = nI k) (e2 : p = nI j) : j = k := (nI_eq hj hk).mp (e2.symm.trans e1)
theorem a_town {n : Nat} (hn : 11 ≤ n) {N : Nat} {xs : Nat → Int32} {cc : Nat → Nat} {h : xh} (I : Iv N xs cc h) {p w : Int32} : xci (xMC n) 163 [.ref 64, .int p, .int w] h (fun r h1 => Md N xs h1 ∧ xci (xMC n) 245 [.ref 166, .int p, .int w] h1 (Bt N xs r)) := by
  have W := I.tc
  have V := I.tm
  refine c_So_town (by omega) I.lay W (fun j hj e => ⟨I.md, c_Mo_town (by omega) I.lay V (fun i hi e2 h' F => ?_) (fun z => absurd e (z j hj))⟩) (fun z => ⟨I.md, c_Mo_town (by omega) I.lay V (fun i hi e2 => absurd e2 (z i hi)) (fun _ h' F => Bt.mk rfl (I.m F))⟩)
  have := nI_u W.2.1 hj hi e e2
  subst this
  exact Bt.mk rfl (I.m F)
theorem a_safe {n : Nat} (hn : 11 ≤ n) {N : Nat} {xs : Nat → Int32} {cc : Nat → Nat} {h : xh} (I : Iv N xs cc h) {p : Int32} : xci (xMC n) 171 [.ref 64, .int p] h (fun r h1 => Md N xs h1 ∧ xci (xMC n) 281 [.ref 166, .int p] h1 (Bt N xs r)) := by
  have W := I.tc
  have V := I.tm
  refine c_So_safe (by omega) I.lay W (fun j hj e => ⟨I.md, c_Mo_safe (by omega) I.lay V (fun i hi e2 h' F => ?_) (fun z => absurd e (z j hj))⟩) (fun z => ⟨I.md, c_Mo_safe (by omega) I.lay V (fun i hi e2 => absurd e2 (z i hi)) (fun _ h' F => Bt.mk rfl (I.m F))⟩)
  have := nI_u W.2.1 hj hi e e2
  subst this
  exact Bt.mk rfl (I.m F)
theorem a_depot {n : Nat} (hn : 11 ≤ n) {N : Nat} {xs : Nat → Int32} {cc : Nat → Nat} {h : xh} (I : Iv N xs cc h) {p m : Int32} : xci (xMC n) 178 [.ref 64, .int p, .int m] h (fun r h1 => Md N xs h1 ∧ xci (xMC n) 337 [.ref 166, .int p, .int m] h1 (Bt N xs r)) := by
  have W := I.tc
  have V := I.tm
  refine c_So_depot (by omega) I.lay W (fun j hj e => ⟨I.md, c_Mo_depot (by omega) I.lay V (fun i hi e2 h' F => ?_) (fun z => absurd e (z j hj))⟩) (fun z => ⟨I.md, c_Mo_depot (by omega) I.lay V (fun i hi e2 => absurd e2 (z i hi)) (fun _ h' F => Bt.mk rfl (I.m F))⟩)
  have := nI_u W.2.1 hj hi e e2
  subst this
  exact Bt.mk rfl (I.m F)
theorem a_deed {n : Nat} (hn : 11 ≤ n) {N : Nat} {xs : Nat → Int32} {cc : Nat → Nat} {h : xh} (I : Iv N xs cc h) {p k w : Int32} : xci (xMC n) 164 [.ref 64, .int p, .int k, .int w] h (fun r h1 => Md N xs h1 ∧ xci (xMC n) 249 [.ref 166, .int p, .int k, .int w] h1 (Bt N xs r)) := by
  have W := I.ec
  have V := I.em
  refine c_So_deed (by omega) I.lay W (fun j hj e => ⟨I.md, c_Mo_deed (by omega) I.lay V (fun i hi e2 h' F => ?_) (fun z => absurd e (z j hj))⟩) (fun z => ⟨I.md, c_Mo_deed (by omega) I.lay V (fun i hi e2 => absurd e2 (z i hi)) (fun _ h' F => Bt.mk rfl (I.m F))⟩)
  have := nI_u W.2.1 hj hi e e2
  subst this
  exact Bt.mk rfl (I.m F)
theorem a_book {n : Nat} (hn : 11 ≤ n) {N : Nat} {xs : Nat → Int32} {cc : Nat → Nat} {h : xh} (I : Iv N xs cc h) {p k w : Int32} : xci (xMC n) 182 [.ref 64, .int p, .int k, .int w] h (fun r h1 => Md N xs h1 ∧ xci (xMC n) 297 [.ref 166, .int p, .int k, .int w] h1 (Bt N xs r)) := by
  have W := I.bc
  have V := I.bm
  refine c_So_book (by omega) I.lay W (fun j hj e => ⟨I.md, c_Mo_book (by omega) I.lay V (fun i hi e2 h' F => ?_) (fun z => absurd e (z j hj))⟩) (fun z => ⟨I.md, c_Mo_book (by omega) I.lay V (fun i hi e2 => absurd e2 (z i hi)) (fun _ h' F => Bt.mk rfl (I.m F))⟩)
  have := nI_u W.2.1 hj hi e e2
  subst this
  exact Bt.mk rfl (I.m F)
theorem a_bring {n : Nat} (hn : 11 ≤ n) {N : Nat} {xs : Nat → Int32} {cc : Nat → Nat} {h : xh} (I : Iv N xs cc h) {p t k : Int32} : xci (xMC n) 184 [.ref 64, .int p, .int t, .int k] h (fun r h1 => Md N xs h1 ∧ xci (xMC n) 306 [.ref 166, .int p, .int t, .int k] h1 (Bt N xs r)) := by
  have W := I.bc
  have V := I.bm
  refine c_So_bring (by omega) I.lay W (fun j hj e => ⟨I.md, c_Mo_bring (by omega) I.lay V (fun i hi e2 h' F => ?_) (fun z => absurd e (z j hj))⟩) (fun z => ⟨I.md, c_Mo_bring (by omega) I.lay V (fun i hi e2 => absurd e2 (z i hi)) (fun _ h' F => Bt.mk rfl (I.m F))⟩)
  have := nI_u W.2.1 hj hi e e2
  subst this
  exact Bt.mk rfl (I.m F)
theorem a_span {n : Nat} (hn : 11 ≤ n) {N : Nat} {xs : Nat → Int32} {cc : Nat → Nat} {h : xh} (I : Iv N xs cc h) {p t g : Int32} : xci (xMC n) 185 [.ref 64, .int p, .int t, .int g] h (fun r h1 => Md N xs h1 ∧ xci (xMC n) 308 [.ref 166, .int p, .int t, .int g] h1 (Bt N xs r)) := by
  have W := I.bc
  have V := I.bm
  refine c_So_span (by omega) I.lay W (fun j hj e => ⟨I.md, c_Mo_span (by omega) I.lay V (fun i hi e2 h' F => ?_) (fun z => absurd e (z j hj))⟩) (fun z => ⟨I.md, c_Mo_span (by omega) I.lay V (fun i hi e2 => absurd e2 (z i hi)) (fun _ h' F => Bt.mk rfl (I.m F))⟩)
  have := nI_u W.2.1 hj hi e e2
  subst this
  exact Bt.mk rfl (I.m F)
theorem a_held {n : Nat} (hn : 11 ≤ n) {N : Nat} {xs : Nat → Int32} {cc : Nat → Nat} {h : xh} (I : Iv N xs cc h) {p w : Int32} : xci (xMC n) 183 [.ref 64, .int p, .int w] h (fun r h1 => Md N xs h1 ∧ xci (xMC n) 301 [.ref 166, .int p, .int w] h1 (Bt N xs r)) := by
  have W := I.bc
  have V := I.bm
  refine c_So_held (by omega) I.lay W (fun j hj e => ⟨I.md, c_Mo_held (by omega) I.lay V (fun i hi e2 h' F => ?_) (fun z => absurd e (z j hj))⟩) (fun z => ⟨I.md, c_Mo_held (by omega) I.lay V (fun i hi e2 => absurd e2 (z i hi)) (fun _ h' F => Bt.mk rfl (I.m F))⟩)
  have := nI_u W.2.1 hj hi e e2
  subst this
  exact Bt.mk rfl (I.m F)
theorem a_list {n : Nat} (hn : 11 ≤ n) {N : Nat} {xs : Nat → Int32} {cc : Nat → Nat} {h : xh} (I : Iv N xs cc h) {p w : Int32} : xci (xMC n) 188 [.ref 64, .int p, .int w] h (fun r h1 => Md N xs h1 ∧ xci (xMC n) 309 [.ref 166, .int p, .int w] h1 (Bt N xs r)) := by
  have W := I.sc
  have V := I.sm
  refine c_So_list (by omega) I.lay W (fun j hj e => ⟨I.md, c_Mo_list (by omega) I.lay V (fun i hi e2 h' F => ?_) (fun z => absurd e (z j hj))⟩) (fun z => ⟨I.md, c_Mo_list (by omega) I.lay V (fun i hi e2 => absurd e2 (z i hi)) (fun _ h' F => Bt.mk rfl (I.m F))⟩)
  have := nI_u W.2.1 hj hi e e2
  subst this
  exact Bt.mk rfl (I.m F)
theorem a_shod {n : Nat} (hn : 11 ≤ n) {N : Nat} {xs : Nat → Int32} {cc : Nat → Nat} {h : xh} (I : Iv N xs cc h) {p k : Int32} : xci (xMC n) 189 [.ref 64, .int p, .int k] h (fun r h1 => Md N xs h1 ∧ xci (xMC n) 312 [.ref 166, .int p, .int k] h1 (Bt N xs r)) := by
  refine c_So_shod (by omega) I.lay I.sc I.s I.zz (fun j hj e g F L1 Z C => ?_) (fun z => ⟨I.md, c_Mo_shod (by omega) I.lay I.sm (fun i hi e2 => absurd e2 (z i hi)) (fun _ h' F => Bt.mk rfl (I.m F))⟩)
  have I1 := I.ws F L1 C Z
  refine ⟨I1.md, c_Mo_shod (by omega) L1 I1.sm (fun i hi e2 h' F2 => ?_) (fun z => absurd e (z j hj))⟩
  have := nI_u I.sc.2.1 hj hi e e2
  subst this
  exact Bt.mk (by rw [mS_sm (F.2.2 175 (fun z => by unfold P6 at z; omega)).2.2.1]) (I1.m F2)
theorem a_look {n : Nat} (hn : 11 ≤ n) {N : Nat} {xs : Nat → Int32} {cc : Nat → Nat} {h : xh} (I : Iv N xs cc h) {p k : Int32} : xci (xMC n) 190 [.ref 64, .int p, .int k] h (fun r h1 => Md N xs h1 ∧ xci (xMC n) 316 [.ref 166, .int p, .int k] h1 (Bt N xs r)) := by
  refine c_So_look (by omega) I.lay I.sc I.s I.zz (fun j hj e g F L1 Z C => ?_) (fun z => ⟨I.md, c_Mo_look (by omega) I.lay I.sm (fun i hi e2 => absurd e2 (z i hi)) (fun _ h' F => Bt.mk rfl (I.m F))⟩)
  have I1 := I.ws F L1 C Z
  refine ⟨I1.md, c_Mo_look (by omega) L1 I1.sm (fun i hi e2 h' F2 => ?_) (fun z => absurd e (z j hj))⟩
  have := nI_u I.sc.2.1 hj hi e e2
  subst this
  exact Bt.mk (by rw [mS_sm (F.2.2 175 (fun z => by unfold P6 at z; omega)).2.2.1]) (I1.m F2)
theorem a_way {n : Nat} (hn : 11 ≤ n) {N : Nat} {xs : Nat → Int32} {cc : Nat → Nat} {h : xh} (I : Iv N xs cc h) {p k : Int32} : xci (xMC n) 174 [.ref 64, .int p, .int k] h (fun r h1 => Md N xs h1 ∧ xci (xMC n) 282 [.ref 166, .int p, .int k] h1 (Bt N xs r)) := by
  refine c_So_way (by omega) I.lay I.tc I.r I.z (fun j hj e g F L1 Z C => ?_) (fun z => ⟨I.md, c_Mo_way (by omega) I.lay I.tm (fun i hi e2 => absurd e2 (z i hi)) (fun _ h' F => Bt.mk rfl (I.m F))⟩)
  have I1 := I.wr F L1 C Z
  refine ⟨I1.md, c_Mo_way (by omega) L1 I1.tm (fun i hi e2 h' F2 => ?_) (fun z => absurd e (z j hj))⟩
  have := nI_u I.tc.2.1 hj hi e e2
  subst this
  exact Bt.mk (by rw [mT_sm (F.2.2 172 (fun z => by unfold P15 at z; omega)).2.2.1]) (I1.m F2)
theorem a_round {n : Nat} (hn : 11 ≤ n) {N : Nat} {xs : Nat → Int32} {cc : Nat → Nat} {h : xh} (I : Iv N xs cc h) {p k : Int32} : xci (xMC n) 175 [.ref 64, .int p, .int k] h (fun r h1 => Md N xs h1 ∧ xci (xMC n) 291 [.ref 166, .int p, .int k] h1 (Bt N xs r)) := by
  refine c_So_round (by omega) I.lay I.tc I.r I.z (fun j hj e g F L1 Z C => ?_) (fun z => ⟨I.md, c_Mo_round (by omega) I.lay I.tm (fun i hi e2 => absurd e2 (z i hi)) (fun _ h' F => Bt.mk rfl (I.m F))⟩)
  have I1 := I.wr F L1 C Z
  refine ⟨I1.md, c_Mo_round (by omega) L1 I1.tm (fun i hi e2 h' F2 => ?_) (fun z => absurd e (z j hj))⟩
  have := nI_u I.tc.2.1 hj hi e e2
  subst this
  exact Bt.mk (by rw [mT_sm (F.2.2 172 (fun z => by unfold P15 at z; omega)).2.2.1]) (I1.m F2)
theorem a_vans {n : Nat} (hn : 11 ≤ n) {N : Nat} {xs : Nat → Int32} {cc : Nat → Nat} {h : xh} (I : Iv N xs cc h) {p b : Int32} : xci (xMC n) 179 [.ref 64, .int p, .int b] h (fun r h1 => Md N xs h1 ∧ xci (xMC n) 339 [.ref 166, .int p, .int b] h1 (Bt N xs r)) := by
  refine c_So_vans (by omega) I.lay I.tc I.r I.z (fun j hj e g F L1 Z C => ?_) (fun z => ⟨I.md, c_Mo_vans (by omega) I.lay I.tm (fun i hi e2 => absurd e2 (z i hi)) (fun _ h' F => Bt.mk rfl (I.m F))⟩)
  have I1 := I.wr F L1 C Z
  refine ⟨I1.md, c_Mo_vans (by omega) L1 I1.tm (fun i hi e2 h' F2 => ?_) (fun z => absurd e (z j hj))⟩
  have := nI_u I.tc.2.1 hj hi e e2
  subst this
  exact Bt.mk (by rw [mT_sm (F.2.2 172 (fun z => by unfold P15 at z; omega)).2.2.1]) (I1.m F2)
theorem a_talks {n : Nat} (hn : 11 ≤ n) {N : Nat} {xs : Nat → Int32} {cc : Nat → Nat} {h : xh} (I : Iv N xs cc h) {p : Int32} : xci (xMC n) 176 [.ref 64, .int p] h (fun r h1 => Md N xs h1 ∧ xci (xMC n) 294 [.ref 166, .int p] h1 (Bt N xs r)) := by
  refine c_So_talks (by omega) I.lay I.tc I.r I.z (fun j hj e g F L1 Z C => ?_) (fun z => ⟨I.md, c_Mo_talks (by omega) I.lay I.tm (fun i hi e2 => absurd e2 (z i hi)) (fun _ h' F => Bt.mk rfl (I.m F))⟩)
  have I1 := I.wr F L1 C Z
  refine ⟨I1.md, c_Mo_talks (by omega) L1 I1.tm (fun i hi e2 h' F2 => ?_) (fun z => absurd e (z j hj))⟩
  have := nI_u I.tc.2.1 hj hi e e2
  subst this
  exact Bt.mk (by rw [mT_sm (F.2.2 172 (fun z => by unfold P15 at z; omega)).2.2.1]) (I1.m F2)
theorem a_chat {n : Nat} (hn : 11 ≤ n) {N : Nat} {xs : Nat → Int32} {cc : Nat → Nat} {h : xh} (I : Iv N xs cc h) {p b : Int32} : xci (xMC n) 181 [.ref 64, .int p, .int b] h (fun r h1 => Md N xs h1 ∧ xci (xMC n) 341 [.ref 166, .int p, .int b] h1 (Bt N xs r)) := by
  refine c_So_chat (by omega) I.lay I.tc I.r I.z (fun j hj e g F L1 Z C => ?_) (fun z => ⟨I.md, c_Mo_chat (by omega) I.lay I.tm (fun i hi e2 => absurd e2 (z i hi)) (fun _ h' F => Bt.mk rfl (I.m F))⟩)
  have I1 := I.wr F L1 C Z
  refine ⟨I1.md, c_Mo_chat (by omega) L1 I1.tm (fun i hi e2 h' F2 => ?_) (fun z => absurd e (z j hj))⟩
  have := nI_u I.tc.2.1 hj hi e e2
  subst this
  exact Bt.mk (by rw [mT_sm (F.2.2 172 (fun z => by unfold P15 at z; omega)).2.2.1]) (I1.m F2)
theorem a_worry {n : Nat} (hn : 11 ≤ n) {N : Nat} {xs : Nat → Int32} {cc : Nat → Nat} {h : xh} (I : Iv N xs cc h) {a q k u : Int32} : xcj (xMC n) 191 [.ref 64, .int a, .int q, .int k, .int u] h (fun r h1 => Md N xs h1 ∧ xcj (xMC n) 324 [.ref 166, .int a, .int q, .int k, .int u] h1 (Bt N xs r)) := by
  exact c_So_worry (by omega) ⟨I.md, c_Mo_worry (by omega) ⟨by decide, I.lay.s 166⟩ (Bt.mk rfl (I.m (Fr.rf.wI mP)))⟩
theorem a_when {n : Nat} (hn : 11 ≤ n) {N : Nat} {xs : Nat → Int32} {cc : Nat → Nat} {h : xh} (I : Iv N xs cc h) {a q c : Int32} : xci (xMC n) 196 [.ref 64, .int a, .int q, .int c] h (fun r h1 => Md N xs h1 ∧ xci (xMC n) 329 [.ref 166, .int a, .int q, .int c] h1 (Bt N xs r)) := by
  exact c_So_when (by omega) ⟨I.md, c_Mo_when (by omega) ⟨by decide, I.lay.s 166⟩ (Bt.mk rfl (I.m (Fr.rf.wI mP)))⟩
theorem a_sick {n : Nat} (hn : 11 ≤ n) {N : Nat} {xs : Nat → Int32} {cc : Nat → Nat} {h : xh} (I : Iv N xs cc h) {q k a b s u : Int32} : xcj (xMC n) 197 [.ref 64, .int q, .int k, .int a, .int b, .int s, .int u] h (fun r h1 => Md N xs h1 ∧ xcj (xMC n) 346 [.ref 166, .int q, .int k, .int a, .int b, .int s, .int u] h1 (Bt N xs r)) := by
  exact c_So_sick (by omega) ⟨I.md, c_Mo_sick (by omega) ⟨by decide, I.lay.s 166⟩ (Bt.mk rfl (I.m (Fr.rf.wI mP)))⟩
theorem a_call {n : Nat} (hn : 11 ≤ n) {N : Nat} {xs : Nat → Int32} {cc : Nat → Nat} {h : xh} (I : Iv N xs cc h) {q k a b c : Int32} : xci (xMC n) 200 [.ref 64, .int q, .int k, .int a, .int b, .int c] h (fun r h1 => Md N xs h1 ∧ xci (xMC n) 350 [.ref 166, .int q, .int k, .int a, .int b, .int c] h1 (Bt N xs r)) := by
  exact c_So_call (by omega) ⟨I.md, c_Mo_call (by omega) ⟨by decide, I.lay.s 166⟩ (Bt.mk rfl (I.m (Fr.rf.wI mP)))⟩
theorem a_pair {n : Nat} (hn : 11 ≤ n) {N : Nat} {xs : Nat → Int32} {cc : Nat → Nat} {h : xh} (I : Iv N xs cc h) {k t v : Int32} : xci (xMC n) 205 [.ref 64, .int k, .int t, .int v] h (fun r h1 => Md N xs h1 ∧ xci (xMC n) 332 [.ref 166, .int k, .int t, .int v] h1 (Bt N xs r)) := by
  exact c_So_pair (by omega) ⟨I.md, c_Mo_pair (by omega) ⟨by decide, I.lay.s 166⟩ (Bt.mk rfl (I.m (Fr.rf.wI mP)))⟩
theorem a_trail {n : Nat} (hn : 11 ≤ n) {N : Nat} {xs : Nat → Int32} {cc : Nat → Nat} {h : xh} (I : Iv N xs cc h) {p s g : Int32} : xci (xMC n) 180 [.ref 64, .int p, .int s, .int g] h (fun r h1 => Md N xs h1 ∧ xci (xMC n) 340 [.ref 166, .int p, .int s, .int g] h1 (Bt N xs r)) := by
  have W := I.tc
  have V := I.tm
  refine c_So_trail (by omega) I.lay W (fun j hj e s' hs es => ⟨I.md, c_Mo_trail (by omega) I.lay V (fun i hi e2 t ht et h' F => ?_) (fun i hi e2 z => ?_) (fun z => absurd e (z j hj))⟩) (fun j hj e y => ⟨I.md, c_Mo_trail (by omega) I.lay V (fun i hi e2 t ht et => ?_) (fun i hi e2 z h' F => Bt.mk rfl (I.m F)) (fun z => absurd e (z j hj))⟩) (fun z => ⟨I.md, c_Mo_trail (by omega) I.lay V (fun i hi e2 => absurd e2 (z i hi)) (fun i hi e2 => absurd e2 (z i hi)) (fun _ h' F => Bt.mk rfl (I.m F))⟩)
  · have := nI_u W.2.1 hj hi e e2
    subst this
    have b := (W.2.2 _ hi).ok.s6.2
    have := nI_v (by omega) (by omega) es et
    subst this
    exact Bt.mk rfl (I.m F)
  · have := nI_u W.2.1 hj hi e e2
    subst this
    exact absurd es (z s' hs)
  · have := nI_u W.2.1 hj hi e e2
    subst this
    exact absurd et (y t ht)
theorem a_like {n : Nat} (hn : 11 ≤ n) {N : Nat} {xs : Nat → Int32} {cc : Nat → Nat} {h : xh} (I : Iv N xs cc h) {p q t : Int32} : xci (xMC n) 187 [.ref 64, .int p, .int q, .int t] h (fun r h1 => Md N xs h1 ∧ xci (xMC n) 345 [.ref 166, .int p, .int q, .int t] h1 (Bt N xs r)) := by
  have W := I.bc
  have V := I.bm
  refine c_So_like (by omega) I.lay W (fun j hj e i hi ei => ⟨I.md, c_Mo_like (by omega) I.lay V (fun j2 hj2 e2 i2 hi2 ei2 h' F => ?_) (fun z => ?_)⟩) (fun z => ⟨I.md, c_Mo_like (by omega) I.lay V (fun j hj e i hi ei => ?_) (fun _ h' F => Bt.mk rfl (I.m F))⟩)
  · have := nI_u W.2.1 hj hj2 e e2
    subst this
    have := nI_u W.2.1 hi hi2 ei ei2
    subst this
    exact Bt.mk rfl (I.m F)
  · rcases z with z | z
    · exact absurd e (z j hj)
    · exact absurd ei (z i hi)
  · rcases z with z | z
    · exact absurd e (z j hj)
    · exact absurd ei (z i hi)
theorem a_lot {n : Nat} (hn : 11 ≤ n) {N : Nat} {xs : Nat → Int32} {cc : Nat → Nat} {h : xh} (I : Iv N xs cc h) {p q u : Int32} : xcj (xMC n) 186 [.ref 64, .int p, .int q, .int u] h (fun r h1 => Md N xs h1 ∧ xcj (xMC n) 343 [.ref 166, .int p, .int q, .int u] h1 (Bt N xs r)) := by
  have W := I.bc
  refine c_So_lot (by omega) I.lay W (fun j hj e i hi ei g G => ?_) (fun z => ⟨I.md, c_Mo_lot (by omega) I.lay I.bm (fun j hj e i hi ei => ?_) (fun _ h' F => Bt.mk rfl (I.m F))⟩)
  · have I1 := I.n (G.mo (fun c z => by unfold P165 at z; unfold PN; omega))
    have mb : ∀ j, mB g j = mB h j := fun j => by unfold mB; rw [G.i 174 (fun z => by unfold P165 at z; omega)]
    refine ⟨I1.md, c_Mo_lot (by omega) I1.lay I1.bm (fun j2 hj2 e2 i2 hi2 ei2 h' F => ?_) (fun z => ?_)⟩
    · have := nI_u W.2.1 hj hj2 e e2
      subst this
      have := nI_u W.2.1 hi hi2 ei ei2
      subst this
      exact Bt.mk (by rw [mb, mb]) (I1.m F)
    · rcases z with z | z
      · exact absurd e (z j hj)
      · exact absurd ei (z i hi)
  · rcases z with z | z
    · exact absurd e (z j hj)
    · exact absurd ei (z i hi)
theorem a_count {n : Nat} (hn : 11 ≤ n) {N : Nat} {xs : Nat → Int32} {cc : Nat → Nat} {h : xh} (I : Iv N xs cc h) {p : Int32} : xci (xMC n) 160 [.ref 64, .int p] h (fun r h1 => Md N xs h1 ∧ xci (xMC n) 351 [.ref 166, .int p] h1 (Bt N xs r)) := by
  refine c_So_count (by omega) I.lay (fun j hj e => ⟨I.md, c_Mo_count (by omega) I.lay (fun i hi e2 h' F => ?_) (fun z => absurd e (z j hj))⟩) (fun z => ⟨I.md, c_Mo_count (by omega) I.lay (fun i hi e2 => absurd e2 (z i hi)) (fun _ h' F => Bt.mk rfl (I.m F))⟩)
  have := nI_v (by omega) (by omega) e e2
  subst this
  obtain ⟨_, a1, a2, _⟩ := I.2.1.2.2.2 i hi
  rw [show 4 * 0 + i = i by omega] at a2
  exact Bt.mk (a1.trans a2.symm) (I.m F)
theorem a_fault {n : Nat} (hn : 11 ≤ n) {N : Nat} {xs : Nat → Int32} {cc : Nat → Nat} {h : xh} (I : Iv N xs cc h) {p : Int32} : xci (xMC n) 159 [.ref 64, .int p] h (fun r h1 => Md N xs h1 ∧ xci (xMC n) 244 [.ref 166, .int p] h1 (Bt N xs r)) := by
  refine c_So_fault (by omega) I.lay ⟨I.md, c_Mo_fault (by omega) I.lay (fun h' F => Bt.mk ?_ (I.m F))⟩
  obtain ⟨e1, e2⟩ := I.2.1.2.2.1
  rw [e1, e2]
theorem a_drawn {n : Nat} (hn : 11 ≤ n) {N : Nat} {xs : Nat → Int32} {cc : Nat → Nat} {h : xh} (I : Iv N xs cc h) {p s m w : Int32} : xci (xMC n) 167 [.ref 64, .int p, .int s, .int m, .int w] h (fun r h1 => Md N xs h1 ∧ xci (xMC n) 333 [.ref 166, .int p, .int s, .int m, .int w] h1 (Bt N xs r)) := by
  have W := I.tc
  refine c_So_drawn (by omega) I.lay W (fun j hj e k hk ek g G => ?_) (fun z => ⟨I.md, c_Mo_drawn (by omega) I.lay I.tm (fun j hj e k hk ek => ?_) (fun _ h' F => Bt.mk rfl (I.m F))⟩)
  · have I1 := I.n (G.mo (fun c z => by unfold PW at z; unfold PN; omega))
    have mb : ∀ j, mT g j = mT h j := fun j => mT_sm (G.i 172 (fun z => by unfold PW at z; omega)) j
    refine ⟨I1.md, c_Mo_drawn (by omega) I1.lay I1.tm (fun j2 hj2 e2 k2 hk2 ek2 h' F => ?_) (fun z => ?_)⟩
    · have := nI_u W.2.1 hj hj2 e e2
      subst this
      have := nI_v (by omega) (by omega) ek ek2
      subst this
      exact Bt.mk (by rw [mb]) (I1.m F)
    · rcases z with z | z
      · exact absurd e (z j hj)
      · exact absurd ek (z k hk)
  · rcases z with z | z
    · exact absurd e (z j hj)
    · exact absurd ek (z k hk)
theorem a_till {n : Nat} (hn : 11 ≤ n) {N : Nat} {xs : Nat → Int32} {cc : Nat → Nat} {h : xh} (I : Iv N xs cc h) {p q : Int32} : xci (xMC n) 165 [.ref 64, .int p, .int q] h (fun r h1 => Md N xs h1 ∧ xci (xMC n) 253 [.ref 166, .int p, .int q] h1 (Bt N xs r)) := by
  have W := I.tc
  have E := I.ec
  refine c_So_till (by omega) I.lay W E (fun j hj e i hi ei g G => ?_) (fun z => ⟨I.md, c_Mo_till (w := 0) (by omega) I.lay I.tm I.em (fun j hj e i hi ei => ?_) (fun _ h' F => Bt.mk rfl (I.m F))⟩)
  · have I1 := I.n (G.mo (fun c z => by unfold PW at z; unfold PN; omega))
    have mb : ∀ j, mT g j = mT h j := fun j => mT_sm (G.i 172 (fun z => by unfold PW at z; omega)) j
    have me : ∀ j, mE g j = mE h j := fun j => by unfold mE; rw [G.i 173 (fun z => by unfold PW at z; omega)]
    refine ⟨I1.md, c_Mo_till (w := xI h 141 7) (by omega) I1.lay I1.tm I1.em (fun j2 hj2 e2 i2 hi2 ei2 h' F => ?_) (fun z => ?_)⟩
    · have := nI_u W.2.1 hj hj2 e e2
      subst this
      have := nI_u E.2.1 hi hi2 ei ei2
      subst this
      exact Bt.mk (by rw [mb, me]) (I1.m F)
    · rcases z with z | z
      · exact absurd e (z j hj)
      · exact absurd ei (z i hi)
  · rcases z with z | z
    · exact absurd e (z j hj)
    · exact absurd ei (z i hi)
theorem a_state {n : Nat} (hn : 11 ≤ n) {N : Nat} {xs : Nat → Int32} {cc : Nat → Nat} {h : xh} (I : Iv N xs cc h) {p q m w : Int32} : xci (xMC n) 166 [.ref 64, .int p, .int q, .int m, .int w] h (fun r h1 => Md N xs h1 ∧ xci (xMC n) 269 [.ref 166, .int p, .int q, .int m, .int w] h1 (Bt N xs r)) := by
  have W := I.tc
  have E := I.ec
  refine c_So_state (by omega) I.lay W E (fun j hj e i hi ei M hM eM g G => ?_) (fun z => ⟨I.md, c_Mo_state (x := 0) (by omega) I.lay I.tm I.em (fun j hj e i hi ei M hM eM => ?_) (fun _ h' F => Bt.mk rfl (I.m F))⟩)
  · have I1 := I.n (G.mo (fun c z => by unfold PW at z; unfold PN; omega))
    have mb : ∀ j, mT g j = mT h j := fun j => mT_sm (G.i 172 (fun z => by unfold PW at z; omega)) j
    have me : ∀ j, mE g j = mE h j := fun j => by unfold mE; rw [G.i 173 (fun z => by unfold PW at z; omega)]
    refine ⟨I1.md, c_Mo_state (x := xI h 141 7) (by omega) I1.lay I1.tm I1.em (fun j2 hj2 e2 i2 hi2 ei2 M2 hM2 eM2 h' F => ?_) (fun z => ?_)⟩
    · have := nI_u W.2.1 hj hj2 e e2
      subst this
      have := nI_u E.2.1 hi hi2 ei ei2
      subst this
      rw [me] at hM2
      have b := (E.2.2 _ hi).2.2.2.2.2
      have := nI_v (by omega) (by omega) eM eM2
      subst this
      exact Bt.mk (by rw [mb, me]) (I1.m F)
    · rcases z with z | z | ⟨i2, hi2, ei2, z⟩
      · exact absurd e (z j hj)
      · exact absurd ei (z i hi)
      · have := nI_u E.2.1 hi hi2 ei ei2
        subst this
        rw [me] at z
        exact absurd eM (z M hM)
  · rcases z with z | z | ⟨i2, hi2, ei2, z⟩
    · exact absurd e (z j hj)
    · exact absurd ei (z i hi)
    · have := nI_u E.2.1 hi hi2 ei ei2
      subst this
      exact absurd eM (z M hM)
theorem dyk {V k : Nat} (hV : V < 128) (hk : k ≤ 7) : dy (nI V) (nI k) := ⟨⟨nI_pos (by omega), nI_nlt (a := 127) (by omega) (by decide)⟩, nI_pos (by omega), nI_nlt (a := 7) (by omega) (by decide)⟩
theorem a_shared {n : Nat} (hn : 11 ≤ n) {N : Nat} {xs : Nat → Int32} {cc : Nat → Nat} {h : xh} (I : Iv N xs cc h) {p q a b w : Int32} : xci (xMC n) 201 [.ref 64, .int p, .int q, .int a, .int b, .int w] h (fun r h1 => Md N xs h1 ∧ xci (xMC n) 330 [.ref 166, .int p, .int q, .int a, .int b, .int w] h1 (Bt N xs r)) := by
  refine c_So_shared (by omega) (fun V C k m hV hC hk hm e1 e2 e3 e4 hw => ⟨I.md, c_Mo_shared (by omega) I.lay (fun V' C' k' m' hV' hC' hk' hm' e1' e2' e3' e4' hw' h' F => ?_) (fun z => ?_)⟩) (fun z => ⟨I.md, c_Mo_shared (by omega) I.lay (fun V C k m hV hC hk hm e1 e2 e3 e4 hw => ?_) (fun _ h' F => Bt.mk rfl (I.m F))⟩)
  · have := nI_v (by omega) (by omega) e1 e1'
    subst this
    have := nI_v (by omega) (by omega) e2 e2'
    subst this
    have := nI_v (by omega) (by omega) e3 e3'
    subst this
    have := nI_v (by omega) (by omega) e4 e4'
    subst this
    exact Bt.mk rfl (I.m F)
  · subst e1; subst e2; subst e3; subst e4
    exact absurd ⟨dyk hV hk, dyk hC hm, hw⟩ z
  · subst e1; subst e2; subst e3; subst e4
    exact absurd ⟨dyk hV hk, dyk hC hm, hw⟩ z
theorem a_give {n : Nat} (hn : 11 ≤ n) {N : Nat} {xs : Nat → Int32} {cc : Nat → Nat} {h : xh} (I : Iv N xs cc h) {p s q d : Int32} : xci (xMC n) 168 [.ref 64, .int p, .int s, .int q, .int d] h (fun r h1 => Md N xs h1 ∧ xci (xMC n) 272 [.ref 166, .int p, .int s, .int q, .int d] h1 (Bt N xs r)) := by
  have W := I.tc
  refine c_So_give (by omega) I.lay W I.b (fun j k so dd hj e hk ek hso eso hdd ed mc g F L1 C => ?_) (fun z => ⟨I.md, c_Mo_give (by omega) I.lay I.tm (fun j k so dd hj e hk ek hso eso hdd ed mc => absurd ⟨j, hj, e, ⟨so, hso, eso⟩, mc⟩ z) (fun _ h' F => Bt.mk rfl (I.m F))⟩)
  · have b := (W.2.2 _ hj).ok.s6.2
    have I1 := I.wb F L1 C
    have mb : ∀ j, mT g j = mT h j := fun j => mT_sm (F.2.2 172 (fun z => by unfold PB at z; omega)).2.2.1 j
    refine ⟨I1.md, c_Mo_give (by omega) L1 I1.tm (fun j2 k2 so2 dd2 hj2 e2 hk2 ek2 hso2 eso2 hdd2 ed2 mc2 h' F2 => ?_) (fun z => absurd ⟨j, hj, e, ⟨so, hso, eso⟩, by rw [mb]; exact mc⟩ z)⟩
    have := nI_u W.2.1 hj hj2 e e2
    subst this
    rw [mb] at hk2
    have := nI_v (by omega) (by omega) ek ek2
    subst this
    have := nI_v (by omega) (by omega) eso eso2
    subst this
    have := nI_v (by omega) (by omega) ed ed2
    subst this
    exact Bt.mk (by rw [mb]) (I1.m F2)
theorem a_mean {n : Nat} (hn : 11 ≤ n) {N : Nat} {xs : Nat → Int32} {cc : Nat → Nat} {h : xh} (I : Iv N xs cc h) {p s q u : Int32} : xcj (xMC n) 170 [.ref 64, .int p, .int s, .int q, .int u] h (fun r h1 => Md N xs h1 ∧ xcj (xMC n) 278 [.ref 166, .int p, .int s, .int q, .int u] h1 (Bt N xs r)) := by
  have W := I.tc
  refine c_So_mean (by omega) I.lay W I.b (fun j k so hj e hk ek hso eso g F L1 C => ?_) (fun z => ⟨I.md, c_Mo_mean (by omega) I.lay I.tm (fun j k so hj e hk ek hso eso => absurd ⟨j, hj, e, ⟨so, hso, eso⟩, k, hk, ek⟩ z) (fun _ h' F => Bt.mk rfl (I.m F))⟩)
  · have b := (W.2.2 _ hj).ok.s6.2
    have I1 := I.wb F L1 C
    have mb : ∀ j, mT g j = mT h j := fun j => mT_sm (F.2.2 172 (fun z => by unfold PB at z; omega)).2.2.1 j
    refine ⟨I1.md, c_Mo_mean (by omega) L1 I1.tm (fun j2 k2 so2 hj2 e2 hk2 ek2 hso2 eso2 h' F2 => ?_) (fun z => absurd ⟨j, hj, e, ⟨so, hso, eso⟩, k, by rw [mb]; exact hk, ek⟩ z)⟩
    have := nI_u W.2.1 hj hj2 e e2
    subst this
    rw [mb] at hk2
    have := nI_v (by omega) (by omega) ek ek2
    subst this
    have := nI_v (by omega) (by omega) eso eso2
    subst this
    exact Bt.mk (by rw [mb]) (I1.m F2)
theorem a_tells {n : Nat} (hn : 11 ≤ n) {N : Nat} {xs : Nat → Int32} {cc : Nat → Nat} {h : xh} (I : Iv N xs cc h) {p q d u : Int32} : xcj (xMC n) 172 [.ref 64, .int p, .int q, .int d, .int u] h (fun r h1 => Md N xs h1 ∧ xcj (xMC n) 336 [.ref 166, .int p, .int q, .int d, .int u] h1 (Bt N xs r)) := by
  have W := I.tc
  refine c_So_tells (by omega) I.lay W I.b (fun j so dd hj e hk hso eso hdd ed mc g F L1 C => ?_) (fun z => ⟨I.md, c_Mo_tells (by omega) I.lay I.tm (fun j so dd hj e hk hso eso hdd ed mc => absurd ⟨j, hj, e, ⟨so, hso, eso⟩, mc⟩ z) (fun _ h' F => Bt.mk rfl (I.m F))⟩)
  · have I1 := I.wb F L1 C
    have mb : ∀ j, mT g j = mT h j := fun j => mT_sm (F.2.2 172 (fun z => by unfold PB at z; omega)).2.2.1 j
    refine ⟨I1.md, c_Mo_tells (by omega) L1 I1.tm (fun j2 so2 dd2 hj2 e2 hk2 hso2 eso2 hdd2 ed2 mc2 h' F2 => ?_) (fun z => absurd ⟨j, hj, e, ⟨so, hso, eso⟩, by rw [mb]; exact mc⟩ z)⟩
    have := nI_u W.2.1 hj hj2 e e2
    subst this
    have := nI_v (by omega) (by omega) eso eso2
    subst this
    have := nI_v (by omega) (by omega) ed ed2
    subst this
    exact Bt.mk (by rw [mb]) (I1.m F2)
theorem a_lack {n : Nat} (hn : 11 ≤ n) {N : Nat} {xs : Nat → Int32} {cc : Nat → Nat} {h : xh} (I : Iv N xs cc h) {p q u : Int32} : xcj (xMC n) 173 [.ref 64, .int p, .int q, .int u] h (fun r h1 => Md N xs h1 ∧ xcj (xMC n) 342 [.ref 166, .int p, .int q, .int u] h1 (Bt N xs r)) := by
  have W := I.tc
  refine c_So_lack (by omega) I.lay W I.b (fun j so hj e hso eso g F L1 C => ?_) (fun z => ⟨I.md, c_Mo_lack (by omega) I.lay I.tm (fun j so hj e hso eso => absurd ⟨j, hj, e, so, hso, eso⟩ z) (fun _ h' F => Bt.mk rfl (I.m F))⟩)
  · have I1 := I.wb F L1 C
    have mb : ∀ j, mT g j = mT h j := fun j => mT_sm (F.2.2 172 (fun z => by unfold PB at z; omega)).2.2.1 j
    refine ⟨I1.md, c_Mo_lack (by omega) L1 I1.tm (fun j2 so2 hj2 e2 hso2 eso2 h' F2 => ?_) (fun z => absurd ⟨j, hj, e, so, hso, eso⟩ z)⟩
    have := nI_u W.2.1 hj hj2 e e2
    subst this
    have := nI_v (by omega) (by omega) eso eso2
    subst this
    exact Bt.mk (by rw [mb]) (I1.m F2)
theorem a_lost {n : Nat} (hn : 11 ≤ n) {N : Nat} {xs : Nat → Int32} {cc : Nat → Nat} {h : xh} (I : Iv N xs cc h) {p q : Int32} : xci (xMC n) 177 [.ref 64, .int p, .int q] h (fun r h1 => Md N xs h1 ∧ xci (xMC n) 296 [.ref 166, .int p, .int q] h1 (Bt N xs r)) := by
  have W := I.tc
  refine c_So_lost (by omega) I.lay W I.r I.z (fun j s hj e hs es g F L1 Z C => ?_) (fun z => ⟨I.md, c_Mo_lost (by omega) I.lay I.tm (fun j s hj e hs es => absurd ⟨j, s, hj, e, hs, es⟩ z) (fun _ h' F => Bt.mk rfl (I.m F))⟩)
  · have b := (W.2.2 _ hj).ok.s6.2
    have I1 := I.wr F L1 C Z
    have mb : ∀ j, mT g j = mT h j := fun j => mT_sm (F.2.2 172 (fun z => by unfold P15 at z; omega)).2.2.1 j
    refine ⟨I1.md, c_Mo_lost (by omega) L1 I1.tm (fun j2 s2 hj2 e2 hs2 es2 h' F2 => ?_) (fun z => absurd ⟨j, s, hj, e, by rw [mb]; exact hs, es⟩ z)⟩
    have := nI_u W.2.1 hj hj2 e e2
    subst this
    rw [mb] at hs2
    have := nI_v (by omega) (by omega) es es2
    subst this
    exact Bt.mk (by rw [mb]) (I1.m F2)
