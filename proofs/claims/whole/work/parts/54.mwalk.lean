/-! AN EVENING as it goes in the reference; g = the evening in hand, b = the seed counts -/
def CM (h : xh) (T W : Nat → Int32) (g : Int32) (b : Prop) : Prop := Mt h T ∧ ((∀ i, i < 7 → xI h 166 (32 + i) = W i) ∧ (b → xI h 166 52 = W 7)) ∧ (∀ s, s < 9 → xI h 178 s = W (10 + s) ∧ xI h 179 s = W (20 + s) ∧ xI h 180 s = W (40 + s) ∧ xI h 181 s = W (30 + s)) ∧ pl T (W 1) ∧ xI h 166 27 = g
theorem CM.w {h : xh} {T W : Nat → Int32} {g : Int32} {b : Prop} (C : CM h T W g b) {i : Nat} (hi : i < 7) {v : Int32} (hv : i = 1 → pl T v) {j : Nat} (hj : j = 32 + i := by rfl) : CM (xsI h 166 j v) T (va_up W i v) g b := by
  obtain ⟨M, ⟨e1, e7⟩, e2, e3, e4⟩ := C
  subst hj
  refine ⟨M.wf (by omega), ⟨fun k hk => ?_, fun hb => ?_⟩, fun s hs => ?_, pl_up e3 hv, ?_⟩
  · rw [upI]
    by_cases e : k = i
    · subst e; rw [if_pos rfl, va_up_at]
    · rw [if_neg (by omega), va_upn _ _ _ e]; exact e1 k hk
  · rw [upI_o _ _ _ _ (by omega), va_upn _ _ _ (by omega)]; exact e7 hb
  · rw [xsI_ne _ _ _ (by decide), xsI_ne _ _ _ (by decide), xsI_ne _ _ _ (by decide), xsI_ne _ _ _ (by decide), va_upn _ _ _ (by omega), va_upn _ _ _ (by omega), va_upn _ _ _ (by omega), va_upn _ _ _ (by omega)]
    exact e2 s hs
  · rw [upI_o _ _ _ _ (by omega)]; exact e4
theorem CM.w7 {h : xh} {T W : Nat → Int32} {g : Int32} {b : Prop} (C : CM h T W g b) {v : Int32} : CM (xsI h 166 52 v) T (va_up W 7 v) g b := by
  obtain ⟨M, ⟨e1, e7⟩, e2, e3, e4⟩ := C
  refine ⟨M.wf (by omega), ⟨fun k hk => ?_, fun hb => ?_⟩, fun s hs => ?_, pl_up e3 (fun z => nomatch z), ?_⟩
  · rw [upI_o _ _ _ _ (by omega), va_upn _ _ _ (by omega)]; exact e1 k hk
  · rw [upI_s, va_up_at]
  · rw [xsI_ne _ _ _ (by decide), xsI_ne _ _ _ (by decide), xsI_ne _ _ _ (by decide), xsI_ne _ _ _ (by decide), va_upn _ _ _ (by omega), va_upn _ _ _ (by omega), va_upn _ _ _ (by omega), va_upn _ _ _ (by omega)]
    exact e2 s hs
  · rw [upI_o _ _ _ _ (by omega)]; exact e4
theorem CM.wa {h : xh} {T W : Nat → Int32} {g : Int32} {b : Prop} (C : CM h T W g b) {a k s : Nat} (hk : (a = 178 ∧ k = 10 + s) ∨ (a = 179 ∧ k = 20 + s) ∨ (a = 180 ∧ k = 40 + s) ∨ (a = 181 ∧ k = 30 + s)) (hs : s < 9) {v : Int32} : CM (xsI h a s v) T (va_up W k v) g b := by
  obtain ⟨M, ⟨e1, e7⟩, e2, e3, e4⟩ := C
  have ha : a ≠ 166 ∧ a ≠ 172 := by omega
  refine ⟨M.wa ha, ⟨fun i hi => ?_, fun hb => ?_⟩, fun s' hs' => ?_, pl_up e3 (fun z => by omega), ?_⟩
  · rw [xsI_ne _ _ _ (by omega), va_upn _ _ _ (by omega)]; exact e1 i hi
  · rw [xsI_ne _ _ _ (by omega), va_upn _ _ _ (by omega)]; exact e7 hb
  · have e := e2 s' hs'
    rw [upI_c, upI_c, upI_c, upI_c]
    by_cases es : s' = s
    · subst es
      rcases hk with ⟨q1, q2⟩ | ⟨q1, q2⟩ | ⟨q1, q2⟩ | ⟨q1, q2⟩
      · subst q1; subst q2
        rw [if_pos ⟨rfl, rfl⟩, if_neg (by omega), if_neg (by omega), if_neg (by omega), va_up_at, va_upn _ _ _ (by omega), va_upn _ _ _ (by omega), va_upn _ _ _ (by omega)]
        exact ⟨rfl, e.2⟩
      · subst q1; subst q2
        rw [if_neg (by omega), if_pos ⟨rfl, rfl⟩, if_neg (by omega), if_neg (by omega), va_up_at, va_upn _ _ _ (by omega), va_upn _ _ _ (by omega), va_upn _ _ _ (by omega)]
        exact ⟨e.1, rfl, e.2.2⟩
      · subst q1; subst q2
        rw [if_neg (by omega), if_neg (by omega), if_pos ⟨rfl, rfl⟩, if_neg (by omega), va_up_at, va_upn _ _ _ (by omega), va_upn _ _ _ (by omega), va_upn _ _ _ (by omega)]
        exact ⟨e.1, e.2.1, rfl, e.2.2.2⟩
      · subst q1; subst q2
        rw [if_neg (by omega), if_neg (by omega), if_neg (by omega), if_pos ⟨rfl, rfl⟩, va_up_at, va_upn _ _ _ (by omega), va_upn _ _ _ (by omega), va_upn _ _ _ (by omega)]
        exact ⟨e.1, e.2.1, e.2.2.1, rfl⟩
    · rw [if_neg (fun z => es z.2), if_neg (fun z => es z.2), if_neg (fun z => es z.2), if_neg (fun z => es z.2), va_upn _ _ _ (by omega), va_upn _ _ _ (by omega), va_upn _ _ _ (by omega), va_upn _ _ _ (by omega)]
      exact e
  · rw [xsI_ne _ _ _ (by omega)]; exact e4
theorem CM.M {h : xh} {T W : Nat → Int32} {g : Int32} {b : Prop} (C : CM h T W g b) : Mt h T := C.1
theorem CM.L {h : xh} {T W : Nat → Int32} {g : Int32} {b : Prop} (C : CM h T W g b) : Lay h := C.1.1
theorem CM.hs {h : xh} {T W : Nat → Int32} {g : Int32} {b : Prop} (C : CM h T W g b) : xS h 166 = (11, 0) := C.1.1.s 166
theorem CM.p {h : xh} {T W : Nat → Int32} {g : Int32} {b : Prop} (C : CM h T W g b) : pl T (W 1) := C.2.2.2.1
theorem CM.i {h : xh} {T W : Nat → Int32} {g : Int32} {b : Prop} (C : CM h T W g b) (i : Nat) (hi : i < 7 := by decide) : xI h 166 (32 + i) = W i := C.2.1.1 i hi
theorem CM.a8 {h : xh} {T W : Nat → Int32} {g : Int32} {b : Prop} (C : CM h T W g b) {s : Nat} (hs : s < 9) : xI h 178 s = W (10 + s) := (C.2.2.1 s hs).1
theorem CM.a9 {h : xh} {T W : Nat → Int32} {g : Int32} {b : Prop} (C : CM h T W g b) {s : Nat} (hs : s < 9) : xI h 179 s = W (20 + s) := (C.2.2.1 s hs).2.1
theorem CM.a0 {h : xh} {T W : Nat → Int32} {g : Int32} {b : Prop} (C : CM h T W g b) {s : Nat} (hs : s < 9) : xI h 180 s = W (40 + s) := (C.2.2.1 s hs).2.2.1
theorem CM.a1 {h : xh} {T W : Nat → Int32} {g : Int32} {b : Prop} (C : CM h T W g b) {s : Nat} (hs : s < 9) : xI h 181 s = W (30 + s) := (C.2.2.1 s hs).2.2.2
theorem mP : PM 166 := Or.inl rfl
theorem mPa {a : Nat} (h1 : 176 ≤ a := by decide) (h2 : a ≤ 191 := by decide) : PM a := Or.inr ⟨h1, h2⟩
theorem va_up_id {α : Type} (W : Nat → α) (i : Nat) : va_up W i (W i) = W := by
  funext k
  by_cases e : k = i
  · subst e; rw [va_up_at]
  · rw [va_upn _ _ _ e]
theorem va_up_comm {α : Type} (W : Nat → α) {i j : Nat} (h : i ≠ j) (v w : α) : va_up (va_up W i v) j w = va_up (va_up W j w) i v := by
  funext k
  by_cases e : k = j
  · subst e; rw [va_up_at, va_upn _ _ _ (fun z => h z.symm), va_up_at]
  · rw [va_upn _ _ _ e]
    by_cases e2 : k = i
    · subst e2; rw [va_up_at, va_up_at]
    · rw [va_upn _ _ _ e2, va_upn _ _ _ e2, va_upn _ _ _ e]
theorem c_Mo_takes {n : Nat} (hn : 1 ≤ n) {h : xh} {T W : Nat → Int32} {g : Int32} {b : Prop} (C : CM h T W g b) {m : Int32} {Q : Int32 → xh → Prop} (h1 : W 0 + m ≤ 300 → ∀ h', Fr PM h h' → CM h' T (va_up W 0 (W 0 + m)) g b → Q 1 h') (h0 : ¬ W 0 + m ≤ 300 → ∀ h', Fr PM h h' → CM h' T W g b → Q 0 h') : xci (xMC n) 264 [.ref 166, .int m] h Q := by
  obtain ⟨n, rfl⟩ := xsucc hn
  refine w_Mo_takes ⟨C.hs, ?_⟩
  have e0 : xI h 166 32 = W 0 := C.i 0
  rw [e0]
  refine ⟨fun z => b_Mo_takes_17 ⟨C.hs, fun _ => ⟨⟨by decide, C.hs⟩, b_Mo_takes_36 ⟨Or.inl rfl, ?_⟩⟩, fun y => absurd rfl y⟩, fun z => b_Mo_takes_17 ⟨C.hs, fun y => absurd y (by decide), fun _ => ⟨⟨by decide, C.hs⟩, b_Mo_takes_36 ⟨Or.inr rfl, ?_⟩⟩⟩⟩
  · rw [e0, Int32.add_zero]
    have X := C.w (i := 0) (v := W 0) (by decide) (fun e => nomatch e)
    rw [va_up_id] at X
    exact h0 (Int32.not_le.mpr z) _ (Fr.rf.wI mP) X
  · rw [e0]
    exact h1 (Int32.not_lt.mp z) _ (Fr.rf.wI mP) (C.w (i := 0) (by decide) (fun e => nomatch e))
theorem c_Mo_drivesTo {n : Nat} (hn : 4 ≤ n) {h : xh} {T W : Nat → Int32} {g : Int32} {b : Prop} (C : CM h T W g b) {s : Int32} (hs : pl T s) {Q : Int32 → xh → Prop} (h1 : ∀ W', dvW T W s = some W' → ∀ h', Fr PM h h' → CM h' T W' g b → Q 1 h') (h0 : dvW T W s = none → ∀ h', Fr PM h h' → CM h' T W g b → Q 0 h') : xci (xMC n) 259 [.ref 166, .int s] h Q := by
  obtain ⟨n, rfl⟩ := xsucc (show 1 ≤ n by omega)
  have k13 : K_Mo_drivesTo n Q 13 [some (.ref 166), some (.int s)] [] h := by
    refine b_Mo_drivesTo_13 ⟨C.hs, ?_⟩
    rw [show xI h 166 33 = W 1 from C.i 1]
    refine c_Mo_drives (by omega) C.M C.p hs ⟨C.hs, c_Mo_takes (by omega) C (fun z h' F C' => ⟨fun _ => ⟨⟨by decide, C'.hs⟩, b_Mo_drivesTo_36 (h1 _ (if_pos z) _ (F.wI mP) (C'.w (i := 1) (by decide) (fun _ => hs)))⟩, fun y => absurd y (by decide)⟩) (fun z h' F C' => ⟨fun y => absurd rfl y, fun _ => h0 (if_neg z) h' F C'⟩)⟩
  refine w_Mo_drivesTo ⟨fun _ => k13, fun z => ⟨C.hs, ?_⟩⟩
  obtain ⟨k, hk, ek, _, _⟩ := pl_st C.M.ok hs z
  rw [ek] at k13 ⊢
  exact C.M.iS (by omega) hk ⟨fun y => absurd y (by decide), fun _ => k13⟩
theorem c_Mo_chats {n : Nat} (hn : 2 ≤ n) {h : xh} {T W : Nat → Int32} {g : Int32} {b : Prop} (C : CM h T W g b) {Q : Int32 → xh → Prop} (h1 : ∀ W', tkW T W = some W' → ∀ h', Fr PM h h' → CM h' T W' g b → Q 1 h') (h0 : tkW T W = none → ∀ h', Fr PM h h' → CM h' T W g b → Q 0 h') : xci (xMC n) 268 [.ref 166] h Q := by
  obtain ⟨n, rfl⟩ := xsucc (show 1 ≤ n by omega)
  unfold tkW at h1 h0
  refine w_Mo_chats ⟨C.hs, ?_⟩
  rw [show xI h 166 33 = W 1 from C.i 1]
  refine ⟨fun z => h0 (if_pos z) h Fr.rf C, fun z => c_Mo_of (by omega) C.M (i := 5) rfl (by decide) ⟨C.hs, ?_⟩⟩
  rw [if_neg z] at h1 h0
  refine c_Mo_takes (by omega) C (fun z h' F C' => ⟨fun _ => ⟨C'.hs, ⟨by decide, C'.hs⟩, b_Mo_chats_32 ?_⟩, fun y => absurd y (by decide)⟩) (fun z h' F C' => ⟨fun y => absurd rfl y, fun _ => h0 (if_neg z) h' F C'⟩)
  have e5 : xI h' 166 37 = W 5 := C'.i 5
  rw [e5]
  exact h1 _ (if_pos z) _ (F.wI mP) (C'.w (i := 5) (by decide) (fun e => nomatch e))
