/-! AN EVENING as it goes: the state W (0 minute, 1 where, 2 aboard, 3 fed, 4 warm, 5 talked, 6 fed again, 7 seed; from 10 who wait, 20 again, 30 fed there, 40 went on) -/
def spW (W : Nat → Int32) (m : Int32) : Option (Nat → Int32) := if W 0 + m ≤ 300 then some (va_up W 0 (W 0 + m)) else none
def dvW (T W : Nat → Int32) (s : Int32) : Option (Nat → Int32) := if W 0 + drv T (W 1) s ≤ 300 then some (va_up (va_up W 0 (W 0 + drv T (W 1) s)) 1 s) else none
def tkW (T W : Nat → Int32) : Option (Nat → Int32) := if W 1 = -1 then none else if W 0 + T 5 ≤ 300 then some (va_up (va_up W 0 (W 0 + T 5)) 5 (W 5 + 1)) else none
def old (W : Nat → Int32) (a : Nat) (m : Int32) : Int32 := mx 0 (m - (W (10 + a) - W (20 + a)))
def ld1 (T W : Nat → Int32) (a : Nat) (m : Int32) : Nat → Int32 := va_up (va_up (va_up (va_up (va_up (va_up (va_up (va_up W 0 (W 0 + (m + 1) / 2)) 2 (W 2 - m)) 3 (W 3 + m)) 4 (W 4 + if T 4 ≤ W 0 then 0 else m)) 6 (W 6 + old W a m)) (30 + a) (W (30 + a) + m)) (10 + a) (W (10 + a) - m)) (20 + a) (W (20 + a) - old W a m)
def sn1 (T W : Nat → Int32) (a : Nat) (m : Int32) : Int32 := mn m (T (52 + a) - W (40 + a))
def snd (T W : Nat → Int32) (a : Nat) (m : Int32) (b : Nat) : Nat → Int32 := va_up (va_up (va_up W (40 + a) (W (40 + a) + sn1 T W a m)) (10 + b) (va_up W (40 + a) (W (40 + a) + sn1 T W a m) (10 + b) + sn1 T W a m)) (20 + b) (va_up (va_up W (40 + a) (W (40 + a) + sn1 T W a m)) (10 + b) (va_up W (40 + a) (W (40 + a) + sn1 T W a m) (10 + b) + sn1 T W a m) (20 + b) + sn1 T W a m)
def snW (T W : Nat → Int32) (a : Nat) (m : Int32) : Nat → Int32 := if T (61 + a) = -1 then W else snd T W a m (T (61 + a)).toNatClampNeg
def ldW (T W : Nat → Int32) (m : Int32) : Option (Nat → Int32) := if W 1 = -1 then none else if W 2 < m then none else if W (10 + (W 1).toNatClampNeg) < m then none else if W 0 + (m + 1) / 2 ≤ 300 then some (snW T (ld1 T W (W 1).toNatClampNeg m) (W 1).toNatClampNeg m) else none
def ddW (T W : Nat → Int32) (k m : Int32) : Option (Nat → Int32) := if k = 0 then (if ¬ m < 0 ∧ m.toNatClampNeg < stp T then dvW T W m else none) else if k = 1 then ldW T W m else if k = 2 then spW W m else if k = 3 then tkW T W else dvW T W (-1)
def PW (c : Nat) : Prop := 141 ≤ c ∧ c ≤ 145
def CW (h : xh) (t : Nat) (T W : Nat → Int32) : Prop := Lay h ∧ (Tn h t T ∧ t + 7 < 141) ∧ (∀ i, i < 8 → xI h 141 i = W i) ∧ (∀ j s, j < 4 → s < 9 → xI h (142 + j) s = W (10 + 10 * j + s)) ∧ pl T (W 1)
theorem pl_up {T W : Nat → Int32} (h : pl T (W 1)) {i : Nat} {v : Int32} (hv : i = 1 → pl T v) : pl T (va_up W i v 1) := by
  by_cases e : 1 = i
  · rw [← e, va_up_at]; exact hv e.symm
  · rw [va_upn _ _ _ e]; exact h
theorem CW.w {h : xh} {t : Nat} {T W : Nat → Int32} (C : CW h t T W) {i : Nat} (hi : i < 8) {v : Int32} (hv : i = 1 → pl T v) : CW (xsI h 141 i v) t T (va_up W i v) := by
  obtain ⟨L, ⟨H, ht⟩, e1, e2, e3⟩ := C
  refine ⟨L, ⟨H.fr (P := PW) (Fr.rf.wI ⟨by decide, by decide⟩) (fun c h1 h2 z => by have := z.1; omega), ht⟩, fun k hk => ?_, fun j s hj hs => ?_, pl_up e3 hv⟩
  · rw [upI]
    by_cases e : k = i
    · subst e; rw [if_pos rfl, va_up_at]
    · rw [if_neg e, va_upn _ _ _ e]; exact e1 k hk
  · rw [xsI_ne _ _ _ (by omega), va_upn _ _ _ (by omega)]
    exact e2 j s hj hs
theorem CW.wa {h : xh} {t : Nat} {T W : Nat → Int32} (C : CW h t T W) (j : Nat) {s : Nat} (hj : j < 4) (hs : s < 9) {v : Int32} {a : Nat} (ha : a = 142 + j := by rfl) {b : Nat} (hb : b = 10 + 10 * j + s := by rfl) : CW (xsI h a s v) t T (va_up W b v) := by
  obtain ⟨L, ⟨H, ht⟩, e1, e2, e3⟩ := C
  subst ha
  subst hb
  refine ⟨L, ⟨H.fr (P := PW) (Fr.rf.wI ⟨by omega, by omega⟩) (fun c h1 h2 z => by have := z.1; omega), ht⟩, fun k hk => ?_, fun j' s' hj' hs' => ?_, pl_up e3 (fun z => by omega)⟩
  · rw [xsI_ne _ _ _ (by omega), va_upn _ _ _ (by omega)]
    exact e1 k hk
  · rw [upI_c]
    by_cases e : 142 + j' = 142 + j ∧ s' = s
    · have e1 : j' = j := by omega
      have e2 := e.2
      subst e1
      subst e2
      rw [if_pos e, va_up_at]
    · rw [if_neg e, va_upn _ _ _ (by omega)]; exact e2 j' s' hj' hs'
theorem CW.L {h : xh} {t : Nat} {T W : Nat → Int32} (C : CW h t T W) : Lay h := C.1
theorem CW.H {h : xh} {t : Nat} {T W : Nat → Int32} (C : CW h t T W) : Tn h t T := C.2.1.1
theorem CW.i {h : xh} {t : Nat} {T W : Nat → Int32} (C : CW h t T W) (i : Nat) (hi : i < 8 := by decide) : xI h 141 i = W i := C.2.2.1 i hi
theorem CW.a {h : xh} {t : Nat} {T W : Nat → Int32} (C : CW h t T W) (j : Nat) {s : Nat} (hs : s < 9) (hj : j < 4 := by decide) : xI h (142 + j) s = W (10 + 10 * j + s) := C.2.2.2.1 j s hj hs
theorem CW.p {h : xh} {t : Nat} {T W : Nat → Int32} (C : CW h t T W) : pl T (W 1) := C.2.2.2.2
theorem wP1 : PW 141 := ⟨by decide, by decide⟩
theorem c_Walk_spend {n : Nat} (hn : 1 ≤ n) {h : xh} {t : Nat} {T W : Nat → Int32} (C : CW h t T W) {m : Int32} {Q : Int32 → xh → Prop} (h1 : W 0 + m ≤ 300 → ∀ h', Fr PW h h' → CW h' t T (va_up W 0 (W 0 + m)) → Q 1 h') (h0 : ¬ W 0 + m ≤ 300 → Q 0 h) : xci (xMC n) 118 [.ref 141, .int m] h Q := by
  obtain ⟨n, rfl⟩ := xsucc hn
  refine w_Walk_spend ⟨C.L.s 141, ?_⟩
  rw [C.i 0]
  exact ⟨fun z => ⟨⟨by decide, C.L.s 141⟩, b_Walk_spend_24 (h1 z _ (Fr.rf.wI wP1) (C.w (by decide) (fun e => nomatch e)))⟩, h0⟩
theorem c_Walk_driveTo {n : Nat} (hn : 4 ≤ n) {h : xh} {t : Nat} {T W : Nat → Int32} (C : CW h t T W) {s : Int32} (hs : pl T s) {Q : Int32 → xh → Prop} (h1 : ∀ W', dvW T W s = some W' → ∀ h', Fr PW h h' → CW h' t T W' → Q 1 h') (h0 : dvW T W s = none → Q 0 h) : xci (xMC n) 117 [.ref 141, .ref t, .int s] h Q := by
  obtain ⟨n, rfl⟩ := xsucc (show 1 ≤ n by omega)
  refine w_Walk_driveTo ⟨C.L.s 141, C.H.s, ?_⟩
  rw [C.i 1]
  refine c_Town_minutes (by omega) C.H C.p hs ⟨C.L.s 141, c_Walk_spend (by omega) C (fun z h' F C' => ⟨fun _ => ⟨⟨by decide, C'.L.s 141⟩, b_Walk_driveTo_23 (h1 _ (if_pos z) _ (F.wI wP1) (C'.w (by decide) (fun _ => hs)))⟩, fun y => absurd y (by decide)⟩) (fun z => ⟨fun y => absurd rfl y, fun _ => h0 (if_neg z)⟩)⟩
theorem pl_st {T : Nat → Int32} {s : Int32} (ok : TnOK T) (h : pl T s) (h1 : ¬ s = -1) : ∃ k, k < stp T ∧ s = nI k ∧ s.toNatClampNeg = k ∧ k < 9 := by
  rcases h with e | ⟨k, hk, e⟩
  · exact absurd e h1
  · have := stp9 ok
    exact ⟨k, hk, e, by rw [e, nI_clamp (by omega)], by omega⟩
theorem pl_no {T : Nat → Int32} (ok : TnOK T) {s : Int32} (h : s = -1) : ∀ k, k < stp T → ¬ s = nI k := fun k hk e => by
  have := stp9 ok
  exact nI_m1 (k := k) (by omega) (e.symm.trans h)
theorem c_Walk_talk {n : Nat} (hn : 2 ≤ n) {h : xh} {t : Nat} {T W : Nat → Int32} (C : CW h t T W) {Q : Int32 → xh → Prop} (h1 : ∀ W', tkW T W = some W' → ∀ h', Fr PW h h' → CW h' t T W' → Q 1 h') (h0 : tkW T W = none → Q 0 h) : xci (xMC n) 121 [.ref 141, .ref t] h Q := by
  obtain ⟨n, rfl⟩ := xsucc (show 1 ≤ n by omega)
  unfold tkW at h1 h0
  refine w_Walk_talk ⟨C.L.s 141, C.H.s, ?_⟩
  rw [C.i 1]
  by_cases z : W 1 = -1
  · exact C.H.hs0 (by omega) (pl_no C.H.ok z) ⟨fun _ => h0 (if_pos z), fun y => absurd rfl y⟩
  · rw [if_neg z] at h1 h0
    obtain ⟨a, ha, ea, _, a9⟩ := pl_st C.H.ok C.p z
    rw [ea]
    refine C.H.hs (by omega) ha ⟨fun y => absurd y (by decide), fun _ => ⟨C.H.s, C.L.s 141, ?_⟩⟩
    rw [C.H.i 5]
    refine c_Walk_spend (by omega) C (fun z h' F C' => ⟨fun _ => ⟨C'.L.s 141, ⟨by decide, C'.L.s 141⟩, b_Walk_talk_34 ?_⟩, fun y => absurd y (by decide)⟩) (fun z => ⟨fun y => absurd rfl y, fun _ => h0 (if_neg z)⟩)
    have e5 : xI h' 141 5 = W 5 := C'.i 5
    rw [e5]
    exact h1 _ (if_pos z) _ (F.wI wP1) (C'.w (by decide) (fun e => nomatch e))
/-- whom a stop's people follow -/
theorem goal_pl {T : Nat → Int32} (ok : TnOK T) {a : Nat} (ha : a < 9) : pl T (T (61 + a)) := by
  have s9 := stp9 ok
  have s6 := ok.s6.1
  obtain ⟨N, h1, h2, h3, h4, h5⟩ := ok
  have e := h2 a ha
  have e6 := h1 6 (by omega)
  have l := (h5 a ha).2.1
  have n6 : N 6 = stp T := (nI_eq (by omega) (by omega)).mp (e6.symm.trans s6)
  by_cases z : N (61 + a) = 0
  · left
    rw [e, z]
    decide
  · right
    refine ⟨N (61 + a) - 1, by omega, ?_⟩
    rw [e]
    exact pk_sub (b := 1) (by omega)
theorem c_Walk_sendOn {n : Nat} (hn : 2 ≤ n) {h : xh} {t : Nat} {T W : Nat → Int32} (C : CW h t T W) {a : Nat} (ha : a < stp T) (ea : W 1 = nI a) {m : Int32} {Q : xh → Prop} (hQ : ∀ h', Fr PW h h' → CW h' t T (snW T W a m) → Q h') : xcv (xMC n) 120 [.ref 141, .ref t, .int m] h Q := by
  obtain ⟨n, rfl⟩ := xsucc (show 1 ≤ n by omega)
  have a9 : a < 9 := Nat.lt_of_lt_of_le ha (stp9 C.H.ok)
  refine w_Walk_sendOn ⟨C.H.s, _, C.H.r 6, C.L.s 141, ?_⟩
  have cl : (nI a).toNatClampNeg = a := nI_clamp (by omega)
  rw [C.i 1, ea, cl, C.H.f 6 a9, show 7 + 9 * 6 + a = 61 + a from rfl]
  refine ⟨C.H.x 6 a9, ?_⟩
  unfold snW at hQ
  by_cases z : T (61 + a) = -1
  · rw [if_pos z] at hQ
    exact C.H.hs0 (by omega) (pl_no C.H.ok z) ⟨fun y => absurd rfl y, fun _ => hQ h Fr.rf C⟩
  · rw [if_neg z] at hQ
    obtain ⟨b, hb, eb, cb, b9⟩ := pl_st C.H.ok (goal_pl C.H.ok a9) z
    rw [cb] at hQ
    rw [eb]
    refine C.H.hs (by omega) hb ⟨fun _ => ⟨C.H.s, _, C.H.r 5, C.L.s 141, ?_⟩, fun y => absurd y (by decide)⟩
    rw [C.i 1, ea, cl, C.H.f 5 a9, show 7 + 9 * 5 + a = 52 + a from rfl]
    refine ⟨C.H.x 5 a9, 145, C.L.r 141 11 145, C.L.x 145 (n := 9) a9, ?_⟩
    rw [show xI h 145 a = W (40 + a) from C.a 3 a9]
    refine c_Math_min (by omega) ?_
    rw [show (if T (52 + a) - W (40 + a) < m then T (52 + a) - W (40 + a) else m) = sn1 T W a m from rfl]
    refine ⟨C.L.s 141, 145, C.L.r 141 11 145, ?_⟩
    rw [C.i 1, ea, cl, show xI h 145 a = W (40 + a) from C.a 3 a9]
    refine ⟨C.L.x 145 (n := 9) a9, ⟨by decide, C.L.x 145 (n := 9) a9⟩, ?_⟩
    have C1 := C.wa 3 (by decide) a9 (v := W (40 + a) + sn1 T W a m)
    have F1 : Fr PW h _ := Fr.rf.wI (a := 145) (i := a) (v := W (40 + a) + sn1 T W a m) ⟨by decide, by decide⟩
    unfold snd at hQ
    generalize xsI h 145 a (W (40 + a) + sn1 T W a m) = g1 at C1 F1 ⊢
    generalize sn1 T W a m = r at *
    have C1' : CW g1 t T (va_up W (40 + a) (W (40 + a) + r)) := C1
    generalize va_up W (40 + a) (W (40 + a) + r) = W1 at *
    refine b_Walk_sendOn_58 ⟨C1'.L.s 141, 142, C1'.L.r 141 8 142, C1'.L.x 142 (n := 9) b9, ⟨by decide, C1'.L.x 142 (n := 9) b9⟩, ?_⟩
    rw [nI_clamp (by omega), show xI g1 142 b = W1 (10 + b) from C1'.a 0 b9]
    have C2 := C1'.wa 0 (by decide) b9 (v := W1 (10 + b) + r)
    have F2 : Fr PW h _ := F1.wI (a := 142) (i := b) (v := W1 (10 + b) + r) ⟨by decide, by decide⟩
    generalize xsI g1 142 b (W1 (10 + b) + r) = g2 at C2 F2 ⊢
    have C2' : CW g2 t T (va_up W1 (10 + b) (W1 (10 + b) + r)) := C2
    generalize va_up W1 (10 + b) (W1 (10 + b) + r) = W2 at *
    refine b_Walk_sendOn_69 ⟨C2'.L.s 141, 143, C2'.L.r 141 9 143, C2'.L.x 143 (n := 9) b9, ⟨by decide, C2'.L.x 143 (n := 9) b9⟩, ?_⟩
    rw [nI_clamp (by omega), show xI g2 143 b = W2 (20 + b) from C2'.a 1 b9]
    exact hQ _ (F2.wI ⟨by decide, by decide⟩) (C2'.wa 1 (by decide) b9)
theorem c_Walk_ladle {n : Nat} (hn : 3 ≤ n) {h : xh} {t : Nat} {T W : Nat → Int32} (C : CW h t T W) {m : Int32} {Q : Int32 → xh → Prop} (h1 : ∀ W', ldW T W m = some W' → ∀ h', Fr PW h h' → CW h' t T W' → Q 1 h') (h0 : ldW T W m = none → Q 0 h) : xci (xMC n) 119 [.ref 141, .ref t, .int m] h Q := by
  obtain ⟨n, rfl⟩ := xsucc (show 1 ≤ n by omega)
  have go : ∀ t0 : Int32, (T 4 ≤ W 0 → t0 = 0) → (¬ T 4 ≤ W 0 → t0 = 1) → K_Walk_ladle n Q 16 [some (.ref 141), some (.ref t), some (.int m), none, none, none] [.int t0] h := by
    intro t0 w0 w1
    unfold ldW at h1 h0
    refine b_Walk_ladle_16 ⟨C.L.s 141, C.H.s, ?_⟩
    rw [C.i 1]
    by_cases z : W 1 = -1
    · exact C.H.hs0 (by omega) (pl_no C.H.ok z) ⟨fun _ => h0 (if_pos z), fun y => absurd rfl y⟩
    · rw [if_neg z] at h1 h0
      obtain ⟨a, ha, ea, ca, a9⟩ := pl_st C.H.ok C.p z
      rw [ca] at h1 h0
      rw [ea]
      have cl : (nI a).toNatClampNeg = a := nI_clamp (by omega)
      refine C.H.hs (by omega) ha ⟨fun y => absurd y (by decide), fun _ => ⟨C.L.s 141, ?_⟩⟩
      rw [C.i 1, C.i 2, ea, cl]
      refine ⟨fun z2 => h0 (if_pos z2), fun z2 => ⟨142, C.L.r 141 8 142, C.L.x 142 (n := 9) a9, ?_⟩⟩
      rw [if_neg z2] at h1 h0
      rw [show xI h 142 a = W (10 + a) from C.a 0 a9]
      refine ⟨fun z3 => h0 (if_pos z3), fun z3 => ?_⟩
      rw [if_neg z3] at h1 h0
      refine c_Walk_spend (by omega) C (fun z4 h' F C' => ⟨fun _ => ⟨C'.L.s 141, 142, C'.L.r 141 8 142, ?_⟩, fun y => absurd y (by decide)⟩) (fun z4 => ⟨fun y => absurd rfl y, fun _ => h0 (if_neg z4)⟩)
      have h1 := h1 _ (if_pos z4)
      have ea' : xI h' 141 1 = nI a := (C'.i 1).trans ea
      rw [ea', cl]
      refine ⟨C'.L.x 142 (n := 9) a9, 143, C'.L.r 141 9 143, C'.L.x 143 (n := 9) a9, ?_⟩
      have r1 : xI h' 142 a = W (10 + a) := (C'.a 0 a9).trans (va_upn _ _ _ (by omega))
      have r2 : xI h' 143 a = W (20 + a) := (C'.a 1 a9).trans (va_upn _ _ _ (by omega))
      rw [r1, r2]
      refine c_Math_max (by omega) ⟨C'.L.s 141, ⟨by decide, C'.L.s 141⟩, ?_⟩
      rw [show (if (0 : Int32) < m - (W (10 + a) - W (20 + a)) then m - (W (10 + a) - W (20 + a)) else 0) = old W a m from rfl, show xI h' 141 2 = W 2 from C'.i 2]
      unfold ld1 at h1
      generalize old W a m = o at *
      have X2 := C'.w (i := 2) (v := W 2 - m) (by decide) (fun e => nomatch e)
      have F2 : Fr PW h _ := F.wI (a := 141) (i := 2) (v := W 2 - m) wP1
      generalize xsI h' 141 2 (W 2 - m) = g2 at X2 F2 ⊢
      refine b_Walk_ladle_104 ⟨X2.L.s 141, ⟨by decide, X2.L.s 141⟩, ?_⟩
      rw [show xI g2 141 3 = W 3 from X2.i 3]
      have X3 := X2.w (i := 3) (v := W 3 + m) (by decide) (fun e => nomatch e)
      have F3 : Fr PW h _ := F2.wI (a := 141) (i := 3) (v := W 3 + m) wP1
      generalize xsI g2 141 3 (W 3 + m) = g3 at X3 F3 ⊢
      have goo : ∀ u : Int32, (if T 4 ≤ W 0 then 0 else m) = u → K_Walk_ladle n Q 128 [some (.ref 141), some (.ref t), some (.int m), some (.int t0), some (.int (W (10 + a) - W (20 + a))), some (.int o)] [.int u, .int (xI g3 141 4), .ref 141] g3 := by
        intro u hu
        rw [hu] at h1
        refine b_Walk_ladle_128 ⟨⟨by decide, X3.L.s 141⟩, ?_⟩
        rw [show xI g3 141 4 = W 4 from X3.i 4]
        have X4 := X3.w (i := 4) (v := W 4 + u) (by decide) (fun e => nomatch e)
        have F4 : Fr PW h _ := F3.wI (a := 141) (i := 4) (v := W 4 + u) wP1
        generalize xsI g3 141 4 (W 4 + u) = g4 at X4 F4 ⊢
        refine b_Walk_ladle_132 ⟨X4.L.s 141, ⟨by decide, X4.L.s 141⟩, ?_⟩
        rw [show xI g4 141 6 = W 6 from X4.i 6]
        have X5 := X4.w (i := 6) (v := W 6 + o) (by decide) (fun e => nomatch e)
        have F5 : Fr PW h _ := F4.wI (a := 141) (i := 6) (v := W 6 + o) wP1
        generalize xsI g4 141 6 (W 6 + o) = g5 at X5 F5 ⊢
        have q1 : xI g5 141 1 = nI a := (X5.i 1).trans ea
        refine b_Walk_ladle_143 ⟨X5.L.s 141, 144, X5.L.r 141 10 144, ?_⟩
        have q2 : xI g5 144 a = W (30 + a) := (X5.a 2 a9).trans (by rw [va_upn _ _ _ (by omega), va_upn _ _ _ (by omega), va_upn _ _ _ (by omega), va_upn _ _ _ (by omega), va_upn _ _ _ (by omega)])
        rw [q1, cl, q2]
        refine ⟨X5.L.x 144 (n := 9) a9, ⟨by decide, X5.L.x 144 (n := 9) a9⟩, ?_⟩
        have X6 := X5.wa 2 (by decide) a9 (v := W (30 + a) + m)
        have F6 : Fr PW h _ := F5.wI (a := 144) (i := a) (v := W (30 + a) + m) ⟨by decide, by decide⟩
        generalize xsI g5 144 a (W (30 + a) + m) = g6 at X6 F6 ⊢
        have q3 : xI g6 141 1 = nI a := (X6.i 1).trans ((va_upn _ _ _ (by omega)).trans ea)
        have q4 : xI g6 142 a = W (10 + a) := (X6.a 0 a9).trans (by rw [va_upn _ _ _ (by omega), va_upn _ _ _ (by omega), va_upn _ _ _ (by omega), va_upn _ _ _ (by omega), va_upn _ _ _ (by omega), va_upn _ _ _ (by omega)])
        refine b_Walk_ladle_156 ⟨X6.L.s 141, 142, X6.L.r 141 8 142, ?_⟩
        rw [q3, cl, q4]
        refine ⟨X6.L.x 142 (n := 9) a9, ⟨by decide, X6.L.x 142 (n := 9) a9⟩, ?_⟩
        have X7 := X6.wa 0 (by decide) a9 (v := W (10 + a) - m)
        have F7 : Fr PW h _ := F6.wI (a := 142) (i := a) (v := W (10 + a) - m) ⟨by decide, by decide⟩
        generalize xsI g6 142 a (W (10 + a) - m) = g7 at X7 F7 ⊢
        have q5 : xI g7 141 1 = nI a := (X7.i 1).trans ((va_upn _ _ _ (by omega)).trans ((va_upn _ _ _ (by omega)).trans ea))
        have q6 : xI g7 143 a = W (20 + a) := (X7.a 1 a9).trans (by rw [va_upn _ _ _ (by omega), va_upn _ _ _ (by omega), va_upn _ _ _ (by omega), va_upn _ _ _ (by omega), va_upn _ _ _ (by omega), va_upn _ _ _ (by omega), va_upn _ _ _ (by omega)])
        refine b_Walk_ladle_169 ⟨X7.L.s 141, 143, X7.L.r 141 9 143, ?_⟩
        rw [q5, cl, q6]
        refine ⟨X7.L.x 143 (n := 9) a9, ⟨by decide, X7.L.x 143 (n := 9) a9⟩, ?_⟩
        have X8 := X7.wa 1 (by decide) a9 (v := W (20 + a) - o)
        have F8 : Fr PW h _ := F7.wI (a := 143) (i := a) (v := W (20 + a) - o) ⟨by decide, by decide⟩
        generalize xsI g7 143 a (W (20 + a) - o) = g8 at X8 F8 ⊢
        refine b_Walk_ladle_183 ⟨X8.L.s 141, c_Walk_sendOn (by omega) X8 ha ?_ (fun h' F' C' => h1 h' (F8.tr F') C')⟩
        rw [va_upn _ _ _ (by omega), va_upn _ _ _ (by omega), va_upn _ _ _ (by omega), va_upn _ _ _ (by omega), va_upn _ _ _ (by omega), va_upn _ _ _ (by omega), va_upn _ _ _ (by omega), va_upn _ _ _ (by omega)]
        exact ea
      refine b_Walk_ladle_114 ⟨X3.L.s 141, fun y => goo 0 ?_, fun y => goo m ?_⟩
      · by_cases w : T 4 ≤ W 0
        · exact if_pos w
        · exact absurd ((w1 w).symm.trans y) (by decide)
      · by_cases w : T 4 ≤ W 0
        · exact absurd (w0 w) y
        · exact if_neg w
  refine w_Walk_ladle ⟨C.L.s 141, C.H.s, ?_⟩
  rw [C.H.i 4, C.i 0]
  exact ⟨fun z => go 0 (fun _ => rfl) (fun y => absurd z y), fun z => go 1 (fun y => absurd y z) (fun _ => rfl)⟩
theorem stq {T : Nat → Int32} (ok : TnOK T) {m : Int32} : (¬ m < 0 ∧ m.toNatClampNeg < stp T) ↔ ∃ k, k < stp T ∧ m = nI k := by
  have s9 := stp9 ok
  constructor
  · intro z
    obtain ⟨j, hj, e⟩ := nI_of z.1
    subst e
    have := z.2
    rw [nI_clamp hj] at this
    exact ⟨j, this, rfl⟩
  · rintro ⟨k, hk, e⟩
    subst e
    exact ⟨nI_pos (by omega), by rw [nI_clamp (by omega)]; exact hk⟩
theorem c_Walk_perform {n : Nat} (hn : 5 ≤ n) {h : xh} {t : Nat} {T W : Nat → Int32} (C : CW h t T W) {k m : Int32} {Q : Int32 → xh → Prop} (h1 : ∀ W', ddW T W k m = some W' → ∀ h', Fr PW h h' → CW h' t T W' → Q 1 h') (h0 : ddW T W k m = none → Q 0 h) : xci (xMC n) 116 [.ref 141, .ref t, .int k, .int m] h Q := by
  obtain ⟨n, rfl⟩ := xsucc (show 1 ≤ n by omega)
  unfold ddW at h1 h0
  refine w_Walk_perform ⟨fun z => ⟨C.H.s, ?_⟩, fun z0 => ⟨fun z => ⟨C.L.s 141, ?_⟩, fun z1 => ⟨fun z => ⟨C.L.s 141, ?_⟩, fun z2 => ⟨fun z => ⟨C.L.s 141, ?_⟩, fun z3 => ⟨C.L.s 141, ?_⟩⟩⟩⟩⟩
  · rw [if_pos z] at h1 h0
    refine c_Town_hasStop (by omega) C.H (fun j hj e => ⟨fun y => absurd y (by decide), fun _ => ⟨C.L.s 141, ?_⟩⟩) (fun y => ⟨fun _ => h0 (if_neg (fun q => ?_)), fun q => absurd rfl q⟩)
    · rw [if_pos ((stq C.H.ok).mpr ⟨j, hj, e⟩)] at h1 h0
      exact c_Walk_driveTo (by omega) C (Or.inr ⟨j, hj, e⟩) (fun W' e' h' F C' => ⟨fun y => absurd y (by decide), fun _ => h1 W' e' h' F C'⟩) (fun e' => ⟨fun _ => h0 e', fun y => absurd rfl y⟩)
    · obtain ⟨j, hj, e⟩ := (stq C.H.ok).mp q
      exact y j hj e
  · rw [if_neg z0, if_pos z] at h1 h0
    exact c_Walk_ladle (by omega) C (fun W' e' h' F C' => ⟨Or.inr rfl, h1 W' e' h' F C'⟩) (fun e' => ⟨Or.inl rfl, h0 e'⟩)
  · rw [if_neg z0, if_neg z1, if_pos z] at h1 h0
    exact c_Walk_spend (by omega) C (fun y h' F C' => ⟨Or.inr rfl, h1 _ (if_pos y) h' F C'⟩) (fun y => ⟨Or.inl rfl, h0 (if_neg y)⟩)
  · rw [if_neg z0, if_neg z1, if_neg z2, if_pos z] at h1 h0
    exact c_Walk_talk (by omega) C (fun W' e' h' F C' => ⟨Or.inr rfl, h1 W' e' h' F C'⟩) (fun e' => ⟨Or.inl rfl, h0 e'⟩)
  · rw [if_neg z0, if_neg z1, if_neg z2, if_neg z3] at h1 h0
    exact c_Walk_driveTo (by omega) C (Or.inl rfl) (fun W' e' h' F C' => ⟨Or.inr rfl, h1 W' e' h' F C'⟩) (fun e' => ⟨Or.inl rfl, h0 e'⟩)
