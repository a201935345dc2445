/-! ladles, does, play, state in the reference -/
theorem perm3 {α : Type} (X : Nat → α) {i j k : Nat} (h1 : i ≠ j) (h2 : i ≠ k) (h3 : j ≠ k) (p q r : α) : va_up (va_up (va_up X i p) j q) k r = va_up (va_up (va_up X k r) j q) i p := by
  rw [va_up_comm X h1, va_up_comm _ h2, va_up_comm X h3]
theorem c_Mo_ladles {n : Nat} (hn : 2 ≤ n) {h : xh} {T W : Nat → Int32} {g : Int32} {b : Prop} (C : CM h T W g b) {m : Int32} {Q : Int32 → xh → Prop} (h1 : ∀ W', ldW T W m = some W' → ∀ h', Fr PM h h' → CM h' T W' g b → Q 1 h') (h0 : ldW T W m = none → ∀ h', Fr PM h h' → CM h' T W g b → Q 0 h') : xci (xMC n) 265 [.ref 166, .int m] h Q := by
  obtain ⟨n, rfl⟩ := xsucc (show 1 ≤ n by omega)
  unfold ldW at h1 h0
  refine w_Mo_ladles ⟨C.hs, ?_⟩
  rw [show xI h 166 33 = W 1 from C.i 1, show xI h 166 34 = W 2 from C.i 2]
  refine ⟨fun z => h0 (if_pos z) h Fr.rf C, fun z => ?_⟩
  rw [if_neg z] at h1 h0
  obtain ⟨a, ha, ea, ca, a9⟩ := pl_st C.M.ok C.p z
  rw [ca] at h1 h0
  have cl : (nI a).toNatClampNeg = a := nI_clamp (by omega)
  refine ⟨fun z2 => h0 (if_pos z2) h Fr.rf C, fun z2 => ⟨178, C.L.r 166 28 178, ?_⟩⟩
  rw [if_neg z2] at h1 h0
  rw [ea, cl, C.a8 a9]
  refine ⟨C.L.x 178 (n := 9) a9, fun z3 => h0 (if_pos z3) h Fr.rf C, fun z3 => ?_⟩
  rw [if_neg z3] at h1 h0
  obtain ⟨n, rfl⟩ := xsucc (show 1 ≤ n by omega)
  refine w_Mo_feeds ⟨C.hs, c_Mo_takes (by omega) C (fun z4 h' F C' => ⟨fun _ => ⟨C'.hs, 178, C'.L.r 166 28 178, ?_⟩, fun y => absurd y (by decide)⟩) (fun z4 h' F C' => ⟨fun y => absurd rfl y, fun _ => h0 (if_neg z4) h' F C'⟩)⟩
  have h1 := h1 _ (if_pos z4)
  have ea' : xI h' 166 33 = nI a := (C'.i 1).trans ea
  rw [ea', cl]
  refine ⟨C'.L.x 178 (n := 9) a9, 179, C'.L.r 166 29 179, C'.L.x 179 (n := 9) a9, ?_⟩
  have r1 : xI h' 178 a = W (10 + a) := (C'.a8 a9).trans (va_upn _ _ _ (by omega))
  have r2 : xI h' 179 a = W (20 + a) := (C'.a9 a9).trans (va_upn _ _ _ (by omega))
  have e0 : xI h 166 32 = W 0 := C.i 0
  rw [r1, r2, e0]
  refine c_Mo_greater (by omega) ⟨C'.hs, ⟨by decide, C'.hs⟩, ?_⟩
  rw [show mx 0 (m - (W (10 + a) - W (20 + a))) = old W a m from rfl, show xI h' 166 34 = W 2 from C'.i 2]
  unfold ld1 at h1
  generalize old W a m = o at *
  have X2 := C'.w (i := 2) (v := W 2 - m) (by decide) (fun e => nomatch e)
  have F2 : Fr PM h _ := F.wI (a := 166) (i := 34) (v := W 2 - m) mP
  generalize xsI h' 166 34 (W 2 - m) = g2 at X2 F2 ⊢
  refine b_Mo_ladles_83 ⟨X2.hs, ⟨by decide, X2.hs⟩, ?_⟩
  rw [show xI g2 166 35 = W 3 from X2.i 3]
  have X3 := X2.w (i := 3) (v := W 3 + m) (by decide) (fun e => nomatch e)
  have F3 : Fr PM h _ := F2.wI (a := 166) (i := 35) (v := W 3 + m) mP
  generalize xsI g2 166 35 (W 3 + m) = g3 at X3 F3 ⊢
  have q0 : xI g3 166 33 = nI a := (X3.i 1).trans ea
  have q1 : xI g3 181 a = W (30 + a) := (X3.a1 a9).trans (by rw [va_upn _ _ _ (by omega), va_upn _ _ _ (by omega), va_upn _ _ _ (by omega)])
  refine b_Mo_ladles_93 ⟨X3.hs, 181, X3.L.r 166 31 181, ?_⟩
  rw [q0, cl, q1]
  refine ⟨X3.L.x 181 (n := 9) a9, ⟨by decide, X3.L.x 181 (n := 9) a9⟩, ?_⟩
  have X4 := X3.wa (a := 181) (k := 30 + a) (s := a) (by omega) a9 (v := W (30 + a) + m)
  have F4 : Fr PM h _ := F3.wI (a := 181) (i := a) (v := W (30 + a) + m) mPa
  generalize xsI g3 181 a (W (30 + a) + m) = g4 at X4 F4 ⊢
  have q2 : xI g4 166 38 = W 6 := (X4.i 6).trans (by rw [va_upn _ _ _ (by omega)]; rfl)
  refine b_Mo_ladles_106 ⟨X4.hs, ⟨by decide, X4.hs⟩, ?_⟩
  rw [q2]
  have X5 := X4.w (i := 6) (v := W 6 + o) (by decide) (fun e => nomatch e)
  have F5 : Fr PM h _ := F4.wI (a := 166) (i := 38) (v := W 6 + o) mP
  generalize xsI g4 166 38 (W 6 + o) = g5 at X5 F5 ⊢
  have goo : ∀ u : Int32, (if T 4 ≤ W 0 then 0 else m) = u → K_Mo_ladles (n + 1) Q 134 [some (.ref 166), some (.int m), some (.int (W 0)), some (.int o), none, none] [.int u, .int (xI g5 166 36), .ref 166] g5 := by
    intro u hu
    rw [hu] at h1
    have q3 : xI g5 166 36 = W 4 := (X5.i 4).trans (by rw [va_upn _ _ _ (by omega), va_upn _ _ _ (by omega)]; rfl)
    rw [q3]
    refine b_Mo_ladles_134 ⟨⟨by decide, X5.hs⟩, ?_⟩
    have X6 := X5.w (i := 4) (v := W 4 + u) (by decide) (fun e => nomatch e)
    have F6 : Fr PM h _ := F5.wI (a := 166) (i := 36) (v := W 4 + u) mP
    generalize xsI g5 166 36 (W 4 + u) = g6 at X6 F6 ⊢
    rw [perm3 _ (by omega) (by omega) (by omega)] at X6
    have q4 : xI g6 166 33 = nI a := (X6.i 1).trans (by rw [va_upn _ _ _ (by omega)]; exact ea)
    have q5 : xI g6 178 a = W (10 + a) := (X6.a8 a9).trans (by rw [va_upn _ _ _ (by omega), va_upn _ _ _ (by omega), va_upn _ _ _ (by omega), va_upn _ _ _ (by omega), va_upn _ _ _ (by omega), va_upn _ _ _ (by omega)])
    refine b_Mo_ladles_138 ⟨X6.hs, 178, X6.L.r 166 28 178, ?_⟩
    rw [q4, cl, q5]
    refine ⟨X6.L.x 178 (n := 9) a9, ⟨by decide, X6.L.x 178 (n := 9) a9⟩, ?_⟩
    have X7 := X6.wa (a := 178) (k := 10 + a) (s := a) (by omega) a9 (v := W (10 + a) - m)
    have F7 : Fr PM h _ := F6.wI (a := 178) (i := a) (v := W (10 + a) - m) mPa
    generalize xsI g6 178 a (W (10 + a) - m) = g7 at X7 F7 ⊢
    have q6 : xI g7 166 33 = nI a := (X7.i 1).trans (by rw [va_upn _ _ _ (by omega), va_upn _ _ _ (by omega)]; exact ea)
    have q7 : xI g7 179 a = W (20 + a) := (X7.a9 a9).trans (by rw [va_upn _ _ _ (by omega), va_upn _ _ _ (by omega), va_upn _ _ _ (by omega), va_upn _ _ _ (by omega), va_upn _ _ _ (by omega), va_upn _ _ _ (by omega), va_upn _ _ _ (by omega)])
    refine b_Mo_ladles_151 ⟨X7.hs, 179, X7.L.r 166 29 179, ?_⟩
    rw [q6, cl, q7]
    refine ⟨X7.L.x 179 (n := 9) a9, ⟨by decide, X7.L.x 179 (n := 9) a9⟩, ?_⟩
    have X8 := X7.wa (a := 179) (k := 20 + a) (s := a) (by omega) a9 (v := W (20 + a) - o)
    have F8 : Fr PM h _ := F7.wI (a := 179) (i := a) (v := W (20 + a) - o) mPa
    generalize xsI g7 179 a (W (20 + a) - o) = g8 at X8 F8 ⊢
    have q8 : xI g8 166 33 = nI a := (X8.i 1).trans (by rw [va_upn _ _ _ (by omega), va_upn _ _ _ (by omega), va_upn _ _ _ (by omega)]; exact ea)
    generalize va_up (va_up (va_up (va_up (va_up (va_up (va_up (va_up W 0 (W 0 + (m + 1) / 2)) 2 (W 2 - m)) 3 (W 3 + m)) 4 (W 4 + u)) 6 (W 6 + o)) (30 + a) (W (30 + a) + m)) (10 + a) (W (10 + a) - m)) (20 + a) (W (20 + a) - o) = V at *
    refine b_Mo_ladles_164 ⟨X8.hs, ?_⟩
    rw [q8]
    unfold snW at h1
    refine c_Mo_of (by omega) X8.M (nI_add 61 a) (by omega) ⟨fun y => ?_, fun y => ⟨X8.hs, ?_⟩⟩
    · rw [if_pos y] at h1
      exact b_Mo_ladles_248 (h1 g8 F8 X8)
    · rw [if_neg y] at h1
      obtain ⟨c, hc, ec, cc, c9⟩ := pl_st C.M.ok (goal_pl C.M.ok a9) y
      rw [cc] at h1
      rw [ec]
      refine c_Mo_of (by omega) X8.M (i := 52 + a) (by rw [q8]; exact nI_add 52 a) (by omega) ⟨X8.hs, 180, X8.L.r 166 30 180, ?_⟩
      rw [q8, cl, X8.a0 a9]
      refine ⟨X8.L.x 180 (n := 9) a9, c_Mo_lesser (by omega) ⟨X8.hs, 180, X8.L.r 166 30 180, ?_⟩⟩
      rw [q8, cl, X8.a0 a9, show mn m (T (52 + a) - V (40 + a)) = sn1 T V a m from rfl]
      refine ⟨X8.L.x 180 (n := 9) a9, ⟨by decide, X8.L.x 180 (n := 9) a9⟩, ?_⟩
      have Y1 := X8.wa (a := 180) (k := 40 + a) (s := a) (by omega) a9 (v := V (40 + a) + sn1 T V a m)
      have G1 : Fr PM h _ := F8.wI (a := 180) (i := a) (v := V (40 + a) + sn1 T V a m) mPa
      unfold snd at h1
      generalize xsI g8 180 a (V (40 + a) + sn1 T V a m) = k1 at Y1 G1 ⊢
      generalize sn1 T V a m = r at *
      generalize va_up V (40 + a) (V (40 + a) + r) = V1 at *
      refine b_Mo_ladles_224 ⟨Y1.hs, 178, Y1.L.r 166 28 178, Y1.L.x 178 (n := 9) c9, ⟨by decide, Y1.L.x 178 (n := 9) c9⟩, ?_⟩
      rw [nI_clamp (by omega), Y1.a8 c9]
      have Y2 := Y1.wa (a := 178) (k := 10 + c) (s := c) (by omega) c9 (v := V1 (10 + c) + r)
      have G2 : Fr PM h _ := G1.wI (a := 178) (i := c) (v := V1 (10 + c) + r) mPa
      generalize xsI k1 178 c (V1 (10 + c) + r) = k2 at Y2 G2 ⊢
      generalize va_up V1 (10 + c) (V1 (10 + c) + r) = V2 at *
      refine b_Mo_ladles_236 ⟨Y2.hs, 179, Y2.L.r 166 29 179, Y2.L.x 179 (n := 9) c9, ⟨by decide, Y2.L.x 179 (n := 9) c9⟩, b_Mo_ladles_248 ?_⟩
      rw [nI_clamp (by omega), Y2.a9 c9]
      exact h1 _ (G2.wI mPa) (Y2.wa (by omega) c9)
  refine b_Mo_ladles_116 ⟨X5.hs, ?_⟩
  rw [X5.M.2.2.1.2.2]
  exact ⟨fun y => goo 0 (if_pos y), fun y => goo m (if_neg y)⟩
theorem c_Mo_does {n : Nat} (hn : 5 ≤ n) {h : xh} {T W : Nat → Int32} {g : Int32} {b : Prop} (C : CM h T W g b) {k m : Int32} {Q : Int32 → xh → Prop} (h1 : ∀ W', ddW T W k m = some W' → ∀ h', Fr PM h h' → CM h' T W' g b → Q 1 h') (h0 : ddW T W k m = none → ∀ h', Fr PM h h' → CM h' T W g b → Q 0 h') : xci (xMC n) 258 [.ref 166, .int k, .int m] h Q := by
  obtain ⟨n, rfl⟩ := xsucc (show 1 ≤ n by omega)
  unfold ddW at h1 h0
  refine w_Mo_does ⟨fun z => ⟨C.hs, ?_⟩, fun z0 => ⟨fun z => ⟨C.hs, ?_⟩, fun z1 => ⟨fun z => ⟨C.hs, ?_⟩, fun z2 => ⟨fun z => ⟨C.hs, ?_⟩, fun z3 => ⟨C.hs, ?_⟩⟩⟩⟩⟩
  · rw [if_pos z] at h1 h0
    refine c_Mo_isStop (by omega) C.M (fun j hj e => ⟨fun y => absurd y (by decide), fun _ => ⟨C.hs, ?_⟩⟩) (fun y => ⟨fun _ => h0 (if_neg (fun q => ?_)) h Fr.rf C, fun q => absurd rfl q⟩)
    · rw [if_pos ((stq C.M.ok).mpr ⟨j, hj, e⟩)] at h1 h0
      exact c_Mo_drivesTo (by omega) C (Or.inr ⟨j, hj, e⟩) (fun W' e' h' F C' => ⟨fun y => absurd y (by decide), fun _ => h1 W' e' h' F C'⟩) (fun e' h' F C' => ⟨fun _ => h0 e' h' F C', fun y => absurd rfl y⟩)
    · obtain ⟨j, hj, e⟩ := (stq C.M.ok).mp q
      exact y j hj e
  · rw [if_neg z0, if_pos z] at h1 h0
    exact c_Mo_ladles (by omega) C (fun W' e' h' F C' => ⟨Or.inr rfl, h1 W' e' h' F C'⟩) (fun e' h' F C' => ⟨Or.inl rfl, h0 e' h' F C'⟩)
  · rw [if_neg z0, if_neg z1, if_pos z] at h1 h0
    exact c_Mo_takes (by omega) C (fun y h' F C' => ⟨Or.inr rfl, h1 _ (if_pos y) h' F C'⟩) (fun y h' F C' => ⟨Or.inl rfl, h0 (if_neg y) h' F C'⟩)
  · rw [if_neg z0, if_neg z1, if_neg z2, if_pos z] at h1 h0
    exact c_Mo_chats (by omega) C (fun W' e' h' F C' => ⟨Or.inr rfl, h1 W' e' h' F C'⟩) (fun e' h' F C' => ⟨Or.inl rfl, h0 e' h' F C'⟩)
  · rw [if_neg z0, if_neg z1, if_neg z2, if_neg z3] at h1 h0
    exact c_Mo_drivesTo (by omega) C (Or.inl rfl) (fun W' e' h' F C' => ⟨Or.inr rfl, h1 W' e' h' F C'⟩) (fun e' h' F C' => ⟨Or.inl rfl, h0 e' h' F C'⟩)
