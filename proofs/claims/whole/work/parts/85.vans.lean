/-! vans -/
def hlN (T : Nat → Int32) (V : Nat) : Nat := max (tg T (pcn 9 V) V 9) (tg T (pcn 9 (sdf (2 ^ stp T - 1) V)) (sdf (2 ^ stp T - 1) V) 9)
def vmn (f : Nat → Nat) : Nat → Nat
  | 0 => 0
  | k + 1 => if f (k + 1) < f (vmn f k) then k + 1 else vmn f k
theorem vmn_le (f : Nat → Nat) : ∀ n, vmn f n ≤ n
  | 0 => Nat.le_refl _
  | n + 1 => by
    have := vmn_le f n
    unfold vmn
    split <;> omega
theorem tg_b9 {T : Nat → Int32} (ok : TnOK T) {V a : Nat} (hV : V < 2 ^ stp T) (ha : plc T a) : tg T (pcn 9 V) V a ≤ 1620 := by
  have := tg_b ok (pcn 9 V) V a hV rfl ha
  have := pcn_le 9 V
  omega
theorem hlN_b {T : Nat → Int32} (ok : TnOK T) {V : Nat} (hV : V < 2 ^ stp T) : hlN T V ≤ 1620 := by
  have h1 := tg_b9 ok hV (Or.inl rfl)
  have fp := Nat.two_pow_pos (stp T)
  have h2 := tg_b9 ok (V := sdf (2 ^ stp T - 1) V) (sdf_lt (by omega)) (Or.inl rfl)
  unfold hlN
  omega
theorem c_Routes_homeLast {n : Nat} (hn : 2 ≤ n) {h : xh} (L : Lay h) {T : Nat → Int32} (ok : TnOK T) (Tg : Tq h T (2 ^ stp T)) (f1 : xI h 150 1 = nI (2 ^ stp T - 1)) {V : Nat} (hV : V < 2 ^ stp T) {Q : Int32 → xh → Prop} (hQ : Q (nI (hlN T V)) h) : xci (xMC n) 101 [.ref 150, .int (nI V)] h Q := by
  obtain ⟨n, rfl⟩ := xsucc (show 1 ≤ n by omega)
  have s9 := stp9 ok
  have p512 : 2 ^ stp T ≤ 512 := Nat.le_trans (Nat.pow_le_pow_right (by decide) s9) (by decide)
  have fp := Nat.two_pow_pos (stp T)
  have sl : sdf (2 ^ stp T - 1) V < 2 ^ stp T := sdf_lt (by omega)
  refine w_Routes_homeLast ⟨L.s 150, 153, L.r 150 4 153, ?_⟩
  rw [f1, bt_sdf, nI_clamp (by omega), nI_clamp (by omega), Tg V hV, Tg _ sl]
  refine ⟨L.x 153 (n := 512) (by omega), L.x 153 (n := 512) (by omega), c_Math_max (by omega) ?_⟩
  have h1 := tg_b9 ok hV (Or.inl rfl)
  have h2 := tg_b9 ok sl (Or.inl rfl)
  rw [show (if nI (tg T (pcn 9 V) V 9) < nI (tg T (pcn 9 (sdf (2 ^ stp T - 1) V)) (sdf (2 ^ stp T - 1) V) 9) then nI (tg T (pcn 9 (sdf (2 ^ stp T - 1) V)) (sdf (2 ^ stp T - 1) V) 9) else nI (tg T (pcn 9 V) V 9)) = nI (hlN T V) from mx_n (by omega) (by omega)]
  exact hQ
theorem c_Routes_stopsOfFirstVan {n : Nat} (hn : 3 ≤ n) {h : xh} (L : Lay h) {T : Nat → Int32} (ok : TnOK T) (Tg : Tq h T (2 ^ stp T)) (f1 : xI h 150 1 = nI (2 ^ stp T - 1)) {Q : Int32 → xh → Prop} (hQ : Q (nI (vmn (hlN T) (2 ^ stp T - 1))) h) : xci (xMC n) 100 [.ref 150] h Q := by
  obtain ⟨n, rfl⟩ := xsucc (show 1 ≤ n by omega)
  have s9 := stp9 ok
  have p512 : 2 ^ stp T ≤ 512 := Nat.le_trans (Nat.pow_le_pow_right (by decide) s9) (by decide)
  have fp := Nat.two_pow_pos (stp T)
  have key : ∀ d x, x + d = 2 ^ stp T → 1 ≤ x → K_Routes_stopsOfFirstVan n Q 4 [some (.ref 150), some (.int (nI (vmn (hlN T) (x - 1)))), some (.int (nI x))] [] h := by
    intro d
    induction d with
    | zero =>
      intro x hx h1
      have : x = 2 ^ stp T := by omega
      subst this
      refine b_Routes_stopsOfFirstVan_4 ⟨L.s 150, ?_⟩
      rw [f1]
      exact ⟨fun _ => hQ, fun z => absurd (nI_lt (by omega) (by omega)) z⟩
    | succ d ih =>
      intro x hx h1
      have ih' := ih (x + 1) (by omega) (by omega)
      obtain ⟨y, rfl⟩ : ∃ y, x = y + 1 := ⟨x - 1, by omega⟩
      rw [show y + 1 + 1 - 1 = y + 1 by omega] at ih'
      rw [show y + 1 - 1 = y by omega]
      have vl := vmn_le (hlN T) y
      refine b_Routes_stopsOfFirstVan_4 ⟨L.s 150, ?_⟩
      rw [f1]
      refine ⟨fun z => absurd z (nI_nlt (by omega) (by omega)), fun _ => c_Routes_homeLast (by omega) L ok Tg f1 (by omega) ⟨L.s 150, c_Routes_homeLast (by omega) L ok Tg f1 (by omega) ?_⟩⟩
      have b1 := hlN_b ok (V := y + 1) (by omega)
      have b2 := hlN_b ok (V := vmn (hlN T) y) (by omega)
      rw [nI_leI (by omega) (by omega), nI_1]
      unfold vmn at ih'
      refine ⟨fun z => ?_, fun z => ?_⟩
      · rw [if_neg (by omega)] at ih'
        exact ih'
      · rw [if_pos (by omega)] at ih'
        exact ih'
  exact w_Routes_stopsOfFirstVan (key (2 ^ stp T - 1) 1 (by omega) (by omega))
def sVans (T : Nat → Int32) (b : Int32) : Int32 := if b = 0 then nI (hlN T (vmn (hlN T) (2 ^ stp T - 1))) else nI (vmn (hlN T) (2 ^ stp T - 1))
theorem c_Mo_vans {n : Nat} (hn : 5 ≤ n) {h : xh} (L : Lay h) {c : Nat} (W : TwM h c) {p b : Int32} {Q : Int32 → xh → Prop} (h1 : ∀ j, j < c → p = nI j → ∀ h', Fr PM h h' → Q (sVans (mT h j) b) h') (h0 : (∀ j, j < c → ¬ p = nI j) → ∀ h', Fr PM h h' → Q (-1) h') : xci (xMC n) 339 [.ref 166, .int p, .int b] h Q := by
  obtain ⟨n, rfl⟩ := xsucc (show 1 ≤ n by omega)
  have hs := L.s 166 (p := (11, 0))
  have F : Fr PM h (xsI h 166 0 0) := Fr.rf.wI mP
  obtain ⟨W', eT⟩ := W.fr F
  refine w_Mo_vans ⟨⟨by decide, hs⟩, b_Mo_vans_5 ⟨hs, c_Mo_hand (by omega) (F.lay L) W' (fun j hj e h' F' M => ⟨fun _ => ⟨M.L.s 166, ?_⟩, fun y => absurd y (by decide)⟩) (fun z h' F' => ⟨fun y => absurd rfl y, fun _ => h0 z h' (F.tr F')⟩)⟩⟩
  rw [eT] at M
  have hQ := h1 j hj e
  generalize mT h j = T at M hQ
  have ok := M.ok
  have s9 := stp9 ok
  have p512 : 2 ^ stp T ≤ 512 := Nat.le_trans (Nat.pow_le_pow_right (by decide) s9) (by decide)
  have fp := Nat.two_pow_pos (stp T)
  refine c_Mo_findRounds (by omega) M (fun g F2 M2 G => ⟨M2.L.s 166, ?_⟩)
  have hQ := hQ g ((F.tr F').tr F2)
  unfold sVans at hQ
  have Lg := M2.L
  have hsg := Lg.s 166 (p := (11, 0))
  rw [M2.sp, bt_shl _ (by omega), show nI (2 ^ stp T) - (1 : Int32) = nI (2 ^ stp T - 1) from pk_sub (b := 1) (by omega)]
  have step : ∀ (x : Nat), x < 2 ^ stp T → ∀ (v4 v5 : Int32) (o1 o7 : Option Value), (∀ o7 : Option Value, (v5 ≤ nI (hlN T x) → K_Mo_vans n Q 90 [some (.ref 166), o1, some (.int b), some (.int (nI (2 ^ stp T - 1))), some (.int v4), some (.int v5), some (.int (nI x)), some (.int (nI (hlN T x)))] [.int v4] g) ∧ (¬ v5 ≤ nI (hlN T x) → K_Mo_vans n Q 90 [some (.ref 166), o1, some (.int b), some (.int (nI (2 ^ stp T - 1))), some (.int v4), some (.int v5), some (.int (nI x)), some (.int (nI (hlN T x)))] [.int (nI x)] g)) → K_Mo_vans n Q 39 [some (.ref 166), o1, some (.int b), some (.int (nI (2 ^ stp T - 1))), some (.int v4), some (.int v5), some (.int (nI x)), o7] [] g := by
    intro x hx v4 v5 o1 o7 nx
    have sl : sdf (2 ^ stp T - 1) x < 2 ^ stp T := sdf_lt (by omega)
    have c1 := ceI_lt (V := x) (a := 9) (by omega) (by omega)
    have c2 := ceI_lt (V := sdf (2 ^ stp T - 1) x) (a := 9) (by omega) (by omega)
    refine b_Mo_vans_39 ⟨fun z => absurd z (nI_nlt (by omega) (by omega)), fun _ => ⟨hsg, 186, Lg.r 166 47 186, c_Mo_cell (a := 9) (by omega) (by omega) ⟨Lg.x 186 (n := 5120) c1, hsg, 186, Lg.r 166 47 186, ?_⟩⟩⟩
    rw [bt_sdf]
    refine c_Mo_cell (a := 9) (by omega) (by omega) ⟨Lg.x 186 (n := 5120) c2, ?_⟩
    have h1 := tg_b9 ok hx (Or.inl rfl)
    have h2 := tg_b9 ok sl (Or.inl rfl)
    rw [nI_clamp (by omega), nI_clamp (by omega), G _ 9 hx (Or.inl rfl), G _ 9 sl (Or.inl rfl)]
    refine c_Mo_greater (by omega) ?_
    rw [mx_n (by omega) (by omega)]
    exact nx o7
  have key : ∀ d x, x + d = 2 ^ stp T → 1 ≤ x → ∀ o1 o7 : Option Value, K_Mo_vans n Q 39 [some (.ref 166), o1, some (.int b), some (.int (nI (2 ^ stp T - 1))), some (.int (nI (vmn (hlN T) (x - 1)))), some (.int (nI (hlN T (vmn (hlN T) (x - 1))))), some (.int (nI x)), o7] [] g := by
    intro d
    induction d with
    | zero =>
      intro x hx q1 o1 o7
      have : x = 2 ^ stp T := by omega
      subst this
      refine b_Mo_vans_39 ⟨fun _ => ⟨fun z => ?_, fun z => ?_⟩, fun z => absurd (nI_lt (by omega) (by omega)) z⟩
      · rwa [if_pos z] at hQ
      · rwa [if_neg z] at hQ
    | succ d ih =>
      intro x hx q1 o1 o7
      have ih' := ih (x + 1) (by omega) (by omega)
      obtain ⟨y, rfl⟩ : ∃ y, x = y + 1 := ⟨x - 1, by omega⟩
      rw [show y + 1 + 1 - 1 = y + 1 by omega] at ih'
      rw [show y + 1 - 1 = y by omega]
      have vl := vmn_le (hlN T) y
      have b1 := hlN_b ok (V := y + 1) (by omega)
      have b2 := hlN_b ok (V := vmn (hlN T) y) (by omega)
      refine step (y + 1) (by omega) _ _ _ _ (fun o7 => ?_)
      rw [nI_leI (by omega) (by omega)]
      unfold vmn at ih'
      refine ⟨fun z => b_Mo_vans_90 (c_Mo_lesser (by omega) ?_), fun z => b_Mo_vans_90 (c_Mo_lesser (by omega) ?_)⟩
      · rw [if_neg (by omega)] at ih'
        rw [mn_n (by omega) (by omega), Nat.min_eq_left z, nI_1]
        exact ih' _ _
      · rw [if_pos (by omega)] at ih'
        rw [mn_n (by omega) (by omega), Nat.min_eq_right (by omega), nI_1]
        exact ih' _ _
  refine step 0 fp 0 1000000 _ _ (fun o7 => ?_)
  have b0 := hlN_b ok (V := 0) fp
  rw [show (1000000 : Int32) = nI 1000000 from rfl, nI_leI (by omega) (by omega)]
  refine ⟨fun z => by omega, fun _ => b_Mo_vans_90 (c_Mo_lesser (by omega) ?_)⟩
  rw [mn_n (by omega) (by omega), Nat.min_eq_right (by omega), nI_1]
  exact key (2 ^ stp T - 1) 1 (by omega) (by omega) _ _
