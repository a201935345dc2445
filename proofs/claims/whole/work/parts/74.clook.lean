/-! look in the class -/
def lft (S : Nat → Int32) (V : Nat) : Nat := sdf (2 ^ bN S 2 - 1) V
theorem full_bit (n k : Nat) : (2 ^ n - 1).testBit k = decide (k < n) := Nat.testBit_two_pow_sub_one n k
theorem lft_bit {S : Nat → Int32} {V k : Nat} (hk : k < bN S 2) : (lft S V).testBit k = !V.testBit k := by
  unfold lft
  rw [sdf_bit, full_bit, decide_eq_true hk]; rfl
theorem lft_lt (S : Nat → Int32) (V : Nat) : lft S V < 2 ^ bN S 2 := sdf_lt (by have := Nat.two_pow_pos (bN S 2); omega)
theorem lft_p {S : Nat → Int32} (ok : ShOK S) {V : Nat} (hV : V < 2 ^ bN S 2) : pcn 9 V + pcn 9 (lft S V) = bN S 2 := by
  have o := ok.n
  have e := pcn_split V (2 ^ bN S 2 - 1) 9
  have a : V &&& (2 ^ bN S 2 - 1) = V := by
    apply Nat.eq_of_testBit_eq
    intro i
    rw [Nat.testBit_and, full_bit]
    by_cases c : i < bN S 2
    · rw [decide_eq_true c, Bool.and_true]
    · rw [decide_eq_false c, Bool.and_false]
      exact (Nat.testBit_lt_two_pow (Nat.lt_of_lt_of_le hV (Nat.pow_le_pow_right (by decide) (by omega)))).symm
  rw [a, pcn_full9 _ (by omega)] at e
  unfold lft
  omega
theorem lft_or (S : Nat → Int32) (V k : Nat) : lft S (V ||| 2 ^ k) = sdf (lft S V) (2 ^ k) := by
  unfold lft
  apply Nat.eq_of_testBit_eq
  intro i
  rw [sdf_bit, sdf_bit, sdf_bit, or_bit, Nat.testBit_two_pow]
  cases (2 ^ bN S 2 - 1).testBit i <;> cases V.testBit i <;> simp
theorem lft_0 (S : Nat → Int32) : lft S 0 = 2 ^ bN S 2 - 1 := by
  unfold lft sdf
  simp
theorem p8 {S : Nat → Int32} (ok : ShOK S) : 2 ^ bN S 2 ≤ 256 := by
  have o := ok.n
  exact Nat.le_trans (Nat.pow_le_pow_right (by decide) o.2.2) (by decide)
def atI (a : Nat) : Int32 := if a = 8 then -1 else nI a
theorem c_Sheet_steps {n : Nat} (hn : 2 ≤ n) {h : xh} {s : Nat} {S : Nat → Int32} (H : Sh h s S) {a k : Nat} (ha : atH S a) (hk : k < bN S 2) {Q : Int32 → xh → Prop} (hQ : Q (nI (wy S a k)) h) : xci (xMC n) 37 [.ref s, .int (atI a), .int (nI k)] h Q := by
  obtain ⟨n, rfl⟩ := xsucc (show 1 ≤ n by omega)
  have o := H.ok.n
  have hk2 := hX_le H.ok (Or.inr hk)
  have ha2 := hX_le H.ok ha
  have xk : xI h (s + 2 + 2) (nI k).toNatClampNeg = nI (hX S k) := by
    rw [nI_clamp (by omega)]
    unfold hX
    rw [if_neg (by omega)]
    exact (H.v4 hk).trans (H.ok.1 _ (by omega))
  have yk : xI h (s + 2 + 3) (nI k).toNatClampNeg = nI (hY S k) := by
    rw [nI_clamp (by omega)]
    unfold hY
    rw [if_neg (by omega)]
    exact (H.v5 hk).trans (H.ok.1 _ (by omega))
  have k45 : ∀ o1 o4 : Option Value, K_Sheet_steps n Q 45 [some (.ref s), o1, some (.int (nI k)), some (.int (nI (hX S a))), o4] [.int (nI (hY S a))] h := by
    intro o1 o4
    refine b_Sheet_steps_45 ⟨fun z => absurd z (nI_pos (by omega)), fun _ => ⟨H.s, ?_⟩⟩
    rw [H.n 2]
    refine ⟨fun _ => ⟨_, H.r 3, H.x 2 (by omega), ?_⟩, fun z => absurd (nI_lt hk (by omega)) z⟩
    show xci (xMC n) 3 [.int (nI (hX S a) - xI h (s + 2 + 2) (nI k).toNatClampNeg)] h _
    rw [xk]
    refine c_Math_abs (by omega) ⟨H.s, _, H.r 4, H.x 3 (by omega), ?_⟩
    show xci (xMC n) 3 [.int (nI (hY S a) - xI h (s + 2 + 3) (nI k).toNatClampNeg)] h _
    rw [yk]
    refine c_Math_abs (by omega) ?_
    rw [abs_n (by omega) (by omega), abs_n (by omega) (by omega), nI_add]
    exact hQ
  unfold atI
  by_cases e : a = 8
  · have e1 : hX S a = 0 := by unfold hX; rw [if_pos e]
    have e2 : hY S a = 0 := by unfold hY; rw [if_pos e]
    rw [e1, e2] at k45
    rw [if_pos e]
    exact w_Sheet_steps ⟨fun _ => b_Sheet_steps_12 (b_Sheet_steps_22 ⟨fun _ => b_Sheet_steps_35 (k45 _ _), fun z => absurd (by decide) z⟩), fun z => absurd (by decide) z⟩
  · have al : a < bN S 2 := by rcases ha with z | z; exact absurd z e; exact z
    rw [if_neg e]
    refine w_Sheet_steps ⟨fun z => absurd z (nI_pos (by omega)), fun _ => ⟨H.s, ?_⟩⟩
    rw [H.n 2]
    refine ⟨fun _ => ⟨_, H.r 3, H.x 2 (by omega), ?_⟩, fun z => absurd (nI_lt al (by omega)) z⟩
    have xa : xI h (s + 2 + 2) (nI a).toNatClampNeg = nI (hX S a) := by
      rw [nI_clamp (by omega)]
      unfold hX
      rw [if_neg e]
      exact (H.v4 al).trans (H.ok.1 _ (by omega))
    have ya : xI h (s + 2 + 3) (nI a).toNatClampNeg = nI (hY S a) := by
      rw [nI_clamp (by omega)]
      unfold hY
      rw [if_neg e]
      exact (H.v5 al).trans (H.ok.1 _ (by omega))
    show K_Sheet_steps n Q 22 _ [.int (xI h (s + 2 + 2) (nI a).toNatClampNeg)] h
    rw [xa]
    refine b_Sheet_steps_22 ⟨fun z => absurd z (nI_pos (by omega)), fun _ => ⟨H.s, ?_⟩⟩
    rw [H.n 2]
    refine ⟨fun _ => ⟨_, H.r 4, H.x 3 (by omega), ?_⟩, fun z => absurd (nI_lt al (by omega)) z⟩
    show K_Sheet_steps n Q 45 _ [.int (xI h (s + 2 + 3) (nI a).toNatClampNeg)] h
    rw [ya]
    exact k45 _ _
def Od (h : xh) (S : Nat → Int32) : Prop := (∀ V, V < 2 ^ bN S 2 → xI h 163 V = nI (od S V)) ∧ xI h 159 6 = nI (od S (2 ^ bN S 2 - 1))
def Wq (h : xh) (S : Nat → Int32) (q : Nat) : Prop := ∀ V a, q ≤ V → V < 2 ^ bN S 2 → a < bN S 2 → V.testBit a = true → xI h 162 (V * 8 + a) = nI (lw S (bN S 2 - pcn 9 V) (lft S V) a)
theorem or_gt {V k : Nat} (h : V.testBit k = false) : V < V ||| 2 ^ k := by
  have h1 : V ≤ V ||| 2 ^ k := Nat.left_le_or
  have h2 : V ||| 2 ^ k ≠ V := fun e => by
    have := or_bit V k k
    rw [e, h] at this
    simp at this
  omega
theorem c_Search_walkedBy {n : Nat} (hn : 3 ≤ n) {h : xh} (L : Lay h) {s : Nat} {S : Nat → Int32} (H : Sh h s S) (O : Od h S) {V a k d : Nat} (hV : V < 2 ^ bN S 2) (Wk : Wq h S (V + 1)) (ha : atH S a) (hk : k < bN S 2) (hb : V.testBit k = false) (hd : bN S 2 - pcn 9 V = d + 1) {Q : Int32 → xh → Prop} (hQ : Q (nI (tmL S (lw S d) (lft S V) a k)) h) : xci (xMC n) 111 [.ref 159, .ref s, .int (nI V), .int (atI a), .int (nI k)] h Q := by
  obtain ⟨n, rfl⟩ := xsucc (show 1 ≤ n by omega)
  have o := H.ok.n
  have q8 := p8 H.ok
  have lt := or_gt hb
  have ol : V ||| 2 ^ k < 2 ^ bN S 2 := orb_lt hV hk
  have pc := pcn_or hb 9
  rw [if_pos (by omega)] at pc
  refine w_Search_walkedBy ⟨H.s, c_Sheet_steps (by omega) H ha hk ⟨L.s 159, 163, L.r 159 4 163, L.x 163 (n := 256) (by omega), 162, L.r 159 3 162, ?_⟩⟩
  have dif : nI (od S (2 ^ bN S 2 - 1)) - nI (od S V) = nI (od S (lft S V)) := by
    have e := oD_dif (S := S) (F := 2 ^ bN S 2 - 1) (V := V) (bN S 2) (fun j hj => by rw [full_bit, decide_eq_true hj])
    have e' : od S V + od S (lft S V) = od S (2 ^ bN S 2 - 1) := e
    rw [← e', pk_sub (by omega)]
    congr 1
    omega
  rw [bt_set _ (by omega), show nI (V ||| 2 ^ k) * (8 : Int32) = nI ((V ||| 2 ^ k) * 8) from pk_mul _ 8, nI_add, nI_clamp (by omega), nI_clamp (by omega), O.1 V hV, O.2, dif, pk_mul, Wk (V ||| 2 ^ k) k (by omega) ol hk (by rw [or_bit]; simp), nI_add, pc, show bN S 2 - (pcn 9 V + 1) = d by omega, lft_or]
  exact ⟨L.x 162 (n := 2048) (by omega), hQ⟩
theorem c_Search_leastWalked {n : Nat} (hn : 4 ≤ n) {h : xh} (L : Lay h) {s : Nat} {S : Nat → Int32} (H : Sh h s S) (O : Od h S) {V a d : Nat} (hV : V < 2 ^ bN S 2) (Wk : Wq h S (V + 1)) (ha : atH S a) (hd : bN S 2 - pcn 9 V = d + 1) {Q : Int32 → xh → Prop} (hQ : Q (nI (lw S (d + 1) (lft S V) a)) h) : xci (xMC n) 110 [.ref 159, .ref s, .int (nI V), .int (atI a)] h Q := by
  obtain ⟨n, rfl⟩ := xsucc (show 1 ≤ n by omega)
  have o := H.ok.n
  have q8 := p8 H.ok
  have key : ∀ e k, k + e = bN S 2 → K_Search_leastWalked n Q 7 [some (.ref 159), some (.ref s), some (.int (nI V)), some (.int (atI a)), some (.int (nI (lwk S (lw S d) (lft S V) a k))), some (.int (nI k))] [] h := by
    intro e
    induction e with
    | zero =>
      intro k hk
      have : k = bN S 2 := by omega
      subst this
      refine b_Search_leastWalked_7 ⟨H.s, ?_⟩
      rw [H.n 2]
      exact ⟨fun _ => hQ, fun z => absurd (Int32.le_refl _) z⟩
    | succ e ih =>
      intro k hk
      have ih' := ih (k + 1) (by omega)
      unfold lwk at ih'
      rw [lft_bit (by omega)] at ih'
      refine b_Search_leastWalked_7 ⟨H.s, ?_⟩
      rw [H.n 2, bt_has V (by omega) k (by omega), nI_1]
      refine ⟨fun z => absurd z (nI_ge (by omega) (by omega)), fun _ => ?_⟩
      cases c : V.testBit k
      · rw [c] at ih'
        refine ⟨fun z => absurd rfl z, fun _ => ⟨L.s 159, c_Search_walkedBy (by omega) L H O hV Wk ha (by omega) c hd (c_Math_min (by omega) ?_)⟩⟩
        have l1 := lwk_far S (lw S d) (lft S V) a k
        have pr := pcn_rm (W := lft S V) (a := k) (by rw [lft_bit (by omega), c]; rfl) (by omega)
        have pp := lft_p H.ok hV
        have l2 := lw_b H.ok d (sdf (lft S V) (2 ^ k)) k (sdf_lt (lft_lt S V)) (by omega) (Or.inr (by omega))
        have l3 := wy_le H.ok ha (show k < bN S 2 by omega)
        have l4 := od_le H.ok (lft S V)
        have l5 : wy S a k * od S (lft S V) ≤ 18 * 160 := Nat.mul_le_mul l3 l4
        have l6 : tmL S (lw S d) (lft S V) a k < 2 ^ 31 := by unfold tmL; omega
        rw [show (if nI (tmL S (lw S d) (lft S V) a k) < nI (lwk S (lw S d) (lft S V) a k) then nI (tmL S (lw S d) (lft S V) a k) else nI (lwk S (lw S d) (lft S V) a k)) = nI (min (lwk S (lw S d) (lft S V) a k) (tmL S (lw S d) (lft S V) a k)) from mn_n (by omega) l6]
        exact ih'
      · rw [c] at ih'
        exact ⟨fun _ => ih', fun z => absurd z (by decide)⟩
  exact w_Search_leastWalked (key (bN S 2) 0 (by omega))
