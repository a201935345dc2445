/-! held: who are held to be there in all, and since when there is a new doorway -/
/-- seen, and unlike ones, in the first nights -/
def suS (B : Nat → Int32) : Nat → Nat
  | 0 => 0
  | k + 1 => suS B k + bN B (1 + 5 * k)
def unl (B : Nat → Int32) : Nat → Nat
  | 0 => 0
  | k + 1 => unl B k + (bN B (1 + 5 * k) - bN B (2 + 5 * k))
def hTop (B : Nat → Int32) : Nat → Nat
  | 0 => 0
  | k + 1 => hTop B k + bN B (1 + 5 * k) * unl B k
def hBot (B : Nat → Int32) : Nat → Nat
  | 0 => 0
  | k + 1 => hBot B k + if k = 0 then 0 else bN B (2 + 5 * k)
theorem suS_le {B : Nat → Int32} (ok : BkOK B) : ∀ k, k ≤ bN B 0 → suS B k ≤ 99 * k
  | 0, _ => Nat.le_refl _
  | k + 1, h => by
    have := suS_le ok k (by omega)
    have := (ok.2.2 k (by omega)).1
    unfold suS
    omega
theorem unl_le {B : Nat → Int32} (ok : BkOK B) : ∀ k, k ≤ bN B 0 → unl B k ≤ 99 * k
  | 0, _ => Nat.le_refl _
  | k + 1, h => by
    have := unl_le ok k (by omega)
    have := (ok.2.2 k (by omega)).1
    unfold unl
    omega
theorem hBot_le {B : Nat → Int32} (ok : BkOK B) : ∀ k, k ≤ bN B 0 → hBot B k ≤ 99 * k
  | 0, _ => Nat.le_refl _
  | k + 1, h => by
    have := hBot_le ok k (by omega)
    have a := (ok.2.2 k (by omega)).1
    have b := (ok.2.2 k (by omega)).2.1
    unfold hBot
    split <;> omega
theorem hTop_le {B : Nat → Int32} (ok : BkOK B) : ∀ k, k ≤ bN B 0 → hTop B k ≤ 98010 * k
  | 0, _ => Nat.le_refl _
  | k + 1, h => by
    have := hTop_le ok k (by omega)
    have a := (ok.2.2 k (by omega)).1
    have b := unl_le ok k (by omega)
    have c := ok.2.1
    have d : bN B (1 + 5 * k) * unl B k ≤ 99 * 990 := Nat.mul_le_mul a (by omega)
    unfold hTop
    omega
theorem suS_mono {B : Nat → Int32} : ∀ {k m : Nat}, k ≤ m → suS B k ≤ suS B m := by
  intro k m h
  induction m with
  | zero => have : k = 0 := by omega
            subst this; exact Nat.le_refl _
  | succ m ih =>
    by_cases e : k = m + 1
    · subst e; exact Nat.le_refl _
    · have := ih (by omega)
      show suS B k ≤ suS B m + bN B (1 + 5 * m)
      omega
theorem c_Book_unlikeAheadOf {n : Nat} (hn : 1 ≤ n) {h : xh} {b : Nat} {B : Nat → Int32} (H : Bk h b B) {k : Nat} (hk : k ≤ bN B 0) {x : Int32} (hx : x = nI k) {Q : Int32 → xh → Prop} (hQ : Q (nI (unl B k)) h) : xci (xMC n) 61 [.ref b, .int x] h Q := by
  obtain ⟨n, rfl⟩ := xsucc hn
  subst hx
  have n10 := H.n10
  have key : ∀ d i, i + d = k → K_Book_unlikeAheadOf n Q 4 [some (.ref b), some (.int (nI k)), some (.int (nI (unl B i))), some (.int (nI i))] [] h := by
    intro d
    induction d with
    | zero =>
      intro i hi
      have : i = k := by omega
      subst this
      exact b_Book_unlikeAheadOf_4 ⟨fun _ => hQ, fun z => absurd (Int32.le_refl _) z⟩
    | succ d ih =>
      intro i hi
      refine b_Book_unlikeAheadOf_4 ⟨fun z => absurd z (nI_ge (by omega) (by omega)), fun _ => ⟨H.s, ?_⟩⟩
      rw [H.n]
      refine ⟨fun z => absurd z (nI_ge (by omega) (by omega)), fun _ => ⟨_, H.r1, H.x1 (by omega), _, H.r2, H.x2 (by omega), ?_⟩⟩
      rw [nI_clamp (by omega), H.v1 (by omega), H.v2 (by omega), pk_sub (H.ok.2.2 i (by omega)).2.1, nI_add, nI_1]
      exact ih (i + 1) (by omega)
  exact w_Book_unlikeAheadOf (key k 0 (by omega))
theorem c_Book_seenAheadOf {n : Nat} (hn : 1 ≤ n) {h : xh} {b : Nat} {B : Nat → Int32} (H : Bk h b B) {k : Nat} (hk : k ≤ bN B 0) {x : Int32} (hx : x = nI k) {Q : Int32 → xh → Prop} (hQ : Q (nI (suS B k)) h) : xci (xMC n) 65 [.ref b, .int x] h Q := by
  obtain ⟨n, rfl⟩ := xsucc hn
  subst hx
  have n10 := H.n10
  have key : ∀ d i, i + d = k → K_Book_seenAheadOf n Q 4 [some (.ref b), some (.int (nI k)), some (.int (nI (suS B i))), some (.int (nI i))] [] h := by
    intro d
    induction d with
    | zero =>
      intro i hi
      have : i = k := by omega
      subst this
      exact b_Book_seenAheadOf_4 ⟨fun _ => hQ, fun z => absurd (Int32.le_refl _) z⟩
    | succ d ih =>
      intro i hi
      refine b_Book_seenAheadOf_4 ⟨fun z => absurd z (nI_ge (by omega) (by omega)), fun _ => ⟨H.s, ?_⟩⟩
      rw [H.n]
      refine ⟨fun z => absurd z (nI_ge (by omega) (by omega)), fun _ => ⟨_, H.r1, H.x1 (by omega), ?_⟩⟩
      rw [nI_clamp (by omega), H.v1 (by omega), nI_add, nI_1]
      exact ih (i + 1) (by omega)
  exact w_Book_seenAheadOf (key k 0 (by omega))
def sHel (B : Nat → Int32) (un : Int32) : Int32 := if hBot B (bN B 0) = 0 then -1 else (lN (gpt (hTop B (bN B 0)) (hBot B (bN B 0)) un)).toInt32
theorem c_Book_heldInAll {n : Nat} (hn : 3 ≤ n) {h : xh} {b : Nat} {B : Nat → Int32} (H : Bk h b B) {un : Int32} {Q : Int32 → xh → Prop} (hQ : Q (sHel B un) h) : xci (xMC n) 62 [.ref b, .int un] h Q := by
  obtain ⟨n, rfl⟩ := xsucc (show 1 ≤ n by omega)
  have n10 := H.n10
  have t1 : hTop B 1 = 0 := by unfold hTop hTop unl; omega
  have b1 : hBot B 1 = 0 := rfl
  have fin : ∀ {T D : Nat}, T = hTop B (bN B 0) → D = hBot B (bN B 0) → ((¬ nI D = 0 → (xcj (xMC n) 19 [.long (nI T).toInt64, .long (nI D).toInt64, .int un] h (fun r1 h1 => (Q r1.toInt32 h1)))) ∧ (nI D = 0 → (Q (-1) h))) := by
    intro T D eT eD
    subst eT
    subst eD
    have hT := hTop_le H.ok (bN B 0) (Nat.le_refl _)
    have hB := hBot_le H.ok (bN B 0) (Nat.le_refl _)
    unfold sHel at hQ
    rw [nI_l (by omega), nI_l (by omega)]
    refine ⟨fun z => ?_, fun z => ?_⟩
    · have hz : hBot B (bN B 0) ≠ 0 := fun y => z (by rw [y]; rfl)
      rw [if_neg hz] at hQ
      exact c_Fraction_part (by omega) (by omega) (by omega) hQ
    · have hz : hBot B (bN B 0) = 0 := (nI_eq (b := 0) (by omega) (by decide)).mp z
      rwa [if_pos hz] at hQ
  have key : ∀ d i, i + d = bN B 0 → 1 ≤ i → K_Book_heldInAll n Q 7 [some (.ref b), some (.int un), some (.int (nI (hTop B i))), some (.int (nI (hBot B i))), some (.int (nI i))] [] h := by
    intro d
    induction d with
    | zero =>
      intro i hi _
      have : i = bN B 0 := by omega
      subst this
      refine b_Book_heldInAll_7 ⟨H.s, ?_⟩
      rw [H.n]
      exact ⟨fun _ => fin rfl rfl, fun z => absurd (Int32.le_refl _) z⟩
    | succ d ih =>
      intro i hi h1
      refine b_Book_heldInAll_7 ⟨H.s, ?_⟩
      rw [H.n]
      refine ⟨fun z => absurd z (nI_ge (by omega) (by omega)), fun _ => ⟨_, H.r1, H.x1 (by omega), c_Book_unlikeAheadOf (by omega) H (k := i) (by omega) rfl ⟨H.s, _, H.r2, H.x2 (by omega), ?_⟩⟩⟩
      rw [nI_clamp (by omega), H.v1 (by omega), H.v2 (by omega), pk_mul, nI_add, nI_add, nI_1]
      have ih' := ih (i + 1) (by omega) (by omega)
      have e : hBot B (i + 1) = hBot B i + bN B (2 + 5 * i) := by
        show hBot B i + (if i = 0 then 0 else bN B (2 + 5 * i)) = _
        rw [if_neg (by omega)]
      rw [e] at ih'
      exact ih'
  refine w_Book_heldInAll ?_
  by_cases hz : bN B 0 = 0
  · refine b_Book_heldInAll_7 ⟨H.s, ?_⟩
    rw [H.n, hz]
    exact ⟨fun _ => fin (T := 0) (D := 0) (by rw [hz]; rfl) (by rw [hz]; rfl), fun z => absurd (by decide) z⟩
  · have k := key (bN B 0 - 1) 1 (by omega) (by omega)
    rw [t1, b1] at k
    exact k
/-- the difference of the means from a night on, times the nights ahead and behind -/
def fF (B : Nat → Int32) (k : Nat) : Int := ((suS B (bN B 0) - suS B k : Nat) : Int) * k - (suS B k : Int) * ((bN B 0 - k : Nat) : Int)
theorem fF_b {B : Nat → Int32} (ok : BkOK B) {k : Nat} (hk : k ≤ bN B 0) : -9900 ≤ fF B k ∧ fF B k ≤ 9900 := by
  have n10 := ok.2.1
  have h1 := suS_le ok (bN B 0) (Nat.le_refl _)
  have h2 := suS_le ok k hk
  unfold fF
  have ha : suS B (bN B 0) - suS B k ≤ 990 := by omega
  generalize suS B (bN B 0) - suS B k = a at *
  have hb : suS B k ≤ 990 := by omega
  generalize suS B k = c at *
  have m1 : a * k ≤ 990 * 10 := Nat.mul_le_mul ha (by omega)
  have m2 : c * (bN B 0 - k) ≤ 990 * 10 := Nat.mul_le_mul hb (by omega)
  rw [← Int.natCast_mul, ← Int.natCast_mul]
  generalize a * k = x at *
  generalize c * (bN B 0 - k) = y at *
  omega
def iI (z : Int) : Int32 := Int32.ofInt z
theorem nI_i (a : Nat) : nI a = iI a := by unfold nI iI; exact (Int32.ofInt_eq_ofNat).symm
theorem iI_mul (a b : Int) : iI a * iI b = iI (a * b) := (Int32.ofInt_mul a b).symm
theorem iI_sub (a b : Int) : iI a - iI b = iI (a - b) := (Int32.ofInt_sub a b).symm
theorem iI_toInt {a : Int} (h1 : -2147483648 ≤ a) (h2 : a < 2147483648) : (iI a).toInt = a := Int32.toInt_ofInt_of_le (by simpa using h1) (by simpa using h2)
theorem iI_le {a b : Int} (h1 : -2147483648 ≤ a) (h2 : a < 2147483648) (h3 : -2147483648 ≤ b) (h4 : b < 2147483648) : iI a ≤ iI b ↔ a ≤ b := by
  rw [Int32.le_iff_toInt_le, iI_toInt h1 h2, iI_toInt h3 h4]
theorem iI_n {a : Int} (h : 0 ≤ a) : iI a = nI a.toNat := by
  rw [nI_i, Int.toNat_of_nonneg h]
theorem mF_eq {B : Nat → Int32} {k : Nat} (hk : k ≤ bN B 0) : (nI (suS B (bN B 0)) - nI (suS B k)) * nI k - nI (suS B k) * (nI (bN B 0) - nI k) = iI (fF B k) := by
  rw [pk_sub (suS_mono hk), pk_sub hk, nI_i, nI_i, nI_i, nI_i, iI_mul, iI_mul, iI_sub]
  rfl
theorem c_Book_moreFrom {n : Nat} (hn : 2 ≤ n) {h : xh} {b : Nat} {B : Nat → Int32} (H : Bk h b B) {k : Nat} (hk : k ≤ bN B 0) {Q : Int32 → xh → Prop} (hQ : Q (iI (fF B k)) h) : xci (xMC n) 64 [.ref b, .int (nI k)] h Q := by
  obtain ⟨n, rfl⟩ := xsucc (show 1 ≤ n by omega)
  refine w_Book_moreFrom ⟨H.s, c_Book_seenAheadOf (by omega) H hk rfl ⟨H.s, c_Book_seenAheadOf (by omega) H (Nat.le_refl _) H.n ⟨H.s, ?_⟩⟩⟩
  rw [H.n, mF_eq hk]
  exact hQ
/-- the best night so far, 0 for none -/
def dcd (B : Nat → Int32) (b k : Nat) : Prop := if b = 0 then ¬ fF B k ≤ 0 else ¬ fF B k * ((b * (bN B 0 - b) : Nat) : Int) ≤ fF B b * ((k * (bN B 0 - k) : Nat) : Int)
def dW (B : Nat → Int32) : Nat → Nat
  | 0 => 0
  | k + 1 => if k = 0 then 0 else if (if dW B k = 0 then ¬ fF B k ≤ 0 else ¬ fF B k * ((dW B k * (bN B 0 - dW B k) : Nat) : Int) ≤ fF B (dW B k) * ((k * (bN B 0 - k) : Nat) : Int)) then k else dW B k
theorem dW_lt (B : Nat → Int32) : ∀ k, dW B (k + 1) ≤ k
  | 0 => Nat.le_refl _
  | k + 1 => by
    have := dW_lt B k
    rw [dW.eq_def]
    dsimp only
    rw [if_neg (by omega)]
    split <;> split <;> omega
theorem dW_p {B : Nat → Int32} {k : Nat} (hk : 1 ≤ k) (h : dcd B (dW B k) k) : dW B (k + 1) = k := by
  unfold dcd at h
  rw [dW.eq_def]
  dsimp only
  rw [if_neg (by omega), if_pos h]
theorem dW_n {B : Nat → Int32} {k : Nat} (hk : 1 ≤ k) (h : ¬ dcd B (dW B k) k) : dW B (k + 1) = dW B k := by
  unfold dcd at h
  rw [dW.eq_def]
  dsimp only
  rw [if_neg (by omega), if_neg h]
theorem dW_le {B : Nat → Int32} {k : Nat} (hk : 1 ≤ k) : dW B k < k := by
  obtain ⟨m, rfl⟩ : ∃ m, k = m + 1 := ⟨k - 1, by omega⟩
  have := dW_lt B m
  omega
theorem dW_fp {B : Nat → Int32} : ∀ k, k < bN B 0 + 1 → dW B k ≠ 0 → 0 < fF B (dW B k)
  | 0, _, h => absurd rfl h
  | k + 1, hk, h => by
    by_cases h0 : k = 0
    · subst h0; exact absurd rfl h
    · by_cases hd : dcd B (dW B k) k
      · rw [dW_p (by omega) hd]
        unfold dcd at hd
        by_cases hz : dW B k = 0
        · rw [if_pos hz] at hd
          omega
        · rw [if_neg hz] at hd
          have p := dW_fp k (by omega) hz
          have q : 0 < ((k * (bN B 0 - k) : Nat) : Int) := by
            have : 0 < k * (bN B 0 - k) := Nat.mul_pos (by omega) (by omega)
            omega
          have r := Int.mul_pos p q
          by_cases hf : 0 < fF B k
          · exact hf
          · exfalso
            have s := Int.mul_nonneg (show 0 ≤ -fF B k by omega) (show 0 ≤ ((dW B k * (bN B 0 - dW B k) : Nat) : Int) by omega)
            rw [Int.neg_mul] at s
            omega
      · rw [dW_n (by omega) hd] at h ⊢
        exact dW_fp k (by omega) h
def dwI (b : Nat) : Int32 := if b = 0 then -1 else nI b
theorem pr_b {a b c : Nat} {x : Int} (h1 : -9900 ≤ x ∧ x ≤ 9900) (ha : a ≤ 10) (hb : b ≤ 10) (hc : c = a * b) : -990000 ≤ x * (c : Int) ∧ x * (c : Int) ≤ 990000 := by
  have h2 : c ≤ 100 := by rw [hc]; exact Nat.mul_le_mul ha hb
  have h3 : (x * (c : Int)).natAbs ≤ 9900 * 100 := by
    rw [Int.natAbs_mul]
    exact Nat.mul_le_mul (by omega) (by omega)
  omega
/-- the test of the class and that of the reference -/
theorem dcd_c {B : Nat → Int32} (ok : BkOK B) {b k : Nat} (hb : b < bN B 0) (hk : k < bN B 0) (hb0 : b ≠ 0) : (iI (fF B k) * (nI b * (nI (bN B 0) - nI b)) ≤ iI (fF B b) * nI k * (nI (bN B 0) - nI k)) ↔ ¬ dcd B b k := by
  have n10 := ok.2.1
  unfold dcd
  rw [if_neg hb0, pk_sub (by omega), pk_sub (by omega), Int32.mul_assoc, pk_mul, pk_mul, nI_i, nI_i, iI_mul, iI_mul]
  have h1 := pr_b (fF_b ok (k := k) (by omega)) (a := b) (b := bN B 0 - b) (by omega) (by omega) rfl
  have h2 := pr_b (fF_b ok (k := b) (by omega)) (a := k) (b := bN B 0 - k) (by omega) (by omega) rfl
  rw [iI_le (by omega) (by omega) (by omega) (by omega)]
  exact (Classical.not_not).symm
theorem dcd_0 {B : Nat → Int32} (ok : BkOK B) {k : Nat} (hk : k < bN B 0) : iI (fF B k) ≤ 0 ↔ ¬ dcd B 0 k := by
  have h1 := fF_b ok (k := k) (by omega)
  unfold dcd
  rw [if_pos rfl, show (0 : Int32) = iI 0 from rfl, iI_le (by omega) (by omega) (by omega) (by omega)]
  exact (Classical.not_not).symm
theorem c_Book_doorway {n : Nat} (hn : 3 ≤ n) {h : xh} {b : Nat} {B : Nat → Int32} (H : Bk h b B) {Q : Int32 → xh → Prop} (hQ : Q (dwI (dW B (bN B 0))) h) : xci (xMC n) 63 [.ref b] h Q := by
  obtain ⟨n, rfl⟩ := xsucc (show 1 ≤ n by omega)
  have n10 := H.n10
  have key : ∀ d i, i + d = bN B 0 → 1 ≤ i → ∀ o3 o4 : Option Value, K_Book_doorway n Q 4 [some (.ref b), some (.int (dwI (dW B i))), some (.int (nI i)), o3, o4] [] h := by
    intro d
    induction d with
    | zero =>
      intro i hi _ o3 o4
      have : i = bN B 0 := by omega
      subst this
      refine b_Book_doorway_4 ⟨H.s, ?_⟩
      rw [H.n]
      exact ⟨fun _ => hQ, fun z => absurd (Int32.le_refl _) z⟩
    | succ d ih =>
      intro i hi h1 o3 o4
      refine b_Book_doorway_4 ⟨H.s, ?_⟩
      rw [H.n]
      refine ⟨fun z => absurd z (nI_ge (by omega) (by omega)), fun _ => ?_⟩
      have ih' := ih (i + 1) (by omega) (by omega)
      have lt := dW_le (B := B) h1
      by_cases hz : dW B i = 0
      · rw [hz]
        refine ⟨fun z => absurd z (by decide), fun _ => b_Book_doorway_25 ⟨fun z => absurd z (by decide), fun _ => b_Book_doorway_42 ⟨H.s, c_Book_moreFrom (by omega) H (k := i) (by omega) ⟨H.s, ?_⟩⟩⟩⟩
        rw [Int32.mul_one, Int32.zero_mul, Int32.zero_mul, dcd_0 H.ok (by omega), nI_1]
        refine ⟨fun z => ?_, fun z => ?_⟩
        · rw [dW_n h1 (by rw [hz]; exact z), hz] at ih'
          exact ih' _ _
        · rw [dW_p h1 (by rw [hz]; exact Classical.not_not.mp z)] at ih'
          unfold dwI at ih'
          rw [if_neg (by omega)] at ih'
          exact ih' _ _
      · have e : dwI (dW B i) = nI (dW B i) := if_neg hz
        rw [e]
        refine ⟨fun _ => c_Book_moreFrom (by omega) H (k := dW B i) (by omega) (b_Book_doorway_25 ⟨fun _ => ⟨H.s, b_Book_doorway_42 ⟨H.s, c_Book_moreFrom (by omega) H (k := i) (by omega) ⟨H.s, ?_⟩⟩⟩, fun z => absurd (nI_pos' (by omega)) z⟩), fun z => absurd (nI_pos' (by omega)) z⟩
        rw [H.n, dcd_c H.ok (by omega) (by omega) hz, nI_1]
        refine ⟨fun z => ?_, fun z => ?_⟩
        · rw [dW_n h1 z, e] at ih'
          exact ih' _ _
        · rw [dW_p h1 (Classical.not_not.mp z)] at ih'
          unfold dwI at ih'
          rw [if_neg (by omega)] at ih'
          exact ih' _ _
  refine w_Book_doorway ?_
  by_cases hz : bN B 0 = 0
  · refine b_Book_doorway_4 ⟨H.s, ?_⟩
    rw [H.n, hz]
    rw [hz] at hQ
    exact ⟨fun _ => hQ, fun z => absurd (by decide) z⟩
  · exact key (bN B 0 - 1) 1 (by omega) (by omega) none none
def sDif (B : Nat → Int32) (un : Int32) : Int32 := if dW B (bN B 0) = 0 then -1 else (lN (gpt (fF B (dW B (bN B 0))).toNat (dW B (bN B 0) * (bN B 0 - dW B (bN B 0))) un)).toInt32
theorem dif_pre {B : Nat → Int32} (ok : BkOK B) (hz : ¬ dW B (bN B 0) = 0) : dW B (bN B 0) < bN B 0 ∧ (iI (fF B (dW B (bN B 0)))).toInt64 = lN (fF B (dW B (bN B 0))).toNat ∧ (nI (dW B (bN B 0)) * (nI (bN B 0) - nI (dW B (bN B 0)))).toInt64 = lN (dW B (bN B 0) * (bN B 0 - dW B (bN B 0))) ∧ (fF B (dW B (bN B 0))).toNat < 2 ^ 63 ∧ dW B (bN B 0) * (bN B 0 - dW B (bN B 0)) < 2 ^ 63 ∧ dW B (bN B 0) * (bN B 0 - dW B (bN B 0)) ≠ 0 := by
  have n10 := ok.2.1
  have h0 : bN B 0 ≠ 0 := fun e => hz (by rw [e]; rfl)
  have lt := dW_le (B := B) (k := bN B 0) (by omega)
  have p := dW_fp (B := B) (bN B 0) (by omega) hz
  have q := fF_b ok (k := dW B (bN B 0)) (by omega)
  have m : dW B (bN B 0) * (bN B 0 - dW B (bN B 0)) ≤ 10 * 10 := Nat.mul_le_mul (by omega) (by omega)
  have mp : 0 < dW B (bN B 0) * (bN B 0 - dW B (bN B 0)) := Nat.mul_pos (by omega) (by omega)
  refine ⟨lt, ?_, ?_, by omega, by omega, by omega⟩
  · rw [iI_n (by omega), nI_l (by omega)]
  · rw [pk_sub (by omega), pk_mul, nI_l (by omega)]
theorem c_Book_doorwayDifference {n : Nat} (hn : 4 ≤ n) {h : xh} {b : Nat} {B : Nat → Int32} (H : Bk h b B) {un : Int32} {Q : Int32 → xh → Prop} (hQ : Q (sDif B un) h) : xci (xMC n) 66 [.ref b, .int un] h Q := by
  obtain ⟨n, rfl⟩ := xsucc (show 1 ≤ n by omega)
  have n10 := H.n10
  refine w_Book_doorwayDifference ⟨H.s, c_Book_doorway (by omega) H ?_⟩
  unfold sDif at hQ
  by_cases hz : dW B (bN B 0) = 0
  · rw [if_pos hz] at hQ
    rw [hz]
    exact ⟨fun z => absurd z (by decide), fun _ => hQ⟩
  · rw [if_neg hz] at hQ
    obtain ⟨lt, e1, e2, l1, l2, ne⟩ := dif_pre H.ok hz
    have e : dwI (dW B (bN B 0)) = nI (dW B (bN B 0)) := if_neg hz
    rw [e]
    refine ⟨fun _ => ⟨H.s, c_Book_moreFrom (by omega) H (by omega) ⟨H.s, ?_⟩⟩, fun z => absurd (nI_pos' (by omega)) z⟩
    rw [H.n, e1, e2]
    exact c_Fraction_part (by omega) l1 l2 hQ
def sHeld (B : Nat → Int32) (w : Int32) : Int32 := if w = 0 then nI (unl B (bN B 0)) else if w = 1 then sHel B 0 else if w = 2 then sHel B 1 else if w = 3 then dwI (dW B (bN B 0)) else if w = 4 then sDif B 0 else if w = 5 then sDif B 1 else -2
theorem c_So_held {n : Nat} (hn : 5 ≤ n) {h : xh} (L : Lay h) {c : Nat} (W : BkC h c) {p w : Int32} {Q : Int32 → xh → Prop} (h1 : ∀ j, j < c → p = nI j → Q (sHeld (mB h j) w) h) (h0 : (∀ j, j < c → ¬ p = nI j) → Q (-2) h) : xci (xMC n) 183 [.ref 64, .int p, .int w] h Q := by
  obtain ⟨n, rfl⟩ := xsucc (show 1 ≤ n by omega)
  refine w_So_held ⟨L.s 64, 65, L.r 64 0 65, L.s 65, c_Told_bookAt (by omega) L W.1 W.2.1 (fun j hj e => ⟨fun a2 ea => ?_, fun z => nomatch z⟩) (fun z => ⟨fun a2 ea => (nomatch ea), fun _ => h0 z⟩)⟩
  cases ea
  have H := W.2.2 j hj
  have hQ := h1 j hj e
  generalize mB h j = B at H hQ
  unfold sHeld at hQ
  refine ⟨fun z => ?_, fun z0 => ⟨fun z => ?_, fun z1 => ⟨fun z => ?_, fun z2 => ⟨fun z => ?_, fun z3 => ⟨fun z => ?_, fun z4 => ⟨fun z => ?_, fun z5 => ?_⟩⟩⟩⟩⟩⟩
  · rw [if_pos z] at hQ
    exact ⟨H.s, c_Book_unlikeAheadOf (by omega) H (Nat.le_refl _) H.n hQ⟩
  · subst z
    rw [if_neg z0, if_pos rfl] at hQ
    exact b_So_held_65 ⟨fun _ => ⟨H.s, c_Book_heldInAll (by omega) H hQ⟩, fun z => absurd z (by decide)⟩
  · subst z
    rw [if_neg z0, if_neg z1, if_pos rfl] at hQ
    exact b_So_held_65 ⟨fun z => absurd rfl z, fun _ => ⟨H.s, c_Book_heldInAll (by omega) H hQ⟩⟩
  · rw [if_neg z0, if_neg z1, if_neg z2, if_pos z] at hQ
    exact ⟨H.s, c_Book_doorway (by omega) H hQ⟩
  · subst z
    rw [if_neg z0, if_neg z1, if_neg z2, if_neg z3, if_pos rfl] at hQ
    exact b_So_held_85 ⟨fun _ => ⟨H.s, c_Book_doorwayDifference (by omega) H hQ⟩, fun z => absurd z (by decide)⟩
  · subst z
    rw [if_neg z0, if_neg z1, if_neg z2, if_neg z3, if_neg z4, if_pos rfl] at hQ
    exact b_So_held_85 ⟨fun z => absurd rfl z, fun _ => ⟨H.s, c_Book_doorwayDifference (by omega) H hQ⟩⟩
  · rwa [if_neg z0, if_neg z1, if_neg z2, if_neg z3, if_neg z4, if_neg z5] at hQ
