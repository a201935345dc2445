/-! BITS of small sets -/
theorem bt_has : ∀ V, V < 512 → ∀ a, a < 9 → (nI V >>> (nI a &&& 31)) &&& 1 = if V.testBit a then (1 : Int32) else 0 := by decide +kernel
theorem bt_shl : ∀ a, a < 30 → (1 : Int32) <<< (nI a &&& 31) = nI (2 ^ a) := by decide +kernel
theorem nI_or (a b : Nat) : nI a ||| nI b = nI (a ||| b) := by
  unfold nI
  apply Int32.toBitVec_inj.mp
  simp [Int32.toBitVec_or, BitVec.ofNat_or]
theorem nI_and (a b : Nat) : nI a &&& nI b = nI (a &&& b) := by
  unfold nI
  apply Int32.toBitVec_inj.mp
  simp [Int32.toBitVec_and, BitVec.ofNat_and]
theorem nI_xor (a b : Nat) : nI a ^^^ nI b = nI (a ^^^ b) := by
  unfold nI
  apply Int32.toBitVec_inj.mp
  simp [Int32.toBitVec_xor, BitVec.ofNat_xor]
theorem bt_not (x y : Int32) : x &&& (y ^^^ (-1)) = x ^^^ (x &&& y) := by
  apply Int32.toBitVec_inj.mp
  have e : (-1 : Int32).toBitVec = BitVec.allOnes 32 := by decide
  rw [Int32.toBitVec_and, Int32.toBitVec_xor, Int32.toBitVec_xor, Int32.toBitVec_and, e]
  apply BitVec.eq_of_getLsbD_eq
  intro i hi
  simp only [BitVec.getLsbD_and, BitVec.getLsbD_xor, BitVec.getLsbD_allOnes, hi, decide_true]
  cases x.toBitVec.getLsbD i <;> cases y.toBitVec.getLsbD i <;> rfl
/-- a set without another -/
def sdf (V W : Nat) : Nat := V ^^^ (V &&& W)
theorem bt_sdf (V W : Nat) : nI V &&& (nI W ^^^ (-1)) = nI (sdf V W) := by
  rw [bt_not, nI_and, nI_xor]; rfl
theorem sdf_bit (V W i : Nat) : (sdf V W).testBit i = (V.testBit i && !W.testBit i) := by
  unfold sdf
  simp only [Nat.testBit_xor, Nat.testBit_and]
  cases V.testBit i <;> cases W.testBit i <;> rfl
theorem bt_clr (V : Nat) {a : Nat} (ha : a < 30) : nI V &&& (((1 : Int32) <<< (nI a &&& 31)) ^^^ (-1)) = nI (sdf V (2 ^ a)) := by
  rw [bt_shl a ha, bt_sdf]
theorem bt_set (V : Nat) {a : Nat} (ha : a < 30) : nI V ||| ((1 : Int32) <<< (nI a &&& 31)) = nI (V ||| 2 ^ a) := by
  rw [bt_shl a ha, nI_or]
theorem or_lt {V W k : Nat} (h1 : V < 2 ^ k) (h2 : W < 2 ^ k) : V ||| W < 2 ^ k := Nat.or_lt_two_pow h1 h2
theorem orb_lt {V a k : Nat} (h1 : V < 2 ^ k) (h2 : a < k) : V ||| 2 ^ a < 2 ^ k := Nat.or_lt_two_pow h1 (Nat.pow_lt_pow_right (by decide) h2)
theorem sdf_lt {V W k : Nat} (h1 : V < 2 ^ k) : sdf V W < 2 ^ k := Nat.xor_lt_two_pow h1 (Nat.lt_of_le_of_lt Nat.and_le_left h1)
theorem or_bit (V a i : Nat) : (V ||| 2 ^ a).testBit i = (V.testBit i || decide (a = i)) := by
  rw [Nat.testBit_or, Nat.testBit_two_pow]
/-- how many of the first k bits -/
def pcn : Nat → Nat → Nat
  | 0, _ => 0
  | k + 1, V => pcn k V + (if V.testBit k then 1 else 0)
theorem pcn_le (k V : Nat) : pcn k V ≤ k := by
  induction k with
  | zero => exact Nat.le_refl _
  | succ k ih => unfold pcn; split <;> omega
theorem pcn_or {V a : Nat} (h : V.testBit a = false) : ∀ k, pcn k (V ||| 2 ^ a) = pcn k V + if a < k then 1 else 0
  | 0 => rfl
  | k + 1 => by
    unfold pcn
    rw [pcn_or h k, or_bit]
    by_cases e : a = k
    · subst e
      rw [h]
      simp
    · have : (V.testBit k || decide (a = k)) = V.testBit k := by simp [e]
      rw [this]
      split <;> split <;> split <;> omega
theorem pcn_full {V : Nat} : ∀ k, pcn k V = k → ∀ a, a < k → V.testBit a = true
  | 0, _, a, h => absurd h (Nat.not_lt_zero a)
  | k + 1, e, a, h => by
    unfold pcn at e
    have l := pcn_le k V
    by_cases hk : V.testBit k = true
    · rw [if_pos hk] at e
      by_cases ea : a = k
      · subst ea; exact hk
      · exact pcn_full k (by omega) a (by omega)
    · rw [if_neg hk] at e
      omega
theorem c_Mo_has {n : Nat} (hn : 1 ≤ n) {h : xh} {V a : Nat} (hV : V < 512) (ha : a < 9) {Q : Int32 → xh → Prop} (hQ : Q (if V.testBit a then 1 else 0) h) : xci (xMC n) 286 [.int (nI V), .int (nI a)] h Q := by
  obtain ⟨n, rfl⟩ := xsucc hn
  refine w_Mo_has ?_
  rw [bt_has V hV a ha]
  cases hb : V.testBit a
  · rw [hb] at hQ
    exact ⟨fun _ => hQ, fun z => absurd z (by decide)⟩
  · rw [hb] at hQ
    exact ⟨fun z => absurd rfl z, fun _ => hQ⟩
theorem c_Mo_ones {n : Nat} (hn : 2 ≤ n) {h : xh} {V : Nat} (hV : V < 512) {Q : Int32 → xh → Prop} (hQ : Q (nI (pcn 9 V)) h) : xci (xMC n) 331 [.int (nI V)] h Q := by
  obtain ⟨n, rfl⟩ := xsucc (show 1 ≤ n by omega)
  have key : ∀ d i, i + d = 9 → K_Mo_ones n Q 4 [some (.int (nI V)), some (.int (nI (pcn i V))), some (.int (nI i))] [] h := by
    intro d
    induction d with
    | zero =>
      intro i hi
      have : i = 9 := by omega
      subst this
      exact b_Mo_ones_4 ⟨fun _ => hQ, fun z => absurd (Int32.le_refl _) z⟩
    | succ d ih =>
      intro i hi
      refine b_Mo_ones_4 ⟨fun c => absurd c (nI_ge (a := i) (b := 9) (by omega) (by decide)), fun _ => c_Mo_has (by omega) hV (by omega) ?_⟩
      have ih' := ih (i + 1) (by omega)
      unfold pcn at ih'
      cases hb : V.testBit i
      · rw [hb] at ih'
        refine ⟨fun _ => ?_, fun z => absurd rfl z⟩
        have e : nI (pcn i V) + (0 : Int32) = nI (pcn i V + 0) := nI_add _ 0
        rw [e, nI_1]
        exact ih'
      · rw [hb] at ih'
        refine ⟨fun z => absurd z (by decide), fun _ => ?_⟩
        rw [nI_1, nI_1]
        exact ih'
  exact w_Mo_ones (key 9 0 (by omega))
def btC (p1 : Int32) : Int32 := ((((((((p1 - ((p1.toUInt32 >>> ((1 : Int32).toUInt32 &&& Int32.toUInt32 31)).toInt32 &&& (1431655765 : Int32))) &&& (858993459 : Int32)) + (((p1 - ((p1.toUInt32 >>> ((1 : Int32).toUInt32 &&& Int32.toUInt32 31)).toInt32 &&& (1431655765 : Int32))).toUInt32 >>> ((2 : Int32).toUInt32 &&& Int32.toUInt32 31)).toInt32 &&& (858993459 : Int32))) + ((((p1 - ((p1.toUInt32 >>> ((1 : Int32).toUInt32 &&& Int32.toUInt32 31)).toInt32 &&& (1431655765 : Int32))) &&& (858993459 : Int32)) + (((p1 - ((p1.toUInt32 >>> ((1 : Int32).toUInt32 &&& Int32.toUInt32 31)).toInt32 &&& (1431655765 : Int32))).toUInt32 >>> ((2 : Int32).toUInt32 &&& Int32.toUInt32 31)).toInt32 &&& (858993459 : Int32))).toUInt32 >>> ((4 : Int32).toUInt32 &&& Int32.toUInt32 31)).toInt32) &&& (252645135 : Int32)) + ((((((p1 - ((p1.toUInt32 >>> ((1 : Int32).toUInt32 &&& Int32.toUInt32 31)).toInt32 &&& (1431655765 : Int32))) &&& (858993459 : Int32)) + (((p1 - ((p1.toUInt32 >>> ((1 : Int32).toUInt32 &&& Int32.toUInt32 31)).toInt32 &&& (1431655765 : Int32))).toUInt32 >>> ((2 : Int32).toUInt32 &&& Int32.toUInt32 31)).toInt32 &&& (858993459 : Int32))) + ((((p1 - ((p1.toUInt32 >>> ((1 : Int32).toUInt32 &&& Int32.toUInt32 31)).toInt32 &&& (1431655765 : Int32))) &&& (858993459 : Int32)) + (((p1 - ((p1.toUInt32 >>> ((1 : Int32).toUInt32 &&& Int32.toUInt32 31)).toInt32 &&& (1431655765 : Int32))).toUInt32 >>> ((2 : Int32).toUInt32 &&& Int32.toUInt32 31)).toInt32 &&& (858993459 : Int32))).toUInt32 >>> ((4 : Int32).toUInt32 &&& Int32.toUInt32 31)).toInt32) &&& (252645135 : Int32)).toUInt32 >>> ((8 : Int32).toUInt32 &&& Int32.toUInt32 31)).toInt32) + (((((((p1 - ((p1.toUInt32 >>> ((1 : Int32).toUInt32 &&& Int32.toUInt32 31)).toInt32 &&& (1431655765 : Int32))) &&& (858993459 : Int32)) + (((p1 - ((p1.toUInt32 >>> ((1 : Int32).toUInt32 &&& Int32.toUInt32 31)).toInt32 &&& (1431655765 : Int32))).toUInt32 >>> ((2 : Int32).toUInt32 &&& Int32.toUInt32 31)).toInt32 &&& (858993459 : Int32))) + ((((p1 - ((p1.toUInt32 >>> ((1 : Int32).toUInt32 &&& Int32.toUInt32 31)).toInt32 &&& (1431655765 : Int32))) &&& (858993459 : Int32)) + (((p1 - ((p1.toUInt32 >>> ((1 : Int32).toUInt32 &&& Int32.toUInt32 31)).toInt32 &&& (1431655765 : Int32))).toUInt32 >>> ((2 : Int32).toUInt32 &&& Int32.toUInt32 31)).toInt32 &&& (858993459 : Int32))).toUInt32 >>> ((4 : Int32).toUInt32 &&& Int32.toUInt32 31)).toInt32) &&& (252645135 : Int32)) + ((((((p1 - ((p1.toUInt32 >>> ((1 : Int32).toUInt32 &&& Int32.toUInt32 31)).toInt32 &&& (1431655765 : Int32))) &&& (858993459 : Int32)) + (((p1 - ((p1.toUInt32 >>> ((1 : Int32).toUInt32 &&& Int32.toUInt32 31)).toInt32 &&& (1431655765 : Int32))).toUInt32 >>> ((2 : Int32).toUInt32 &&& Int32.toUInt32 31)).toInt32 &&& (858993459 : Int32))) + ((((p1 - ((p1.toUInt32 >>> ((1 : Int32).toUInt32 &&& Int32.toUInt32 31)).toInt32 &&& (1431655765 : Int32))) &&& (858993459 : Int32)) + (((p1 - ((p1.toUInt32 >>> ((1 : Int32).toUInt32 &&& Int32.toUInt32 31)).toInt32 &&& (1431655765 : Int32))).toUInt32 >>> ((2 : Int32).toUInt32 &&& Int32.toUInt32 31)).toInt32 &&& (858993459 : Int32))).toUInt32 >>> ((4 : Int32).toUInt32 &&& Int32.toUInt32 31)).toInt32) &&& (252645135 : Int32)).toUInt32 >>> ((8 : Int32).toUInt32 &&& Int32.toUInt32 31)).toInt32).toUInt32 >>> ((16 : Int32).toUInt32 &&& Int32.toUInt32 31)).toInt32) &&& (63 : Int32))
theorem btC_eq : ∀ V, V < 512 → btC (nI V) = nI (pcn 9 V) := by decide +kernel
theorem c_Integer_bitCount {n : Nat} (hn : 1 ≤ n) {h : xh} {V : Nat} (hV : V < 512) {Q : Int32 → xh → Prop} (hQ : Q (nI (pcn 9 V)) h) : xci (xMC n) 0 [.int (nI V)] h Q := by
  obtain ⟨n, rfl⟩ := xsucc hn
  rw [← btC_eq V hV] at hQ
  exact w_Integer_bitCount hQ
theorem c_Mo_apart {n : Nat} (hn : 1 ≤ n) {h : xh} {x y : Int32} {Q : Int32 → xh → Prop} (hQ : Q (apt x y) h) : xci (xMC n) 262 [.int x, .int y] h Q := by
  obtain ⟨n, rfl⟩ := xsucc hn
  unfold apt at hQ
  refine w_Mo_apart ⟨fun c => ?_, fun c => ?_⟩
  · rwa [if_neg (Int32.not_lt.mpr c)] at hQ
  · rwa [if_pos (Int32.not_le.mp c)] at hQ
/-- the lesser and the greater, as Math has them -/
def mn (x y : Int32) : Int32 := if y < x then y else x
def mx (x y : Int32) : Int32 := if x < y then y else x
theorem c_Mo_lesser {n : Nat} (hn : 1 ≤ n) {h : xh} {x y : Int32} {Q : Int32 → xh → Prop} (hQ : Q (mn x y) h) : xci (xMC n) 267 [.int x, .int y] h Q := by
  obtain ⟨n, rfl⟩ := xsucc hn
  unfold mn at hQ
  refine w_Mo_lesser ⟨fun c => ?_, fun c => ?_⟩
  · by_cases e : y < x
    · rwa [if_pos e] at hQ
    · rw [if_neg e] at hQ
      rwa [Int32.le_antisymm c (Int32.not_lt.mp e)]
  · rwa [if_neg (fun z => c (Int32.le_of_lt z))] at hQ
theorem c_Mo_greater {n : Nat} (hn : 1 ≤ n) {h : xh} {x y : Int32} {Q : Int32 → xh → Prop} (hQ : Q (mx x y) h) : xci (xMC n) 229 [.int x, .int y] h Q := by
  obtain ⟨n, rfl⟩ := xsucc hn
  unfold mx at hQ
  refine w_Mo_greater ⟨fun c => ?_, fun c => ?_⟩
  · by_cases e : x < y
    · rwa [if_pos e] at hQ
    · rw [if_neg e] at hQ
      rwa [Int32.le_antisymm (Int32.not_lt.mp e) c]
  · rwa [if_neg (fun z => c (Int32.le_of_lt z))] at hQ
