/-! THE START: the abstract heap at the law's entry, and the law out of the abstract machine -/
def xtab : List (List Int32) := [[0, 10, 15, 17, 20], [4, 4, 4, 4, 3, 2, 1, 1, 1, 1, 1, 1, 1, 0, 0, 2, 1, 1, 2, 3], [0, 0, 0, 0, 0, 0, 0, 0, 0, 0, 0, 0, 0, 0, 0, 0, 0, 0, 0, 0, 0, 0, 0, 0, 0, 0, 0, 0, 1, 0, 0, 0, 0, 0, 0, 0, 1, 0, 0, 0, 0, 0, 0, 0, 1, 0, 0, 0, 1, 0, 0, 0, 0, 0, 0, 0, 0, 0, 0, 0, 0, 0, 0, 0, 0, 0, 0, 0, 1, 0, 0, 0, 1, 0, 0, 0, 0, 0, 0, 0], [9, 9, 20, 20, 9, 9, 20, 20, 9, 9, 20, 20, 9, 9, 20, 20, 8, 8, 9, 0, 9, 9, 0, 0, 99, 0, 0, 0, 9, 0, 0, 0, 99, 0, 0, 0, 30, 0, 0, 0, 8, 0, 0, 0, 40, 0, 0, 0, 60, 0, 0, 0, 0, 0, 0, 0, 0, 0, 0, 0, 99, 99, 0, 0, 99, 0, 0, 0, 20, 0, 0, 0, 20, 9, 0, 0, 9, 9, 20, 0]]
def xbyt : List (List Int32) := [[115, 111, 99, 107, 115], [103, 108, 111, 118, 101, 115], [98, 97, 103, 115], [101, 118, 101, 110], [99, 114, 111, 119, 100, 101, 100], [101, 109, 112, 116, 121], [108, 97, 115, 116], [102, 111, 108, 108, 111, 119], [104, 111, 109, 101], [115, 111, 117, 112], [112, 97, 99, 101], [99, 111, 108, 100], [116, 97, 108, 107], [100, 114, 105, 118, 101], [108, 97, 100, 108, 101], [119, 97, 105, 116], [114, 101, 116, 117, 114, 110], [110, 105, 103, 104, 116], [97, 115, 107, 101, 100], [115, 104, 111, 101], [102, 111, 111, 116], [104, 105, 100, 101]]
def xsln : List Nat := [5, 6, 4, 4, 7, 5, 4, 6, 4, 4, 4, 4, 4, 5, 5, 4, 6, 5, 5, 4, 4, 4]
def xsix : List Nat := [140, 145, 147, 212, 214, 216, 218, 220, 222, 224, 225, 226, 227, 228, 230, 232, 234, 236, 238, 240, 242, 244]
def xh0 (L : Nat) (xs : Nat → Int32) : xh :=
  (fun k j => if k = 0 then xs j else if k < 5 then (xtab.getD (k - 1) []).getD j 0 else if 32 ≤ k ∧ k < 54 then (xbyt.getD (k - 32) []).getD j 0 else 0,
   fun _ _ => 0,
   fun k j => if (8 ≤ k ∧ k < 30) ∧ j = 0 then some (k + 24) else none,
   fun k => if k = 0 then (20, L) else if k < 5 then (20, (xtab.getD (k - 1) []).length) else if 8 ≤ k ∧ k < 30 then (30, 0) else if 32 ≤ k ∧ k < 54 then (21, xsln.getD (k - 32) 0) else (99, 0),
   64)
def xgn : Jvm.Cond := Jvm.Cond.and given_1 narrow_1
def xsm (i : Nat) : Term := Term.string "SoupNine$Reader" (xsix.getD i 0)
def xtn : List String := ["FIRST_CODE", "NUMBERS", "LOWEST", "HIGHEST"]
theorem xq_t0 : (flatC xgn)[5]? = some (Cond.arrayOf (.static "SoupNine$Reader" (xtn.getD 0 "") "[I") .int) ∧ (flatC xgn)[6]? = some (Cond.eq (.length (.static "SoupNine$Reader" (xtn.getD 0 "") "[I")) (.int (Int32.ofNat (xtab.getD 0 []).length))) := by decide +kernel
theorem xq_e0_0 : ∀ j, j < 5 → (flatC xgn)[([7, 8, 9, 10, 11] : List Nat).getD j 0]? = some (Cond.eq (.elem (.static "SoupNine$Reader" (xtn.getD 0 "") "[I") (.int (Int32.ofNat (0 + j)))) (.int ((xtab.getD 0 []).getD (0 + j) 0))) := by decide +kernel
theorem xq_f0 : ∀ j, j < 5 → Cond.eq (.elem (.static "SoupNine$Reader" (xtn.getD 0 "") "[I") (.int (Int32.ofNat j))) (.int ((xtab.getD 0 []).getD j 0)) ∈ flatC xgn := by
  intro j hj
  have := List.mem_of_getElem? (xq_e0_0 (j - 0) (by omega))
  rw [show 0 + (j - 0) = j by omega] at this
  exact this
theorem xq_t1 : (flatC xgn)[18]? = some (Cond.arrayOf (.static "SoupNine$Reader" (xtn.getD 1 "") "[I") .int) ∧ (flatC xgn)[19]? = some (Cond.eq (.length (.static "SoupNine$Reader" (xtn.getD 1 "") "[I")) (.int (Int32.ofNat (xtab.getD 1 []).length))) := by decide +kernel
theorem xq_e1_0 : ∀ j, j < 20 → (flatC xgn)[([20, 21, 22, 23, 24, 25, 26, 27, 28, 29, 30, 31, 32, 33, 34, 35, 36, 37, 38, 39] : List Nat).getD j 0]? = some (Cond.eq (.elem (.static "SoupNine$Reader" (xtn.getD 1 "") "[I") (.int (Int32.ofNat (0 + j)))) (.int ((xtab.getD 1 []).getD (0 + j) 0))) := by decide +kernel
theorem xq_f1 : ∀ j, j < 20 → Cond.eq (.elem (.static "SoupNine$Reader" (xtn.getD 1 "") "[I") (.int (Int32.ofNat j))) (.int ((xtab.getD 1 []).getD j 0)) ∈ flatC xgn := by
  intro j hj
  have := List.mem_of_getElem? (xq_e1_0 (j - 0) (by omega))
  rw [show 0 + (j - 0) = j by omega] at this
  exact this
theorem xq_t2 : (flatC xgn)[41]? = some (Cond.arrayOf (.static "SoupNine$Reader" (xtn.getD 2 "") "[I") .int) ∧ (flatC xgn)[42]? = some (Cond.eq (.length (.static "SoupNine$Reader" (xtn.getD 2 "") "[I")) (.int (Int32.ofNat (xtab.getD 2 []).length))) := by decide +kernel
theorem xq_e2_0 : ∀ j, j < 20 → (flatC xgn)[([43, 44, 45, 46, 47, 48, 49, 50, 51, 52, 53, 54, 55, 56, 57, 58, 59, 60, 61, 62] : List Nat).getD j 0]? = some (Cond.eq (.elem (.static "SoupNine$Reader" (xtn.getD 2 "") "[I") (.int (Int32.ofNat (0 + j)))) (.int ((xtab.getD 2 []).getD (0 + j) 0))) := by decide +kernel
theorem xq_e2_20 : ∀ j, j < 20 → (flatC xgn)[([63, 64, 65, 66, 67, 68, 69, 70, 71, 72, 73, 74, 75, 76, 77, 78, 79, 80, 81, 82] : List Nat).getD j 0]? = some (Cond.eq (.elem (.static "SoupNine$Reader" (xtn.getD 2 "") "[I") (.int (Int32.ofNat (20 + j)))) (.int ((xtab.getD 2 []).getD (20 + j) 0))) := by decide +kernel
theorem xq_e2_40 : ∀ j, j < 20 → (flatC xgn)[([83, 84, 85, 86, 87, 88, 89, 90, 91, 92, 93, 94, 95, 96, 97, 98, 99, 100, 101, 102] : List Nat).getD j 0]? = some (Cond.eq (.elem (.static "SoupNine$Reader" (xtn.getD 2 "") "[I") (.int (Int32.ofNat (40 + j)))) (.int ((xtab.getD 2 []).getD (40 + j) 0))) := by decide +kernel
theorem xq_e2_60 : ∀ j, j < 20 → (flatC xgn)[([103, 104, 105, 106, 107, 108, 109, 110, 111, 112, 113, 114, 115, 116, 117, 118, 119, 120, 121, 122] : List Nat).getD j 0]? = some (Cond.eq (.elem (.static "SoupNine$Reader" (xtn.getD 2 "") "[I") (.int (Int32.ofNat (60 + j)))) (.int ((xtab.getD 2 []).getD (60 + j) 0))) := by decide +kernel
theorem xq_f2 : ∀ j, j < 80 → Cond.eq (.elem (.static "SoupNine$Reader" (xtn.getD 2 "") "[I") (.int (Int32.ofNat j))) (.int ((xtab.getD 2 []).getD j 0)) ∈ flatC xgn := by
  intro j hj
  by_cases h0 : j < 20
  · have := List.mem_of_getElem? (xq_e2_0 (j - 0) (by omega))
    rw [show 0 + (j - 0) = j by omega] at this
    exact this
  by_cases h20 : j < 40
  · have := List.mem_of_getElem? (xq_e2_20 (j - 20) (by omega))
    rw [show 20 + (j - 20) = j by omega] at this
    exact this
  by_cases h40 : j < 60
  · have := List.mem_of_getElem? (xq_e2_40 (j - 40) (by omega))
    rw [show 40 + (j - 40) = j by omega] at this
    exact this
  have := List.mem_of_getElem? (xq_e2_60 (j - 60) (by omega))
  rw [show 60 + (j - 60) = j by omega] at this
  exact this
theorem xq_t3 : (flatC xgn)[124]? = some (Cond.arrayOf (.static "SoupNine$Reader" (xtn.getD 3 "") "[I") .int) ∧ (flatC xgn)[125]? = some (Cond.eq (.length (.static "SoupNine$Reader" (xtn.getD 3 "") "[I")) (.int (Int32.ofNat (xtab.getD 3 []).length))) := by decide +kernel
theorem xq_e3_0 : ∀ j, j < 20 → (flatC xgn)[([126, 127, 128, 129, 130, 131, 132, 133, 134, 135, 136, 137, 138, 139, 140, 141, 142, 143, 144, 145] : List Nat).getD j 0]? = some (Cond.eq (.elem (.static "SoupNine$Reader" (xtn.getD 3 "") "[I") (.int (Int32.ofNat (0 + j)))) (.int ((xtab.getD 3 []).getD (0 + j) 0))) := by decide +kernel
theorem xq_e3_20 : ∀ j, j < 20 → (flatC xgn)[([146, 147, 148, 149, 150, 151, 152, 153, 154, 155, 156, 157, 158, 159, 160, 161, 162, 163, 164, 165] : List Nat).getD j 0]? = some (Cond.eq (.elem (.static "SoupNine$Reader" (xtn.getD 3 "") "[I") (.int (Int32.ofNat (20 + j)))) (.int ((xtab.getD 3 []).getD (20 + j) 0))) := by decide +kernel
theorem xq_e3_40 : ∀ j, j < 20 → (flatC xgn)[([166, 167, 168, 169, 170, 171, 172, 173, 174, 175, 176, 177, 178, 179, 180, 181, 182, 183, 184, 185] : List Nat).getD j 0]? = some (Cond.eq (.elem (.static "SoupNine$Reader" (xtn.getD 3 "") "[I") (.int (Int32.ofNat (40 + j)))) (.int ((xtab.getD 3 []).getD (40 + j) 0))) := by decide +kernel
theorem xq_e3_60 : ∀ j, j < 20 → (flatC xgn)[([186, 187, 188, 189, 190, 191, 192, 193, 194, 195, 196, 197, 198, 199, 200, 201, 202, 203, 204, 205] : List Nat).getD j 0]? = some (Cond.eq (.elem (.static "SoupNine$Reader" (xtn.getD 3 "") "[I") (.int (Int32.ofNat (60 + j)))) (.int ((xtab.getD 3 []).getD (60 + j) 0))) := by decide +kernel
theorem xq_f3 : ∀ j, j < 80 → Cond.eq (.elem (.static "SoupNine$Reader" (xtn.getD 3 "") "[I") (.int (Int32.ofNat j))) (.int ((xtab.getD 3 []).getD j 0)) ∈ flatC xgn := by
  intro j hj
  by_cases h0 : j < 20
  · have := List.mem_of_getElem? (xq_e3_0 (j - 0) (by omega))
    rw [show 0 + (j - 0) = j by omega] at this
    exact this
  by_cases h20 : j < 40
  · have := List.mem_of_getElem? (xq_e3_20 (j - 20) (by omega))
    rw [show 20 + (j - 20) = j by omega] at this
    exact this
  by_cases h40 : j < 60
  · have := List.mem_of_getElem? (xq_e3_40 (j - 40) (by omega))
    rw [show 40 + (j - 40) = j by omega] at this
    exact this
  have := List.mem_of_getElem? (xq_e3_60 (j - 60) (by omega))
  rw [show 60 + (j - 60) = j by omega] at this
  exact this
theorem xn_tab : ∀ i, i < 4 → Cond.arrayOf (.static "SoupNine$Reader" (xtn.getD i "") "[I") .int ∈ flatC xgn ∧ Cond.eq (.length (.static "SoupNine$Reader" (xtn.getD i "") "[I")) (.int (Int32.ofNat (xtab.getD i []).length)) ∈ flatC xgn ∧ ∀ j, j < (xtab.getD i []).length → Cond.eq (.elem (.static "SoupNine$Reader" (xtn.getD i "") "[I") (.int (Int32.ofNat j))) (.int ((xtab.getD i []).getD j 0)) ∈ flatC xgn
  | 0, _ => ⟨List.mem_of_getElem? xq_t0.1, List.mem_of_getElem? xq_t0.2, xq_f0⟩
  | 1, _ => ⟨List.mem_of_getElem? xq_t1.1, List.mem_of_getElem? xq_t1.2, xq_f1⟩
  | 2, _ => ⟨List.mem_of_getElem? xq_t2.1, List.mem_of_getElem? xq_t2.2, xq_f2⟩
  | 3, _ => ⟨List.mem_of_getElem? xq_t3.1, List.mem_of_getElem? xq_t3.2, xq_f3⟩
  | _ + 4, h => absurd h (by omega)
theorem xn_tab2 : ∀ i, i < 4 → Cond.laysStatic "SoupNine$Reader" (xtn.getD i "") "[I" ∈ lw_tbl := by decide +kernel
theorem xn_ini : Cond.initialized "SoupNine$Reader" ∈ lw_tbl ∧ Cond.initialized "java/lang/String" ∈ lw_tbl ∧ Cond.initialized "jdk/internal/util/Preconditions" ∈ lw_tbl ∧ Cond.laysStatic "java/lang/String" "COMPACT_STRINGS" "Z" ∈ lw_tbl ∧ Cond.laysStatic "jdk/internal/util/Preconditions" "SIOOBE_FORMATTER" "Ljava/util/function/BiFunction;" ∈ lw_tbl := by decide +kernel
theorem xq_m : (flatC xgn)[12]? = some (Cond.eq (.static "java/lang/String" "COMPACT_STRINGS" "Z") (.int 1)) ∧ (flatC xgn)[13]? = some (Cond.isRef (.static "jdk/internal/util/Preconditions" "SIOOBE_FORMATTER" "Ljava/util/function/BiFunction;")) := by decide +kernel
theorem xn_com : Cond.eq (.static "java/lang/String" "COMPACT_STRINGS" "Z") (.int 1) ∈ flatC xgn ∧ Cond.isRef (.static "jdk/internal/util/Preconditions" "SIOOBE_FORMATTER" "Ljava/util/function/BiFunction;") ∈ flatC xgn := ⟨List.mem_of_getElem? xq_m.1, List.mem_of_getElem? xq_m.2⟩
theorem xq_a0 : (flatC xgn)[601]? = some (Cond.exactly (xsm 0) "java/lang/String") ∧ (flatC xgn)[602]? = some (Cond.eq (.field (xsm 0) "java/lang/String" "coder" "B") (.int 0)) ∧ (flatC xgn)[603]? = some (Cond.arrayOf (.field (xsm 0) "java/lang/String" "value" "[B") .byte) ∧ (flatC xgn)[604]? = some (Cond.eq (.length (.field (xsm 0) "java/lang/String" "value" "[B")) (.int (Int32.ofNat (xsln.getD 0 0)))) := by decide +kernel
theorem xq_b0 : ∀ j, j < 5 → (flatC xgn)[([605, 606, 607, 608, 609] : List Nat).getD j 0]? = some (Cond.eq (.elem (.field (xsm 0) "java/lang/String" "value" "[B") (.int (Int32.ofNat j))) (.int ((xbyt.getD 0 []).getD j 0))) := by decide +kernel
theorem xq_d0 : ∀ j, j < 0 → Cond.not (Cond.eq (xsm 0) (xsm j)) ∈ flatC xgn ∨ Cond.not (Cond.eq (xsm j) (xsm 0)) ∈ flatC xgn := fun j h => absurd h (by omega)
theorem xq_a1 : (flatC xgn)[629]? = some (Cond.exactly (xsm 1) "java/lang/String") ∧ (flatC xgn)[630]? = some (Cond.eq (.field (xsm 1) "java/lang/String" "coder" "B") (.int 0)) ∧ (flatC xgn)[631]? = some (Cond.arrayOf (.field (xsm 1) "java/lang/String" "value" "[B") .byte) ∧ (flatC xgn)[632]? = some (Cond.eq (.length (.field (xsm 1) "java/lang/String" "value" "[B")) (.int (Int32.ofNat (xsln.getD 1 0)))) := by decide +kernel
theorem xq_b1 : ∀ j, j < 6 → (flatC xgn)[([633, 634, 635, 636, 637, 638] : List Nat).getD j 0]? = some (Cond.eq (.elem (.field (xsm 1) "java/lang/String" "value" "[B") (.int (Int32.ofNat j))) (.int ((xbyt.getD 1 []).getD j 0))) := by decide +kernel
theorem xq_c1 : ∀ j, j < 1 → (flatC xgn)[(([1317] : List Nat).getD j 0) / 2]? = some (if ([1317] : List Nat).getD j 0 % 2 = 0 then Cond.not (Cond.eq (xsm 1) (xsm j)) else Cond.not (Cond.eq (xsm j) (xsm 1))) := by decide +kernel
theorem xq_d1 : ∀ j, j < 1 → Cond.not (Cond.eq (xsm 1) (xsm j)) ∈ flatC xgn ∨ Cond.not (Cond.eq (xsm j) (xsm 1)) ∈ flatC xgn := by
  intro j hj
  have := List.mem_of_getElem? (xq_c1 j hj)
  split at this
  · exact Or.inl this
  · exact Or.inr this
theorem xq_a2 : (flatC xgn)[659]? = some (Cond.exactly (xsm 2) "java/lang/String") ∧ (flatC xgn)[660]? = some (Cond.eq (.field (xsm 2) "java/lang/String" "coder" "B") (.int 0)) ∧ (flatC xgn)[661]? = some (Cond.arrayOf (.field (xsm 2) "java/lang/String" "value" "[B") .byte) ∧ (flatC xgn)[662]? = some (Cond.eq (.length (.field (xsm 2) "java/lang/String" "value" "[B")) (.int (Int32.ofNat (xsln.getD 2 0)))) := by decide +kernel
theorem xq_b2 : ∀ j, j < 4 → (flatC xgn)[([663, 664, 665, 666] : List Nat).getD j 0]? = some (Cond.eq (.elem (.field (xsm 2) "java/lang/String" "value" "[B") (.int (Int32.ofNat j))) (.int ((xbyt.getD 2 []).getD j 0))) := by decide +kernel
theorem xq_c2 : ∀ j, j < 2 → (flatC xgn)[(([1373, 1375] : List Nat).getD j 0) / 2]? = some (if ([1373, 1375] : List Nat).getD j 0 % 2 = 0 then Cond.not (Cond.eq (xsm 2) (xsm j)) else Cond.not (Cond.eq (xsm j) (xsm 2))) := by decide +kernel
theorem xq_d2 : ∀ j, j < 2 → Cond.not (Cond.eq (xsm 2) (xsm j)) ∈ flatC xgn ∨ Cond.not (Cond.eq (xsm j) (xsm 2)) ∈ flatC xgn := by
  intro j hj
  have := List.mem_of_getElem? (xq_c2 j hj)
  split at this
  · exact Or.inl this
  · exact Or.inr this
theorem xq_a3 : (flatC xgn)[266]? = some (Cond.exactly (xsm 3) "java/lang/String") ∧ (flatC xgn)[267]? = some (Cond.eq (.field (xsm 3) "java/lang/String" "coder" "B") (.int 0)) ∧ (flatC xgn)[268]? = some (Cond.arrayOf (.field (xsm 3) "java/lang/String" "value" "[B") .byte) ∧ (flatC xgn)[269]? = some (Cond.eq (.length (.field (xsm 3) "java/lang/String" "value" "[B")) (.int (Int32.ofNat (xsln.getD 3 0)))) := by decide +kernel
theorem xq_b3 : ∀ j, j < 4 → (flatC xgn)[([270, 271, 272, 273] : List Nat).getD j 0]? = some (Cond.eq (.elem (.field (xsm 3) "java/lang/String" "value" "[B") (.int (Int32.ofNat j))) (.int ((xbyt.getD 3 []).getD j 0))) := by decide +kernel
theorem xq_c3 : ∀ j, j < 3 → (flatC xgn)[(([1220, 1278, 1334] : List Nat).getD j 0) / 2]? = some (if ([1220, 1278, 1334] : List Nat).getD j 0 % 2 = 0 then Cond.not (Cond.eq (xsm 3) (xsm j)) else Cond.not (Cond.eq (xsm j) (xsm 3))) := by decide +kernel
theorem xq_d3 : ∀ j, j < 3 → Cond.not (Cond.eq (xsm 3) (xsm j)) ∈ flatC xgn ∨ Cond.not (Cond.eq (xsm j) (xsm 3)) ∈ flatC xgn := by
  intro j hj
  have := List.mem_of_getElem? (xq_c3 j hj)
  split at this
  · exact Or.inl this
  · exact Or.inr this
theorem xq_a4 : (flatC xgn)[274]? = some (Cond.exactly (xsm 4) "java/lang/String") ∧ (flatC xgn)[275]? = some (Cond.eq (.field (xsm 4) "java/lang/String" "coder" "B") (.int 0)) ∧ (flatC xgn)[276]? = some (Cond.arrayOf (.field (xsm 4) "java/lang/String" "value" "[B") .byte) ∧ (flatC xgn)[277]? = some (Cond.eq (.length (.field (xsm 4) "java/lang/String" "value" "[B")) (.int (Int32.ofNat (xsln.getD 4 0)))) := by decide +kernel
theorem xq_b4 : ∀ j, j < 7 → (flatC xgn)[([278, 279, 280, 281, 282, 283, 284] : List Nat).getD j 0]? = some (Cond.eq (.elem (.field (xsm 4) "java/lang/String" "value" "[B") (.int (Int32.ofNat j))) (.int ((xbyt.getD 4 []).getD j 0))) := by decide +kernel
theorem xq_c4 : ∀ j, j < 4 → (flatC xgn)[(([1222, 1280, 1336, 571] : List Nat).getD j 0) / 2]? = some (if ([1222, 1280, 1336, 571] : List Nat).getD j 0 % 2 = 0 then Cond.not (Cond.eq (xsm 4) (xsm j)) else Cond.not (Cond.eq (xsm j) (xsm 4))) := by decide +kernel
theorem xq_d4 : ∀ j, j < 4 → Cond.not (Cond.eq (xsm 4) (xsm j)) ∈ flatC xgn ∨ Cond.not (Cond.eq (xsm j) (xsm 4)) ∈ flatC xgn := by
  intro j hj
  have := List.mem_of_getElem? (xq_c4 j hj)
  split at this
  · exact Or.inl this
  · exact Or.inr this
theorem xq_a5 : (flatC xgn)[286]? = some (Cond.exactly (xsm 5) "java/lang/String") ∧ (flatC xgn)[287]? = some (Cond.eq (.field (xsm 5) "java/lang/String" "coder" "B") (.int 0)) ∧ (flatC xgn)[288]? = some (Cond.arrayOf (.field (xsm 5) "java/lang/String" "value" "[B") .byte) ∧ (flatC xgn)[289]? = some (Cond.eq (.length (.field (xsm 5) "java/lang/String" "value" "[B")) (.int (Int32.ofNat (xsln.getD 5 0)))) := by decide +kernel
theorem xq_b5 : ∀ j, j < 5 → (flatC xgn)[([290, 291, 292, 293, 294] : List Nat).getD j 0]? = some (Cond.eq (.elem (.field (xsm 5) "java/lang/String" "value" "[B") (.int (Int32.ofNat j))) (.int ((xbyt.getD 5 []).getD j 0))) := by decide +kernel
theorem xq_c5 : ∀ j, j < 5 → (flatC xgn)[(([1224, 1282, 1338, 591, 593] : List Nat).getD j 0) / 2]? = some (if ([1224, 1282, 1338, 591, 593] : List Nat).getD j 0 % 2 = 0 then Cond.not (Cond.eq (xsm 5) (xsm j)) else Cond.not (Cond.eq (xsm j) (xsm 5))) := by decide +kernel
theorem xq_d5 : ∀ j, j < 5 → Cond.not (Cond.eq (xsm 5) (xsm j)) ∈ flatC xgn ∨ Cond.not (Cond.eq (xsm j) (xsm 5)) ∈ flatC xgn := by
  intro j hj
  have := List.mem_of_getElem? (xq_c5 j hj)
  split at this
  · exact Or.inl this
  · exact Or.inr this
theorem xq_a6 : (flatC xgn)[297]? = some (Cond.exactly (xsm 6) "java/lang/String") ∧ (flatC xgn)[298]? = some (Cond.eq (.field (xsm 6) "java/lang/String" "coder" "B") (.int 0)) ∧ (flatC xgn)[299]? = some (Cond.arrayOf (.field (xsm 6) "java/lang/String" "value" "[B") .byte) ∧ (flatC xgn)[300]? = some (Cond.eq (.length (.field (xsm 6) "java/lang/String" "value" "[B")) (.int (Int32.ofNat (xsln.getD 6 0)))) := by decide +kernel
theorem xq_b6 : ∀ j, j < 4 → (flatC xgn)[([301, 302, 303, 304] : List Nat).getD j 0]? = some (Cond.eq (.elem (.field (xsm 6) "java/lang/String" "value" "[B") (.int (Int32.ofNat j))) (.int ((xbyt.getD 6 []).getD j 0))) := by decide +kernel
theorem xq_c6 : ∀ j, j < 6 → (flatC xgn)[(([1226, 1284, 1340, 611, 613, 615] : List Nat).getD j 0) / 2]? = some (if ([1226, 1284, 1340, 611, 613, 615] : List Nat).getD j 0 % 2 = 0 then Cond.not (Cond.eq (xsm 6) (xsm j)) else Cond.not (Cond.eq (xsm j) (xsm 6))) := by decide +kernel
theorem xq_d6 : ∀ j, j < 6 → Cond.not (Cond.eq (xsm 6) (xsm j)) ∈ flatC xgn ∨ Cond.not (Cond.eq (xsm j) (xsm 6)) ∈ flatC xgn := by
  intro j hj
  have := List.mem_of_getElem? (xq_c6 j hj)
  split at this
  · exact Or.inl this
  · exact Or.inr this
theorem xq_a7 : (flatC xgn)[308]? = some (Cond.exactly (xsm 7) "java/lang/String") ∧ (flatC xgn)[309]? = some (Cond.eq (.field (xsm 7) "java/lang/String" "coder" "B") (.int 0)) ∧ (flatC xgn)[310]? = some (Cond.arrayOf (.field (xsm 7) "java/lang/String" "value" "[B") .byte) ∧ (flatC xgn)[311]? = some (Cond.eq (.length (.field (xsm 7) "java/lang/String" "value" "[B")) (.int (Int32.ofNat (xsln.getD 7 0)))) := by decide +kernel
theorem xq_b7 : ∀ j, j < 6 → (flatC xgn)[([312, 313, 314, 315, 316, 317] : List Nat).getD j 0]? = some (Cond.eq (.elem (.field (xsm 7) "java/lang/String" "value" "[B") (.int (Int32.ofNat j))) (.int ((xbyt.getD 7 []).getD j 0))) := by decide +kernel
theorem xq_c7 : ∀ j, j < 7 → (flatC xgn)[(([1228, 1286, 1342, 637, 639, 641, 643] : List Nat).getD j 0) / 2]? = some (if ([1228, 1286, 1342, 637, 639, 641, 643] : List Nat).getD j 0 % 2 = 0 then Cond.not (Cond.eq (xsm 7) (xsm j)) else Cond.not (Cond.eq (xsm j) (xsm 7))) := by decide +kernel
theorem xq_d7 : ∀ j, j < 7 → Cond.not (Cond.eq (xsm 7) (xsm j)) ∈ flatC xgn ∨ Cond.not (Cond.eq (xsm j) (xsm 7)) ∈ flatC xgn := by
  intro j hj
  have := List.mem_of_getElem? (xq_c7 j hj)
  split at this
  · exact Or.inl this
  · exact Or.inr this
theorem xq_a8 : (flatC xgn)[322]? = some (Cond.exactly (xsm 8) "java/lang/String") ∧ (flatC xgn)[323]? = some (Cond.eq (.field (xsm 8) "java/lang/String" "coder" "B") (.int 0)) ∧ (flatC xgn)[324]? = some (Cond.arrayOf (.field (xsm 8) "java/lang/String" "value" "[B") .byte) ∧ (flatC xgn)[325]? = some (Cond.eq (.length (.field (xsm 8) "java/lang/String" "value" "[B")) (.int (Int32.ofNat (xsln.getD 8 0)))) := by decide +kernel
theorem xq_b8 : ∀ j, j < 4 → (flatC xgn)[([326, 327, 328, 329] : List Nat).getD j 0]? = some (Cond.eq (.elem (.field (xsm 8) "java/lang/String" "value" "[B") (.int (Int32.ofNat j))) (.int ((xbyt.getD 8 []).getD j 0))) := by decide +kernel
theorem xq_c8 : ∀ j, j < 8 → (flatC xgn)[(([1230, 1288, 1344, 661, 663, 665, 667, 669] : List Nat).getD j 0) / 2]? = some (if ([1230, 1288, 1344, 661, 663, 665, 667, 669] : List Nat).getD j 0 % 2 = 0 then Cond.not (Cond.eq (xsm 8) (xsm j)) else Cond.not (Cond.eq (xsm j) (xsm 8))) := by decide +kernel
theorem xq_d8 : ∀ j, j < 8 → Cond.not (Cond.eq (xsm 8) (xsm j)) ∈ flatC xgn ∨ Cond.not (Cond.eq (xsm j) (xsm 8)) ∈ flatC xgn := by
  intro j hj
  have := List.mem_of_getElem? (xq_c8 j hj)
  split at this
  · exact Or.inl this
  · exact Or.inr this
theorem xq_a9 : (flatC xgn)[335]? = some (Cond.exactly (xsm 9) "java/lang/String") ∧ (flatC xgn)[336]? = some (Cond.eq (.field (xsm 9) "java/lang/String" "coder" "B") (.int 0)) ∧ (flatC xgn)[337]? = some (Cond.arrayOf (.field (xsm 9) "java/lang/String" "value" "[B") .byte) ∧ (flatC xgn)[338]? = some (Cond.eq (.length (.field (xsm 9) "java/lang/String" "value" "[B")) (.int (Int32.ofNat (xsln.getD 9 0)))) := by decide +kernel
theorem xq_b9 : ∀ j, j < 4 → (flatC xgn)[([339, 340, 341, 342] : List Nat).getD j 0]? = some (Cond.eq (.elem (.field (xsm 9) "java/lang/String" "value" "[B") (.int (Int32.ofNat j))) (.int ((xbyt.getD 9 []).getD j 0))) := by decide +kernel
theorem xq_c9 : ∀ j, j < 9 → (flatC xgn)[(([1232, 1290, 1346, 687, 689, 691, 693, 695, 697] : List Nat).getD j 0) / 2]? = some (if ([1232, 1290, 1346, 687, 689, 691, 693, 695, 697] : List Nat).getD j 0 % 2 = 0 then Cond.not (Cond.eq (xsm 9) (xsm j)) else Cond.not (Cond.eq (xsm j) (xsm 9))) := by decide +kernel
theorem xq_d9 : ∀ j, j < 9 → Cond.not (Cond.eq (xsm 9) (xsm j)) ∈ flatC xgn ∨ Cond.not (Cond.eq (xsm j) (xsm 9)) ∈ flatC xgn := by
  intro j hj
  have := List.mem_of_getElem? (xq_c9 j hj)
  split at this
  · exact Or.inl this
  · exact Or.inr this
theorem xq_a10 : (flatC xgn)[349]? = some (Cond.exactly (xsm 10) "java/lang/String") ∧ (flatC xgn)[350]? = some (Cond.eq (.field (xsm 10) "java/lang/String" "coder" "B") (.int 0)) ∧ (flatC xgn)[351]? = some (Cond.arrayOf (.field (xsm 10) "java/lang/String" "value" "[B") .byte) ∧ (flatC xgn)[352]? = some (Cond.eq (.length (.field (xsm 10) "java/lang/String" "value" "[B")) (.int (Int32.ofNat (xsln.getD 10 0)))) := by decide +kernel
theorem xq_b10 : ∀ j, j < 4 → (flatC xgn)[([353, 354, 355, 356] : List Nat).getD j 0]? = some (Cond.eq (.elem (.field (xsm 10) "java/lang/String" "value" "[B") (.int (Int32.ofNat j))) (.int ((xbyt.getD 10 []).getD j 0))) := by decide +kernel
theorem xq_c10 : ∀ j, j < 10 → (flatC xgn)[(([1234, 1292, 1348, 715, 717, 719, 721, 723, 725, 727] : List Nat).getD j 0) / 2]? = some (if ([1234, 1292, 1348, 715, 717, 719, 721, 723, 725, 727] : List Nat).getD j 0 % 2 = 0 then Cond.not (Cond.eq (xsm 10) (xsm j)) else Cond.not (Cond.eq (xsm j) (xsm 10))) := by decide +kernel
theorem xq_d10 : ∀ j, j < 10 → Cond.not (Cond.eq (xsm 10) (xsm j)) ∈ flatC xgn ∨ Cond.not (Cond.eq (xsm j) (xsm 10)) ∈ flatC xgn := by
  intro j hj
  have := List.mem_of_getElem? (xq_c10 j hj)
  split at this
  · exact Or.inl this
  · exact Or.inr this
theorem xq_a11 : (flatC xgn)[364]? = some (Cond.exactly (xsm 11) "java/lang/String") ∧ (flatC xgn)[365]? = some (Cond.eq (.field (xsm 11) "java/lang/String" "coder" "B") (.int 0)) ∧ (flatC xgn)[366]? = some (Cond.arrayOf (.field (xsm 11) "java/lang/String" "value" "[B") .byte) ∧ (flatC xgn)[367]? = some (Cond.eq (.length (.field (xsm 11) "java/lang/String" "value" "[B")) (.int (Int32.ofNat (xsln.getD 11 0)))) := by decide +kernel
theorem xq_b11 : ∀ j, j < 4 → (flatC xgn)[([368, 369, 370, 371] : List Nat).getD j 0]? = some (Cond.eq (.elem (.field (xsm 11) "java/lang/String" "value" "[B") (.int (Int32.ofNat j))) (.int ((xbyt.getD 11 []).getD j 0))) := by decide +kernel
theorem xq_c11 : ∀ j, j < 11 → (flatC xgn)[(([1236, 1294, 1350, 745, 747, 749, 751, 753, 755, 757, 759] : List Nat).getD j 0) / 2]? = some (if ([1236, 1294, 1350, 745, 747, 749, 751, 753, 755, 757, 759] : List Nat).getD j 0 % 2 = 0 then Cond.not (Cond.eq (xsm 11) (xsm j)) else Cond.not (Cond.eq (xsm j) (xsm 11))) := by decide +kernel
theorem xq_d11 : ∀ j, j < 11 → Cond.not (Cond.eq (xsm 11) (xsm j)) ∈ flatC xgn ∨ Cond.not (Cond.eq (xsm j) (xsm 11)) ∈ flatC xgn := by
  intro j hj
  have := List.mem_of_getElem? (xq_c11 j hj)
  split at this
  · exact Or.inl this
  · exact Or.inr this
theorem xq_a12 : (flatC xgn)[380]? = some (Cond.exactly (xsm 12) "java/lang/String") ∧ (flatC xgn)[381]? = some (Cond.eq (.field (xsm 12) "java/lang/String" "coder" "B") (.int 0)) ∧ (flatC xgn)[382]? = some (Cond.arrayOf (.field (xsm 12) "java/lang/String" "value" "[B") .byte) ∧ (flatC xgn)[383]? = some (Cond.eq (.length (.field (xsm 12) "java/lang/String" "value" "[B")) (.int (Int32.ofNat (xsln.getD 12 0)))) := by decide +kernel
theorem xq_b12 : ∀ j, j < 4 → (flatC xgn)[([384, 385, 386, 387] : List Nat).getD j 0]? = some (Cond.eq (.elem (.field (xsm 12) "java/lang/String" "value" "[B") (.int (Int32.ofNat j))) (.int ((xbyt.getD 12 []).getD j 0))) := by decide +kernel
theorem xq_c12 : ∀ j, j < 12 → (flatC xgn)[(([1238, 1296, 1352, 777, 779, 781, 783, 785, 787, 789, 791, 793] : List Nat).getD j 0) / 2]? = some (if ([1238, 1296, 1352, 777, 779, 781, 783, 785, 787, 789, 791, 793] : List Nat).getD j 0 % 2 = 0 then Cond.not (Cond.eq (xsm 12) (xsm j)) else Cond.not (Cond.eq (xsm j) (xsm 12))) := by decide +kernel
theorem xq_d12 : ∀ j, j < 12 → Cond.not (Cond.eq (xsm 12) (xsm j)) ∈ flatC xgn ∨ Cond.not (Cond.eq (xsm j) (xsm 12)) ∈ flatC xgn := by
  intro j hj
  have := List.mem_of_getElem? (xq_c12 j hj)
  split at this
  · exact Or.inl this
  · exact Or.inr this
theorem xq_a13 : (flatC xgn)[397]? = some (Cond.exactly (xsm 13) "java/lang/String") ∧ (flatC xgn)[398]? = some (Cond.eq (.field (xsm 13) "java/lang/String" "coder" "B") (.int 0)) ∧ (flatC xgn)[399]? = some (Cond.arrayOf (.field (xsm 13) "java/lang/String" "value" "[B") .byte) ∧ (flatC xgn)[400]? = some (Cond.eq (.length (.field (xsm 13) "java/lang/String" "value" "[B")) (.int (Int32.ofNat (xsln.getD 13 0)))) := by decide +kernel
theorem xq_b13 : ∀ j, j < 5 → (flatC xgn)[([401, 402, 403, 404, 405] : List Nat).getD j 0]? = some (Cond.eq (.elem (.field (xsm 13) "java/lang/String" "value" "[B") (.int (Int32.ofNat j))) (.int ((xbyt.getD 13 []).getD j 0))) := by decide +kernel
theorem xq_c13 : ∀ j, j < 13 → (flatC xgn)[(([1240, 1298, 1354, 813, 815, 817, 819, 821, 823, 825, 827, 829, 831] : List Nat).getD j 0) / 2]? = some (if ([1240, 1298, 1354, 813, 815, 817, 819, 821, 823, 825, 827, 829, 831] : List Nat).getD j 0 % 2 = 0 then Cond.not (Cond.eq (xsm 13) (xsm j)) else Cond.not (Cond.eq (xsm j) (xsm 13))) := by decide +kernel
theorem xq_d13 : ∀ j, j < 13 → Cond.not (Cond.eq (xsm 13) (xsm j)) ∈ flatC xgn ∨ Cond.not (Cond.eq (xsm j) (xsm 13)) ∈ flatC xgn := by
  intro j hj
  have := List.mem_of_getElem? (xq_c13 j hj)
  split at this
  · exact Or.inl this
  · exact Or.inr this
theorem xq_a14 : (flatC xgn)[416]? = some (Cond.exactly (xsm 14) "java/lang/String") ∧ (flatC xgn)[417]? = some (Cond.eq (.field (xsm 14) "java/lang/String" "coder" "B") (.int 0)) ∧ (flatC xgn)[418]? = some (Cond.arrayOf (.field (xsm 14) "java/lang/String" "value" "[B") .byte) ∧ (flatC xgn)[419]? = some (Cond.eq (.length (.field (xsm 14) "java/lang/String" "value" "[B")) (.int (Int32.ofNat (xsln.getD 14 0)))) := by decide +kernel
theorem xq_b14 : ∀ j, j < 5 → (flatC xgn)[([420, 421, 422, 423, 424] : List Nat).getD j 0]? = some (Cond.eq (.elem (.field (xsm 14) "java/lang/String" "value" "[B") (.int (Int32.ofNat j))) (.int ((xbyt.getD 14 []).getD j 0))) := by decide +kernel
theorem xq_c14 : ∀ j, j < 14 → (flatC xgn)[(([1242, 1300, 1356, 851, 853, 855, 857, 859, 861, 863, 865, 867, 869, 871] : List Nat).getD j 0) / 2]? = some (if ([1242, 1300, 1356, 851, 853, 855, 857, 859, 861, 863, 865, 867, 869, 871] : List Nat).getD j 0 % 2 = 0 then Cond.not (Cond.eq (xsm 14) (xsm j)) else Cond.not (Cond.eq (xsm j) (xsm 14))) := by decide +kernel
theorem xq_d14 : ∀ j, j < 14 → Cond.not (Cond.eq (xsm 14) (xsm j)) ∈ flatC xgn ∨ Cond.not (Cond.eq (xsm j) (xsm 14)) ∈ flatC xgn := by
  intro j hj
  have := List.mem_of_getElem? (xq_c14 j hj)
  split at this
  · exact Or.inl this
  · exact Or.inr this
theorem xq_a15 : (flatC xgn)[436]? = some (Cond.exactly (xsm 15) "java/lang/String") ∧ (flatC xgn)[437]? = some (Cond.eq (.field (xsm 15) "java/lang/String" "coder" "B") (.int 0)) ∧ (flatC xgn)[438]? = some (Cond.arrayOf (.field (xsm 15) "java/lang/String" "value" "[B") .byte) ∧ (flatC xgn)[439]? = some (Cond.eq (.length (.field (xsm 15) "java/lang/String" "value" "[B")) (.int (Int32.ofNat (xsln.getD 15 0)))) := by decide +kernel
theorem xq_b15 : ∀ j, j < 4 → (flatC xgn)[([440, 441, 442, 443] : List Nat).getD j 0]? = some (Cond.eq (.elem (.field (xsm 15) "java/lang/String" "value" "[B") (.int (Int32.ofNat j))) (.int ((xbyt.getD 15 []).getD j 0))) := by decide +kernel
theorem xq_c15 : ∀ j, j < 15 → (flatC xgn)[(([1244, 1302, 1358, 889, 891, 893, 895, 897, 899, 901, 903, 905, 907, 909, 911] : List Nat).getD j 0) / 2]? = some (if ([1244, 1302, 1358, 889, 891, 893, 895, 897, 899, 901, 903, 905, 907, 909, 911] : List Nat).getD j 0 % 2 = 0 then Cond.not (Cond.eq (xsm 15) (xsm j)) else Cond.not (Cond.eq (xsm j) (xsm 15))) := by decide +kernel
theorem xq_d15 : ∀ j, j < 15 → Cond.not (Cond.eq (xsm 15) (xsm j)) ∈ flatC xgn ∨ Cond.not (Cond.eq (xsm j) (xsm 15)) ∈ flatC xgn := by
  intro j hj
  have := List.mem_of_getElem? (xq_c15 j hj)
  split at this
  · exact Or.inl this
  · exact Or.inr this
theorem xq_a16 : (flatC xgn)[456]? = some (Cond.exactly (xsm 16) "java/lang/String") ∧ (flatC xgn)[457]? = some (Cond.eq (.field (xsm 16) "java/lang/String" "coder" "B") (.int 0)) ∧ (flatC xgn)[458]? = some (Cond.arrayOf (.field (xsm 16) "java/lang/String" "value" "[B") .byte) ∧ (flatC xgn)[459]? = some (Cond.eq (.length (.field (xsm 16) "java/lang/String" "value" "[B")) (.int (Int32.ofNat (xsln.getD 16 0)))) := by decide +kernel
theorem xq_b16 : ∀ j, j < 6 → (flatC xgn)[([460, 461, 462, 463, 464, 465] : List Nat).getD j 0]? = some (Cond.eq (.elem (.field (xsm 16) "java/lang/String" "value" "[B") (.int (Int32.ofNat j))) (.int ((xbyt.getD 16 []).getD j 0))) := by decide +kernel
theorem xq_c16 : ∀ j, j < 16 → (flatC xgn)[(([1246, 1304, 1360, 933, 935, 937, 939, 941, 943, 945, 947, 949, 951, 953, 955, 957] : List Nat).getD j 0) / 2]? = some (if ([1246, 1304, 1360, 933, 935, 937, 939, 941, 943, 945, 947, 949, 951, 953, 955, 957] : List Nat).getD j 0 % 2 = 0 then Cond.not (Cond.eq (xsm 16) (xsm j)) else Cond.not (Cond.eq (xsm j) (xsm 16))) := by decide +kernel
theorem xq_d16 : ∀ j, j < 16 → Cond.not (Cond.eq (xsm 16) (xsm j)) ∈ flatC xgn ∨ Cond.not (Cond.eq (xsm j) (xsm 16)) ∈ flatC xgn := by
  intro j hj
  have := List.mem_of_getElem? (xq_c16 j hj)
  split at this
  · exact Or.inl this
  · exact Or.inr this
theorem xq_a17 : (flatC xgn)[479]? = some (Cond.exactly (xsm 17) "java/lang/String") ∧ (flatC xgn)[480]? = some (Cond.eq (.field (xsm 17) "java/lang/String" "coder" "B") (.int 0)) ∧ (flatC xgn)[481]? = some (Cond.arrayOf (.field (xsm 17) "java/lang/String" "value" "[B") .byte) ∧ (flatC xgn)[482]? = some (Cond.eq (.length (.field (xsm 17) "java/lang/String" "value" "[B")) (.int (Int32.ofNat (xsln.getD 17 0)))) := by decide +kernel
theorem xq_b17 : ∀ j, j < 5 → (flatC xgn)[([483, 484, 485, 486, 487] : List Nat).getD j 0]? = some (Cond.eq (.elem (.field (xsm 17) "java/lang/String" "value" "[B") (.int (Int32.ofNat j))) (.int ((xbyt.getD 17 []).getD j 0))) := by decide +kernel
theorem xq_c17 : ∀ j, j < 17 → (flatC xgn)[(([1248, 1306, 1362, 977, 979, 981, 983, 985, 987, 989, 991, 993, 995, 997, 999, 1001, 1003] : List Nat).getD j 0) / 2]? = some (if ([1248, 1306, 1362, 977, 979, 981, 983, 985, 987, 989, 991, 993, 995, 997, 999, 1001, 1003] : List Nat).getD j 0 % 2 = 0 then Cond.not (Cond.eq (xsm 17) (xsm j)) else Cond.not (Cond.eq (xsm j) (xsm 17))) := by decide +kernel
theorem xq_d17 : ∀ j, j < 17 → Cond.not (Cond.eq (xsm 17) (xsm j)) ∈ flatC xgn ∨ Cond.not (Cond.eq (xsm j) (xsm 17)) ∈ flatC xgn := by
  intro j hj
  have := List.mem_of_getElem? (xq_c17 j hj)
  split at this
  · exact Or.inl this
  · exact Or.inr this
theorem xq_a18 : (flatC xgn)[502]? = some (Cond.exactly (xsm 18) "java/lang/String") ∧ (flatC xgn)[503]? = some (Cond.eq (.field (xsm 18) "java/lang/String" "coder" "B") (.int 0)) ∧ (flatC xgn)[504]? = some (Cond.arrayOf (.field (xsm 18) "java/lang/String" "value" "[B") .byte) ∧ (flatC xgn)[505]? = some (Cond.eq (.length (.field (xsm 18) "java/lang/String" "value" "[B")) (.int (Int32.ofNat (xsln.getD 18 0)))) := by decide +kernel
theorem xq_b18 : ∀ j, j < 5 → (flatC xgn)[([506, 507, 508, 509, 510] : List Nat).getD j 0]? = some (Cond.eq (.elem (.field (xsm 18) "java/lang/String" "value" "[B") (.int (Int32.ofNat j))) (.int ((xbyt.getD 18 []).getD j 0))) := by decide +kernel
theorem xq_c18 : ∀ j, j < 18 → (flatC xgn)[(([1250, 1308, 1364, 1023, 1025, 1027, 1029, 1031, 1033, 1035, 1037, 1039, 1041, 1043, 1045, 1047, 1049, 1051] : List Nat).getD j 0) / 2]? = some (if ([1250, 1308, 1364, 1023, 1025, 1027, 1029, 1031, 1033, 1035, 1037, 1039, 1041, 1043, 1045, 1047, 1049, 1051] : List Nat).getD j 0 % 2 = 0 then Cond.not (Cond.eq (xsm 18) (xsm j)) else Cond.not (Cond.eq (xsm j) (xsm 18))) := by decide +kernel
theorem xq_d18 : ∀ j, j < 18 → Cond.not (Cond.eq (xsm 18) (xsm j)) ∈ flatC xgn ∨ Cond.not (Cond.eq (xsm j) (xsm 18)) ∈ flatC xgn := by
  intro j hj
  have := List.mem_of_getElem? (xq_c18 j hj)
  split at this
  · exact Or.inl this
  · exact Or.inr this
theorem xq_a19 : (flatC xgn)[526]? = some (Cond.exactly (xsm 19) "java/lang/String") ∧ (flatC xgn)[527]? = some (Cond.eq (.field (xsm 19) "java/lang/String" "coder" "B") (.int 0)) ∧ (flatC xgn)[528]? = some (Cond.arrayOf (.field (xsm 19) "java/lang/String" "value" "[B") .byte) ∧ (flatC xgn)[529]? = some (Cond.eq (.length (.field (xsm 19) "java/lang/String" "value" "[B")) (.int (Int32.ofNat (xsln.getD 19 0)))) := by decide +kernel
theorem xq_b19 : ∀ j, j < 4 → (flatC xgn)[([530, 531, 532, 533] : List Nat).getD j 0]? = some (Cond.eq (.elem (.field (xsm 19) "java/lang/String" "value" "[B") (.int (Int32.ofNat j))) (.int ((xbyt.getD 19 []).getD j 0))) := by decide +kernel
theorem xq_c19 : ∀ j, j < 19 → (flatC xgn)[(([1252, 1310, 1366, 1069, 1071, 1073, 1075, 1077, 1079, 1081, 1083, 1085, 1087, 1089, 1091, 1093, 1095, 1097, 1099] : List Nat).getD j 0) / 2]? = some (if ([1252, 1310, 1366, 1069, 1071, 1073, 1075, 1077, 1079, 1081, 1083, 1085, 1087, 1089, 1091, 1093, 1095, 1097, 1099] : List Nat).getD j 0 % 2 = 0 then Cond.not (Cond.eq (xsm 19) (xsm j)) else Cond.not (Cond.eq (xsm j) (xsm 19))) := by decide +kernel
theorem xq_d19 : ∀ j, j < 19 → Cond.not (Cond.eq (xsm 19) (xsm j)) ∈ flatC xgn ∨ Cond.not (Cond.eq (xsm j) (xsm 19)) ∈ flatC xgn := by
  intro j hj
  have := List.mem_of_getElem? (xq_c19 j hj)
  split at this
  · exact Or.inl this
  · exact Or.inr this
theorem xq_a20 : (flatC xgn)[550]? = some (Cond.exactly (xsm 20) "java/lang/String") ∧ (flatC xgn)[551]? = some (Cond.eq (.field (xsm 20) "java/lang/String" "coder" "B") (.int 0)) ∧ (flatC xgn)[552]? = some (Cond.arrayOf (.field (xsm 20) "java/lang/String" "value" "[B") .byte) ∧ (flatC xgn)[553]? = some (Cond.eq (.length (.field (xsm 20) "java/lang/String" "value" "[B")) (.int (Int32.ofNat (xsln.getD 20 0)))) := by decide +kernel
theorem xq_b20 : ∀ j, j < 4 → (flatC xgn)[([554, 555, 556, 557] : List Nat).getD j 0]? = some (Cond.eq (.elem (.field (xsm 20) "java/lang/String" "value" "[B") (.int (Int32.ofNat j))) (.int ((xbyt.getD 20 []).getD j 0))) := by decide +kernel
theorem xq_c20 : ∀ j, j < 20 → (flatC xgn)[(([1254, 1312, 1368, 1117, 1119, 1121, 1123, 1125, 1127, 1129, 1131, 1133, 1135, 1137, 1139, 1141, 1143, 1145, 1147, 1149] : List Nat).getD j 0) / 2]? = some (if ([1254, 1312, 1368, 1117, 1119, 1121, 1123, 1125, 1127, 1129, 1131, 1133, 1135, 1137, 1139, 1141, 1143, 1145, 1147, 1149] : List Nat).getD j 0 % 2 = 0 then Cond.not (Cond.eq (xsm 20) (xsm j)) else Cond.not (Cond.eq (xsm j) (xsm 20))) := by decide +kernel
theorem xq_d20 : ∀ j, j < 20 → Cond.not (Cond.eq (xsm 20) (xsm j)) ∈ flatC xgn ∨ Cond.not (Cond.eq (xsm j) (xsm 20)) ∈ flatC xgn := by
  intro j hj
  have := List.mem_of_getElem? (xq_c20 j hj)
  split at this
  · exact Or.inl this
  · exact Or.inr this
theorem xq_a21 : (flatC xgn)[575]? = some (Cond.exactly (xsm 21) "java/lang/String") ∧ (flatC xgn)[576]? = some (Cond.eq (.field (xsm 21) "java/lang/String" "coder" "B") (.int 0)) ∧ (flatC xgn)[577]? = some (Cond.arrayOf (.field (xsm 21) "java/lang/String" "value" "[B") .byte) ∧ (flatC xgn)[578]? = some (Cond.eq (.length (.field (xsm 21) "java/lang/String" "value" "[B")) (.int (Int32.ofNat (xsln.getD 21 0)))) := by decide +kernel
theorem xq_b21 : ∀ j, j < 4 → (flatC xgn)[([579, 580, 581, 582] : List Nat).getD j 0]? = some (Cond.eq (.elem (.field (xsm 21) "java/lang/String" "value" "[B") (.int (Int32.ofNat j))) (.int ((xbyt.getD 21 []).getD j 0))) := by decide +kernel
theorem xq_c21 : ∀ j, j < 21 → (flatC xgn)[(([1256, 1314, 1370, 1167, 1169, 1171, 1173, 1175, 1177, 1179, 1181, 1183, 1185, 1187, 1189, 1191, 1193, 1195, 1197, 1199, 1201] : List Nat).getD j 0) / 2]? = some (if ([1256, 1314, 1370, 1167, 1169, 1171, 1173, 1175, 1177, 1179, 1181, 1183, 1185, 1187, 1189, 1191, 1193, 1195, 1197, 1199, 1201] : List Nat).getD j 0 % 2 = 0 then Cond.not (Cond.eq (xsm 21) (xsm j)) else Cond.not (Cond.eq (xsm j) (xsm 21))) := by decide +kernel
theorem xq_d21 : ∀ j, j < 21 → Cond.not (Cond.eq (xsm 21) (xsm j)) ∈ flatC xgn ∨ Cond.not (Cond.eq (xsm j) (xsm 21)) ∈ flatC xgn := by
  intro j hj
  have := List.mem_of_getElem? (xq_c21 j hj)
  split at this
  · exact Or.inl this
  · exact Or.inr this
theorem xn_s1 : ∀ i, i < 22 → Cond.exactly (xsm i) "java/lang/String" ∈ flatC xgn ∧ Cond.eq (.field (xsm i) "java/lang/String" "coder" "B") (.int 0) ∈ flatC xgn ∧ Cond.arrayOf (.field (xsm i) "java/lang/String" "value" "[B") .byte ∈ flatC xgn ∧ Cond.eq (.length (.field (xsm i) "java/lang/String" "value" "[B")) (.int (Int32.ofNat (xsln.getD i 0))) ∈ flatC xgn
  | 0, _ => ⟨List.mem_of_getElem? xq_a0.1, List.mem_of_getElem? xq_a0.2.1, List.mem_of_getElem? xq_a0.2.2.1, List.mem_of_getElem? xq_a0.2.2.2⟩
  | 1, _ => ⟨List.mem_of_getElem? xq_a1.1, List.mem_of_getElem? xq_a1.2.1, List.mem_of_getElem? xq_a1.2.2.1, List.mem_of_getElem? xq_a1.2.2.2⟩
  | 2, _ => ⟨List.mem_of_getElem? xq_a2.1, List.mem_of_getElem? xq_a2.2.1, List.mem_of_getElem? xq_a2.2.2.1, List.mem_of_getElem? xq_a2.2.2.2⟩
  | 3, _ => ⟨List.mem_of_getElem? xq_a3.1, List.mem_of_getElem? xq_a3.2.1, List.mem_of_getElem? xq_a3.2.2.1, List.mem_of_getElem? xq_a3.2.2.2⟩
  | 4, _ => ⟨List.mem_of_getElem? xq_a4.1, List.mem_of_getElem? xq_a4.2.1, List.mem_of_getElem? xq_a4.2.2.1, List.mem_of_getElem? xq_a4.2.2.2⟩
  | 5, _ => ⟨List.mem_of_getElem? xq_a5.1, List.mem_of_getElem? xq_a5.2.1, List.mem_of_getElem? xq_a5.2.2.1, List.mem_of_getElem? xq_a5.2.2.2⟩
  | 6, _ => ⟨List.mem_of_getElem? xq_a6.1, List.mem_of_getElem? xq_a6.2.1, List.mem_of_getElem? xq_a6.2.2.1, List.mem_of_getElem? xq_a6.2.2.2⟩
  | 7, _ => ⟨List.mem_of_getElem? xq_a7.1, List.mem_of_getElem? xq_a7.2.1, List.mem_of_getElem? xq_a7.2.2.1, List.mem_of_getElem? xq_a7.2.2.2⟩
  | 8, _ => ⟨List.mem_of_getElem? xq_a8.1, List.mem_of_getElem? xq_a8.2.1, List.mem_of_getElem? xq_a8.2.2.1, List.mem_of_getElem? xq_a8.2.2.2⟩
  | 9, _ => ⟨List.mem_of_getElem? xq_a9.1, List.mem_of_getElem? xq_a9.2.1, List.mem_of_getElem? xq_a9.2.2.1, List.mem_of_getElem? xq_a9.2.2.2⟩
  | 10, _ => ⟨List.mem_of_getElem? xq_a10.1, List.mem_of_getElem? xq_a10.2.1, List.mem_of_getElem? xq_a10.2.2.1, List.mem_of_getElem? xq_a10.2.2.2⟩
  | 11, _ => ⟨List.mem_of_getElem? xq_a11.1, List.mem_of_getElem? xq_a11.2.1, List.mem_of_getElem? xq_a11.2.2.1, List.mem_of_getElem? xq_a11.2.2.2⟩
  | 12, _ => ⟨List.mem_of_getElem? xq_a12.1, List.mem_of_getElem? xq_a12.2.1, List.mem_of_getElem? xq_a12.2.2.1, List.mem_of_getElem? xq_a12.2.2.2⟩
  | 13, _ => ⟨List.mem_of_getElem? xq_a13.1, List.mem_of_getElem? xq_a13.2.1, List.mem_of_getElem? xq_a13.2.2.1, List.mem_of_getElem? xq_a13.2.2.2⟩
  | 14, _ => ⟨List.mem_of_getElem? xq_a14.1, List.mem_of_getElem? xq_a14.2.1, List.mem_of_getElem? xq_a14.2.2.1, List.mem_of_getElem? xq_a14.2.2.2⟩
  | 15, _ => ⟨List.mem_of_getElem? xq_a15.1, List.mem_of_getElem? xq_a15.2.1, List.mem_of_getElem? xq_a15.2.2.1, List.mem_of_getElem? xq_a15.2.2.2⟩
  | 16, _ => ⟨List.mem_of_getElem? xq_a16.1, List.mem_of_getElem? xq_a16.2.1, List.mem_of_getElem? xq_a16.2.2.1, List.mem_of_getElem? xq_a16.2.2.2⟩
  | 17, _ => ⟨List.mem_of_getElem? xq_a17.1, List.mem_of_getElem? xq_a17.2.1, List.mem_of_getElem? xq_a17.2.2.1, List.mem_of_getElem? xq_a17.2.2.2⟩
  | 18, _ => ⟨List.mem_of_getElem? xq_a18.1, List.mem_of_getElem? xq_a18.2.1, List.mem_of_getElem? xq_a18.2.2.1, List.mem_of_getElem? xq_a18.2.2.2⟩
  | 19, _ => ⟨List.mem_of_getElem? xq_a19.1, List.mem_of_getElem? xq_a19.2.1, List.mem_of_getElem? xq_a19.2.2.1, List.mem_of_getElem? xq_a19.2.2.2⟩
  | 20, _ => ⟨List.mem_of_getElem? xq_a20.1, List.mem_of_getElem? xq_a20.2.1, List.mem_of_getElem? xq_a20.2.2.1, List.mem_of_getElem? xq_a20.2.2.2⟩
  | 21, _ => ⟨List.mem_of_getElem? xq_a21.1, List.mem_of_getElem? xq_a21.2.1, List.mem_of_getElem? xq_a21.2.2.1, List.mem_of_getElem? xq_a21.2.2.2⟩
  | _ + 22, h => absurd h (by omega)
theorem xn_s2 : ∀ i, i < 22 → ∀ j, j < xsln.getD i 0 → Cond.eq (.elem (.field (xsm i) "java/lang/String" "value" "[B") (.int (Int32.ofNat j))) (.int ((xbyt.getD i []).getD j 0)) ∈ flatC xgn
  | 0, _ => fun j hj => List.mem_of_getElem? (xq_b0 j hj)
  | 1, _ => fun j hj => List.mem_of_getElem? (xq_b1 j hj)
  | 2, _ => fun j hj => List.mem_of_getElem? (xq_b2 j hj)
  | 3, _ => fun j hj => List.mem_of_getElem? (xq_b3 j hj)
  | 4, _ => fun j hj => List.mem_of_getElem? (xq_b4 j hj)
  | 5, _ => fun j hj => List.mem_of_getElem? (xq_b5 j hj)
  | 6, _ => fun j hj => List.mem_of_getElem? (xq_b6 j hj)
  | 7, _ => fun j hj => List.mem_of_getElem? (xq_b7 j hj)
  | 8, _ => fun j hj => List.mem_of_getElem? (xq_b8 j hj)
  | 9, _ => fun j hj => List.mem_of_getElem? (xq_b9 j hj)
  | 10, _ => fun j hj => List.mem_of_getElem? (xq_b10 j hj)
  | 11, _ => fun j hj => List.mem_of_getElem? (xq_b11 j hj)
  | 12, _ => fun j hj => List.mem_of_getElem? (xq_b12 j hj)
  | 13, _ => fun j hj => List.mem_of_getElem? (xq_b13 j hj)
  | 14, _ => fun j hj => List.mem_of_getElem? (xq_b14 j hj)
  | 15, _ => fun j hj => List.mem_of_getElem? (xq_b15 j hj)
  | 16, _ => fun j hj => List.mem_of_getElem? (xq_b16 j hj)
  | 17, _ => fun j hj => List.mem_of_getElem? (xq_b17 j hj)
  | 18, _ => fun j hj => List.mem_of_getElem? (xq_b18 j hj)
  | 19, _ => fun j hj => List.mem_of_getElem? (xq_b19 j hj)
  | 20, _ => fun j hj => List.mem_of_getElem? (xq_b20 j hj)
  | 21, _ => fun j hj => List.mem_of_getElem? (xq_b21 j hj)
  | _ + 22, h => absurd h (by omega)
theorem xn_s3 : ∀ i, i < 22 → ∀ j, j < i → Cond.not (Cond.eq (xsm i) (xsm j)) ∈ flatC xgn ∨ Cond.not (Cond.eq (xsm j) (xsm i)) ∈ flatC xgn
  | 0, _ => xq_d0
  | 1, _ => xq_d1
  | 2, _ => xq_d2
  | 3, _ => xq_d3
  | 4, _ => xq_d4
  | 5, _ => xq_d5
  | 6, _ => xq_d6
  | 7, _ => xq_d7
  | 8, _ => xq_d8
  | 9, _ => xq_d9
  | 10, _ => xq_d10
  | 11, _ => xq_d11
  | 12, _ => xq_d12
  | 13, _ => xq_d13
  | 14, _ => xq_d14
  | 15, _ => xq_d15
  | 16, _ => xq_d16
  | 17, _ => xq_d17
  | 18, _ => xq_d18
  | 19, _ => xq_d19
  | 20, _ => xq_d20
  | 21, _ => xq_d21
  | _ + 22, h => absurd h (by omega)
theorem xn_str : ∀ q ∈ xstr, Cond.stringRef "SoupNine$Reader" q.1 q.2.1 ∈ lw_tbl := by decide +kernel
theorem xn_st2 : ∀ q ∈ xstr, 8 ≤ q.2.2 ∧ q.2.2 < 30 ∧ xsix.getD (q.2.2 - 8) 0 = q.1 := by decide +kernel
theorem xn_nst : ∀ q ∈ xnest, Cond.methodLinkNest q.1 q.2.1 q.2.2 "SoupNine" ∈ lw_tbl := by decide +kernel
theorem xn_ovr : ∀ C ∈ xovr, Cond.arrayOver (.object C) ∈ lw_tbl := by decide +kernel
theorem xn_len : ∀ i, i < 22 → xsln.getD i 0 < 2 ^ 31 := by decide +kernel
