-- written by wip/tools/blk.py
/-! plain texts of the methods: the rows that they stand on -/
def xqi (Q : Int32 → xh → Prop) : Option Value → xh → Prop := fun v h' => xci (fun _ _ _ R => R v h') 0 [] h' Q
def xqj (Q : Int64 → xh → Prop) : Option Value → xh → Prop := fun v h' => xcj (fun _ _ _ R => R v h') 0 [] h' Q
def xqv (Q : xh → Prop) : Option Value → xh → Prop := fun v h' => xcv (fun _ _ _ R => R v h') 0 [] h' Q
def xqr (Q : Option Nat → xh → Prop) : Option Value → xh → Prop := fun v h' => xcr (fun _ _ _ R => R v h') 0 [] h' Q
theorem xMC_in {n j : Nat} {as : List Value} {h : xh} {Q : Option Value → xh → Prop} {y : MethodName} {b : ByteArray} {ml : Nat} {rt : Option FieldType} {cd : List (List xop)} {kd na tg mc ms rc : Nat} {ps : List Nat} (hq : xmt[j]? = some (y, b, ml, rt, cd, kd, na, tg, mc, ms, rc, ps)) (hl : (Nat.ble (xarg as).length ml && xnd as) = true) (H : xW (xMC n) cd mc ms Q 0 (xpad ml (xarg as)) [] h 0 0) : xMC (n + 1) j as h Q := ⟨_, hq, hl, H⟩
theorem xci_mono {MC : Nat → List Value → xh → (Option Value → xh → Prop) → Prop} (hM : xMono MC) {j : Nat} {as : List Value} {h : xh} {Q Q' : Int32 → xh → Prop} (hQ : ∀ x h', Q x h' → Q' x h') (hc : xci MC j as h Q) : xci MC j as h Q' := hM _ _ _ _ _ (fun v h' q => by
  cases v with
  | none => exact q
  | some v => cases v <;> first | exact hQ _ _ q | exact q) hc
theorem xcj_mono {MC : Nat → List Value → xh → (Option Value → xh → Prop) → Prop} (hM : xMono MC) {j : Nat} {as : List Value} {h : xh} {Q Q' : Int64 → xh → Prop} (hQ : ∀ x h', Q x h' → Q' x h') (hc : xcj MC j as h Q) : xcj MC j as h Q' := hM _ _ _ _ _ (fun v h' q => by
  cases v with
  | none => exact q
  | some v => cases v <;> first | exact hQ _ _ q | exact q) hc
theorem xcv_mono {MC : Nat → List Value → xh → (Option Value → xh → Prop) → Prop} (hM : xMono MC) {j : Nat} {as : List Value} {h : xh} {Q Q' : xh → Prop} (hQ : ∀ h', Q h' → Q' h') (hc : xcv MC j as h Q) : xcv MC j as h Q' := hM _ _ _ _ _ (fun v h' q => by
  cases v with
  | none => exact hQ _ q
  | some v => exact q) hc
theorem xcr_mono {MC : Nat → List Value → xh → (Option Value → xh → Prop) → Prop} (hM : xMono MC) {j : Nat} {as : List Value} {h : xh} {Q Q' : Option Nat → xh → Prop} (hQ : ∀ x h', Q x h' → Q' x h') (hc : xcr MC j as h Q) : xcr MC j as h Q' := hM _ _ _ _ _ (fun v h' q => by
  cases v with
  | none => exact q
  | some v => cases v <;> first | exact hQ _ _ q | exact q) hc
def xel (p : Nat) : List Nat → Bool
  | [] => false
  | q :: r => match Nat.beq p q with
    | true => true
    | false => xel p r
/-- at most n instructions, up to the stops -/
def xFs (MC : Nat → List Value → xh → (Option Value → xh → Prop) → Prop) (cd : List (List xop)) (MK MS : Nat) (Q : Option Value → xh → Prop) (stops : List Nat) (n : Nat) : Nat → List (Option Value) → List Value → xh → Nat → Nat → Prop :=
  Nat.rec (xW MC cd MK MS Q) (fun _ ih => fun pc ls st h kc ks => match xel pc stops with
    | true => xW MC cd MK MS Q pc ls st h kc ks
    | false => xF MC MK MS Q ih (xat cd pc) ls st h kc ks) n
theorem xFs_W {MC : Nat → List Value → xh → (Option Value → xh → Prop) → Prop} (hM : xMono MC) {cd : List (List xop)} {MK MS : Nat} {Q : Option Value → xh → Prop} (stops : List Nat) : ∀ (n : Nat) (pc : Nat) (ls : List (Option Value)) (st : List Value) (h : xh) (kc ks : Nat), xFs MC cd MK MS Q stops n pc ls st h kc ks → xW MC cd MK MS Q pc ls st h kc ks
  | 0, _, _, _, _, _, _, hF => hF
  | n + 1, pc, ls, st, h, kc, ks, hF => by
    change (match xel pc stops with
      | true => xW MC cd MK MS Q pc ls st h kc ks
      | false => xF MC MK MS Q (xFs MC cd MK MS Q stops n) (xat cd pc) ls st h kc ks) at hF
    split at hF
    · exact hF
    · exact xW_step hM (xF_mono hM (fun _ _ q => q) (fun _ _ _ _ _ _ q => xFs_W hM stops n _ _ _ _ _ _ q) hF)
theorem xW_b {MC : Nat → List Value → xh → (Option Value → xh → Prop) → Prop} (hM : xMono MC) {cd : List (List xop)} {MK MS : Nat} {Q : Option Value → xh → Prop} (stops : List Nat) (n : Nat) {pc : Nat} {ls : List (Option Value)} {st : List Value} {h : xh} {kc ks : Nat} (H : xF MC MK MS Q (xFs MC cd MK MS Q stops n) (xat cd pc) ls st h kc ks) : xW MC cd MK MS Q pc ls st h kc ks :=
  xW_step hM (xF_mono hM (fun _ _ q => q) (fun _ _ _ _ _ _ q => xFs_W hM stops n _ _ _ _ _ _ q) H)
def xlc (u : Option Value) : Option Value := match xlg u with
  | true => none
  | false => u
theorem xrf_some {o : Option Nat} {P : Nat → Prop} {N : Prop} (h : ∃ v, o = some v ∧ P v) : (∀ v, o = some v → P v) ∧ (o = none → N) := by
  obtain ⟨v, h1, h2⟩ := h
  exact ⟨fun w hw => by rw [h1] at hw; cases hw; exact h2, fun hn => by rw [h1] at hn; cases hn⟩
theorem xrf_eq {o : Option Nat} {v : Nat} {P : Nat → Prop} {N : Prop} (ho : o = some v) (h : P v) : (∀ v, o = some v → P v) ∧ (o = none → N) := xrf_some ⟨v, ho, h⟩
theorem xex {P P' : Nat → Prop} {o : Option Nat} (h : ∃ v, o = some v ∧ P v) (f : ∀ v, (o = some v ∧ P v) → P' v) : ∃ v, o = some v ∧ P' v := by
  obtain ⟨v, h1, h2⟩ := h
  exact ⟨v, h1, f v ⟨h1, h2⟩⟩
theorem xrf_ex {P P' : Nat → Prop} {o : Option Nat} {N : Prop} (h : ∃ v, o = some v ∧ P v) (f : ∀ v, (o = some v ∧ P v) → P' v) : (∀ v, o = some v → P' v) ∧ (o = none → N) := xrf_some (xex h f)
theorem xcm_r {MC : Nat → List Value → xh → (Option Value → xh → Prop) → Prop} {MK MS j g kc ks : Nat} {as r : List Value} {h : xh} {K : List Value → xh → Nat → Nat → Prop} (hb : Nat.ble (xcs r) 8 = true) (H : xcr MC j as h (fun q h' => (∀ a, q = some a → K (.ref a :: r) h' kc ks) ∧ (q = none → K (.null :: r) h' kc ks))) : xcm MC MK MS 2 j 0 g as h K kc ks r := by
  unfold xcm
  rw [hb]
  exact H
theorem xl_lt {x y : Int64} : (x < y → ¬ y < x) ∧ (x < y → ¬ x = y) ∧ (x < y → ¬ y ≤ x) ∧ (x < y → x ≤ y) ∧ (x = y → ¬ x < y) ∧ (x = y → x ≤ y) := by
  refine ⟨fun h z => ?_, fun h z => ?_, fun h z => ?_, fun h => ?_, fun h z => ?_, fun h => ?_⟩ <;> simp only [Int64.lt_iff_toInt_lt, Int64.le_iff_toInt_le] at * <;> first | omega | (subst z; omega) | (subst h; omega)
theorem xlc_eq {x y : Int64} {A B : Prop} (h : (x = y → A) ∧ (¬ x = y → B)) : (x < y → ((-1 : Int32) = 0 → A) ∧ (¬ (-1 : Int32) = 0 → B)) ∧ (x = y → ((0 : Int32) = 0 → A) ∧ (¬ (0 : Int32) = 0 → B)) ∧ (y < x → ((1 : Int32) = 0 → A) ∧ (¬ (1 : Int32) = 0 → B)) :=
  ⟨fun q => ⟨fun z => absurd z (by decide), fun _ => h.2 (xl_lt.2.1 q)⟩, fun q => ⟨fun _ => h.1 q, fun z => absurd rfl z⟩, fun q => ⟨fun z => absurd z (by decide), fun _ => h.2 (fun z => xl_lt.2.1 q z.symm)⟩⟩
theorem xlc_ne {x y : Int64} {A B : Prop} (h : (¬ x = y → A) ∧ (x = y → B)) : (x < y → (¬ (-1 : Int32) = 0 → A) ∧ ((-1 : Int32) = 0 → B)) ∧ (x = y → (¬ (0 : Int32) = 0 → A) ∧ ((0 : Int32) = 0 → B)) ∧ (y < x → (¬ (1 : Int32) = 0 → A) ∧ ((1 : Int32) = 0 → B)) :=
  ⟨fun q => ⟨fun _ => h.1 (xl_lt.2.1 q), fun z => absurd z (by decide)⟩, fun q => ⟨fun z => absurd rfl z, fun _ => h.2 q⟩, fun q => ⟨fun _ => h.1 (fun z => xl_lt.2.1 q z.symm), fun z => absurd z (by decide)⟩⟩
theorem xlc_lt {x y : Int64} {A B : Prop} (h : (x < y → A) ∧ (¬ x < y → B)) : (x < y → ((-1 : Int32) < 0 → A) ∧ (¬ (-1 : Int32) < 0 → B)) ∧ (x = y → ((0 : Int32) < 0 → A) ∧ (¬ (0 : Int32) < 0 → B)) ∧ (y < x → ((1 : Int32) < 0 → A) ∧ (¬ (1 : Int32) < 0 → B)) :=
  ⟨fun q => ⟨fun _ => h.1 q, fun z => absurd (by decide) z⟩, fun q => ⟨fun z => absurd z (by decide), fun _ => h.2 (xl_lt.2.2.2.2.1 q)⟩, fun q => ⟨fun z => absurd z (by decide), fun _ => h.2 (xl_lt.1 q)⟩⟩
theorem xlc_ge {x y : Int64} {A B : Prop} (h : (y ≤ x → A) ∧ (¬ y ≤ x → B)) : (x < y → (0 ≤ (-1 : Int32) → A) ∧ (¬ 0 ≤ (-1 : Int32) → B)) ∧ (x = y → (0 ≤ (0 : Int32) → A) ∧ (¬ 0 ≤ (0 : Int32) → B)) ∧ (y < x → (0 ≤ (1 : Int32) → A) ∧ (¬ 0 ≤ (1 : Int32) → B)) :=
  ⟨fun q => ⟨fun z => absurd z (by decide), fun _ => h.2 (xl_lt.2.2.1 q)⟩, fun q => ⟨fun _ => h.1 (xl_lt.2.2.2.2.2 q.symm), fun z => absurd (by decide) z⟩, fun q => ⟨fun _ => h.1 (xl_lt.2.2.2.1 q), fun z => absurd (by decide) z⟩⟩
theorem xlc_gt {x y : Int64} {A B : Prop} (h : (y < x → A) ∧ (¬ y < x → B)) : (x < y → (0 < (-1 : Int32) → A) ∧ (¬ 0 < (-1 : Int32) → B)) ∧ (x = y → (0 < (0 : Int32) → A) ∧ (¬ 0 < (0 : Int32) → B)) ∧ (y < x → (0 < (1 : Int32) → A) ∧ (¬ 0 < (1 : Int32) → B)) :=
  ⟨fun q => ⟨fun z => absurd z (by decide), fun _ => h.2 (xl_lt.1 q)⟩, fun q => ⟨fun z => absurd z (by decide), fun _ => h.2 (xl_lt.2.2.2.2.1 q.symm)⟩, fun q => ⟨fun _ => h.1 q, fun z => absurd (by decide) z⟩⟩
theorem xlc_le {x y : Int64} {A B : Prop} (h : (x ≤ y → A) ∧ (¬ x ≤ y → B)) : (x < y → ((-1 : Int32) ≤ 0 → A) ∧ (¬ (-1 : Int32) ≤ 0 → B)) ∧ (x = y → ((0 : Int32) ≤ 0 → A) ∧ (¬ (0 : Int32) ≤ 0 → B)) ∧ (y < x → ((1 : Int32) ≤ 0 → A) ∧ (¬ (1 : Int32) ≤ 0 → B)) :=
  ⟨fun q => ⟨fun _ => h.1 (xl_lt.2.2.2.1 q), fun z => absurd (by decide) z⟩, fun q => ⟨fun _ => h.1 (xl_lt.2.2.2.2.2 q), fun z => absurd (by decide) z⟩, fun q => ⟨fun z => absurd z (by decide), fun _ => h.2 (xl_lt.2.2.1 q)⟩⟩
set_option maxRecDepth 100000 in
theorem mt_0 : xmt[0]? = some (⟨"java/lang/Integer", "bitCount", "(I)I"⟩, prog_15_method_49_code, 1, (some FieldType.int), cd_Integer_bitCount, 0, 1, 0, 0, 0, 0, [1222, 162, 1221, 0]) := rfl
set_option maxRecDepth 100000 in
theorem mt_1 : xmt[1]? = some (⟨"java/lang/Math", "min", "(II)I"⟩, prog_16_method_69_code, 2, (some FieldType.int), cd_Math_min_III, 0, 2, 0, 0, 0, 0, [656, 155, 655, 0]) := rfl
set_option maxRecDepth 100000 in
theorem mt_2 : xmt[2]? = some (⟨"java/lang/Math", "max", "(II)I"⟩, prog_16_method_65_code, 2, (some FieldType.int), cd_Math_max, 0, 2, 0, 0, 0, 0, [863, 155, 862, 0]) := rfl
set_option maxRecDepth 100000 in
theorem mt_3 : xmt[3]? = some (⟨"java/lang/Math", "abs", "(I)I"⟩, prog_16_method_59_code, 1, (some FieldType.int), cd_Math_abs, 0, 1, 0, 0, 0, 0, [972, 155, 971, 0]) := rfl
set_option maxRecDepth 100000 in
theorem mt_4 : xmt[4]? = some (⟨"java/lang/Math", "min", "(JJ)J"⟩, prog_16_method_70_code, 4, (some FieldType.long), cd_Math_min_JJJ, 0, 2, 0, 0, 0, 1, [1049, 155, 1048, 0]) := rfl
set_option maxRecDepth 100000 in
theorem mt_5 : xmt[5]? = some (⟨"java/lang/Math", "floorMod", "(II)I"⟩, prog_16_method_50_code, 3, (some FieldType.int), cd_Math_floorMod, 0, 2, 0, 0, 0, 0, [1454, 155, 1453, 0]) := rfl
set_option maxRecDepth 100000 in
theorem mt_6 : xmt[6]? = some (⟨"java/util/Arrays", "fill", "([JJ)V"⟩, prog_21_method_101_code, 5, none, cd_Arrays_fill_JJV, 0, 2, 0, 0, 0, 3, [1096, 163, 1095, 0]) := rfl
set_option maxRecDepth 100000 in
theorem mt_7 : xmt[7]? = some (⟨"java/util/Arrays", "fill", "([II)V"⟩, prog_21_method_103_code, 4, none, cd_Arrays_fill_IIV, 0, 2, 0, 0, 0, 3, [1301, 163, 1300, 0]) := rfl
set_option maxRecDepth 100000 in
theorem mt_8 : xmt[8]? = some (⟨"java/lang/StringUTF16", "charAt", "([BI)C"⟩, prog_19_method_83_code, 2, (some FieldType.char), cd_StringUTF16_charAt, 0, 2, 0, 0, 0, 0, [746, 159, 745, 0]) := rfl
set_option maxRecDepth 100000 in
theorem mt_9 : xmt[9]? = some (⟨"java/lang/StringUTF16", "checkIndex", "(I[B)V"⟩, prog_19_method_91_code, 2, none, cd_StringUTF16_checkIndex, 0, 2, 0, 0, 0, 3, [749, 159, 748, 0]) := rfl
set_option maxRecDepth 100000 in
theorem mt_10 : xmt[10]? = some (⟨"java/lang/StringUTF16", "length", "([B)I"⟩, prog_19_method_6_code, 1, (some FieldType.int), cd_StringUTF16_length, 0, 1, 0, 0, 0, 0, [752, 159, 751, 0]) := rfl
set_option maxRecDepth 100000 in
theorem mt_11 : xmt[11]? = some (⟨"java/lang/StringUTF16", "getChar", "([BI)C"⟩, prog_19_method_5_code, 2, (some FieldType.char), cd_StringUTF16_getChar, 0, 2, 0, 0, 0, 0, [756, 159, 755, 0]) := rfl
set_option maxRecDepth 100000 in
theorem mt_12 : xmt[12]? = some (⟨"java/lang/StringLatin1", "charAt", "([BI)C"⟩, prog_18_method_2_code, 2, (some FieldType.char), cd_StringLatin1_charAt, 0, 2, 0, 0, 0, 0, [735, 157, 734, 0]) := rfl
set_option maxRecDepth 100000 in
theorem mt_13 : xmt[13]? = some (⟨"java/lang/String", "length", "()I"⟩, prog_17_method_54_code, 1, (some FieldType.int), cd_String_length, 1, 0, 30, 0, 0, 0, [718, 156, 716, 717]) := rfl
set_option maxRecDepth 100000 in
theorem mt_14 : xmt[14]? = some (⟨"java/lang/String", "coder", "()B"⟩, prog_17_method_152_code, 1, (some FieldType.byte), cd_String_coder, 1, 0, 30, 0, 0, 0, [722, 156, 720, 721]) := rfl
set_option maxRecDepth 100000 in
theorem mt_15 : xmt[15]? = some (⟨"java/lang/String", "charAt", "(I)C"⟩, prog_17_method_56_code, 2, (some FieldType.char), cd_String_charAt, 1, 1, 30, 0, 0, 0, [728, 156, 726, 727]) := rfl
set_option maxRecDepth 100000 in
theorem mt_16 : xmt[16]? = some (⟨"java/lang/String", "isLatin1", "()Z"⟩, prog_17_method_154_code, 1, (some FieldType.boolean), cd_String_isLatin1, 1, 0, 30, 0, 0, 0, [732, 156, 730, 731]) := rfl
set_option maxRecDepth 100000 in
theorem mt_17 : xmt[17]? = some (⟨"java/lang/String", "checkIndex", "(II)V"⟩, prog_17_method_155_code, 2, none, cd_String_checkIndex, 0, 2, 0, 0, 0, 3, [738, 156, 737, 0]) := rfl
set_option maxRecDepth 100000 in
theorem mt_18 : xmt[18]? = some (⟨"jdk/internal/util/Preconditions", "checkIndex", "(IILjava/util/function/BiFunction;)I"⟩, prog_22_method_11_code, 3, (some FieldType.int), cd_Preconditions_checkIndex, 0, 3, 0, 0, 0, 0, [743, 158, 742, 0]) := rfl
set_option maxRecDepth 100000 in
theorem mt_19 : xmt[19]? = some (⟨"SoupNine$Fraction", "part", "(JJZ)J"⟩, prog_5_method_2_code, 7, (some FieldType.long), cd_Fraction_part, 0, 3, 0, 0, 0, 1, [1065, 161, 1064, 0]) := rfl
set_option maxRecDepth 100000 in
theorem mt_20 : xmt[20]? = some (⟨"SoupNine$Fraction", "divisor", "(JJ)J"⟩, prog_5_method_3_code, 7, (some FieldType.long), cd_Fraction_divisor, 0, 2, 0, 0, 0, 1, [1068, 161, 1067, 0]) := rfl
set_option maxRecDepth 100000 in
theorem mt_21 : xmt[21]? = some (⟨"SoupNine$Fraction", "power", "(II)J"⟩, prog_5_method_6_code, 5, (some FieldType.long), cd_Fraction_power, 0, 2, 0, 0, 0, 1, [1399, 161, 1398, 0]) := rfl
set_option maxRecDepth 100000 in
theorem mt_22 : xmt[22]? = some (⟨"SoupNine$Fraction", "share", "(JJZ)J"⟩, prog_5_method_4_code, 5, (some FieldType.long), cd_Fraction_share, 0, 3, 0, 0, 0, 1, [1405, 161, 1404, 0]) := rfl
set_option maxRecDepth 100000 in
theorem mt_23 : xmt[23]? = some (⟨"SoupNine$Fraction", "reaches", "(JJI)Z"⟩, prog_5_method_5_code, 5, (some FieldType.boolean), cd_Fraction_reaches, 0, 3, 0, 0, 0, 0, [1413, 161, 1412, 0]) := rfl
set_option maxRecDepth 100000 in
theorem mt_24 : xmt[24]? = some (⟨"SoupNine$Evening", "<init>", "()V"⟩, prog_4_method_1_code, 1, none, cd_Evening_init, 2, 0, 3, 2, 80, 3, [255, 146, 254, 0]) := rfl
set_option maxRecDepth 100000 in
theorem mt_25 : xmt[25]? = some (⟨"SoupNine$Evening", "addDeed", "(II)V"⟩, prog_4_method_3_code, 3, none, cd_Evening_addDeed, 1, 2, 3, 0, 0, 3, [811, 146, 809, 810]) := rfl
set_option maxRecDepth 100000 in
theorem mt_26 : xmt[26]? = some (⟨"SoupNine$Evening", "copyFrom", "(LSoupNine$Evening;)V"⟩, prog_4_method_2_code, 2, none, cd_Evening_copyFrom, 1, 1, 3, 0, 0, 3, [849, 146, 847, 848]) := rfl
set_option maxRecDepth 100000 in
theorem mt_27 : xmt[27]? = some (⟨"SoupNine$Evening", "detail", "(II)I"⟩, prog_4_method_4_code, 3, (some FieldType.int), cd_Evening_detail, 1, 2, 3, 0, 0, 0, [936, 146, 934, 935]) := rfl
set_option maxRecDepth 100000 in
theorem mt_28 : xmt[28]? = some (⟨"SoupNine$Sheet", "<init>", "()V"⟩, prog_9_method_1_code, 1, none, cd_Sheet_init, 2, 0, 5, 6, 46, 3, [299, 148, 298, 0]) := rfl
set_option maxRecDepth 100000 in
theorem mt_29 : xmt[29]? = some (⟨"SoupNine$Sheet", "clear", "()V"⟩, prog_9_method_2_code, 1, none, cd_Sheet_clear, 1, 0, 5, 0, 0, 3, [664, 148, 662, 663]) := rfl
set_option maxRecDepth 100000 in
theorem mt_30 : xmt[30]? = some (⟨"SoupNine$Sheet", "addShoe", "(I)V"⟩, prog_9_method_4_code, 2, none, cd_Sheet_addShoe, 1, 1, 5, 0, 0, 3, [826, 148, 824, 825]) := rfl
set_option maxRecDepth 100000 in
theorem mt_31 : xmt[31]? = some (⟨"SoupNine$Sheet", "addFoot", "(II)V"⟩, prog_9_method_5_code, 3, none, cd_Sheet_addFoot, 1, 2, 5, 0, 0, 3, [830, 148, 828, 829]) := rfl
set_option maxRecDepth 100000 in
theorem mt_32 : xmt[32]? = some (⟨"SoupNine$Sheet", "addHide", "(III)V"⟩, prog_9_method_6_code, 4, none, cd_Sheet_addHide, 1, 3, 5, 0, 0, 3, [834, 148, 832, 833]) := rfl
set_option maxRecDepth 100000 in
theorem mt_33 : xmt[33]? = some (⟨"SoupNine$Sheet", "copyFrom", "(LSoupNine$Sheet;)V"⟩, prog_9_method_3_code, 2, none, cd_Sheet_copyFrom, 1, 1, 5, 0, 0, 3, [859, 148, 857, 858]) := rfl
set_option maxRecDepth 100000 in
theorem mt_34 : xmt[34]? = some (⟨"SoupNine$Sheet", "detail", "(I)I"⟩, prog_9_method_9_code, 2, (some FieldType.int), cd_Sheet_detail, 1, 1, 5, 0, 0, 0, [1326, 148, 1324, 1325]) := rfl
set_option maxRecDepth 100000 in
theorem mt_35 : xmt[35]? = some (⟨"SoupNine$Sheet", "detailOf", "(II)I"⟩, prog_9_method_10_code, 3, (some FieldType.int), cd_Sheet_detailOf, 1, 2, 5, 0, 0, 0, [1330, 148, 1329, 47]) := rfl
set_option maxRecDepth 100000 in
theorem mt_36 : xmt[36]? = some (⟨"SoupNine$Sheet", "fits", "(II)Z"⟩, prog_9_method_7_code, 3, (some FieldType.boolean), cd_Sheet_fits, 1, 2, 5, 0, 0, 0, [1350, 148, 1348, 1349]) := rfl
set_option maxRecDepth 100000 in
theorem mt_37 : xmt[37]? = some (⟨"SoupNine$Sheet", "steps", "(II)I"⟩, prog_9_method_8_code, 5, (some FieldType.int), cd_Sheet_steps, 1, 2, 5, 0, 0, 0, [1372, 148, 1370, 1371]) := rfl
set_option maxRecDepth 100000 in
theorem mt_38 : xmt[38]? = some (⟨"SoupNine$Town", "<init>", "()V"⟩, prog_11_method_1_code, 1, none, cd_Town_init, 2, 0, 2, 7, 63, 3, [183, 145, 182, 0]) := rfl
set_option maxRecDepth 100000 in
theorem mt_39 : xmt[39]? = some (⟨"SoupNine$Town", "clear", "()V"⟩, prog_11_method_2_code, 2, none, cd_Town_clear, 1, 0, 2, 0, 0, 3, [660, 145, 658, 659]) := rfl
set_option maxRecDepth 100000 in
theorem mt_40 : xmt[40]? = some (⟨"SoupNine$Town", "addStop", "(I[I)V"⟩, prog_11_method_4_code, 3, none, cd_Town_addStop, 1, 2, 2, 0, 0, 3, [799, 145, 797, 798]) := rfl
set_option maxRecDepth 100000 in
theorem mt_41 : xmt[41]? = some (⟨"SoupNine$Town", "setFollow", "(III)V"⟩, prog_11_method_5_code, 4, none, cd_Town_setFollow, 1, 3, 2, 0, 0, 3, [807, 145, 805, 806]) := rfl
set_option maxRecDepth 100000 in
theorem mt_42 : xmt[42]? = some (⟨"SoupNine$Town", "copyFrom", "(LSoupNine$Town;)V"⟩, prog_11_method_3_code, 2, none, cd_Town_copyFrom, 1, 1, 2, 0, 0, 3, [842, 145, 840, 841]) := rfl
set_option maxRecDepth 100000 in
theorem mt_43 : xmt[43]? = some (⟨"SoupNine$Town", "detail", "(I)I"⟩, prog_11_method_16_code, 2, (some FieldType.int), cd_Town_detail, 1, 1, 2, 0, 0, 0, [916, 145, 914, 915]) := rfl
set_option maxRecDepth 100000 in
theorem mt_44 : xmt[44]? = some (⟨"SoupNine$Town", "hasStop", "(I)Z"⟩, prog_11_method_6_code, 2, (some FieldType.boolean), cd_Town_hasStop, 1, 1, 2, 0, 0, 0, [920, 145, 918, 919]) := rfl
set_option maxRecDepth 100000 in
theorem mt_45 : xmt[45]? = some (⟨"SoupNine$Town", "detailOfStop", "(II)I"⟩, prog_11_method_17_code, 3, (some FieldType.int), cd_Town_detailOfStop, 1, 2, 2, 0, 0, 0, [924, 145, 923, 16]) := rfl
set_option maxRecDepth 100000 in
theorem mt_46 : xmt[46]? = some (⟨"SoupNine$Town", "middle", "(I)I"⟩, prog_11_method_8_code, 2, (some FieldType.int), cd_Town_middle, 1, 1, 2, 0, 0, 0, [948, 145, 946, 947]) := rfl
set_option maxRecDepth 100000 in
theorem mt_47 : xmt[47]? = some (⟨"SoupNine$Town", "minutes", "(II)I"⟩, prog_11_method_11_code, 3, (some FieldType.int), cd_Town_minutes, 1, 2, 2, 0, 0, 0, [965, 145, 963, 964]) := rfl
set_option maxRecDepth 100000 in
theorem mt_48 : xmt[48]? = some (⟨"SoupNine$Town", "columnOf", "(I)I"⟩, prog_11_method_12_code, 2, (some FieldType.int), cd_Town_columnOf, 1, 1, 2, 0, 0, 0, [969, 145, 968, 19]) := rfl
set_option maxRecDepth 100000 in
theorem mt_49 : xmt[49]? = some (⟨"SoupNine$Town", "rowOf", "(I)I"⟩, prog_11_method_13_code, 2, (some FieldType.int), cd_Town_rowOf, 1, 1, 2, 0, 0, 0, [976, 145, 975, 20]) := rfl
set_option maxRecDepth 100000 in
theorem mt_50 : xmt[50]? = some (⟨"SoupNine$Town", "mayCome", "(II)Z"⟩, prog_11_method_7_code, 3, (some FieldType.boolean), cd_Town_mayCome, 1, 2, 2, 0, 0, 0, [1030, 145, 1028, 1029]) := rfl
set_option maxRecDepth 100000 in
theorem mt_51 : xmt[51]? = some (⟨"SoupNine$Town", "weight", "(I)I"⟩, prog_11_method_9_code, 2, (some FieldType.int), cd_Town_weight, 1, 1, 2, 0, 0, 0, [1046, 145, 1044, 1045]) := rfl
set_option maxRecDepth 100000 in
theorem mt_52 : xmt[52]? = some (⟨"SoupNine$Town", "mostInAll", "()I"⟩, prog_11_method_10_code, 3, (some FieldType.int), cd_Town_mostInAll, 1, 0, 2, 0, 0, 0, [1076, 145, 1074, 1075]) := rfl
set_option maxRecDepth 100000 in
theorem mt_53 : xmt[53]? = some (⟨"SoupNine$Town", "minutesFromPlace", "(I)I"⟩, prog_11_method_14_code, 4, (some FieldType.int), cd_Town_minutesFromPlace, 1, 1, 2, 0, 0, 0, [1196, 145, 1194, 1195]) := rfl
set_option maxRecDepth 100000 in
theorem mt_54 : xmt[54]? = some (⟨"SoupNine$Town", "trailFrom", "(IZ)I"⟩, prog_11_method_15_code, 6, (some FieldType.int), cd_Town_trailFrom, 1, 2, 2, 0, 0, 0, [1219, 145, 1217, 1218]) := rfl
set_option maxRecDepth 100000 in
theorem mt_55 : xmt[55]? = some (⟨"SoupNine$Book", "<init>", "()V"⟩, prog_2_method_1_code, 1, none, cd_Book_init, 2, 0, 4, 3, 50, 3, [277, 147, 276, 0]) := rfl
set_option maxRecDepth 100000 in
theorem mt_56 : xmt[56]? = some (⟨"SoupNine$Book", "lotRow", "(I)I"⟩, prog_2_method_13_code, 1, (some FieldType.int), cd_Book_lotRow, 0, 1, 0, 0, 0, 0, [600, 147, 599, 0]) := rfl
set_option maxRecDepth 100000 in
theorem mt_57 : xmt[57]? = some (⟨"SoupNine$Book", "addNight", "(II)V"⟩, prog_2_method_3_code, 4, none, cd_Book_addNight, 1, 2, 4, 0, 0, 3, [815, 147, 813, 814]) := rfl
set_option maxRecDepth 100000 in
theorem mt_58 : xmt[58]? = some (⟨"SoupNine$Book", "setAsked", "(II)V"⟩, prog_2_method_4_code, 3, none, cd_Book_setAsked, 1, 2, 4, 0, 0, 3, [819, 147, 817, 818]) := rfl
set_option maxRecDepth 100000 in
theorem mt_59 : xmt[59]? = some (⟨"SoupNine$Book", "copyFrom", "(LSoupNine$Book;)V"⟩, prog_2_method_2_code, 2, none, cd_Book_copyFrom, 1, 1, 4, 0, 0, 3, [854, 147, 852, 853]) := rfl
set_option maxRecDepth 100000 in
theorem mt_60 : xmt[60]? = some (⟨"SoupNine$Book", "detail", "(II)I"⟩, prog_2_method_16_code, 3, (some FieldType.int), cd_Book_detail, 1, 2, 4, 0, 0, 0, [1246, 147, 1244, 1245]) := rfl
set_option maxRecDepth 100000 in
theorem mt_61 : xmt[61]? = some (⟨"SoupNine$Book", "unlikeAheadOf", "(I)I"⟩, prog_2_method_5_code, 4, (some FieldType.int), cd_Book_unlikeAheadOf, 1, 1, 4, 0, 0, 0, [1254, 147, 1252, 1253]) := rfl
set_option maxRecDepth 100000 in
theorem mt_62 : xmt[62]? = some (⟨"SoupNine$Book", "heldInAll", "(Z)I"⟩, prog_2_method_6_code, 5, (some FieldType.int), cd_Book_heldInAll, 1, 1, 4, 0, 0, 0, [1258, 147, 1256, 1257]) := rfl
set_option maxRecDepth 100000 in
theorem mt_63 : xmt[63]? = some (⟨"SoupNine$Book", "doorway", "()I"⟩, prog_2_method_7_code, 5, (some FieldType.int), cd_Book_doorway, 1, 0, 4, 0, 0, 0, [1264, 147, 1262, 1263]) := rfl
set_option maxRecDepth 100000 in
theorem mt_64 : xmt[64]? = some (⟨"SoupNine$Book", "moreFrom", "(I)I"⟩, prog_2_method_9_code, 3, (some FieldType.int), cd_Book_moreFrom, 1, 1, 4, 0, 0, 0, [1268, 147, 1267, 44]) := rfl
set_option maxRecDepth 100000 in
theorem mt_65 : xmt[65]? = some (⟨"SoupNine$Book", "seenAheadOf", "(I)I"⟩, prog_2_method_10_code, 4, (some FieldType.int), cd_Book_seenAheadOf, 1, 1, 4, 0, 0, 0, [1272, 147, 1271, 45]) := rfl
set_option maxRecDepth 100000 in
theorem mt_66 : xmt[66]? = some (⟨"SoupNine$Book", "doorwayDifference", "(Z)I"⟩, prog_2_method_8_code, 3, (some FieldType.int), cd_Book_doorwayDifference, 1, 1, 4, 0, 0, 0, [1276, 147, 1274, 1275]) := rfl
set_option maxRecDepth 100000 in
theorem mt_67 : xmt[67]? = some (⟨"SoupNine$Book", "enoughOn", "(II)I"⟩, prog_2_method_14_code, 6, (some FieldType.int), cd_Book_enoughOn, 1, 2, 4, 0, 0, 0, [1286, 147, 1284, 1285]) := rfl
set_option maxRecDepth 100000 in
theorem mt_68 : xmt[68]? = some (⟨"SoupNine$Book", "chanceOfAsMany", "(LSoupNine$Book;[IZ)J"⟩, prog_2_method_11_code, 11, (some FieldType.long), cd_Book_chanceOfAsMany, 1, 3, 4, 0, 0, 1, [1298, 147, 1296, 1297]) := rfl
set_option maxRecDepth 100000 in
theorem mt_69 : xmt[69]? = some (⟨"SoupNine$Book", "maybePick", "(I[I)V"⟩, prog_2_method_12_code, 7, none, cd_Book_maybePick, 1, 2, 4, 0, 0, 3, [1305, 147, 1304, 46]) := rfl
set_option maxRecDepth 100000 in
theorem mt_70 : xmt[70]? = some (⟨"SoupNine$Book", "couplesWith", "(LSoupNine$Book;I)I"⟩, prog_2_method_15_code, 6, (some FieldType.int), cd_Book_couplesWith, 1, 2, 4, 0, 0, 0, [1314, 147, 1312, 1313]) := rfl
set_option maxRecDepth 100000 in
theorem mt_71 : xmt[71]? = some (⟨"SoupNine$Bowls", "<init>", "()V"⟩, prog_3_method_1_code, 1, none, cd_Bowls_init, 2, 0, 8, 3, 1191, 3, [489, 151, 488, 0]) := rfl
set_option maxRecDepth 100000 in
theorem mt_72 : xmt[72]? = some (⟨"SoupNine$Bowls", "forget", "()V"⟩, prog_3_method_2_code, 1, none, cd_Bowls_forget, 1, 0, 8, 0, 0, 3, [871, 151, 869, 870]) := rfl
set_option maxRecDepth 100000 in
theorem mt_73 : xmt[73]? = some (⟨"SoupNine$Bowls", "bestGift", "(LSoupNine$Town;III)I"⟩, prog_3_method_3_code, 7, (some FieldType.int), cd_Bowls_bestGift, 1, 4, 8, 0, 0, 0, [1034, 151, 1032, 1033]) := rfl
set_option maxRecDepth 100000 in
theorem mt_74 : xmt[74]? = some (⟨"SoupNine$Bowls", "prepare", "(LSoupNine$Town;)V"⟩, prog_3_method_7_code, 4, none, cd_Bowls_prepare, 1, 1, 8, 0, 0, 3, [1038, 151, 1037, 27]) := rfl
set_option maxRecDepth 100000 in
theorem mt_75 : xmt[75]? = some (⟨"SoupNine$Bowls", "countsOverAll", "(LSoupNine$Town;II)J"⟩, prog_3_method_8_code, 13, (some FieldType.long), cd_Bowls_countsOverAll, 1, 3, 8, 0, 0, 1, [1042, 151, 1041, 28]) := rfl
set_option maxRecDepth 100000 in
theorem mt_76 : xmt[76]? = some (⟨"SoupNine$Bowls", "countsAfter", "(LSoupNine$Town;IIII)J"⟩, prog_3_method_6_code, 6, (some FieldType.long), cd_Bowls_countsAfter, 1, 5, 8, 0, 0, 1, [1053, 151, 1052, 29]) := rfl
set_option maxRecDepth 100000 in
theorem mt_77 : xmt[77]? = some (⟨"SoupNine$Bowls", "meanFrom", "(LSoupNine$Town;IIZ)J"⟩, prog_3_method_4_code, 5, (some FieldType.long), cd_Bowls_meanFrom, 1, 4, 8, 0, 0, 1, [1062, 151, 1060, 1061]) := rfl
set_option maxRecDepth 100000 in
theorem mt_78 : xmt[78]? = some (⟨"SoupNine$Bowls", "meanOnceTold", "(LSoupNine$Town;IIZ)J"⟩, prog_3_method_5_code, 6, (some FieldType.long), cd_Bowls_meanOnceTold, 1, 4, 8, 0, 0, 1, [1084, 151, 1082, 1083]) := rfl
set_option maxRecDepth 100000 in
theorem mt_79 : xmt[79]? = some (⟨"SoupNine$Bowls", "chanceOfMore", "(LSoupNine$Town;IZ)J"⟩, prog_3_method_9_code, 7, (some FieldType.long), cd_Bowls_chanceOfMore, 1, 3, 8, 0, 0, 1, [1093, 151, 1091, 1092]) := rfl
set_option maxRecDepth 100000 in
theorem mt_80 : xmt[80]? = some (⟨"SoupNine$Bowls", "waysTo", "(III)J"⟩, prog_3_method_10_code, 7, (some FieldType.long), cd_Bowls_waysTo, 1, 3, 8, 0, 0, 1, [1100, 151, 1099, 30]) := rfl
set_option maxRecDepth 100000 in
theorem mt_81 : xmt[81]? = some (⟨"SoupNine$Routes", "<init>", "()V"⟩, prog_7_method_1_code, 1, none, cd_Routes_init, 2, 0, 9, 8, 6764, 3, [509, 152, 508, 0]) := rfl
set_option maxRecDepth 100000 in
theorem mt_82 : xmt[82]? = some (⟨"SoupNine$Routes", "forget", "()V"⟩, prog_7_method_2_code, 1, none, cd_Routes_forget, 1, 0, 9, 0, 0, 3, [875, 152, 873, 874]) := rfl
set_option maxRecDepth 100000 in
theorem mt_83 : xmt[83]? = some (⟨"SoupNine$Routes", "prepare", "(LSoupNine$Town;)V"⟩, prog_7_method_3_code, 2, none, cd_Routes_prepare, 1, 1, 9, 0, 0, 3, [1108, 152, 1106, 1107]) := rfl
set_option maxRecDepth 100000 in
theorem mt_84 : xmt[84]? = some (⟨"SoupNine$Routes", "measure", "(LSoupNine$Town;)V"⟩, prog_7_method_4_code, 4, none, cd_Routes_measure, 1, 1, 9, 0, 0, 3, [1112, 152, 1111, 31]) := rfl
set_option maxRecDepth 100000 in
theorem mt_85 : xmt[85]? = some (⟨"SoupNine$Routes", "findPaths", "(LSoupNine$Town;)V"⟩, prog_7_method_5_code, 5, none, cd_Routes_findPaths, 1, 1, 9, 0, 0, 3, [1118, 152, 1117, 32]) := rfl
set_option maxRecDepth 100000 in
theorem mt_86 : xmt[86]? = some (⟨"SoupNine$Routes", "has", "(II)Z"⟩, prog_7_method_11_code, 2, (some FieldType.boolean), cd_Routes_has, 0, 2, 0, 0, 0, 0, [1122, 152, 1121, 0]) := rfl
set_option maxRecDepth 100000 in
theorem mt_87 : xmt[87]? = some (⟨"SoupNine$Routes", "shortest", "(LSoupNine$Town;II)I"⟩, prog_7_method_6_code, 6, (some FieldType.int), cd_Routes_shortest, 1, 3, 9, 0, 0, 0, [1126, 152, 1125, 33]) := rfl
set_option maxRecDepth 100000 in
theorem mt_88 : xmt[88]? = some (⟨"SoupNine$Routes", "findRound", "(LSoupNine$Town;)V"⟩, prog_7_method_7_code, 8, none, cd_Routes_findRound, 1, 1, 9, 0, 0, 3, [1131, 152, 1130, 34]) := rfl
set_option maxRecDepth 100000 in
theorem mt_89 : xmt[89]? = some (⟨"SoupNine$Routes", "findBestOfWay", "(LSoupNine$Town;)V"⟩, prog_7_method_12_code, 4, none, cd_Routes_findBestOfWay, 1, 1, 9, 0, 0, 3, [1135, 152, 1134, 35]) := rfl
set_option maxRecDepth 100000 in
theorem mt_90 : xmt[90]? = some (⟨"SoupNine$Routes", "isPeopled", "(I)Z"⟩, prog_7_method_10_code, 2, (some FieldType.boolean), cd_Routes_isPeopled, 1, 1, 9, 0, 0, 0, [1139, 152, 1138, 36]) := rfl
set_option maxRecDepth 100000 in
theorem mt_91 : xmt[91]? = some (⟨"SoupNine$Routes", "fewestMinutes", "(LSoupNine$Town;I)I"⟩, prog_7_method_13_code, 5, (some FieldType.int), cd_Routes_fewestMinutes, 1, 2, 9, 0, 0, 0, [1143, 152, 1142, 37]) := rfl
set_option maxRecDepth 100000 in
theorem mt_92 : xmt[92]? = some (⟨"SoupNine$Routes", "isWarm", "(LSoupNine$Town;II)Z"⟩, prog_7_method_8_code, 4, (some FieldType.boolean), cd_Routes_isWarm, 1, 3, 9, 0, 0, 0, [1147, 152, 1146, 38]) := rfl
set_option maxRecDepth 100000 in
theorem mt_93 : xmt[93]? = some (⟨"SoupNine$Routes", "doneAt", "(II)I"⟩, prog_7_method_9_code, 3, (some FieldType.int), cd_Routes_doneAt, 1, 2, 9, 0, 0, 0, [1151, 152, 1150, 39]) := rfl
set_option maxRecDepth 100000 in
theorem mt_94 : xmt[94]? = some (⟨"SoupNine$Routes", "findWay", "(LSoupNine$Town;)V"⟩, prog_7_method_14_code, 6, none, cd_Routes_findWay, 1, 1, 9, 0, 0, 3, [1155, 152, 1154, 40]) := rfl
set_option maxRecDepth 100000 in
theorem mt_95 : xmt[95]? = some (⟨"SoupNine$Routes", "isBest", "(LSoupNine$Town;II)Z"⟩, prog_7_method_15_code, 4, (some FieldType.boolean), cd_Routes_isBest, 1, 3, 9, 0, 0, 0, [1159, 152, 1158, 41]) := rfl
set_option maxRecDepth 100000 in
theorem mt_96 : xmt[96]? = some (⟨"SoupNine$Routes", "nextOf", "(LSoupNine$Town;II)I"⟩, prog_7_method_16_code, 7, (some FieldType.int), cd_Routes_nextOf, 1, 3, 9, 0, 0, 0, [1163, 152, 1162, 42]) := rfl
set_option maxRecDepth 100000 in
theorem mt_97 : xmt[97]? = some (⟨"SoupNine$Routes", "talksAtFirst", "(LSoupNine$Town;)I"⟩, prog_7_method_18_code, 2, (some FieldType.int), cd_Routes_talksAtFirst, 1, 1, 9, 0, 0, 0, [1175, 152, 1173, 1174]) := rfl
set_option maxRecDepth 100000 in
theorem mt_98 : xmt[98]? = some (⟨"SoupNine$Routes", "talksAheadOfLast", "(LSoupNine$Town;)I"⟩, prog_7_method_19_code, 3, (some FieldType.int), cd_Routes_talksAheadOfLast, 1, 1, 9, 0, 0, 0, [1179, 152, 1178, 43]) := rfl
set_option maxRecDepth 100000 in
theorem mt_99 : xmt[99]? = some (⟨"SoupNine$Routes", "mostWarmWithout", "(LSoupNine$Town;I)I"⟩, prog_7_method_17_code, 5, (some FieldType.int), cd_Routes_mostWarmWithout, 1, 2, 9, 0, 0, 0, [1188, 152, 1186, 1187]) := rfl
set_option maxRecDepth 100000 in
theorem mt_100 : xmt[100]? = some (⟨"SoupNine$Routes", "stopsOfFirstVan", "()I"⟩, prog_7_method_22_code, 3, (some FieldType.int), cd_Routes_stopsOfFirstVan, 1, 0, 9, 0, 0, 0, [1205, 152, 1203, 1204]) := rfl
set_option maxRecDepth 100000 in
theorem mt_101 : xmt[101]? = some (⟨"SoupNine$Routes", "homeLast", "(I)I"⟩, prog_7_method_21_code, 2, (some FieldType.int), cd_Routes_homeLast, 1, 1, 9, 0, 0, 0, [1209, 152, 1207, 1208]) := rfl
set_option maxRecDepth 100000 in
theorem mt_102 : xmt[102]? = some (⟨"SoupNine$Routes", "stopsToTalkAt", "(LSoupNine$Town;)I"⟩, prog_7_method_20_code, 7, (some FieldType.int), cd_Routes_stopsToTalkAt, 1, 1, 9, 0, 0, 0, [1233, 152, 1231, 1232]) := rfl
set_option maxRecDepth 100000 in
theorem mt_103 : xmt[103]? = some (⟨"SoupNine$Search", "<init>", "()V"⟩, prog_8_method_1_code, 1, none, cd_Search_init, 2, 0, 10, 5, 2896, 3, [566, 153, 565, 0]) := rfl
set_option maxRecDepth 100000 in
theorem mt_104 : xmt[104]? = some (⟨"SoupNine$Search", "forget", "()V"⟩, prog_8_method_2_code, 1, none, cd_Search_forget, 1, 0, 10, 0, 0, 3, [879, 153, 877, 878]) := rfl
set_option maxRecDepth 100000 in
theorem mt_105 : xmt[105]? = some (⟨"SoupNine$Search", "prepare", "(LSoupNine$Sheet;)V"⟩, prog_8_method_3_code, 2, none, cd_Search_prepare, 1, 1, 10, 0, 0, 3, [1338, 153, 1336, 1337]) := rfl
set_option maxRecDepth 100000 in
theorem mt_106 : xmt[106]? = some (⟨"SoupNine$Search", "findNeed", "(LSoupNine$Sheet;)V"⟩, prog_8_method_4_code, 6, none, cd_Search_findNeed, 1, 1, 10, 0, 0, 3, [1342, 153, 1341, 48]) := rfl
set_option maxRecDepth 100000 in
theorem mt_107 : xmt[107]? = some (⟨"SoupNine$Search", "needWith", "(LSoupNine$Sheet;III)I"⟩, prog_8_method_5_code, 6, (some FieldType.int), cd_Search_needWith, 1, 4, 10, 0, 0, 0, [1346, 153, 1345, 49]) := rfl
set_option maxRecDepth 100000 in
theorem mt_108 : xmt[108]? = some (⟨"SoupNine$Search", "findShoes", "(LSoupNine$Sheet;)V"⟩, prog_8_method_6_code, 5, none, cd_Search_findShoes, 1, 1, 10, 0, 0, 3, [1355, 153, 1354, 50]) := rfl
set_option maxRecDepth 100000 in
theorem mt_109 : xmt[109]? = some (⟨"SoupNine$Search", "findWalked", "(LSoupNine$Sheet;)V"⟩, prog_8_method_7_code, 5, none, cd_Search_findWalked, 1, 1, 10, 0, 0, 3, [1359, 153, 1358, 51]) := rfl
set_option maxRecDepth 100000 in
theorem mt_110 : xmt[110]? = some (⟨"SoupNine$Search", "leastWalked", "(LSoupNine$Sheet;II)I"⟩, prog_8_method_8_code, 6, (some FieldType.int), cd_Search_leastWalked, 1, 3, 10, 0, 0, 0, [1363, 153, 1362, 52]) := rfl
set_option maxRecDepth 100000 in
theorem mt_111 : xmt[111]? = some (⟨"SoupNine$Search", "walkedBy", "(LSoupNine$Sheet;III)I"⟩, prog_8_method_9_code, 5, (some FieldType.int), cd_Search_walkedBy, 1, 4, 10, 0, 0, 0, [1368, 153, 1367, 53]) := rfl
set_option maxRecDepth 100000 in
theorem mt_112 : xmt[112]? = some (⟨"SoupNine$Search", "findHides", "(LSoupNine$Sheet;)V"⟩, prog_8_method_10_code, 8, none, cd_Search_findHides, 1, 1, 10, 0, 0, 3, [1378, 153, 1377, 54]) := rfl
set_option maxRecDepth 100000 in
theorem mt_113 : xmt[113]? = some (⟨"SoupNine$Walk", "<init>", "()V"⟩, prog_12_method_1_code, 1, none, cd_Walk_init, 2, 0, 7, 4, 36, 3, [446, 150, 445, 0]) := rfl
set_option maxRecDepth 100000 in
theorem mt_114 : xmt[114]? = some (⟨"SoupNine$Walk", "begin", "(LSoupNine$Town;)V"⟩, prog_12_method_2_code, 3, none, cd_Walk_begin, 1, 1, 7, 0, 0, 3, [944, 150, 942, 943]) := rfl
set_option maxRecDepth 100000 in
theorem mt_115 : xmt[115]? = some (⟨"SoupNine$Walk", "follow", "(LSoupNine$Town;LSoupNine$Evening;I)I"⟩, prog_12_method_3_code, 5, (some FieldType.int), cd_Walk_follow, 1, 3, 7, 0, 0, 0, [952, 150, 950, 951]) := rfl
set_option maxRecDepth 100000 in
theorem mt_116 : xmt[116]? = some (⟨"SoupNine$Walk", "perform", "(LSoupNine$Town;II)Z"⟩, prog_12_method_6_code, 4, (some FieldType.boolean), cd_Walk_perform, 1, 3, 7, 0, 0, 0, [956, 150, 955, 17]) := rfl
set_option maxRecDepth 100000 in
theorem mt_117 : xmt[117]? = some (⟨"SoupNine$Walk", "driveTo", "(LSoupNine$Town;I)Z"⟩, prog_12_method_8_code, 3, (some FieldType.boolean), cd_Walk_driveTo, 1, 2, 7, 0, 0, 0, [961, 150, 960, 18]) := rfl
set_option maxRecDepth 100000 in
theorem mt_118 : xmt[118]? = some (⟨"SoupNine$Walk", "spend", "(I)Z"⟩, prog_12_method_7_code, 2, (some FieldType.boolean), cd_Walk_spend, 1, 1, 7, 0, 0, 0, [980, 150, 979, 21]) := rfl
set_option maxRecDepth 100000 in
theorem mt_119 : xmt[119]? = some (⟨"SoupNine$Walk", "ladle", "(LSoupNine$Town;I)Z"⟩, prog_12_method_10_code, 6, (some FieldType.boolean), cd_Walk_ladle, 1, 2, 7, 0, 0, 0, [984, 150, 983, 22]) := rfl
set_option maxRecDepth 100000 in
theorem mt_120 : xmt[120]? = some (⟨"SoupNine$Walk", "sendOn", "(LSoupNine$Town;I)V"⟩, prog_12_method_11_code, 5, none, cd_Walk_sendOn, 1, 2, 7, 0, 0, 3, [989, 150, 988, 23]) := rfl
set_option maxRecDepth 100000 in
theorem mt_121 : xmt[121]? = some (⟨"SoupNine$Walk", "talk", "(LSoupNine$Town;)Z"⟩, prog_12_method_9_code, 2, (some FieldType.boolean), cd_Walk_talk, 1, 1, 7, 0, 0, 0, [994, 150, 993, 24]) := rfl
set_option maxRecDepth 100000 in
theorem mt_122 : xmt[122]? = some (⟨"SoupNine$Walk", "detail", "(LSoupNine$Town;I)I"⟩, prog_12_method_12_code, 3, (some FieldType.int), cd_Walk_detail, 1, 2, 7, 0, 0, 0, [1002, 150, 1000, 1001]) := rfl
set_option maxRecDepth 100000 in
theorem mt_123 : xmt[123]? = some (⟨"SoupNine$Walk", "detailOfStop", "(II)I"⟩, prog_12_method_13_code, 3, (some FieldType.int), cd_Walk_detailOfStop, 1, 2, 7, 0, 0, 0, [1006, 150, 1005, 25]) := rfl
set_option maxRecDepth 100000 in
theorem mt_124 : xmt[124]? = some (⟨"SoupNine$Walk", "draw", "(LSoupNine$Town;II)V"⟩, prog_12_method_4_code, 6, none, cd_Walk_draw, 1, 3, 7, 0, 0, 3, [1014, 150, 1012, 1013]) := rfl
set_option maxRecDepth 100000 in
theorem mt_125 : xmt[125]? = some (⟨"SoupNine$Walk", "below", "(I)I"⟩, prog_12_method_5_code, 2, (some FieldType.int), cd_Walk_below, 1, 1, 7, 0, 0, 0, [1018, 150, 1017, 26]) := rfl
set_option maxRecDepth 100000 in
theorem mt_126 : xmt[126]? = some (⟨"SoupNine$Reader", "<init>", "([B)V"⟩, prog_6_method_1_code, 2, none, cd_Reader_init, 2, 1, 6, 23, 273, 3, [380, 149, 379, 0]) := rfl
set_option maxRecDepth 100000 in
theorem mt_127 : xmt[127]? = some (⟨"SoupNine$Reader", "readText", "(II)V"⟩, prog_6_method_2_code, 4, none, cd_Reader_readText, 1, 2, 6, 0, 0, 3, [649, 149, 647, 648]) := rfl
set_option maxRecDepth 100000 in
theorem mt_128 : xmt[128]? = some (⟨"SoupNine$Reader", "begin", "(I)V"⟩, prog_6_method_3_code, 2, none, cd_Reader_begin, 1, 1, 6, 0, 0, 3, [653, 149, 652, 1]) := rfl
set_option maxRecDepth 100000 in
theorem mt_129 : xmt[129]? = some (⟨"SoupNine$Reader", "advance", "()V"⟩, prog_6_method_15_code, 1, none, cd_Reader_advance, 1, 0, 6, 0, 0, 3, [668, 149, 667, 2]) := rfl
set_option maxRecDepth 100000 in
theorem mt_130 : xmt[130]? = some (⟨"SoupNine$Reader", "isLetter", "(B)Z"⟩, prog_6_method_17_code, 1, (some FieldType.boolean), cd_Reader_isLetter, 0, 1, 0, 0, 0, 0, [671, 149, 670, 0]) := rfl
set_option maxRecDepth 100000 in
theorem mt_131 : xmt[131]? = some (⟨"SoupNine$Reader", "isDigit", "(B)Z"⟩, prog_6_method_18_code, 1, (some FieldType.boolean), cd_Reader_isDigit, 0, 1, 0, 0, 0, 0, [674, 149, 673, 0]) := rfl
set_option maxRecDepth 100000 in
theorem mt_132 : xmt[132]? = some (⟨"SoupNine$Reader", "readDigits", "()V"⟩, prog_6_method_16_code, 1, none, cd_Reader_readDigits, 1, 0, 6, 0, 0, 3, [678, 149, 677, 3]) := rfl
set_option maxRecDepth 100000 in
theorem mt_133 : xmt[133]? = some (⟨"SoupNine$Reader", "readLine", "(I)Z"⟩, prog_6_method_5_code, 3, (some FieldType.boolean), cd_Reader_readLine, 1, 1, 6, 0, 0, 0, [682, 149, 681, 4]) := rfl
set_option maxRecDepth 100000 in
theorem mt_134 : xmt[134]? = some (⟨"SoupNine$Reader", "codeOf", "(I)I"⟩, prog_6_method_6_code, 3, (some FieldType.int), cd_Reader_codeOf, 1, 1, 6, 0, 0, 0, [686, 149, 685, 5]) := rfl
set_option maxRecDepth 100000 in
theorem mt_135 : xmt[135]? = some (⟨"SoupNine$Reader", "wordOf", "(I)Ljava/lang/String;"⟩, prog_6_method_13_code, 1, (some (FieldType.object "java/lang/String")), cd_Reader_wordOf, 0, 1, 0, 0, 0, 2, [691, 149, 690, 0]) := rfl
set_option maxRecDepth 100000 in
theorem mt_136 : xmt[136]? = some (⟨"SoupNine$Reader", "isWord", "(Ljava/lang/String;)Z"⟩, prog_6_method_14_code, 3, (some FieldType.boolean), cd_Reader_isWord, 1, 1, 6, 0, 0, 0, [714, 149, 713, 6]) := rfl
set_option maxRecDepth 100000 in
theorem mt_137 : xmt[137]? = some (⟨"SoupNine$Reader", "checkRoom", "(I)V"⟩, prog_6_method_7_code, 2, none, cd_Reader_checkRoom, 1, 1, 6, 0, 0, 3, [766, 149, 765, 7]) := rfl
set_option maxRecDepth 100000 in
theorem mt_138 : xmt[138]? = some (⟨"SoupNine$Reader", "noteFault", "(II)V"⟩, prog_6_method_4_code, 3, none, cd_Reader_noteFault, 1, 2, 6, 0, 0, 3, [770, 149, 769, 8]) := rfl
set_option maxRecDepth 100000 in
theorem mt_139 : xmt[139]? = some (⟨"SoupNine$Reader", "readThing", "()Z"⟩, prog_6_method_8_code, 1, (some FieldType.boolean), cd_Reader_readThing, 1, 0, 6, 0, 0, 0, [774, 149, 773, 9]) := rfl
set_option maxRecDepth 100000 in
theorem mt_140 : xmt[140]? = some (⟨"SoupNine$Reader", "readNumbers", "(I)Z"⟩, prog_6_method_9_code, 3, (some FieldType.boolean), cd_Reader_readNumbers, 1, 1, 6, 0, 0, 0, [781, 149, 780, 10]) := rfl
set_option maxRecDepth 100000 in
theorem mt_141 : xmt[141]? = some (⟨"SoupNine$Reader", "canBe", "(II)Z"⟩, prog_6_method_10_code, 3, (some FieldType.boolean), cd_Reader_canBe, 1, 2, 6, 0, 0, 0, [787, 149, 786, 11]) := rfl
set_option maxRecDepth 100000 in
theorem mt_142 : xmt[142]? = some (⟨"SoupNine$Reader", "tellLine", "(I)V"⟩, prog_6_method_11_code, 2, none, cd_Reader_tellLine, 1, 1, 6, 0, 0, 3, [795, 149, 794, 12]) := rfl
set_option maxRecDepth 100000 in
theorem mt_143 : xmt[143]? = some (⟨"SoupNine$Reader", "tellOfTown", "(I)V"⟩, prog_6_method_12_code, 2, none, cd_Reader_tellOfTown, 1, 1, 6, 0, 0, 3, [803, 149, 802, 13]) := rfl
set_option maxRecDepth 100000 in
theorem mt_144 : xmt[144]? = some (⟨"SoupNine$Told", "<init>", "()V"⟩, prog_10_method_1_code, 1, none, cd_Told_init, 2, 0, 1, 50, 1150, 3, [176, 144, 175, 0]) := rfl
set_option maxRecDepth 100000 in
theorem mt_145 : xmt[145]? = some (⟨"SoupNine$Told", "addBytes", "(I)V"⟩, prog_10_method_2_code, 3, none, cd_Told_addBytes, 1, 1, 1, 0, 0, 3, [633, 144, 631, 632]) := rfl
set_option maxRecDepth 100000 in
theorem mt_146 : xmt[146]? = some (⟨"SoupNine$Told", "copyFrom", "(LSoupNine$Told;)V"⟩, prog_10_method_3_code, 3, none, cd_Told_copyFrom, 1, 1, 1, 0, 0, 3, [895, 144, 893, 894]) := rfl
set_option maxRecDepth 100000 in
theorem mt_147 : xmt[147]? = some (⟨"SoupNine$Told", "townAt", "(I)LSoupNine$Town;"⟩, prog_10_method_4_code, 2, (some (FieldType.object "SoupNine$Town")), cd_Told_townAt, 1, 1, 1, 0, 0, 2, [912, 144, 910, 911]) := rfl
set_option maxRecDepth 100000 in
theorem mt_148 : xmt[148]? = some (⟨"SoupNine$Told", "eveningAt", "(I)LSoupNine$Evening;"⟩, prog_10_method_5_code, 2, (some (FieldType.object "SoupNine$Evening")), cd_Told_eveningAt, 1, 1, 1, 0, 0, 2, [932, 144, 930, 931]) := rfl
set_option maxRecDepth 100000 in
theorem mt_149 : xmt[149]? = some (⟨"SoupNine$Told", "bookAt", "(I)LSoupNine$Book;"⟩, prog_10_method_6_code, 2, (some (FieldType.object "SoupNine$Book")), cd_Told_bookAt, 1, 1, 1, 0, 0, 2, [1242, 144, 1240, 1241]) := rfl
set_option maxRecDepth 100000 in
theorem mt_150 : xmt[150]? = some (⟨"SoupNine$Told", "sheetAt", "(I)LSoupNine$Sheet;"⟩, prog_10_method_7_code, 2, (some (FieldType.object "SoupNine$Sheet")), cd_Told_sheetAt, 1, 1, 1, 0, 0, 2, [1322, 144, 1320, 1321]) := rfl
set_option maxRecDepth 100000 in
theorem mt_151 : xmt[151]? = some (⟨"SoupNine", "<init>", "()V"⟩, prog_1_method_1_code, 1, none, cd_So_init, 2, 0, 0, 101, 17831, 3, [168, 143, 167, 0]) := rfl
set_option maxRecDepth 100000 in
theorem mt_152 : xmt[152]? = some (⟨"SoupNine", "feed", "(IIIII)I"⟩, prog_1_method_2_code, 6, (some FieldType.int), cd_So_feed, 1, 5, 0, 0, 0, 0, [629, 143, 627, 628]) := rfl
set_option maxRecDepth 100000 in
theorem mt_153 : xmt[153]? = some (⟨"SoupNine", "end", "(I)I"⟩, prog_1_method_3_code, 2, (some FieldType.int), cd_So_end, 1, 1, 0, 0, 0, 0, [637, 143, 635, 636]) := rfl
set_option maxRecDepth 100000 in
theorem mt_154 : xmt[154]? = some (⟨"SoupNine", "text", "(II)I"⟩, prog_1_method_4_code, 5, (some FieldType.int), cd_So_text, 1, 2, 0, 0, 0, 0, [641, 143, 639, 640]) := rfl
set_option maxRecDepth 100000 in
theorem mt_155 : xmt[155]? = some (⟨"SoupNine", "placeFor", "(II)I"⟩, prog_1_method_5_code, 4, (some FieldType.int), cd_So_placeFor, 1, 2, 0, 0, 0, 0, [645, 143, 644, 0]) := rfl
set_option maxRecDepth 100000 in
theorem mt_156 : xmt[156]? = some (⟨"SoupNine", "isThing", "(I)Z"⟩, prog_1_method_37_code, 1, (some FieldType.boolean), cd_So_isThing, 0, 1, 0, 0, 0, 0, [822, 143, 821, 0]) := rfl
set_option maxRecDepth 100000 in
theorem mt_157 : xmt[157]? = some (⟨"SoupNine", "keepDraft", "(II)V"⟩, prog_1_method_6_code, 3, none, cd_So_keepDraft, 1, 2, 0, 0, 0, 3, [838, 143, 837, 14]) := rfl
set_option maxRecDepth 100000 in
theorem mt_158 : xmt[158]? = some (⟨"SoupNine", "forgetAll", "()V"⟩, prog_1_method_7_code, 1, none, cd_So_forgetAll, 1, 0, 0, 0, 0, 3, [867, 143, 866, 15]) := rfl
set_option maxRecDepth 100000 in
theorem mt_159 : xmt[159]? = some (⟨"SoupNine", "fault", "(I)I"⟩, prog_1_method_8_code, 2, (some FieldType.int), cd_So_fault, 1, 1, 0, 0, 0, 0, [883, 143, 881, 882]) := rfl
set_option maxRecDepth 100000 in
theorem mt_160 : xmt[160]? = some (⟨"SoupNine", "count", "(I)I"⟩, prog_1_method_9_code, 2, (some FieldType.int), cd_So_count, 1, 1, 0, 0, 0, 0, [887, 143, 885, 886]) := rfl
set_option maxRecDepth 100000 in
theorem mt_161 : xmt[161]? = some (⟨"SoupNine", "image", "(I)Z"⟩, prog_1_method_10_code, 3, (some FieldType.boolean), cd_So_image, 1, 1, 0, 51, 1159, 0, [891, 143, 889, 890]) := rfl
set_option maxRecDepth 100000 in
theorem mt_162 : xmt[162]? = some (⟨"SoupNine", "again", "(I)Z"⟩, prog_1_method_11_code, 3, (some FieldType.boolean), cd_So_again, 1, 1, 0, 0, 0, 0, [904, 143, 902, 903]) := rfl
set_option maxRecDepth 100000 in
theorem mt_163 : xmt[163]? = some (⟨"SoupNine", "town", "(II)I"⟩, prog_1_method_12_code, 4, (some FieldType.int), cd_So_town, 1, 2, 0, 0, 0, 0, [908, 143, 906, 907]) := rfl
set_option maxRecDepth 100000 in
theorem mt_164 : xmt[164]? = some (⟨"SoupNine", "deed", "(III)I"⟩, prog_1_method_13_code, 5, (some FieldType.int), cd_So_deed, 1, 3, 0, 0, 0, 0, [928, 143, 926, 927]) := rfl
set_option maxRecDepth 100000 in
theorem mt_165 : xmt[165]? = some (⟨"SoupNine", "till", "(II)I"⟩, prog_1_method_14_code, 5, (some FieldType.int), cd_So_till, 1, 2, 0, 0, 0, 0, [940, 143, 938, 939]) := rfl
set_option maxRecDepth 100000 in
theorem mt_166 : xmt[166]? = some (⟨"SoupNine", "state", "(IIII)I"⟩, prog_1_method_15_code, 7, (some FieldType.int), cd_So_state, 1, 4, 0, 0, 0, 0, [998, 143, 996, 997]) := rfl
set_option maxRecDepth 100000 in
theorem mt_167 : xmt[167]? = some (⟨"SoupNine", "drawn", "(IIII)I"⟩, prog_1_method_16_code, 6, (some FieldType.int), cd_So_drawn, 1, 4, 0, 0, 0, 0, [1010, 143, 1008, 1009]) := rfl
set_option maxRecDepth 100000 in
theorem mt_168 : xmt[168]? = some (⟨"SoupNine", "give", "(IIII)I"⟩, prog_1_method_17_code, 6, (some FieldType.int), cd_So_give, 1, 4, 0, 0, 0, 0, [1023, 143, 1021, 1022]) := rfl
set_option maxRecDepth 100000 in
theorem mt_169 : xmt[169]? = some (⟨"SoupNine", "isSoup", "(I)Z"⟩, prog_1_method_22_code, 1, (some FieldType.boolean), cd_So_isSoup, 0, 1, 0, 0, 0, 0, [1026, 143, 1025, 0]) := rfl
set_option maxRecDepth 100000 in
theorem mt_170 : xmt[170]? = some (⟨"SoupNine", "mean", "(IIIZ)J"⟩, prog_1_method_18_code, 6, (some FieldType.long), cd_So_mean, 1, 4, 0, 0, 0, 1, [1057, 143, 1055, 1056]) := rfl
set_option maxRecDepth 100000 in
theorem mt_171 : xmt[171]? = some (⟨"SoupNine", "safe", "(I)I"⟩, prog_1_method_19_code, 3, (some FieldType.int), cd_So_safe, 1, 1, 0, 0, 0, 0, [1072, 143, 1070, 1071]) := rfl
set_option maxRecDepth 100000 in
theorem mt_172 : xmt[172]? = some (⟨"SoupNine", "tells", "(IIIZ)J"⟩, prog_1_method_20_code, 6, (some FieldType.long), cd_So_tells, 1, 4, 0, 0, 0, 1, [1080, 143, 1078, 1079]) := rfl
set_option maxRecDepth 100000 in
theorem mt_173 : xmt[173]? = some (⟨"SoupNine", "lack", "(IIZ)J"⟩, prog_1_method_21_code, 5, (some FieldType.long), cd_So_lack, 1, 3, 0, 0, 0, 1, [1089, 143, 1087, 1088]) := rfl
set_option maxRecDepth 100000 in
theorem mt_174 : xmt[174]? = some (⟨"SoupNine", "way", "(II)I"⟩, prog_1_method_23_code, 4, (some FieldType.int), cd_So_way, 1, 2, 0, 0, 0, 0, [1104, 143, 1102, 1103]) := rfl
set_option maxRecDepth 100000 in
theorem mt_175 : xmt[175]? = some (⟨"SoupNine", "round", "(II)I"⟩, prog_1_method_24_code, 4, (some FieldType.int), cd_So_round, 1, 2, 0, 0, 0, 0, [1167, 143, 1165, 1166]) := rfl
set_option maxRecDepth 100000 in
theorem mt_176 : xmt[176]? = some (⟨"SoupNine", "talks", "(I)I"⟩, prog_1_method_25_code, 3, (some FieldType.int), cd_So_talks, 1, 1, 0, 0, 0, 0, [1171, 143, 1169, 1170]) := rfl
set_option maxRecDepth 100000 in
theorem mt_177 : xmt[177]? = some (⟨"SoupNine", "lost", "(II)I"⟩, prog_1_method_26_code, 4, (some FieldType.int), cd_So_lost, 1, 2, 0, 0, 0, 0, [1183, 143, 1181, 1182]) := rfl
set_option maxRecDepth 100000 in
theorem mt_178 : xmt[178]? = some (⟨"SoupNine", "depot", "(IZ)I"⟩, prog_1_method_27_code, 8, (some FieldType.int), cd_So_depot, 1, 2, 0, 0, 0, 0, [1192, 143, 1190, 1191]) := rfl
set_option maxRecDepth 100000 in
theorem mt_179 : xmt[179]? = some (⟨"SoupNine", "vans", "(IZ)I"⟩, prog_1_method_28_code, 5, (some FieldType.int), cd_So_vans, 1, 2, 0, 0, 0, 0, [1201, 143, 1199, 1200]) := rfl
set_option maxRecDepth 100000 in
theorem mt_180 : xmt[180]? = some (⟨"SoupNine", "trail", "(IIZ)I"⟩, prog_1_method_29_code, 5, (some FieldType.int), cd_So_trail, 1, 3, 0, 0, 0, 0, [1215, 143, 1213, 1214]) := rfl
set_option maxRecDepth 100000 in
theorem mt_181 : xmt[181]? = some (⟨"SoupNine", "chat", "(IZ)I"⟩, prog_1_method_30_code, 5, (some FieldType.int), cd_So_chat, 1, 2, 0, 0, 0, 0, [1229, 143, 1227, 1228]) := rfl
set_option maxRecDepth 100000 in
theorem mt_182 : xmt[182]? = some (⟨"SoupNine", "book", "(III)I"⟩, prog_1_method_31_code, 5, (some FieldType.int), cd_So_book, 1, 3, 0, 0, 0, 0, [1238, 143, 1236, 1237]) := rfl
set_option maxRecDepth 100000 in
theorem mt_183 : xmt[183]? = some (⟨"SoupNine", "held", "(II)I"⟩, prog_1_method_32_code, 4, (some FieldType.int), cd_So_held, 1, 2, 0, 0, 0, 0, [1250, 143, 1248, 1249]) := rfl
set_option maxRecDepth 100000 in
theorem mt_184 : xmt[184]? = some (⟨"SoupNine", "bring", "(III)I"⟩, prog_1_method_33_code, 5, (some FieldType.int), cd_So_bring, 1, 3, 0, 0, 0, 0, [1281, 143, 1279, 1280]) := rfl
set_option maxRecDepth 100000 in
theorem mt_185 : xmt[185]? = some (⟨"SoupNine", "span", "(IIZ)I"⟩, prog_1_method_34_code, 5, (some FieldType.int), cd_So_span, 1, 3, 0, 0, 0, 0, [1290, 143, 1288, 1289]) := rfl
set_option maxRecDepth 100000 in
theorem mt_186 : xmt[186]? = some (⟨"SoupNine", "lot", "(IIZ)J"⟩, prog_1_method_35_code, 6, (some FieldType.long), cd_So_lot, 1, 3, 0, 0, 0, 1, [1294, 143, 1292, 1293]) := rfl
set_option maxRecDepth 100000 in
theorem mt_187 : xmt[187]? = some (⟨"SoupNine", "like", "(III)I"⟩, prog_1_method_36_code, 6, (some FieldType.int), cd_So_like, 1, 3, 0, 0, 0, 0, [1310, 143, 1308, 1309]) := rfl
set_option maxRecDepth 100000 in
theorem mt_188 : xmt[188]? = some (⟨"SoupNine", "list", "(II)I"⟩, prog_1_method_38_code, 4, (some FieldType.int), cd_So_list, 1, 2, 0, 0, 0, 0, [1318, 143, 1316, 1317]) := rfl
set_option maxRecDepth 100000 in
theorem mt_189 : xmt[189]? = some (⟨"SoupNine", "shod", "(II)I"⟩, prog_1_method_39_code, 4, (some FieldType.int), cd_So_shod, 1, 2, 0, 0, 0, 0, [1334, 143, 1332, 1333]) := rfl
set_option maxRecDepth 100000 in
theorem mt_190 : xmt[190]? = some (⟨"SoupNine", "look", "(II)I"⟩, prog_1_method_40_code, 4, (some FieldType.int), cd_So_look, 1, 2, 0, 0, 0, 0, [1382, 143, 1380, 1381]) := rfl
set_option maxRecDepth 100000 in
theorem mt_191 : xmt[191]? = some (⟨"SoupNine", "worry", "(IIIZ)J"⟩, prog_1_method_41_code, 5, (some FieldType.long), cd_So_worry, 1, 4, 0, 0, 0, 1, [1387, 143, 1385, 1386]) := rfl
set_option maxRecDepth 100000 in
theorem mt_192 : xmt[192]? = some (⟨"SoupNine", "isOfTen", "(I)Z"⟩, prog_1_method_49_code, 1, (some FieldType.boolean), cd_So_isOfTen, 0, 1, 0, 0, 0, 0, [1390, 143, 1389, 0]) := rfl
set_option maxRecDepth 100000 in
theorem mt_193 : xmt[193]? = some (⟨"SoupNine", "isOfHundred", "(I)Z"⟩, prog_1_method_50_code, 1, (some FieldType.boolean), cd_So_isOfHundred, 0, 1, 0, 0, 0, 0, [1393, 143, 1392, 0]) := rfl
set_option maxRecDepth 100000 in
theorem mt_194 : xmt[194]? = some (⟨"SoupNine", "unwell", "(II)J"⟩, prog_1_method_43_code, 2, (some FieldType.long), cd_So_unwell, 0, 2, 0, 0, 0, 1, [1396, 143, 1395, 0]) := rfl
set_option maxRecDepth 100000 in
theorem mt_195 : xmt[195]? = some (⟨"SoupNine", "wellButAway", "(III)J"⟩, prog_1_method_44_code, 3, (some FieldType.long), cd_So_wellButAway, 0, 3, 0, 0, 0, 1, [1402, 143, 1401, 0]) := rfl
set_option maxRecDepth 100000 in
theorem mt_196 : xmt[196]? = some (⟨"SoupNine", "when", "(III)I"⟩, prog_1_method_42_code, 5, (some FieldType.int), cd_So_when, 1, 3, 0, 0, 0, 0, [1410, 143, 1408, 1409]) := rfl
set_option maxRecDepth 100000 in
theorem mt_197 : xmt[197]? = some (⟨"SoupNine", "sick", "(IIIIIZ)J"⟩, prog_1_method_45_code, 7, (some FieldType.long), cd_So_sick, 1, 6, 0, 0, 0, 1, [1419, 143, 1417, 1418]) := rfl
set_option maxRecDepth 100000 in
theorem mt_198 : xmt[198]? = some (⟨"SoupNine", "areSigns", "(IIII)Z"⟩, prog_1_method_47_code, 4, (some FieldType.boolean), cd_So_areSigns, 0, 4, 0, 0, 0, 0, [1422, 143, 1421, 0]) := rfl
set_option maxRecDepth 100000 in
theorem mt_199 : xmt[199]? = some (⟨"SoupNine", "shown", "(III)J"⟩, prog_1_method_48_code, 3, (some FieldType.long), cd_So_shown, 0, 3, 0, 0, 0, 1, [1425, 143, 1424, 0]) := rfl
set_option maxRecDepth 100000 in
theorem mt_200 : xmt[200]? = some (⟨"SoupNine", "call", "(IIIII)I"⟩, prog_1_method_46_code, 7, (some FieldType.int), cd_So_call, 1, 5, 0, 0, 0, 0, [1429, 143, 1427, 1428]) := rfl
set_option maxRecDepth 100000 in
theorem mt_201 : xmt[201]? = some (⟨"SoupNine", "shared", "(IIIII)I"⟩, prog_1_method_51_code, 8, (some FieldType.int), cd_So_shared, 1, 5, 0, 0, 0, 0, [1433, 143, 1431, 1432]) := rfl
set_option maxRecDepth 100000 in
theorem mt_202 : xmt[202]? = some (⟨"SoupNine", "areDays", "(II)Z"⟩, prog_1_method_52_code, 2, (some FieldType.boolean), cd_So_areDays, 0, 2, 0, 0, 0, 0, [1436, 143, 1435, 0]) := rfl
set_option maxRecDepth 100000 in
theorem mt_203 : xmt[203]? = some (⟨"SoupNine", "vanDays", "(IIII)I"⟩, prog_1_method_53_code, 8, (some FieldType.int), cd_So_vanDays, 0, 4, 0, 0, 0, 0, [1439, 143, 1438, 0]) := rfl
set_option maxRecDepth 100000 in
theorem mt_204 : xmt[204]? = some (⟨"SoupNine", "lowestBits", "(II)I"⟩, prog_1_method_54_code, 4, (some FieldType.int), cd_So_lowestBits, 0, 2, 0, 0, 0, 0, [1444, 143, 1443, 0]) := rfl
set_option maxRecDepth 100000 in
theorem mt_205 : xmt[205]? = some (⟨"SoupNine", "pair", "(III)I"⟩, prog_1_method_55_code, 6, (some FieldType.int), cd_So_pair, 1, 3, 0, 0, 0, 0, [1448, 143, 1446, 1447]) := rfl
set_option maxRecDepth 100000 in
theorem mt_206 : xmt[206]? = some (⟨"SoupNine", "alone", "(II)I"⟩, prog_1_method_56_code, 3, (some FieldType.int), cd_So_alone, 0, 2, 0, 0, 0, 0, [1451, 143, 1450, 0]) := rfl
set_option maxRecDepth 100000 in
theorem mt_207 : xmt[207]? = some (⟨"SoupNineModel", "<init>", "()V"⟩, prog_14_method_1_code, 1, none, cd_Mo_init, 2, 0, 11, 26, 40702, 3, [1459, 154, 1458, 0]) := rfl
set_option maxRecDepth 100000 in
theorem mt_208 : xmt[208]? = some (⟨"SoupNineModel", "feed", "(IIIII)I"⟩, prog_14_method_13_code, 6, (some FieldType.int), cd_Mo_feed, 1, 5, 11, 0, 0, 0, [1637, 154, 1635, 1636]) := rfl
set_option maxRecDepth 100000 in
theorem mt_209 : xmt[209]? = some (⟨"SoupNineModel", "four", "(I)V"⟩, prog_14_method_14_code, 3, none, cd_Mo_four, 1, 1, 11, 0, 0, 3, [1641, 154, 1640, 55]) := rfl
set_option maxRecDepth 100000 in
theorem mt_210 : xmt[210]? = some (⟨"SoupNineModel", "end", "(I)I"⟩, prog_14_method_15_code, 2, (some FieldType.int), cd_Mo_end, 1, 1, 11, 0, 0, 0, [1645, 154, 1643, 1644]) := rfl
set_option maxRecDepth 100000 in
theorem mt_211 : xmt[211]? = some (⟨"SoupNineModel", "in", "(III)Z"⟩, prog_14_method_3_code, 3, (some FieldType.boolean), cd_Mo_in, 0, 3, 0, 0, 0, 0, [1648, 154, 1647, 0]) := rfl
set_option maxRecDepth 100000 in
theorem mt_212 : xmt[212]? = some (⟨"SoupNineModel", "text", "(II)I"⟩, prog_14_method_45_code, 4, (some FieldType.int), cd_Mo_text, 1, 2, 11, 0, 0, 0, [1652, 154, 1650, 1651]) := rfl
set_option maxRecDepth 100000 in
theorem mt_213 : xmt[213]? = some (⟨"SoupNineModel", "is", "(II)Z"⟩, prog_14_method_12_code, 3, (some FieldType.boolean), cd_Mo_is, 1, 2, 11, 0, 0, 0, [1656, 154, 1655, 56]) := rfl
set_option maxRecDepth 100000 in
theorem mt_214 : xmt[214]? = some (⟨"SoupNineModel", "readText", "(I)Z"⟩, prog_14_method_42_code, 3, (some FieldType.boolean), cd_Mo_readText, 1, 1, 11, 0, 0, 0, [1660, 154, 1659, 57]) := rfl
set_option maxRecDepth 100000 in
theorem mt_215 : xmt[215]? = some (⟨"SoupNineModel", "blank", "(I)V"⟩, prog_14_method_41_code, 3, none, cd_Mo_blank, 1, 1, 11, 0, 0, 3, [1664, 154, 1663, 58]) := rfl
set_option maxRecDepth 100000 in
theorem mt_216 : xmt[216]? = some (⟨"SoupNineModel", "token", "()V"⟩, prog_14_method_17_code, 3, none, cd_Mo_token, 1, 0, 11, 0, 0, 3, [1668, 154, 1667, 59]) := rfl
set_option maxRecDepth 100000 in
theorem mt_217 : xmt[217]? = some (⟨"SoupNineModel", "see", "()I"⟩, prog_14_method_16_code, 1, (some FieldType.int), cd_Mo_see, 1, 0, 11, 0, 0, 0, [1672, 154, 1671, 60]) := rfl
set_option maxRecDepth 100000 in
theorem mt_218 : xmt[218]? = some (⟨"SoupNineModel", "lines", "(I)Z"⟩, prog_14_method_40_code, 4, (some FieldType.boolean), cd_Mo_lines, 1, 1, 11, 0, 0, 0, [1676, 154, 1675, 61]) := rfl
set_option maxRecDepth 100000 in
theorem mt_219 : xmt[219]? = some (⟨"SoupNineModel", "lineOf", "(IJI)Z"⟩, prog_14_method_39_code, 5, (some FieldType.boolean), cd_Mo_lineOf, 1, 3, 11, 0, 0, 0, [1680, 154, 1679, 62]) := rfl
set_option maxRecDepth 100000 in
theorem mt_220 : xmt[220]? = some (⟨"SoupNineModel", "townLine", "(JI)Z"⟩, prog_14_method_28_code, 5, (some FieldType.boolean), cd_Mo_townLine, 1, 2, 11, 0, 0, 0, [1684, 154, 1683, 63]) := rfl
set_option maxRecDepth 100000 in
theorem mt_221 : xmt[221]? = some (⟨"SoupNineModel", "kindBy", "(J)I"⟩, prog_14_method_24_code, 2, (some FieldType.int), cd_Mo_kindBy, 0, 1, 0, 0, 0, 0, [1687, 154, 1686, 0]) := rfl
set_option maxRecDepth 100000 in
theorem mt_222 : xmt[222]? = some (⟨"SoupNineModel", "fails", "()Z"⟩, prog_14_method_18_code, 1, (some FieldType.boolean), cd_Mo_fails, 1, 0, 11, 0, 0, 0, [1701, 154, 1700, 64]) := rfl
set_option maxRecDepth 100000 in
theorem mt_223 : xmt[223]? = some (⟨"SoupNineModel", "full", "(III)V"⟩, prog_14_method_22_code, 4, none, cd_Mo_full, 1, 3, 11, 0, 0, 3, [1705, 154, 1704, 65]) := rfl
set_option maxRecDepth 100000 in
theorem mt_224 : xmt[224]? = some (⟨"SoupNineModel", "later", "(II)V"⟩, prog_14_method_19_code, 3, none, cd_Mo_later, 1, 2, 11, 0, 0, 3, [1709, 154, 1708, 66]) := rfl
set_option maxRecDepth 100000 in
theorem mt_225 : xmt[225]? = some (⟨"SoupNineModel", "stopLine", "(I)Z"⟩, prog_14_method_25_code, 3, (some FieldType.boolean), cd_Mo_stopLine, 1, 1, 11, 0, 0, 0, [1713, 154, 1712, 67]) := rfl
set_option maxRecDepth 100000 in
theorem mt_226 : xmt[226]? = some (⟨"SoupNineModel", "take", "(III)Z"⟩, prog_14_method_21_code, 4, (some FieldType.boolean), cd_Mo_take, 1, 3, 11, 0, 0, 0, [1717, 154, 1716, 68]) := rfl
set_option maxRecDepth 100000 in
theorem mt_227 : xmt[227]? = some (⟨"SoupNineModel", "takeBut", "(IIII)Z"⟩, prog_14_method_20_code, 5, (some FieldType.boolean), cd_Mo_takeBut, 1, 4, 11, 0, 0, 0, [1721, 154, 1720, 69]) := rfl
set_option maxRecDepth 100000 in
theorem mt_228 : xmt[228]? = some (⟨"SoupNineModel", "followLine", "()Z"⟩, prog_14_method_26_code, 1, (some FieldType.boolean), cd_Mo_followLine, 1, 0, 11, 0, 0, 0, [1725, 154, 1724, 70]) := rfl
set_option maxRecDepth 100000 in
theorem mt_229 : xmt[229]? = some (⟨"SoupNineModel", "greater", "(II)I"⟩, prog_14_method_5_code, 2, (some FieldType.int), cd_Mo_greater, 0, 2, 0, 0, 0, 0, [1728, 154, 1727, 0]) := rfl
set_option maxRecDepth 100000 in
theorem mt_230 : xmt[230]? = some (⟨"SoupNineModel", "homeLine", "()Z"⟩, prog_14_method_27_code, 1, (some FieldType.boolean), cd_Mo_homeLine, 1, 0, 11, 0, 0, 0, [1732, 154, 1731, 71]) := rfl
set_option maxRecDepth 100000 in
theorem mt_231 : xmt[231]? = some (⟨"SoupNineModel", "plainLine", "(III)Z"⟩, prog_14_method_23_code, 4, (some FieldType.boolean), cd_Mo_plainLine, 1, 3, 11, 0, 0, 0, [1736, 154, 1735, 72]) := rfl
set_option maxRecDepth 100000 in
theorem mt_232 : xmt[232]? = some (⟨"SoupNineModel", "dayLine", "(JI)Z"⟩, prog_14_method_31_code, 5, (some FieldType.boolean), cd_Mo_dayLine, 1, 2, 11, 0, 0, 0, [1740, 154, 1739, 73]) := rfl
set_option maxRecDepth 100000 in
theorem mt_233 : xmt[233]? = some (⟨"SoupNineModel", "deedBy", "(J)I"⟩, prog_14_method_30_code, 2, (some FieldType.int), cd_Mo_deedBy, 0, 1, 0, 0, 0, 0, [1743, 154, 1742, 0]) := rfl
set_option maxRecDepth 100000 in
theorem mt_234 : xmt[234]? = some (⟨"SoupNineModel", "keep", "(II)V"⟩, prog_14_method_29_code, 5, none, cd_Mo_keep, 1, 2, 11, 0, 0, 3, [1751, 154, 1750, 74]) := rfl
set_option maxRecDepth 100000 in
theorem mt_235 : xmt[235]? = some (⟨"SoupNineModel", "bookLine", "(JI)Z"⟩, prog_14_method_34_code, 5, (some FieldType.boolean), cd_Mo_bookLine, 1, 2, 11, 0, 0, 0, [1755, 154, 1754, 75]) := rfl
set_option maxRecDepth 100000 in
theorem mt_236 : xmt[236]? = some (⟨"SoupNineModel", "askedLine", "(I)Z"⟩, prog_14_method_33_code, 3, (some FieldType.boolean), cd_Mo_askedLine, 1, 1, 11, 0, 0, 0, [1761, 154, 1760, 76]) := rfl
set_option maxRecDepth 100000 in
theorem mt_237 : xmt[237]? = some (⟨"SoupNineModel", "thingBy", "(J)I"⟩, prog_14_method_32_code, 2, (some FieldType.int), cd_Mo_thingBy, 0, 1, 0, 0, 0, 0, [1764, 154, 1763, 0]) := rfl
set_option maxRecDepth 100000 in
theorem mt_238 : xmt[238]? = some (⟨"SoupNineModel", "listLine", "(JI)Z"⟩, prog_14_method_38_code, 4, (some FieldType.boolean), cd_Mo_listLine, 1, 2, 11, 0, 0, 0, [1771, 154, 1770, 77]) := rfl
set_option maxRecDepth 100000 in
theorem mt_239 : xmt[239]? = some (⟨"SoupNineModel", "shoeLine", "()Z"⟩, prog_14_method_35_code, 1, (some FieldType.boolean), cd_Mo_shoeLine, 1, 0, 11, 0, 0, 0, [1778, 154, 1777, 78]) := rfl
set_option maxRecDepth 100000 in
theorem mt_240 : xmt[240]? = some (⟨"SoupNineModel", "footLine", "()Z"⟩, prog_14_method_36_code, 1, (some FieldType.boolean), cd_Mo_footLine, 1, 0, 11, 0, 0, 0, [1782, 154, 1781, 79]) := rfl
set_option maxRecDepth 100000 in
theorem mt_241 : xmt[241]? = some (⟨"SoupNineModel", "hideLine", "()Z"⟩, prog_14_method_37_code, 1, (some FieldType.boolean), cd_Mo_hideLine, 1, 0, 11, 0, 0, 0, [1786, 154, 1785, 80]) := rfl
set_option maxRecDepth 100000 in
theorem mt_242 : xmt[242]? = some (⟨"SoupNineModel", "storeAll", "(II)V"⟩, prog_14_method_44_code, 3, none, cd_Mo_storeAll, 1, 2, 11, 0, 0, 3, [1790, 154, 1789, 81]) := rfl
set_option maxRecDepth 100000 in
theorem mt_243 : xmt[243]? = some (⟨"SoupNineModel", "store", "([III)V"⟩, prog_14_method_43_code, 5, none, cd_Mo_store, 1, 3, 11, 0, 0, 3, [1794, 154, 1793, 82]) := rfl
set_option maxRecDepth 100000 in
theorem mt_244 : xmt[244]? = some (⟨"SoupNineModel", "fault", "(I)I"⟩, prog_14_method_46_code, 2, (some FieldType.int), cd_Mo_fault, 1, 1, 11, 0, 0, 0, [1798, 154, 1796, 1797]) := rfl
set_option maxRecDepth 100000 in
theorem mt_245 : xmt[245]? = some (⟨"SoupNineModel", "town", "(II)I"⟩, prog_14_method_50_code, 3, (some FieldType.int), cd_Mo_town, 1, 2, 11, 0, 0, 0, [1802, 154, 1800, 1801]) := rfl
set_option maxRecDepth 100000 in
theorem mt_246 : xmt[246]? = some (⟨"SoupNineModel", "hand", "(I)Z"⟩, prog_14_method_48_code, 2, (some FieldType.boolean), cd_Mo_hand, 1, 1, 11, 0, 0, 0, [1806, 154, 1805, 83]) := rfl
set_option maxRecDepth 100000 in
theorem mt_247 : xmt[247]? = some (⟨"SoupNineModel", "of", "(I)I"⟩, prog_14_method_47_code, 2, (some FieldType.int), cd_Mo_of, 1, 1, 11, 0, 0, 0, [1810, 154, 1809, 84]) := rfl
set_option maxRecDepth 100000 in
theorem mt_248 : xmt[248]? = some (⟨"SoupNineModel", "isStop", "(I)Z"⟩, prog_14_method_49_code, 2, (some FieldType.boolean), cd_Mo_isStop, 1, 1, 11, 0, 0, 0, [1814, 154, 1813, 85]) := rfl
set_option maxRecDepth 100000 in
theorem mt_249 : xmt[249]? = some (⟨"SoupNineModel", "deed", "(III)I"⟩, prog_14_method_54_code, 4, (some FieldType.int), cd_Mo_deed, 1, 3, 11, 0, 0, 0, [1818, 154, 1816, 1817]) := rfl
set_option maxRecDepth 100000 in
theorem mt_250 : xmt[250]? = some (⟨"SoupNineModel", "hasEvening", "(I)Z"⟩, prog_14_method_53_code, 2, (some FieldType.boolean), cd_Mo_hasEvening, 1, 1, 11, 0, 0, 0, [1822, 154, 1821, 86]) := rfl
set_option maxRecDepth 100000 in
theorem mt_251 : xmt[251]? = some (⟨"SoupNineModel", "deeds", "()I"⟩, prog_14_method_51_code, 1, (some FieldType.int), cd_Mo_deeds, 1, 0, 11, 0, 0, 0, [1826, 154, 1825, 87]) := rfl
set_option maxRecDepth 100000 in
theorem mt_252 : xmt[252]? = some (⟨"SoupNineModel", "deedOf", "(II)I"⟩, prog_14_method_52_code, 3, (some FieldType.int), cd_Mo_deedOf, 1, 2, 11, 0, 0, 0, [1830, 154, 1829, 88]) := rfl
set_option maxRecDepth 100000 in
theorem mt_253 : xmt[253]? = some (⟨"SoupNineModel", "till", "(II)I"⟩, prog_14_method_68_code, 3, (some FieldType.int), cd_Mo_till, 1, 2, 11, 0, 0, 0, [1834, 154, 1832, 1833]) := rfl
set_option maxRecDepth 100000 in
theorem mt_254 : xmt[254]? = some (⟨"SoupNineModel", "layAll", "(II)Z"⟩, prog_14_method_67_code, 3, (some FieldType.boolean), cd_Mo_layAll, 1, 2, 11, 0, 0, 0, [1838, 154, 1837, 89]) := rfl
set_option maxRecDepth 100000 in
theorem mt_255 : xmt[255]? = some (⟨"SoupNineModel", "play", "(I)I"⟩, prog_14_method_66_code, 3, (some FieldType.int), cd_Mo_play, 1, 1, 11, 0, 0, 0, [1842, 154, 1841, 90]) := rfl
set_option maxRecDepth 100000 in
theorem mt_256 : xmt[256]? = some (⟨"SoupNineModel", "begin", "()V"⟩, prog_14_method_60_code, 2, none, cd_Mo_begin, 1, 0, 11, 0, 0, 3, [1846, 154, 1845, 91]) := rfl
set_option maxRecDepth 100000 in
theorem mt_257 : xmt[257]? = some (⟨"SoupNineModel", "middle", "(I)I"⟩, prog_14_method_55_code, 3, (some FieldType.int), cd_Mo_middle, 1, 1, 11, 0, 0, 0, [1850, 154, 1849, 92]) := rfl
set_option maxRecDepth 100000 in
theorem mt_258 : xmt[258]? = some (⟨"SoupNineModel", "does", "(II)Z"⟩, prog_14_method_65_code, 3, (some FieldType.boolean), cd_Mo_does, 1, 2, 11, 0, 0, 0, [1854, 154, 1853, 93]) := rfl
set_option maxRecDepth 100000 in
theorem mt_259 : xmt[259]? = some (⟨"SoupNineModel", "drivesTo", "(I)Z"⟩, prog_14_method_62_code, 2, (some FieldType.boolean), cd_Mo_drivesTo, 1, 1, 11, 0, 0, 0, [1858, 154, 1857, 94]) := rfl
set_option maxRecDepth 100000 in
theorem mt_260 : xmt[260]? = some (⟨"SoupNineModel", "drives", "(II)I"⟩, prog_14_method_58_code, 3, (some FieldType.int), cd_Mo_drives, 1, 2, 11, 0, 0, 0, [1862, 154, 1861, 95]) := rfl
set_option maxRecDepth 100000 in
theorem mt_261 : xmt[261]? = some (⟨"SoupNineModel", "placeX", "(I)I"⟩, prog_14_method_56_code, 2, (some FieldType.int), cd_Mo_placeX, 1, 1, 11, 0, 0, 0, [1866, 154, 1865, 96]) := rfl
set_option maxRecDepth 100000 in
theorem mt_262 : xmt[262]? = some (⟨"SoupNineModel", "apart", "(II)I"⟩, prog_14_method_7_code, 2, (some FieldType.int), cd_Mo_apart, 0, 2, 0, 0, 0, 0, [1869, 154, 1868, 0]) := rfl
set_option maxRecDepth 100000 in
theorem mt_263 : xmt[263]? = some (⟨"SoupNineModel", "placeY", "(I)I"⟩, prog_14_method_57_code, 2, (some FieldType.int), cd_Mo_placeY, 1, 1, 11, 0, 0, 0, [1873, 154, 1872, 97]) := rfl
set_option maxRecDepth 100000 in
theorem mt_264 : xmt[264]? = some (⟨"SoupNineModel", "takes", "(I)Z"⟩, prog_14_method_61_code, 3, (some FieldType.boolean), cd_Mo_takes, 1, 1, 11, 0, 0, 0, [1877, 154, 1876, 98]) := rfl
set_option maxRecDepth 100000 in
theorem mt_265 : xmt[265]? = some (⟨"SoupNineModel", "ladles", "(I)Z"⟩, prog_14_method_63_code, 6, (some FieldType.boolean), cd_Mo_ladles, 1, 1, 11, 0, 0, 0, [1881, 154, 1880, 99]) := rfl
set_option maxRecDepth 100000 in
theorem mt_266 : xmt[266]? = some (⟨"SoupNineModel", "feeds", "(I)I"⟩, prog_14_method_59_code, 1, (some FieldType.int), cd_Mo_feeds, 0, 1, 0, 0, 0, 0, [1884, 154, 1883, 0]) := rfl
set_option maxRecDepth 100000 in
theorem mt_267 : xmt[267]? = some (⟨"SoupNineModel", "lesser", "(II)I"⟩, prog_14_method_6_code, 2, (some FieldType.int), cd_Mo_lesser, 0, 2, 0, 0, 0, 0, [1887, 154, 1886, 0]) := rfl
set_option maxRecDepth 100000 in
theorem mt_268 : xmt[268]? = some (⟨"SoupNineModel", "chats", "()Z"⟩, prog_14_method_64_code, 1, (some FieldType.boolean), cd_Mo_chats, 1, 0, 11, 0, 0, 0, [1891, 154, 1890, 100]) := rfl
set_option maxRecDepth 100000 in
theorem mt_269 : xmt[269]? = some (⟨"SoupNineModel", "state", "(IIII)I"⟩, prog_14_method_71_code, 5, (some FieldType.int), cd_Mo_state, 1, 4, 11, 0, 0, 0, [1895, 154, 1893, 1894]) := rfl
set_option maxRecDepth 100000 in
theorem mt_270 : xmt[270]? = some (⟨"SoupNineModel", "ofState", "(I)I"⟩, prog_14_method_70_code, 3, (some FieldType.int), cd_Mo_ofState, 1, 1, 11, 0, 0, 0, [1899, 154, 1898, 101]) := rfl
set_option maxRecDepth 100000 in
theorem mt_271 : xmt[271]? = some (⟨"SoupNineModel", "ofEvening", "(I)I"⟩, prog_14_method_69_code, 2, (some FieldType.int), cd_Mo_ofEvening, 1, 1, 11, 0, 0, 0, [1903, 154, 1902, 102]) := rfl
set_option maxRecDepth 100000 in
theorem mt_272 : xmt[272]? = some (⟨"SoupNineModel", "give", "(IIII)I"⟩, prog_14_method_77_code, 5, (some FieldType.int), cd_Mo_give, 1, 4, 11, 0, 0, 0, [1907, 154, 1905, 1906]) := rfl
set_option maxRecDepth 100000 in
theorem mt_273 : xmt[273]? = some (⟨"SoupNineModel", "mayCome", "(II)Z"⟩, prog_14_method_76_code, 3, (some FieldType.boolean), cd_Mo_mayCome, 1, 2, 11, 0, 0, 0, [1911, 154, 1910, 103]) := rfl
set_option maxRecDepth 100000 in
theorem mt_274 : xmt[274]? = some (⟨"SoupNineModel", "findCounts", "()V"⟩, prog_14_method_75_code, 6, none, cd_Mo_findCounts, 1, 0, 11, 0, 0, 3, [1915, 154, 1914, 104]) := rfl
set_option maxRecDepth 100000 in
theorem mt_275 : xmt[275]? = some (⟨"SoupNineModel", "gives", "(III)I"⟩, prog_14_method_74_code, 6, (some FieldType.int), cd_Mo_gives, 1, 3, 11, 0, 0, 0, [1919, 154, 1918, 105]) := rfl
set_option maxRecDepth 100000 in
theorem mt_276 : xmt[276]? = some (⟨"SoupNineModel", "countsBy", "(IIII)J"⟩, prog_14_method_73_code, 5, (some FieldType.long), cd_Mo_countsBy, 1, 4, 11, 0, 0, 1, [1923, 154, 1922, 106]) := rfl
set_option maxRecDepth 100000 in
theorem mt_277 : xmt[277]? = some (⟨"SoupNineModel", "weight", "(I)I"⟩, prog_14_method_72_code, 2, (some FieldType.int), cd_Mo_weight, 1, 1, 11, 0, 0, 0, [1927, 154, 1926, 107]) := rfl
set_option maxRecDepth 100000 in
theorem mt_278 : xmt[278]? = some (⟨"SoupNineModel", "mean", "(IIIZ)J"⟩, prog_14_method_79_code, 5, (some FieldType.long), cd_Mo_mean, 1, 4, 11, 0, 0, 1, [1931, 154, 1929, 1930]) := rfl
set_option maxRecDepth 100000 in
theorem mt_279 : xmt[279]? = some (⟨"SoupNineModel", "part", "(JJZ)J"⟩, prog_14_method_78_code, 5, (some FieldType.long), cd_Mo_part, 0, 3, 0, 0, 0, 1, [1935, 154, 1934, 0]) := rfl
set_option maxRecDepth 100000 in
theorem mt_280 : xmt[280]? = some (⟨"SoupNineModel", "common", "(JJ)J"⟩, prog_14_method_9_code, 10, (some FieldType.long), cd_Mo_common, 0, 2, 0, 0, 0, 1, [1938, 154, 1937, 0]) := rfl
set_option maxRecDepth 100000 in
theorem mt_281 : xmt[281]? = some (⟨"SoupNineModel", "safe", "(I)I"⟩, prog_14_method_80_code, 4, (some FieldType.int), cd_Mo_safe, 1, 1, 11, 0, 0, 0, [1942, 154, 1940, 1941]) := rfl
set_option maxRecDepth 100000 in
theorem mt_282 : xmt[282]? = some (⟨"SoupNineModel", "way", "(II)I"⟩, prog_14_method_88_code, 3, (some FieldType.int), cd_Mo_way, 1, 2, 11, 0, 0, 0, [1946, 154, 1944, 1945]) := rfl
set_option maxRecDepth 100000 in
theorem mt_283 : xmt[283]? = some (⟨"SoupNineModel", "findWay", "(I)V"⟩, prog_14_method_86_code, 8, none, cd_Mo_findWay, 1, 1, 11, 0, 0, 3, [1950, 154, 1949, 108]) := rfl
set_option maxRecDepth 100000 in
theorem mt_284 : xmt[284]? = some (⟨"SoupNineModel", "findOn", "(III)V"⟩, prog_14_method_84_code, 7, none, cd_Mo_findOn, 1, 3, 11, 0, 0, 3, [1954, 154, 1953, 109]) := rfl
set_option maxRecDepth 100000 in
theorem mt_285 : xmt[285]? = some (⟨"SoupNineModel", "peopleOf", "(I)I"⟩, prog_14_method_82_code, 4, (some FieldType.int), cd_Mo_peopleOf, 1, 1, 11, 0, 0, 0, [1958, 154, 1957, 110]) := rfl
set_option maxRecDepth 100000 in
theorem mt_286 : xmt[286]? = some (⟨"SoupNineModel", "has", "(II)Z"⟩, prog_14_method_4_code, 2, (some FieldType.boolean), cd_Mo_has, 0, 2, 0, 0, 0, 0, [1961, 154, 1960, 0]) := rfl
set_option maxRecDepth 100000 in
theorem mt_287 : xmt[287]? = some (⟨"SoupNineModel", "goOn", "(III)V"⟩, prog_14_method_85_code, 8, none, cd_Mo_goOn, 1, 3, 11, 0, 0, 3, [1966, 154, 1965, 111]) := rfl
set_option maxRecDepth 100000 in
theorem mt_288 : xmt[288]? = some (⟨"SoupNineModel", "isSought", "(I)Z"⟩, prog_14_method_81_code, 2, (some FieldType.boolean), cd_Mo_isSought, 1, 1, 11, 0, 0, 0, [1970, 154, 1969, 112]) := rfl
set_option maxRecDepth 100000 in
theorem mt_289 : xmt[289]? = some (⟨"SoupNineModel", "doneThere", "(III)I"⟩, prog_14_method_83_code, 5, (some FieldType.int), cd_Mo_doneThere, 1, 3, 11, 0, 0, 0, [1974, 154, 1973, 113]) := rfl
set_option maxRecDepth 100000 in
theorem mt_290 : xmt[290]? = some (⟨"SoupNineModel", "leads", "(IIIIII)Z"⟩, prog_14_method_87_code, 8, (some FieldType.boolean), cd_Mo_leads, 1, 6, 11, 0, 0, 0, [1978, 154, 1977, 114]) := rfl
set_option maxRecDepth 100000 in
theorem mt_291 : xmt[291]? = some (⟨"SoupNineModel", "round", "(II)I"⟩, prog_14_method_91_code, 7, (some FieldType.int), cd_Mo_round, 1, 2, 11, 0, 0, 0, [1982, 154, 1980, 1981]) := rfl
set_option maxRecDepth 100000 in
theorem mt_292 : xmt[292]? = some (⟨"SoupNineModel", "findRounds", "()V"⟩, prog_14_method_90_code, 5, none, cd_Mo_findRounds, 1, 0, 11, 0, 0, 3, [1986, 154, 1985, 115]) := rfl
set_option maxRecDepth 100000 in
theorem mt_293 : xmt[293]? = some (⟨"SoupNineModel", "cell", "(II)I"⟩, prog_14_method_89_code, 2, (some FieldType.int), cd_Mo_cell, 0, 2, 0, 0, 0, 0, [1989, 154, 1988, 0]) := rfl
set_option maxRecDepth 100000 in
theorem mt_294 : xmt[294]? = some (⟨"SoupNineModel", "talks", "(I)I"⟩, prog_14_method_93_code, 3, (some FieldType.int), cd_Mo_talks, 1, 1, 11, 0, 0, 0, [1993, 154, 1991, 1992]) := rfl
set_option maxRecDepth 100000 in
theorem mt_295 : xmt[295]? = some (⟨"SoupNineModel", "areWarm", "(II)Z"⟩, prog_14_method_92_code, 6, (some FieldType.boolean), cd_Mo_areWarm, 1, 2, 11, 0, 0, 0, [1997, 154, 1996, 116]) := rfl
set_option maxRecDepth 100000 in
theorem mt_296 : xmt[296]? = some (⟨"SoupNineModel", "lost", "(II)I"⟩, prog_14_method_94_code, 4, (some FieldType.int), cd_Mo_lost, 1, 2, 11, 0, 0, 0, [2001, 154, 1999, 2000]) := rfl
set_option maxRecDepth 100000 in
theorem mt_297 : xmt[297]? = some (⟨"SoupNineModel", "book", "(III)I"⟩, prog_14_method_98_code, 4, (some FieldType.int), cd_Mo_book, 1, 3, 11, 0, 0, 0, [2005, 154, 2003, 2004]) := rfl
set_option maxRecDepth 100000 in
theorem mt_298 : xmt[298]? = some (⟨"SoupNineModel", "hasBook", "(I)Z"⟩, prog_14_method_97_code, 2, (some FieldType.boolean), cd_Mo_hasBook, 1, 1, 11, 0, 0, 0, [2009, 154, 2008, 117]) := rfl
set_option maxRecDepth 100000 in
theorem mt_299 : xmt[299]? = some (⟨"SoupNineModel", "nights", "()I"⟩, prog_14_method_95_code, 1, (some FieldType.int), cd_Mo_nights, 1, 0, 11, 0, 0, 0, [2013, 154, 2012, 118]) := rfl
set_option maxRecDepth 100000 in
theorem mt_300 : xmt[300]? = some (⟨"SoupNineModel", "nightOf", "(II)I"⟩, prog_14_method_96_code, 3, (some FieldType.int), cd_Mo_nightOf, 1, 2, 11, 0, 0, 0, [2017, 154, 2016, 119]) := rfl
set_option maxRecDepth 100000 in
theorem mt_301 : xmt[301]? = some (⟨"SoupNineModel", "held", "(II)I"⟩, prog_14_method_103_code, 5, (some FieldType.int), cd_Mo_held, 1, 2, 11, 0, 0, 0, [2021, 154, 2019, 2020]) := rfl
set_option maxRecDepth 100000 in
theorem mt_302 : xmt[302]? = some (⟨"SoupNineModel", "heldBy", "(Z)J"⟩, prog_14_method_102_code, 8, (some FieldType.long), cd_Mo_heldBy, 1, 1, 11, 0, 0, 1, [2025, 154, 2024, 120]) := rfl
set_option maxRecDepth 100000 in
theorem mt_303 : xmt[303]? = some (⟨"SoupNineModel", "doorway", "()I"⟩, prog_14_method_101_code, 5, (some FieldType.int), cd_Mo_doorway, 1, 0, 11, 0, 0, 0, [2029, 154, 2028, 121]) := rfl
set_option maxRecDepth 100000 in
theorem mt_304 : xmt[304]? = some (⟨"SoupNineModel", "moreFrom", "(I)I"⟩, prog_14_method_100_code, 2, (some FieldType.int), cd_Mo_moreFrom, 1, 1, 11, 0, 0, 0, [2033, 154, 2032, 122]) := rfl
set_option maxRecDepth 100000 in
theorem mt_305 : xmt[305]? = some (⟨"SoupNineModel", "seenFrom", "(II)I"⟩, prog_14_method_99_code, 5, (some FieldType.int), cd_Mo_seenFrom, 1, 2, 11, 0, 0, 0, [2037, 154, 2036, 123]) := rfl
set_option maxRecDepth 100000 in
theorem mt_306 : xmt[306]? = some (⟨"SoupNineModel", "bring", "(III)I"⟩, prog_14_method_104_code, 5, (some FieldType.int), cd_Mo_bring, 1, 3, 11, 0, 0, 0, [2041, 154, 2039, 2040]) := rfl
set_option maxRecDepth 100000 in
theorem mt_307 : xmt[307]? = some (⟨"SoupNineModel", "enoughOn", "(II)I"⟩, prog_14_method_105_code, 5, (some FieldType.int), cd_Mo_enoughOn, 1, 2, 11, 0, 0, 0, [2045, 154, 2044, 124]) := rfl
set_option maxRecDepth 100000 in
theorem mt_308 : xmt[308]? = some (⟨"SoupNineModel", "span", "(IIZ)I"⟩, prog_14_method_106_code, 7, (some FieldType.int), cd_Mo_span, 1, 3, 11, 0, 0, 0, [2049, 154, 2047, 2048]) := rfl
set_option maxRecDepth 100000 in
theorem mt_309 : xmt[309]? = some (⟨"SoupNineModel", "list", "(II)I"⟩, prog_14_method_109_code, 4, (some FieldType.int), cd_Mo_list, 1, 2, 11, 0, 0, 0, [2053, 154, 2051, 2052]) := rfl
set_option maxRecDepth 100000 in
theorem mt_310 : xmt[310]? = some (⟨"SoupNineModel", "hasList", "(I)Z"⟩, prog_14_method_108_code, 2, (some FieldType.boolean), cd_Mo_hasList, 1, 1, 11, 0, 0, 0, [2057, 154, 2056, 125]) := rfl
set_option maxRecDepth 100000 in
theorem mt_311 : xmt[311]? = some (⟨"SoupNineModel", "listOf", "(I)I"⟩, prog_14_method_107_code, 2, (some FieldType.int), cd_Mo_listOf, 1, 1, 11, 0, 0, 0, [2061, 154, 2060, 126]) := rfl
set_option maxRecDepth 100000 in
theorem mt_312 : xmt[312]? = some (⟨"SoupNineModel", "shod", "(II)I"⟩, prog_14_method_113_code, 3, (some FieldType.int), cd_Mo_shod, 1, 2, 11, 0, 0, 0, [2065, 154, 2063, 2064]) := rfl
set_option maxRecDepth 100000 in
theorem mt_313 : xmt[313]? = some (⟨"SoupNineModel", "findNeeds", "()V"⟩, prog_14_method_111_code, 5, none, cd_Mo_findNeeds, 1, 0, 11, 0, 0, 3, [2069, 154, 2068, 127]) := rfl
set_option maxRecDepth 100000 in
theorem mt_314 : xmt[314]? = some (⟨"SoupNineModel", "isFit", "(II)Z"⟩, prog_14_method_110_code, 3, (some FieldType.boolean), cd_Mo_isFit, 1, 2, 11, 0, 0, 0, [2073, 154, 2072, 128]) := rfl
set_option maxRecDepth 100000 in
theorem mt_315 : xmt[315]? = some (⟨"SoupNineModel", "shoeOf", "(I)I"⟩, prog_14_method_112_code, 7, (some FieldType.int), cd_Mo_shoeOf, 1, 1, 11, 0, 0, 0, [2077, 154, 2076, 129]) := rfl
set_option maxRecDepth 100000 in
theorem mt_316 : xmt[316]? = some (⟨"SoupNineModel", "look", "(II)I"⟩, prog_14_method_121_code, 4, (some FieldType.int), cd_Mo_look, 1, 2, 11, 0, 0, 0, [2081, 154, 2079, 2080]) := rfl
set_option maxRecDepth 100000 in
theorem mt_317 : xmt[317]? = some (⟨"SoupNineModel", "hides", "()I"⟩, prog_14_method_114_code, 1, (some FieldType.int), cd_Mo_hides, 1, 0, 11, 0, 0, 0, [2085, 154, 2084, 130]) := rfl
set_option maxRecDepth 100000 in
theorem mt_318 : xmt[318]? = some (⟨"SoupNineModel", "odds", "(I)I"⟩, prog_14_method_117_code, 4, (some FieldType.int), cd_Mo_odds, 1, 1, 11, 0, 0, 0, [2089, 154, 2088, 131]) := rfl
set_option maxRecDepth 100000 in
theorem mt_319 : xmt[319]? = some (⟨"SoupNineModel", "findLooks", "()V"⟩, prog_14_method_119_code, 5, none, cd_Mo_findLooks, 1, 0, 11, 0, 0, 3, [2093, 154, 2092, 132]) := rfl
set_option maxRecDepth 100000 in
theorem mt_320 : xmt[320]? = some (⟨"SoupNineModel", "looksOn", "(III)I"⟩, prog_14_method_118_code, 5, (some FieldType.int), cd_Mo_looksOn, 1, 3, 11, 0, 0, 0, [2097, 154, 2096, 133]) := rfl
set_option maxRecDepth 100000 in
theorem mt_321 : xmt[321]? = some (⟨"SoupNineModel", "hideX", "(I)I"⟩, prog_14_method_115_code, 2, (some FieldType.int), cd_Mo_hideX, 1, 1, 11, 0, 0, 0, [2101, 154, 2100, 134]) := rfl
set_option maxRecDepth 100000 in
theorem mt_322 : xmt[322]? = some (⟨"SoupNineModel", "hideY", "(I)I"⟩, prog_14_method_116_code, 2, (some FieldType.int), cd_Mo_hideY, 1, 1, 11, 0, 0, 0, [2105, 154, 2104, 135]) := rfl
set_option maxRecDepth 100000 in
theorem mt_323 : xmt[323]? = some (⟨"SoupNineModel", "hideAt", "(I)I"⟩, prog_14_method_120_code, 6, (some FieldType.int), cd_Mo_hideAt, 1, 1, 11, 0, 0, 0, [2109, 154, 2108, 136]) := rfl
set_option maxRecDepth 100000 in
theorem mt_324 : xmt[324]? = some (⟨"SoupNineModel", "worry", "(IIIZ)J"⟩, prog_14_method_126_code, 7, (some FieldType.long), cd_Mo_worry, 1, 4, 11, 0, 0, 1, [2113, 154, 2111, 2112]) := rfl
set_option maxRecDepth 100000 in
theorem mt_325 : xmt[325]? = some (⟨"SoupNineModel", "areOdds", "(II)Z"⟩, prog_14_method_125_code, 2, (some FieldType.boolean), cd_Mo_areOdds, 0, 2, 0, 0, 0, 0, [2116, 154, 2115, 0]) := rfl
set_option maxRecDepth 100000 in
theorem mt_326 : xmt[326]? = some (⟨"SoupNineModel", "stays", "(III)J"⟩, prog_14_method_124_code, 3, (some FieldType.long), cd_Mo_stays, 0, 3, 0, 0, 0, 1, [2119, 154, 2118, 0]) := rfl
set_option maxRecDepth 100000 in
theorem mt_327 : xmt[327]? = some (⟨"SoupNineModel", "ill", "(II)J"⟩, prog_14_method_123_code, 2, (some FieldType.long), cd_Mo_ill, 0, 2, 0, 0, 0, 1, [2122, 154, 2121, 0]) := rfl
set_option maxRecDepth 100000 in
theorem mt_328 : xmt[328]? = some (⟨"SoupNineModel", "power", "(JI)J"⟩, prog_14_method_122_code, 6, (some FieldType.long), cd_Mo_power, 0, 2, 0, 0, 0, 1, [2126, 154, 2125, 0]) := rfl
set_option maxRecDepth 100000 in
theorem mt_329 : xmt[329]? = some (⟨"SoupNineModel", "when", "(III)I"⟩, prog_14_method_127_code, 7, (some FieldType.int), cd_Mo_when, 1, 3, 11, 0, 0, 0, [2130, 154, 2128, 2129]) := rfl
set_option maxRecDepth 100000 in
theorem mt_330 : xmt[330]? = some (⟨"SoupNineModel", "shared", "(IIIII)I"⟩, prog_14_method_128_code, 12, (some FieldType.int), cd_Mo_shared, 1, 5, 11, 0, 0, 0, [2134, 154, 2132, 2133]) := rfl
set_option maxRecDepth 100000 in
theorem mt_331 : xmt[331]? = some (⟨"SoupNineModel", "ones", "(I)I"⟩, prog_14_method_8_code, 3, (some FieldType.int), cd_Mo_ones, 0, 1, 0, 0, 0, 0, [2137, 154, 2136, 0]) := rfl
set_option maxRecDepth 100000 in
theorem mt_332 : xmt[332]? = some (⟨"SoupNineModel", "pair", "(III)I"⟩, prog_14_method_129_code, 7, (some FieldType.int), cd_Mo_pair, 1, 3, 11, 0, 0, 0, [2141, 154, 2139, 2140]) := rfl
set_option maxRecDepth 100000 in
theorem mt_333 : xmt[333]? = some (⟨"SoupNineModel", "drawn", "(IIII)I"⟩, prog_14_method_132_code, 6, (some FieldType.int), cd_Mo_drawn, 1, 4, 11, 0, 0, 0, [2145, 154, 2143, 2144]) := rfl
set_option maxRecDepth 100000 in
theorem mt_334 : xmt[334]? = some (⟨"SoupNineModel", "drawDeed", "()V"⟩, prog_14_method_131_code, 2, none, cd_Mo_drawDeed, 1, 0, 11, 0, 0, 3, [2149, 154, 2148, 137]) := rfl
set_option maxRecDepth 100000 in
theorem mt_335 : xmt[335]? = some (⟨"SoupNineModel", "draw", "(I)I"⟩, prog_14_method_130_code, 2, (some FieldType.int), cd_Mo_draw, 1, 1, 11, 0, 0, 0, [2153, 154, 2152, 138]) := rfl
set_option maxRecDepth 100000 in
theorem mt_336 : xmt[336]? = some (⟨"SoupNineModel", "tells", "(IIIZ)J"⟩, prog_14_method_133_code, 5, (some FieldType.long), cd_Mo_tells, 1, 4, 11, 0, 0, 1, [2158, 154, 2156, 2157]) := rfl
set_option maxRecDepth 100000 in
theorem mt_337 : xmt[337]? = some (⟨"SoupNineModel", "depot", "(IZ)I"⟩, prog_14_method_135_code, 5, (some FieldType.int), cd_Mo_depot, 1, 2, 11, 0, 0, 0, [2162, 154, 2160, 2161]) := rfl
set_option maxRecDepth 100000 in
theorem mt_338 : xmt[338]? = some (⟨"SoupNineModel", "drivenFrom", "(II)I"⟩, prog_14_method_134_code, 5, (some FieldType.int), cd_Mo_drivenFrom, 1, 2, 11, 0, 0, 0, [2166, 154, 2165, 139]) := rfl
set_option maxRecDepth 100000 in
theorem mt_339 : xmt[339]? = some (⟨"SoupNineModel", "vans", "(IZ)I"⟩, prog_14_method_136_code, 8, (some FieldType.int), cd_Mo_vans, 1, 2, 11, 0, 0, 0, [2170, 154, 2168, 2169]) := rfl
set_option maxRecDepth 100000 in
theorem mt_340 : xmt[340]? = some (⟨"SoupNineModel", "trail", "(IIZ)I"⟩, prog_14_method_137_code, 6, (some FieldType.int), cd_Mo_trail, 1, 3, 11, 0, 0, 0, [2174, 154, 2172, 2173]) := rfl
set_option maxRecDepth 100000 in
theorem mt_341 : xmt[341]? = some (⟨"SoupNineModel", "chat", "(IZ)I"⟩, prog_14_method_138_code, 7, (some FieldType.int), cd_Mo_chat, 1, 2, 11, 0, 0, 0, [2178, 154, 2176, 2177]) := rfl
set_option maxRecDepth 100000 in
theorem mt_342 : xmt[342]? = some (⟨"SoupNineModel", "lack", "(IIZ)J"⟩, prog_14_method_139_code, 11, (some FieldType.long), cd_Mo_lack, 1, 3, 11, 0, 0, 1, [2182, 154, 2180, 2181]) := rfl
set_option maxRecDepth 100000 in
theorem mt_343 : xmt[343]? = some (⟨"SoupNineModel", "lot", "(IIZ)J"⟩, prog_14_method_141_code, 11, (some FieldType.long), cd_Mo_lot, 1, 3, 11, 0, 0, 1, [2186, 154, 2184, 2185]) := rfl
set_option maxRecDepth 100000 in
theorem mt_344 : xmt[344]? = some (⟨"SoupNineModel", "picks", "(II)V"⟩, prog_14_method_140_code, 5, none, cd_Mo_picks, 1, 2, 11, 0, 0, 3, [2190, 154, 2189, 140]) := rfl
set_option maxRecDepth 100000 in
theorem mt_345 : xmt[345]? = some (⟨"SoupNineModel", "like", "(III)I"⟩, prog_14_method_142_code, 7, (some FieldType.int), cd_Mo_like, 1, 3, 11, 0, 0, 0, [2194, 154, 2192, 2193]) := rfl
set_option maxRecDepth 100000 in
theorem mt_346 : xmt[346]? = some (⟨"SoupNineModel", "sick", "(IIIIIZ)J"⟩, prog_14_method_146_code, 7, (some FieldType.long), cd_Mo_sick, 1, 6, 11, 0, 0, 1, [2198, 154, 2196, 2197]) := rfl
set_option maxRecDepth 100000 in
theorem mt_347 : xmt[347]? = some (⟨"SoupNineModel", "areSigns", "(IIII)Z"⟩, prog_14_method_144_code, 4, (some FieldType.boolean), cd_Mo_areSigns, 0, 4, 0, 0, 0, 0, [2201, 154, 2200, 0]) := rfl
set_option maxRecDepth 100000 in
theorem mt_348 : xmt[348]? = some (⟨"SoupNineModel", "shows", "(IIII)J"⟩, prog_14_method_143_code, 4, (some FieldType.long), cd_Mo_shows, 0, 4, 0, 0, 0, 1, [2204, 154, 2203, 0]) := rfl
set_option maxRecDepth 100000 in
theorem mt_349 : xmt[349]? = some (⟨"SoupNineModel", "allShow", "(IIIII)J"⟩, prog_14_method_145_code, 7, (some FieldType.long), cd_Mo_allShow, 0, 5, 0, 0, 0, 1, [2207, 154, 2206, 0]) := rfl
set_option maxRecDepth 100000 in
theorem mt_350 : xmt[350]? = some (⟨"SoupNineModel", "call", "(IIIII)I"⟩, prog_14_method_147_code, 7, (some FieldType.int), cd_Mo_call, 1, 5, 11, 0, 0, 0, [2211, 154, 2209, 2210]) := rfl
set_option maxRecDepth 100000 in
theorem mt_351 : xmt[351]? = some (⟨"SoupNineModel", "count", "(I)I"⟩, prog_14_method_148_code, 2, (some FieldType.int), cd_Mo_count, 1, 1, 11, 0, 0, 0, [2215, 154, 2213, 2214]) := rfl
set_option maxRecDepth 100000 in
theorem mt_352 : xmt[352]? = some (⟨"SoupNineModel", "image", "(I)Z"⟩, prog_14_method_149_code, 2, (some FieldType.boolean), cd_Mo_image, 1, 1, 11, 0, 0, 0, [2219, 154, 2217, 2218]) := rfl
set_option maxRecDepth 100000 in
theorem mt_353 : xmt[353]? = some (⟨"SoupNineModel", "copyAll", "(II)V"⟩, prog_14_method_11_code, 4, none, cd_Mo_copyAll, 1, 2, 11, 0, 0, 3, [2223, 154, 2222, 141]) := rfl
set_option maxRecDepth 100000 in
theorem mt_354 : xmt[354]? = some (⟨"SoupNineModel", "copyRow", "([IIII)V"⟩, prog_14_method_10_code, 5, none, cd_Mo_copyRow, 0, 4, 0, 0, 0, 3, [2226, 154, 2225, 0]) := rfl
set_option maxRecDepth 100000 in
theorem mt_355 : xmt[355]? = some (⟨"SoupNineModel", "again", "(I)Z"⟩, prog_14_method_150_code, 2, (some FieldType.boolean), cd_Mo_again, 1, 1, 11, 0, 0, 0, [2230, 154, 2228, 2229]) := rfl
