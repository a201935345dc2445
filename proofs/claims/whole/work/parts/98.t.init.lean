/-! THE CONSTRUCTORS of the two sides -/
theorem Rn.nx {H g : xh} {l : List xdd} {m : Nat} (R : Rn H g l m) (h6 : 64 ≤ m) (t : Nat) : 64 ≤ xN g ∧ xN g < xN (xnw g t 0) ∧ xS (xnw g t 0) (xN g) = (t, 0) := ⟨by rw [R.n]; exact h6, by rw [xnw_N]; omega, xnw_at g t 0⟩
def fRd (l : List xdd) : List xdd := (1, 117, 0, 66, 0) :: (1, 117, 14, 134, 0) :: fS 134 135 ((0, 134, 5, 0, 0) :: (1, 117, 13, 130, 0) :: fB 130 131 ((0, 130, 4, 0, 0) :: (1, 117, 12, 127, 0) :: fE 127 128 ((0, 127, 3, 0, 0) :: (1, 117, 11, 119, 0) :: fT 119 120 ((0, 119, 2, 0, 0) :: (1, 117, 6, 118, 0) :: (0, 118, 20, 4, 0) :: l))))
theorem k_Reader {n : Nat} (hn : 3 ≤ n) {H g : xh} {l : List xdd} (R : Rn H g l 118) (s : dS l 117 (xS H 117) = (6, 0)) {Q : xh → Prop} (hQ : ∀ g', Rn H g' (fRd l) 141 → Q g') : xcv (xMC n) 126 [.ref 117, .ref 66] g Q := by
  obtain ⟨n, rfl⟩ := xsucc (show 1 ≤ n by omega)
  refine w_Reader_init ⟨⟨by decide, (R.nw 20 4).s 117 s⟩, ?_⟩
  have R1 := (R.fd (b := 117) 117 20 4 6 rfl).as 119 rfl
  change K_Reader_init n Q 11 [some (.ref 117), some (.ref 66)] [] (nFd 117 g 20 4 6) 1 4
  generalize nFd 117 g 20 4 6 = g1 at R1 ⊢
  obtain ⟨a1, a2, a3⟩ := R1.nx (by decide) 2
  have R2 := (((R1.nw 2 0).town 119 R1.n).as 127 rfl)
  refine b_Reader_init_11 ⟨a3, c_Town_init (by omega) a1 a2 a3 ⟨⟨by decide, R2.s 117 s⟩, ?_⟩⟩
  have R3 := R2.sR (b := 117) (w := xN g1) 117 11 119 rfl R1.n
  generalize xsR (nTown (xN g1) (xnw g1 2 0)) 117 11 (some (xN g1)) = g2 at R3 ⊢
  obtain ⟨a1, a2, a3⟩ := R3.nx (by decide) 3
  have R4 := (((R3.nw 3 0).even 127 R3.n).as 130 rfl)
  refine b_Reader_init_22 ⟨a3, c_Evening_init (by omega) a1 a2 a3 ⟨⟨by decide, R4.s 117 s⟩, ?_⟩⟩
  have R5 := R4.sR (b := 117) (w := xN g2) 117 12 127 rfl R3.n
  generalize xsR (nEvening (xN g2) (xnw g2 3 0)) 117 12 (some (xN g2)) = g3 at R5 ⊢
  obtain ⟨a1, a2, a3⟩ := R5.nx (by decide) 4
  have R6 := (((R5.nw 4 0).book 130 R5.n).as 134 rfl)
  refine b_Reader_init_33 ⟨a3, c_Book_init (by omega) a1 a2 a3 ⟨⟨by decide, R6.s 117 s⟩, ?_⟩⟩
  have R7 := R6.sR (b := 117) (w := xN g3) 117 13 130 rfl R5.n
  generalize xsR (nBook (xN g3) (xnw g3 4 0)) 117 13 (some (xN g3)) = g4 at R7 ⊢
  obtain ⟨a1, a2, a3⟩ := R7.nx (by decide) 5
  have R8 := (((R7.nw 5 0).sheet 134 R7.n).as 141 rfl)
  refine b_Reader_init_44 ⟨a3, c_Sheet_init (by omega) a1 a2 a3 ⟨⟨by decide, R8.s 117 s⟩, ?_⟩⟩
  have R9 := R8.sR (b := 117) (w := xN g4) 117 14 134 rfl R7.n
  generalize xsR (nSheet (xN g4) (xnw g4 5 0)) 117 14 (some (xN g4)) = g5 at R9 ⊢
  exact b_Reader_init_55 ⟨⟨by decide, R9.s 117 s⟩, hQ _ (R9.sR (b := 117) (w := 66) 117 0 66 rfl rfl)⟩
def fdL (a : Nat) (l : List xdd) : Nat → List (Nat × Nat × Nat) → List xdd
  | _, [] => l
  | m, (t, z, i) :: r => fdL a ((1, a, i, m, 0) :: (0, m, t, z, 0) :: l) (m + 1) r
def fSo (l : List xdd) : List xdd := (1, 64, 7, 165, 0) :: (0, 165, 20, 5456, 0) :: (1, 64, 6, 159, 0) :: fdL 159 ((0, 159, 10, 0, 0) :: (1, 64, 5, 150, 0) :: fdL 150 ((0, 150, 9, 0, 0) :: (1, 64, 4, 146, 0) :: fdL 146 ((0, 146, 8, 0, 0) :: (1, 64, 3, 141, 0) :: fdL 141 ((0, 141, 7, 0, 0) :: (1, 64, 2, 117, 0) :: fRd ((0, 117, 6, 0, 0) :: (1, 64, 1, 116, 0) :: (0, 116, 24, 3, 0) :: (1, 64, 0, 65, 0) :: fTold 65 l)) 142 [(20, 9, 8), (20, 9, 9), (20, 9, 10), (20, 9, 11)]) 147 [(22, 1000, 1), (22, 10, 2), (22, 181, 3)]) 151 [(20, 90, 2), (20, 4608, 3), (20, 512, 4), (20, 512, 5), (20, 512, 6), (20, 512, 7), (20, 9, 8), (20, 9, 9)]) 160 [(20, 576, 1), (20, 8, 2), (20, 2048, 3), (20, 256, 4), (20, 8, 5)]
theorem k_So {n : Nat} (hn : 4 ≤ n) {H g : xh} {l : List xdd} (R : Rn H g l 65) (s : dS l 64 (xS H 64) = (0, 0)) {Q : xh → Prop} (hQ : ∀ g', Rn H g' (fSo l) 166 → Q g') : xcv (xMC n) 151 [.ref 64] g Q := by
  obtain ⟨n, rfl⟩ := xsucc (show 1 ≤ n by omega)
  obtain ⟨a1, a2, a3⟩ := R.nx (by decide) 1
  have R1 := (R.told R.n).as 116 rfl
  refine w_So_init ⟨a3, c_Told_init (by omega) a1 a2 a3 ⟨⟨by decide, R1.s 64 s⟩, ?_⟩⟩
  have R2 := R1.sR (b := 64) (w := xN g) 64 0 65 rfl R.n
  generalize xsR (nTold (xN g) (xnw g 1 0)) 64 0 (some (xN g)) = g1 at R2 ⊢
  refine b_So_init_15 ⟨⟨by decide, (R2.nw 24 3).s 64 s⟩, ?_⟩
  have R3 := (R2.fd (b := 64) 64 24 3 1 rfl).as 117 rfl
  change K_So_init n Q 23 [some (.ref 64)] [] (nFd 64 g1 24 3 1) 52 1162
  generalize nFd 64 g1 24 3 1 = g2 at R3 ⊢
  obtain ⟨a1, a2, a3⟩ := R3.nx (by decide) 6
  have R4 := R3.nw 6 0
  have Q4 : ∀ {Q : xh → Prop}, (∀ g', Rn H g' (fRd ((0, 117, 6, 0, 0) :: (1, 64, 1, 116, 0) :: (0, 116, 24, 3, 0) :: (1, 64, 0, 65, 0) :: fTold 65 l)) 141 → Q g') → xcv (xMC n) 126 [.ref (xN g2), .ref 66] (xnw g2 6 0) Q := fun {Q} hQ => by
    rw [R3.n]
    exact k_Reader (by omega) R4 rfl hQ
  refine b_So_init_23 ⟨R4.s 64 s, 65, R4.r 64 0 65 rfl, R4.s 65 rfl, 66, R4.r 65 0 66 rfl, a3, Q4 (fun g3 R5 => ⟨⟨by decide, R5.s 64 s⟩, ?_⟩)⟩
  have R6 := R5.sR (b := 64) (w := xN g2) 64 2 117 rfl R3.n
  generalize xsR g3 64 2 (some (xN g2)) = g4 at R6 ⊢
  obtain ⟨a1, a2, a3⟩ := R6.nx (by decide) 7
  have S1 := R6.nw 7 0
  have R7 := (((((S1.fd 141 20 9 8 R6.n).fd 141 20 9 9 R6.n).fd 141 20 9 10 R6.n).fd 141 20 9 11 R6.n)).as 146 rfl
  refine b_So_init_41 ⟨a3, c_Walk_init (by omega) a1 a2 a3 ⟨⟨by decide, R7.s 64 s⟩, ?_⟩⟩
  have R8 := R7.sR (b := 64) (w := xN g4) 64 3 141 rfl R6.n
  change K_So_init n Q 52 [some (.ref 64)] [] (xsR (nFd (xN g4) (nFd (xN g4) (nFd (xN g4) (nFd (xN g4) (xnw g4 7 0) 20 9 8) 20 9 9) 20 9 10) 20 9 11) 64 3 (some (xN g4))) 81 1498
  generalize xsR (nFd (xN g4) (nFd (xN g4) (nFd (xN g4) (nFd (xN g4) (xnw g4 7 0) 20 9 8) 20 9 9) 20 9 10) 20 9 11) 64 3 (some (xN g4)) = g5 at R8 ⊢
  obtain ⟨a1, a2, a3⟩ := R8.nx (by decide) 8
  have S1 := R8.nw 8 0
  have R9 := ((((S1.fd 146 22 1000 1 R8.n).fd 146 22 10 2 R8.n).fd 146 22 181 3 R8.n)).as 150 rfl
  refine b_So_init_52 ⟨a3, c_Bowls_init (by omega) a1 a2 a3 ⟨⟨by decide, R9.s 64 s⟩, ?_⟩⟩
  have R10 := R9.sR (b := 64) (w := xN g5) 64 4 146 rfl R8.n
  change K_So_init n Q 63 [some (.ref 64)] [] (xsR (nFd (xN g5) (nFd (xN g5) (nFd (xN g5) (xnw g5 8 0) 22 1000 1) 22 10 2) 22 181 3) 64 4 (some (xN g5))) 85 2693
  generalize xsR (nFd (xN g5) (nFd (xN g5) (nFd (xN g5) (xnw g5 8 0) 22 1000 1) 22 10 2) 22 181 3) 64 4 (some (xN g5)) = g6 at R10 ⊢
  obtain ⟨a1, a2, a3⟩ := R10.nx (by decide) 9
  have S1 := R10.nw 9 0
  have R11 := (((((((((S1.fd 150 20 90 2 R10.n).fd 150 20 4608 3 R10.n).fd 150 20 512 4 R10.n).fd 150 20 512 5 R10.n).fd 150 20 512 6 R10.n).fd 150 20 512 7 R10.n).fd 150 20 9 8 R10.n).fd 150 20 9 9 R10.n)).as 159 rfl
  refine b_So_init_63 ⟨a3, c_Routes_init (by omega) a1 a2 a3 ⟨⟨by decide, R11.s 64 s⟩, ?_⟩⟩
  have R12 := R11.sR (b := 64) (w := xN g6) 64 5 150 rfl R10.n
  change K_So_init n Q 74 [some (.ref 64)] [] (xsR (nFd (xN g6) (nFd (xN g6) (nFd (xN g6) (nFd (xN g6) (nFd (xN g6) (nFd (xN g6) (nFd (xN g6) (nFd (xN g6) (xnw g6 9 0) 20 90 2) 20 4608 3) 20 512 4) 20 512 5) 20 512 6) 20 512 7) 20 9 8) 20 9 9) 64 5 (some (xN g6))) 94 9471
  generalize xsR (nFd (xN g6) (nFd (xN g6) (nFd (xN g6) (nFd (xN g6) (nFd (xN g6) (nFd (xN g6) (nFd (xN g6) (nFd (xN g6) (xnw g6 9 0) 20 90 2) 20 4608 3) 20 512 4) 20 512 5) 20 512 6) 20 512 7) 20 9 8) 20 9 9) 64 5 (some (xN g6)) = g7 at R12 ⊢
  obtain ⟨a1, a2, a3⟩ := R12.nx (by decide) 10
  have S1 := R12.nw 10 0
  have R13 := ((((((S1.fd 159 20 576 1 R12.n).fd 159 20 8 2 R12.n).fd 159 20 2048 3 R12.n).fd 159 20 256 4 R12.n).fd 159 20 8 5 R12.n)).as 165 rfl
  refine b_So_init_74 ⟨a3, c_Search_init (by omega) a1 a2 a3 ⟨⟨by decide, R13.s 64 s⟩, ?_⟩⟩
  have R14 := R13.sR (b := 64) (w := xN g7) 64 6 159 rfl R12.n
  change K_So_init n Q 85 [some (.ref 64)] [] (xsR (nFd (xN g7) (nFd (xN g7) (nFd (xN g7) (nFd (xN g7) (nFd (xN g7) (xnw g7 10 0) 20 576 1) 20 8 2) 20 2048 3) 20 256 4) 20 8 5) 64 6 (some (xN g7))) 100 12375
  generalize xsR (nFd (xN g7) (nFd (xN g7) (nFd (xN g7) (nFd (xN g7) (nFd (xN g7) (xnw g7 10 0) 20 576 1) 20 8 2) 20 2048 3) 20 256 4) 20 8 5) 64 6 (some (xN g7)) = g8 at R14 ⊢
  obtain ⟨n, rfl⟩ := xsucc (show 1 ≤ n by omega)
  refine b_So_init_85 (w_Book_lotRow ?_)
  rw [show (((((99 : Int32) * 11) * (11 - 1)) / 2) + 11) = 5456 from by decide, show (5456 : Int32).toNatClampNeg = 5456 from by decide]
  exact ⟨⟨by decide, by decide, by decide⟩, ⟨by decide, (R14.nw 20 5456).s 64 s⟩, hQ _ ((R14.fd (b := 64) 64 20 5456 7 rfl).as 166 rfl)⟩
def fMo (l : List xdd) : List xdd := (3, 170, 0, 0, 0) :: fdL 166 l 167 [(21, 2400, 1), (20, 4, 2), (20, 4, 3), (20, 4, 4), (20, 16, 5), (20, 560, 6), (20, 648, 7), (20, 408, 8), (20, 392, 9), (20, 81, 19), (20, 4, 20), (20, 9, 28), (20, 9, 29), (20, 9, 30), (20, 9, 31), (22, 1000, 39), (22, 10, 40), (20, 4608, 41), (20, 9, 42), (20, 5120, 47), (20, 576, 50), (20, 2304, 51), (22, 362, 53), (22, 362, 54), (22, 21791, 55), (23, 3, 56)]
theorem k_Mo {n : Nat} (hn : 2 ≤ n) {H g : xh} {l : List xdd} (R : Rn H g l 167) (s : dS l 166 (xS H 166) = (11, 0)) {Q : xh → Prop} (hQ : ∀ g', Rn H g' (fMo l) 193 → Q g') : xcv (xMC n) 207 [.ref 166] g Q := by
  obtain ⟨n, rfl⟩ := xsucc (show 1 ≤ n by omega)
  refine w_Mo_init ⟨⟨by decide, (R.nw 21 2400).s 166 s⟩, ?_⟩
  have R1 := (R.fd (b := 166) 166 21 2400 1 rfl).as 168 rfl
  change xW _ _ _ _ _ _ _ _ (nFd 166 g 21 2400 1) _ _
  generalize nFd 166 g 21 2400 1 = g1 at R1 ⊢
  refine b_Mo_init_13 ⟨⟨by decide, (R1.nw 20 4).s 166 s⟩, ?_⟩
  have R2 := (R1.fd (b := 166) 166 20 4 2 rfl).as 169 rfl
  change xW _ _ _ _ _ _ _ _ (nFd 166 g1 20 4 2) _ _
  generalize nFd 166 g1 20 4 2 = g2 at R2 ⊢
  refine b_Mo_init_20 ⟨⟨by decide, (R2.nw 20 4).s 166 s⟩, ?_⟩
  have R3 := (R2.fd (b := 166) 166 20 4 3 rfl).as 170 rfl
  change xW _ _ _ _ _ _ _ _ (nFd 166 g2 20 4 3) _ _
  generalize nFd 166 g2 20 4 3 = g3 at R3 ⊢
  refine b_Mo_init_27 ⟨⟨by decide, (R3.nw 20 4).s 166 s⟩, ?_⟩
  have R4 := (R3.fd (b := 166) 166 20 4 4 rfl).as 171 rfl
  change xW _ _ _ _ _ _ _ _ (nFd 166 g3 20 4 4) _ _
  generalize nFd 166 g3 20 4 4 = g4 at R4 ⊢
  refine b_Mo_init_34 ⟨⟨by decide, (R4.nw 20 16).s 166 s⟩, ?_⟩
  have R5 := (R4.fd (b := 166) 166 20 16 5 rfl).as 172 rfl
  change xW _ _ _ _ _ _ _ _ (nFd 166 g4 20 16 5) _ _
  generalize nFd 166 g4 20 16 5 = g5 at R5 ⊢
  refine b_Mo_init_42 ⟨⟨by decide, (R5.nw 20 560).s 166 s⟩, ?_⟩
  have R6 := (R5.fd (b := 166) 166 20 560 6 rfl).as 173 rfl
  change xW _ _ _ _ _ _ _ _ (nFd 166 g5 20 560 6) _ _
  generalize nFd 166 g5 20 560 6 = g6 at R6 ⊢
  refine b_Mo_init_51 ⟨⟨by decide, (R6.nw 20 648).s 166 s⟩, ?_⟩
  have R7 := (R6.fd (b := 166) 166 20 648 7 rfl).as 174 rfl
  change xW _ _ _ _ _ _ _ _ (nFd 166 g6 20 648 7) _ _
  generalize nFd 166 g6 20 648 7 = g7 at R7 ⊢
  refine b_Mo_init_60 ⟨⟨by decide, (R7.nw 20 408).s 166 s⟩, ?_⟩
  have R8 := (R7.fd (b := 166) 166 20 408 8 rfl).as 175 rfl
  change xW _ _ _ _ _ _ _ _ (nFd 166 g7 20 408 8) _ _
  generalize nFd 166 g7 20 408 8 = g8 at R8 ⊢
  refine b_Mo_init_69 ⟨⟨by decide, (R8.nw 20 392).s 166 s⟩, ?_⟩
  have R9 := (R8.fd (b := 166) 166 20 392 9 rfl).as 176 rfl
  change xW _ _ _ _ _ _ _ _ (nFd 166 g8 20 392 9) _ _
  generalize nFd 166 g8 20 392 9 = g9 at R9 ⊢
  refine b_Mo_init_78 ⟨⟨by decide, (R9.nw 20 81).s 166 s⟩, ?_⟩
  have R10 := (R9.fd (b := 166) 166 20 81 19 rfl).as 177 rfl
  change xW _ _ _ _ _ _ _ _ (nFd 166 g9 20 81 19) _ _
  generalize nFd 166 g9 20 81 19 = g10 at R10 ⊢
  refine b_Mo_init_86 ⟨⟨by decide, (R10.nw 20 4).s 166 s⟩, ?_⟩
  have R11 := (R10.fd (b := 166) 166 20 4 20 rfl).as 178 rfl
  change xW _ _ _ _ _ _ _ _ (nFd 166 g10 20 4 20) _ _
  generalize nFd 166 g10 20 4 20 = g11 at R11 ⊢
  refine b_Mo_init_93 ⟨⟨by decide, (R11.nw 20 9).s 166 s⟩, ?_⟩
  have R12 := (R11.fd (b := 166) 166 20 9 28 rfl).as 179 rfl
  change xW _ _ _ _ _ _ _ _ (nFd 166 g11 20 9 28) _ _
  generalize nFd 166 g11 20 9 28 = g12 at R12 ⊢
  refine b_Mo_init_101 ⟨⟨by decide, (R12.nw 20 9).s 166 s⟩, ?_⟩
  have R13 := (R12.fd (b := 166) 166 20 9 29 rfl).as 180 rfl
  change xW _ _ _ _ _ _ _ _ (nFd 166 g12 20 9 29) _ _
  generalize nFd 166 g12 20 9 29 = g13 at R13 ⊢
  refine b_Mo_init_109 ⟨⟨by decide, (R13.nw 20 9).s 166 s⟩, ?_⟩
  have R14 := (R13.fd (b := 166) 166 20 9 30 rfl).as 181 rfl
  change xW _ _ _ _ _ _ _ _ (nFd 166 g13 20 9 30) _ _
  generalize nFd 166 g13 20 9 30 = g14 at R14 ⊢
  refine b_Mo_init_117 ⟨⟨by decide, (R14.nw 20 9).s 166 s⟩, ?_⟩
  have R15 := (R14.fd (b := 166) 166 20 9 31 rfl).as 182 rfl
  change xW _ _ _ _ _ _ _ _ (nFd 166 g14 20 9 31) _ _
  generalize nFd 166 g14 20 9 31 = g15 at R15 ⊢
  refine b_Mo_init_125 ⟨⟨by decide, (R15.nw 22 1000).s 166 s⟩, ?_⟩
  have R16 := (R15.fd (b := 166) 166 22 1000 39 rfl).as 183 rfl
  change xW _ _ _ _ _ _ _ _ (nFd 166 g15 22 1000 39) _ _
  generalize nFd 166 g15 22 1000 39 = g16 at R16 ⊢
  refine b_Mo_init_134 ⟨⟨by decide, (R16.nw 22 10).s 166 s⟩, ?_⟩
  have R17 := (R16.fd (b := 166) 166 22 10 40 rfl).as 184 rfl
  change xW _ _ _ _ _ _ _ _ (nFd 166 g16 22 10 40) _ _
  generalize nFd 166 g16 22 10 40 = g17 at R17 ⊢
  refine b_Mo_init_142 ⟨⟨by decide, (R17.nw 20 4608).s 166 s⟩, ?_⟩
  have R18 := (R17.fd (b := 166) 166 20 4608 41 rfl).as 185 rfl
  change xW _ _ _ _ _ _ _ _ (nFd 166 g17 20 4608 41) _ _
  generalize nFd 166 g17 20 4608 41 = g18 at R18 ⊢
  refine b_Mo_init_151 ⟨⟨by decide, (R18.nw 20 9).s 166 s⟩, ?_⟩
  have R19 := (R18.fd (b := 166) 166 20 9 42 rfl).as 186 rfl
  change xW _ _ _ _ _ _ _ _ (nFd 166 g18 20 9 42) _ _
  generalize nFd 166 g18 20 9 42 = g19 at R19 ⊢
  refine b_Mo_init_159 ⟨⟨by decide, (R19.nw 20 5120).s 166 s⟩, ?_⟩
  have R20 := (R19.fd (b := 166) 166 20 5120 47 rfl).as 187 rfl
  change xW _ _ _ _ _ _ _ _ (nFd 166 g19 20 5120 47) _ _
  generalize nFd 166 g19 20 5120 47 = g20 at R20 ⊢
  refine b_Mo_init_168 ⟨⟨by decide, (R20.nw 20 576).s 166 s⟩, ?_⟩
  have R21 := (R20.fd (b := 166) 166 20 576 50 rfl).as 188 rfl
  change xW _ _ _ _ _ _ _ _ (nFd 166 g20 20 576 50) _ _
  generalize nFd 166 g20 20 576 50 = g21 at R21 ⊢
  refine b_Mo_init_177 ⟨⟨by decide, (R21.nw 20 2304).s 166 s⟩, ?_⟩
  have R22 := (R21.fd (b := 166) 166 20 2304 51 rfl).as 189 rfl
  change xW _ _ _ _ _ _ _ _ (nFd 166 g21 20 2304 51) _ _
  generalize nFd 166 g21 20 2304 51 = g22 at R22 ⊢
  refine b_Mo_init_186 ⟨⟨by decide, (R22.nw 22 362).s 166 s⟩, ?_⟩
  have R23 := (R22.fd (b := 166) 166 22 362 53 rfl).as 190 rfl
  change xW _ _ _ _ _ _ _ _ (nFd 166 g22 22 362 53) _ _
  generalize nFd 166 g22 22 362 53 = g23 at R23 ⊢
  refine b_Mo_init_195 ⟨⟨by decide, (R23.nw 22 362).s 166 s⟩, ?_⟩
  have R24 := (R23.fd (b := 166) 166 22 362 54 rfl).as 191 rfl
  change xW _ _ _ _ _ _ _ _ (nFd 166 g23 22 362 54) _ _
  generalize nFd 166 g23 22 362 54 = g24 at R24 ⊢
  refine b_Mo_init_204 ⟨⟨by decide, (R24.nw 22 21791).s 166 s⟩, ?_⟩
  have R25 := (R24.fd (b := 166) 166 22 21791 55 rfl).as 192 rfl
  change xW _ _ _ _ _ _ _ _ (nFd 166 g24 22 21791 55) _ _
  generalize nFd 166 g24 22 21791 55 = g25 at R25 ⊢
  refine b_Mo_init_213 ⟨⟨by decide, (R25.nw 23 3).s 166 s⟩, ?_⟩
  have R26 := (R25.fd (b := 166) 166 23 3 56 rfl).as 193 rfl
  change xW _ _ _ _ _ _ _ _ (nFd 166 g25 23 3 56) _ _
  generalize nFd 166 g25 23 3 56 = g26 at R26 ⊢
  exact b_Mo_init_220 ⟨R26.s 166 s, 170, R26.r 166 4 170 rfl, ⟨by decide, xarN (n := 4) (i := 0) (R26.s 170 rfl) (by decide)⟩, hQ _ (R26.sI (b := 170) 170 0 rfl)⟩
