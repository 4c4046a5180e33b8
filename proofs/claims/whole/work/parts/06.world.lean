theorem lw_good : wk_allgood := fun w hw => good_of_word (List.mem_filter.mp hw).2
abbrev cLine (j : Nat) : Prop := j = 1 ∨ (4 ≤ j ∧ j ≤ 24 ∧ j % 2 = 0)
abbrev cNum (j : Nat) : Prop := j = 29 ∨ j = 31 ∨ j = 33 ∨ j = 38 ∨ j = 40 ∨ j = 42 ∨ j = 44
def bl (j : Nat) : Nat := if j = 2 then 240 else 200
def il (j : Nat) : Nat := if j = 30 ∨ j = 32 then 200 else if j = 47 then 240 else if j = 48 then 2000 else if j = 49 then 10 else if j = 50 then 13000 else if j = 51 ∨ j = 52 ∨ j = 53 then 5 else if j = 54 then 300 else if j = 55 then 1600 else 100
abbrev cGt : Type := va_G × (Nat → Nat) × ClassId × ClassId × ClassId
abbrev cad (G : cGt) (i : Nat) : Nat := G.2.1 i
def eC (G : cGt) (j : Nat) (f : Nat → Int32) : va_E :=
  if cLine j then .inr (0, [.ref (cad G (j + 1)), .int (f 1)])
  else if cNum j then .inr (1, [.ref (cad G (j + 1)), .int (f 1), .int (f 2), .int (f 3)])
  else if j = 0 then .inr (5, [.ref (cad G 1), .ref (cad G 3), .ref (cad G 24), .ref (cad G 26), .ref (cad G 27), .ref (cad G 28), .ref (cad G 29), .ref (cad G 31), .ref (cad G 33), .int (f 9), .int (f 10), .int (f 11)])
  else if j = 3 then .inl (G.2.2.2.2, 10, .inr (.inr (.inr (.inr (fun k => some (cad G (4 + 2 * k)))))))
  else if j = 26 then .inr (2, [.int (f 0)])
  else if j = 27 then .inr (4, [])
  else if j = 28 then .inr (3, [.ref (cad G 35), .ref (cad G 36), .ref (cad G 37), .ref (cad G 38), .ref (cad G 40), .ref (cad G 42), .ref (cad G 44)])
  else if j = 46 then .inr (6, [.ref (cad G 47), .int (f 1), .ref (cad G 48), .ref (cad G 49), .int (f 4), .int (f 5), .int (f 6), .ref (cad G 50), .ref (cad G 51), .ref (cad G 52), .ref (cad G 53), .ref (cad G 54), .ref (cad G 55), .int (f 13)])
  else if j ≤ 25 then .inl (G.2.2.1, bl j, .inl f)
  else .inl (G.2.2.2.1, il j, .inl f)
def vC (G : cGt) : wd_V := (G.1, classes, [(G.2.2.2.1, .int), (G.2.2.1, .byte), (G.2.2.2.2, .object "NumberDesk$Line")], (fun i => cad G i), eC G, 56)
theorem he_cLine {G : cGt} {j : Nat} {f : Nat → Int32} (hj : cLine j) : eC G j f = .inr (0, [.ref (cad G (j + 1)), .int (f 1)]) := if_pos hj
theorem he_cNum {G : cGt} {j : Nat} {f : Nat → Int32} (hj : cNum j) : eC G j f = .inr (1, [.ref (cad G (j + 1)), .int (f 1), .int (f 2), .int (f 3)]) := by
  unfold eC
  rw [if_neg (by omega), if_pos hj]
theorem lz_cLine {j : Nat} (hj : cLine j) : j < 56 := by omega
theorem lz_cNum {j : Nat} (hj : cNum j) : j < 56 := by omega
theorem he_bl {G : cGt} {j : Nat} (hj : cLine j) (f : Nat → Int32) : eC G (j + 1) f = .inl (G.2.2.1, bl (j + 1), .inl f) := by
  unfold eC
  rw [if_neg (by omega), if_neg (by omega), if_neg (by omega), if_neg (by omega), if_neg (by omega), if_neg (by omega), if_neg (by omega), if_neg (by omega), if_pos (by omega)]
theorem he_il {G : cGt} {j : Nat} (hj : cNum j) (f : Nat → Int32) : eC G (j + 1) f = .inl (G.2.2.2.1, il (j + 1), .inl f) := by
  unfold eC
  rw [if_neg (by omega), if_neg (by omega), if_neg (by omega), if_neg (by omega), if_neg (by omega), if_neg (by omega), if_neg (by omega), if_neg (by omega), if_neg (by omega)]
theorem kd_reg {i : Int32} (hi : inR i 10) : cLine (4 + 2 * i.toNatClampNeg) := by
  have := hi.2
  omega
theorem kd_1 : cLine 1 := by decide
theorem kd_24 : cLine 24 := by decide
theorem kd_29 : cNum 29 := by decide
theorem kd_31 : cNum 31 := by decide
theorem kd_33 : cNum 33 := by decide
theorem kd_38 : cNum 38 := by decide
theorem kd_40 : cNum 40 := by decide
theorem kd_42 : cNum 42 := by decide
theorem kd_44 : cNum 44 := by decide
theorem lz_0 : 0 < 56 := by decide
theorem he_0 (G : cGt) (f : Nat → Int32) : eC G 0 f = .inr (5, [.ref (cad G 1), .ref (cad G 3), .ref (cad G 24), .ref (cad G 26), .ref (cad G 27), .ref (cad G 28), .ref (cad G 29), .ref (cad G 31), .ref (cad G 33), .int (f 9), .int (f 10), .int (f 11)]) := rfl
theorem lz_26 : 26 < 56 := by decide
theorem he_26 (G : cGt) (f : Nat → Int32) : eC G 26 f = .inr (2, [.int (f 0)]) := rfl
theorem lz_27 : 27 < 56 := by decide
theorem he_27 (G : cGt) (f : Nat → Int32) : eC G 27 f = .inr (4, []) := rfl
theorem lz_28 : 28 < 56 := by decide
theorem he_28 (G : cGt) (f : Nat → Int32) : eC G 28 f = .inr (3, [.ref (cad G 35), .ref (cad G 36), .ref (cad G 37), .ref (cad G 38), .ref (cad G 40), .ref (cad G 42), .ref (cad G 44)]) := rfl
theorem lz_46 : 46 < 56 := by decide
theorem he_46 (G : cGt) (f : Nat → Int32) : eC G 46 f = .inr (6, [.ref (cad G 47), .int (f 1), .ref (cad G 48), .ref (cad G 49), .int (f 4), .int (f 5), .int (f 6), .ref (cad G 50), .ref (cad G 51), .ref (cad G 52), .ref (cad G 53), .ref (cad G 54), .ref (cad G 55), .int (f 13)]) := rfl
theorem lz_35 : 35 < 56 := by decide
theorem he_35 (G : cGt) (f : Nat → Int32) : eC G 35 f = .inl (G.2.2.2.1, 100, .inl f) := rfl
theorem lz_36 : 36 < 56 := by decide
theorem he_36 (G : cGt) (f : Nat → Int32) : eC G 36 f = .inl (G.2.2.2.1, 100, .inl f) := rfl
theorem lz_37 : 37 < 56 := by decide
theorem he_37 (G : cGt) (f : Nat → Int32) : eC G 37 f = .inl (G.2.2.2.1, 100, .inl f) := rfl
theorem lz_47 : 47 < 56 := by decide
theorem he_47 (G : cGt) (f : Nat → Int32) : eC G 47 f = .inl (G.2.2.2.1, 240, .inl f) := rfl
theorem lz_48 : 48 < 56 := by decide
theorem he_48 (G : cGt) (f : Nat → Int32) : eC G 48 f = .inl (G.2.2.2.1, 2000, .inl f) := rfl
theorem lz_49 : 49 < 56 := by decide
theorem he_49 (G : cGt) (f : Nat → Int32) : eC G 49 f = .inl (G.2.2.2.1, 10, .inl f) := rfl
theorem lz_50 : 50 < 56 := by decide
theorem he_50 (G : cGt) (f : Nat → Int32) : eC G 50 f = .inl (G.2.2.2.1, 13000, .inl f) := rfl
theorem lz_51 : 51 < 56 := by decide
theorem he_51 (G : cGt) (f : Nat → Int32) : eC G 51 f = .inl (G.2.2.2.1, 5, .inl f) := rfl
theorem lz_52 : 52 < 56 := by decide
theorem he_52 (G : cGt) (f : Nat → Int32) : eC G 52 f = .inl (G.2.2.2.1, 5, .inl f) := rfl
theorem lz_53 : 53 < 56 := by decide
theorem he_53 (G : cGt) (f : Nat → Int32) : eC G 53 f = .inl (G.2.2.2.1, 5, .inl f) := rfl
theorem lz_54 : 54 < 56 := by decide
theorem he_54 (G : cGt) (f : Nat → Int32) : eC G 54 f = .inl (G.2.2.2.1, 300, .inl f) := rfl
theorem lz_55 : 55 < 56 := by decide
theorem he_55 (G : cGt) (f : Nat → Int32) : eC G 55 f = .inl (G.2.2.2.1, 1600, .inl f) := rfl
theorem he_3 (G : cGt) (f : Nat → Int32) : eC G 3 f = .inl (G.2.2.2.2, 10, .inr (.inr (.inr (.inr (fun k => some (cad G (4 + 2 * k))))))) := rfl
theorem fd_D_14 (G : cGt) : wk_Fd (vC G) RD 14 RD RD TD 12 5 0 := ⟨iwD, rfl, by decide, (lw_gm 167 (by decide +kernel) rfl), rfl⟩
theorem fd_D_18 (G : cGt) : wk_Fd (vC G) RD 18 RD RD TD 12 5 1 := ⟨iwD, rfl, by decide, (lw_gm 168 (by decide +kernel) rfl), rfl⟩
theorem fd_D_22 (G : cGt) : wk_Fd (vC G) RD 22 RD RD TD 12 5 2 := ⟨iwD, rfl, by decide, (lw_gm 169 (by decide +kernel) rfl), rfl⟩
theorem fd_D_28 (G : cGt) : wk_Fd (vC G) RD 28 RD RD TD 12 5 3 := ⟨iwD, rfl, by decide, (lw_gm 170 (by decide +kernel) rfl), rfl⟩
theorem fd_D_35 (G : cGt) : wk_Fd (vC G) RD 35 RD RD TD 12 5 4 := ⟨iwD, rfl, by decide, (lw_gm 171 (by decide +kernel) rfl), rfl⟩
theorem fd_D_42 (G : cGt) : wk_Fd (vC G) RD 42 RD RD TD 12 5 5 := ⟨iwD, rfl, by decide, (lw_gm 172 (by decide +kernel) rfl), rfl⟩
theorem fd_D_49 (G : cGt) : wk_Fd (vC G) RD 49 RD RD TD 12 5 6 := ⟨iwD, rfl, by decide, (lw_gm 173 (by decide +kernel) rfl), rfl⟩
theorem fd_D_53 (G : cGt) : wk_Fd (vC G) RD 53 RD RD TD 12 5 7 := ⟨iwD, rfl, by decide, (lw_gm 174 (by decide +kernel) rfl), rfl⟩
theorem fd_D_56 (G : cGt) : wk_Fd (vC G) RD 56 RD RD TD 12 5 8 := ⟨iwD, rfl, by decide, (lw_gm 175 (by decide +kernel) rfl), rfl⟩
theorem fd_D_59 (G : cGt) : wk_Fd (vC G) RD 59 RD RD TD 12 5 9 := ⟨iwD, rfl, by decide, (lw_gm 176 (by decide +kernel) rfl), rfl⟩
theorem fd_D_63 (G : cGt) : wk_Fd (vC G) RD 63 RD RD TD 12 5 10 := ⟨iwD, rfl, by decide, (lw_gm 177 (by decide +kernel) rfl), rfl⟩
theorem fd_D_66 (G : cGt) : wk_Fd (vC G) RD 66 RD RD TD 12 5 11 := ⟨iwD, rfl, by decide, (lw_gm 178 (by decide +kernel) rfl), rfl⟩
theorem fd_D_69 (G : cGt) : wk_Fd (vC G) RD 69 RL RL TL 2 0 1 := ⟨iwL, rfl, by decide, (lw_gm 81 (by decide +kernel) rfl), rfl⟩
theorem fd_D_103 (G : cGt) : wk_Fd (vC G) RD 103 RN RN TN 4 1 3 := ⟨iwN, rfl, by decide, (lw_gm 132 (by decide +kernel) rfl), rfl⟩
theorem fd_D_158 (G : cGt) : wk_Fd (vC G) RD 158 RN RN TN 4 1 1 := ⟨iwN, rfl, by decide, (lw_gm 125 (by decide +kernel) rfl), rfl⟩
theorem fd_L_9 (G : cGt) : wk_Fd (vC G) RL 9 RL RL TL 2 0 1 := ⟨iwL, rfl, by decide, (lw_gm 80 (by decide +kernel) rfl), rfl⟩
theorem fd_L_21 (G : cGt) : wk_Fd (vC G) RL 21 RL RL TL 2 0 0 := ⟨iwL, rfl, by decide, (lw_gm 79 (by decide +kernel) rfl), rfl⟩
theorem fd_N_9 (G : cGt) : wk_Fd (vC G) RN 9 RN RN TN 4 1 1 := ⟨iwN, rfl, by decide, (lw_gm 122 (by decide +kernel) rfl), rfl⟩
theorem fd_N_15 (G : cGt) : wk_Fd (vC G) RN 15 RN RN TN 4 1 2 := ⟨iwN, rfl, by decide, (lw_gm 126 (by decide +kernel) rfl), rfl⟩
theorem fd_N_18 (G : cGt) : wk_Fd (vC G) RN 18 RN RN TN 4 1 3 := ⟨iwN, rfl, by decide, (lw_gm 129 (by decide +kernel) rfl), rfl⟩
theorem fd_N_27 (G : cGt) : wk_Fd (vC G) RN 27 RN RN TN 4 1 0 := ⟨iwN, rfl, by decide, (lw_gm 121 (by decide +kernel) rfl), rfl⟩
theorem fd_R_9 (G : cGt) : wk_Fd (vC G) RR 9 RR RR TR 1 2 0 := ⟨iwR, rfl, by decide, (lw_gm 97 (by decide +kernel) rfl), rfl⟩
theorem fd_R_35 (G : cGt) : wk_Fd (vC G) RR 35 RN RN TN 4 1 2 := ⟨iwN, rfl, by decide, (lw_gm 127 (by decide +kernel) rfl), rfl⟩
theorem fd_R_42 (G : cGt) : wk_Fd (vC G) RR 42 RL RL TL 2 0 1 := ⟨iwL, rfl, by decide, (lw_gm 83 (by decide +kernel) rfl), rfl⟩
theorem fd_K_9 (G : cGt) : wk_Fd (vC G) RK 9 RK RK TK 7 3 0 := ⟨iwK, rfl, by decide, (lw_gm 143 (by decide +kernel) rfl), rfl⟩
theorem fd_K_15 (G : cGt) : wk_Fd (vC G) RK 15 RK RK TK 7 3 1 := ⟨iwK, rfl, by decide, (lw_gm 144 (by decide +kernel) rfl), rfl⟩
theorem fd_K_18 (G : cGt) : wk_Fd (vC G) RK 18 RK RK TK 7 3 2 := ⟨iwK, rfl, by decide, (lw_gm 145 (by decide +kernel) rfl), rfl⟩
theorem fd_K_26 (G : cGt) : wk_Fd (vC G) RK 26 RK RK TK 7 3 3 := ⟨iwK, rfl, by decide, (lw_gm 146 (by decide +kernel) rfl), rfl⟩
theorem fd_K_30 (G : cGt) : wk_Fd (vC G) RK 30 RK RK TK 7 3 4 := ⟨iwK, rfl, by decide, (lw_gm 147 (by decide +kernel) rfl), rfl⟩
theorem fd_K_33 (G : cGt) : wk_Fd (vC G) RK 33 RK RK TK 7 3 5 := ⟨iwK, rfl, by decide, (lw_gm 148 (by decide +kernel) rfl), rfl⟩
theorem fd_K_36 (G : cGt) : wk_Fd (vC G) RK 36 RK RK TK 7 3 6 := ⟨iwK, rfl, by decide, (lw_gm 149 (by decide +kernel) rfl), rfl⟩
theorem fd_K_39 (G : cGt) : wk_Fd (vC G) RK 39 RN RN TN 4 1 3 := ⟨iwN, rfl, by decide, (lw_gm 130 (by decide +kernel) rfl), rfl⟩
theorem fd_K_81 (G : cGt) : wk_Fd (vC G) RK 81 RN RN TN 4 1 2 := ⟨iwN, rfl, by decide, (lw_gm 128 (by decide +kernel) rfl), rfl⟩
theorem fd_K_111 (G : cGt) : wk_Fd (vC G) RK 111 RN RN TN 4 1 1 := ⟨iwN, rfl, by decide, (lw_gm 124 (by decide +kernel) rfl), rfl⟩
theorem fd_T_15 (G : cGt) : wk_Fd (vC G) RT 15 RL RL TL 2 0 1 := ⟨iwL, rfl, by decide, (lw_gm 82 (by decide +kernel) rfl), rfl⟩
theorem fd_T_60 (G : cGt) : wk_Fd (vC G) RT 60 RN RN TN 4 1 1 := ⟨iwN, rfl, by decide, (lw_gm 123 (by decide +kernel) rfl), rfl⟩
theorem fd_T_70 (G : cGt) : wk_Fd (vC G) RT 70 RN RN TN 4 1 3 := ⟨iwN, rfl, by decide, (lw_gm 131 (by decide +kernel) rfl), rfl⟩
theorem fd_M_7 (G : cGt) : wk_Fd (vC G) RM 7 RM RM TM 14 6 0 := ⟨iwM, rfl, by decide, (lw_gm 553 (by decide +kernel) rfl), rfl⟩
theorem fd_M_13 (G : cGt) : wk_Fd (vC G) RM 13 RM RM TM 14 6 2 := ⟨iwM, rfl, by decide, (lw_gm 555 (by decide +kernel) rfl), rfl⟩
theorem fd_M_16 (G : cGt) : wk_Fd (vC G) RM 16 RM RM TM 14 6 3 := ⟨iwM, rfl, by decide, (lw_gm 556 (by decide +kernel) rfl), rfl⟩
theorem fd_M_19 (G : cGt) : wk_Fd (vC G) RM 19 RM RM TM 14 6 4 := ⟨iwM, rfl, by decide, (lw_gm 557 (by decide +kernel) rfl), rfl⟩
theorem fd_M_23 (G : cGt) : wk_Fd (vC G) RM 23 RM RM TM 14 6 7 := ⟨iwM, rfl, by decide, (lw_gm 560 (by decide +kernel) rfl), rfl⟩
theorem fd_M_26 (G : cGt) : wk_Fd (vC G) RM 26 RM RM TM 14 6 8 := ⟨iwM, rfl, by decide, (lw_gm 561 (by decide +kernel) rfl), rfl⟩
theorem fd_M_29 (G : cGt) : wk_Fd (vC G) RM 29 RM RM TM 14 6 9 := ⟨iwM, rfl, by decide, (lw_gm 562 (by decide +kernel) rfl), rfl⟩
theorem fd_M_32 (G : cGt) : wk_Fd (vC G) RM 32 RM RM TM 14 6 10 := ⟨iwM, rfl, by decide, (lw_gm 563 (by decide +kernel) rfl), rfl⟩
theorem fd_M_35 (G : cGt) : wk_Fd (vC G) RM 35 RM RM TM 14 6 11 := ⟨iwM, rfl, by decide, (lw_gm 564 (by decide +kernel) rfl), rfl⟩
theorem fd_M_38 (G : cGt) : wk_Fd (vC G) RM 38 RM RM TM 14 6 12 := ⟨iwM, rfl, by decide, (lw_gm 565 (by decide +kernel) rfl), rfl⟩
theorem fd_M_41 (G : cGt) : wk_Fd (vC G) RM 41 RM RM TM 14 6 1 := ⟨iwM, rfl, by decide, (lw_gm 554 (by decide +kernel) rfl), rfl⟩
theorem fd_M_52 (G : cGt) : wk_Fd (vC G) RM 52 RM RM TM 14 6 5 := ⟨iwM, rfl, by decide, (lw_gm 558 (by decide +kernel) rfl), rfl⟩
theorem fd_M_55 (G : cGt) : wk_Fd (vC G) RM 55 RM RM TM 14 6 6 := ⟨iwM, rfl, by decide, (lw_gm 559 (by decide +kernel) rfl), rfl⟩
theorem fd_M_86 (G : cGt) : wk_Fd (vC G) RM 86 RM RM TM 14 6 13 := ⟨iwM, rfl, by decide, (lw_gm 566 (by decide +kernel) rfl), rfl⟩
theorem gf_D_14 {X : wk_X} {G : cGt} {h : Hp} {pc : Nat} {lv : List (Nat × Value)} {st : List Value} {cc : ByteArray} {nL fr lo : Nat} (C : wk_C X (vC G) cc RD nL fr lo) (d : decode cc pc = .ok (.getfield 14, 3)) (k : WW X (vC G) h (pc + 3) lv (.ref (cad G 1) :: st)) : WW X (vC G) h pc lv (.ref (cad G 0) :: st) := wk_get C (i := 0) (fd_D_14 G) lz_0 (he_0 G (h 0)) rfl d k
theorem gf_D_18 {X : wk_X} {G : cGt} {h : Hp} {pc : Nat} {lv : List (Nat × Value)} {st : List Value} {cc : ByteArray} {nL fr lo : Nat} (C : wk_C X (vC G) cc RD nL fr lo) (d : decode cc pc = .ok (.getfield 18, 3)) (k : WW X (vC G) h (pc + 3) lv (.ref (cad G 3) :: st)) : WW X (vC G) h pc lv (.ref (cad G 0) :: st) := wk_get C (i := 0) (fd_D_18 G) lz_0 (he_0 G (h 0)) rfl d k
theorem gf_D_22 {X : wk_X} {G : cGt} {h : Hp} {pc : Nat} {lv : List (Nat × Value)} {st : List Value} {cc : ByteArray} {nL fr lo : Nat} (C : wk_C X (vC G) cc RD nL fr lo) (d : decode cc pc = .ok (.getfield 22, 3)) (k : WW X (vC G) h (pc + 3) lv (.ref (cad G 24) :: st)) : WW X (vC G) h pc lv (.ref (cad G 0) :: st) := wk_get C (i := 0) (fd_D_22 G) lz_0 (he_0 G (h 0)) rfl d k
theorem gf_D_28 {X : wk_X} {G : cGt} {h : Hp} {pc : Nat} {lv : List (Nat × Value)} {st : List Value} {cc : ByteArray} {nL fr lo : Nat} (C : wk_C X (vC G) cc RD nL fr lo) (d : decode cc pc = .ok (.getfield 28, 3)) (k : WW X (vC G) h (pc + 3) lv (.ref (cad G 26) :: st)) : WW X (vC G) h pc lv (.ref (cad G 0) :: st) := wk_get C (i := 0) (fd_D_28 G) lz_0 (he_0 G (h 0)) rfl d k
theorem gf_D_35 {X : wk_X} {G : cGt} {h : Hp} {pc : Nat} {lv : List (Nat × Value)} {st : List Value} {cc : ByteArray} {nL fr lo : Nat} (C : wk_C X (vC G) cc RD nL fr lo) (d : decode cc pc = .ok (.getfield 35, 3)) (k : WW X (vC G) h (pc + 3) lv (.ref (cad G 27) :: st)) : WW X (vC G) h pc lv (.ref (cad G 0) :: st) := wk_get C (i := 0) (fd_D_35 G) lz_0 (he_0 G (h 0)) rfl d k
theorem gf_D_42 {X : wk_X} {G : cGt} {h : Hp} {pc : Nat} {lv : List (Nat × Value)} {st : List Value} {cc : ByteArray} {nL fr lo : Nat} (C : wk_C X (vC G) cc RD nL fr lo) (d : decode cc pc = .ok (.getfield 42, 3)) (k : WW X (vC G) h (pc + 3) lv (.ref (cad G 28) :: st)) : WW X (vC G) h pc lv (.ref (cad G 0) :: st) := wk_get C (i := 0) (fd_D_42 G) lz_0 (he_0 G (h 0)) rfl d k
theorem gf_D_49 {X : wk_X} {G : cGt} {h : Hp} {pc : Nat} {lv : List (Nat × Value)} {st : List Value} {cc : ByteArray} {nL fr lo : Nat} (C : wk_C X (vC G) cc RD nL fr lo) (d : decode cc pc = .ok (.getfield 49, 3)) (k : WW X (vC G) h (pc + 3) lv (.ref (cad G 29) :: st)) : WW X (vC G) h pc lv (.ref (cad G 0) :: st) := wk_get C (i := 0) (fd_D_49 G) lz_0 (he_0 G (h 0)) rfl d k
theorem gf_D_53 {X : wk_X} {G : cGt} {h : Hp} {pc : Nat} {lv : List (Nat × Value)} {st : List Value} {cc : ByteArray} {nL fr lo : Nat} (C : wk_C X (vC G) cc RD nL fr lo) (d : decode cc pc = .ok (.getfield 53, 3)) (k : WW X (vC G) h (pc + 3) lv (.ref (cad G 31) :: st)) : WW X (vC G) h pc lv (.ref (cad G 0) :: st) := wk_get C (i := 0) (fd_D_53 G) lz_0 (he_0 G (h 0)) rfl d k
theorem gf_D_56 {X : wk_X} {G : cGt} {h : Hp} {pc : Nat} {lv : List (Nat × Value)} {st : List Value} {cc : ByteArray} {nL fr lo : Nat} (C : wk_C X (vC G) cc RD nL fr lo) (d : decode cc pc = .ok (.getfield 56, 3)) (k : WW X (vC G) h (pc + 3) lv (.ref (cad G 33) :: st)) : WW X (vC G) h pc lv (.ref (cad G 0) :: st) := wk_get C (i := 0) (fd_D_56 G) lz_0 (he_0 G (h 0)) rfl d k
theorem gf_D_59 {X : wk_X} {G : cGt} {h : Hp} {pc : Nat} {lv : List (Nat × Value)} {st : List Value} {cc : ByteArray} {nL fr lo : Nat} (C : wk_C X (vC G) cc RD nL fr lo) (d : decode cc pc = .ok (.getfield 59, 3)) (k : WW X (vC G) h (pc + 3) lv (.int (h 0 9) :: st)) : WW X (vC G) h pc lv (.ref (cad G 0) :: st) := wk_get C (i := 0) (fd_D_59 G) lz_0 (he_0 G (h 0)) rfl d k
theorem gf_D_63 {X : wk_X} {G : cGt} {h : Hp} {pc : Nat} {lv : List (Nat × Value)} {st : List Value} {cc : ByteArray} {nL fr lo : Nat} (C : wk_C X (vC G) cc RD nL fr lo) (d : decode cc pc = .ok (.getfield 63, 3)) (k : WW X (vC G) h (pc + 3) lv (.int (h 0 10) :: st)) : WW X (vC G) h pc lv (.ref (cad G 0) :: st) := wk_get C (i := 0) (fd_D_63 G) lz_0 (he_0 G (h 0)) rfl d k
theorem gf_D_66 {X : wk_X} {G : cGt} {h : Hp} {pc : Nat} {lv : List (Nat × Value)} {st : List Value} {cc : ByteArray} {nL fr lo : Nat} (C : wk_C X (vC G) cc RD nL fr lo) (d : decode cc pc = .ok (.getfield 66, 3)) (k : WW X (vC G) h (pc + 3) lv (.int (h 0 11) :: st)) : WW X (vC G) h pc lv (.ref (cad G 0) :: st) := wk_get C (i := 0) (fd_D_66 G) lz_0 (he_0 G (h 0)) rfl d k
theorem gf_D_69 {X : wk_X} {G : cGt} {h : Hp} {pc : Nat} {lv : List (Nat × Value)} {st : List Value} {cc : ByteArray} {nL fr lo : Nat} (C : wk_C X (vC G) cc RD nL fr lo) {i : Nat} (hi : cLine i) (d : decode cc pc = .ok (.getfield 69, 3)) (k : WW X (vC G) h (pc + 3) lv (.int (h i 1) :: st)) : WW X (vC G) h pc lv (.ref (cad G i) :: st) := wk_get C (i := i) (fd_D_69 G) (lz_cLine hi) (he_cLine hi) rfl d k
theorem gf_D_103 {X : wk_X} {G : cGt} {h : Hp} {pc : Nat} {lv : List (Nat × Value)} {st : List Value} {cc : ByteArray} {nL fr lo : Nat} (C : wk_C X (vC G) cc RD nL fr lo) {i : Nat} (hi : cNum i) (d : decode cc pc = .ok (.getfield 103, 3)) (k : WW X (vC G) h (pc + 3) lv (.int (h i 3) :: st)) : WW X (vC G) h pc lv (.ref (cad G i) :: st) := wk_get C (i := i) (fd_D_103 G) (lz_cNum hi) (he_cNum hi) rfl d k
theorem gf_D_158 {X : wk_X} {G : cGt} {h : Hp} {pc : Nat} {lv : List (Nat × Value)} {st : List Value} {cc : ByteArray} {nL fr lo : Nat} (C : wk_C X (vC G) cc RD nL fr lo) {i : Nat} (hi : cNum i) (d : decode cc pc = .ok (.getfield 158, 3)) (k : WW X (vC G) h (pc + 3) lv (.int (h i 1) :: st)) : WW X (vC G) h pc lv (.ref (cad G i) :: st) := wk_get C (i := i) (fd_D_158 G) (lz_cNum hi) (he_cNum hi) rfl d k
theorem gf_L_9 {X : wk_X} {G : cGt} {h : Hp} {pc : Nat} {lv : List (Nat × Value)} {st : List Value} {cc : ByteArray} {nL fr lo : Nat} (C : wk_C X (vC G) cc RL nL fr lo) {i : Nat} (hi : cLine i) (d : decode cc pc = .ok (.getfield 9, 3)) (k : WW X (vC G) h (pc + 3) lv (.int (h i 1) :: st)) : WW X (vC G) h pc lv (.ref (cad G i) :: st) := wk_get C (i := i) (fd_L_9 G) (lz_cLine hi) (he_cLine hi) rfl d k
theorem gf_L_21 {X : wk_X} {G : cGt} {h : Hp} {pc : Nat} {lv : List (Nat × Value)} {st : List Value} {cc : ByteArray} {nL fr lo : Nat} (C : wk_C X (vC G) cc RL nL fr lo) {i : Nat} (hi : cLine i) (d : decode cc pc = .ok (.getfield 21, 3)) (k : WW X (vC G) h (pc + 3) lv (.ref (cad G (i + 1)) :: st)) : WW X (vC G) h pc lv (.ref (cad G i) :: st) := wk_get C (i := i) (fd_L_21 G) (lz_cLine hi) (he_cLine hi) rfl d k
theorem gf_N_9 {X : wk_X} {G : cGt} {h : Hp} {pc : Nat} {lv : List (Nat × Value)} {st : List Value} {cc : ByteArray} {nL fr lo : Nat} (C : wk_C X (vC G) cc RN nL fr lo) {i : Nat} (hi : cNum i) (d : decode cc pc = .ok (.getfield 9, 3)) (k : WW X (vC G) h (pc + 3) lv (.int (h i 1) :: st)) : WW X (vC G) h pc lv (.ref (cad G i) :: st) := wk_get C (i := i) (fd_N_9 G) (lz_cNum hi) (he_cNum hi) rfl d k
theorem gf_N_15 {X : wk_X} {G : cGt} {h : Hp} {pc : Nat} {lv : List (Nat × Value)} {st : List Value} {cc : ByteArray} {nL fr lo : Nat} (C : wk_C X (vC G) cc RN nL fr lo) {i : Nat} (hi : cNum i) (d : decode cc pc = .ok (.getfield 15, 3)) (k : WW X (vC G) h (pc + 3) lv (.int (h i 2) :: st)) : WW X (vC G) h pc lv (.ref (cad G i) :: st) := wk_get C (i := i) (fd_N_15 G) (lz_cNum hi) (he_cNum hi) rfl d k
theorem gf_N_18 {X : wk_X} {G : cGt} {h : Hp} {pc : Nat} {lv : List (Nat × Value)} {st : List Value} {cc : ByteArray} {nL fr lo : Nat} (C : wk_C X (vC G) cc RN nL fr lo) {i : Nat} (hi : cNum i) (d : decode cc pc = .ok (.getfield 18, 3)) (k : WW X (vC G) h (pc + 3) lv (.int (h i 3) :: st)) : WW X (vC G) h pc lv (.ref (cad G i) :: st) := wk_get C (i := i) (fd_N_18 G) (lz_cNum hi) (he_cNum hi) rfl d k
theorem gf_N_27 {X : wk_X} {G : cGt} {h : Hp} {pc : Nat} {lv : List (Nat × Value)} {st : List Value} {cc : ByteArray} {nL fr lo : Nat} (C : wk_C X (vC G) cc RN nL fr lo) {i : Nat} (hi : cNum i) (d : decode cc pc = .ok (.getfield 27, 3)) (k : WW X (vC G) h (pc + 3) lv (.ref (cad G (i + 1)) :: st)) : WW X (vC G) h pc lv (.ref (cad G i) :: st) := wk_get C (i := i) (fd_N_27 G) (lz_cNum hi) (he_cNum hi) rfl d k
theorem gf_R_9 {X : wk_X} {G : cGt} {h : Hp} {pc : Nat} {lv : List (Nat × Value)} {st : List Value} {cc : ByteArray} {nL fr lo : Nat} (C : wk_C X (vC G) cc RR nL fr lo) (d : decode cc pc = .ok (.getfield 9, 3)) (k : WW X (vC G) h (pc + 3) lv (.int (h 26 0) :: st)) : WW X (vC G) h pc lv (.ref (cad G 26) :: st) := wk_get C (i := 26) (fd_R_9 G) lz_26 (he_26 G (h 26)) rfl d k
theorem gf_R_35 {X : wk_X} {G : cGt} {h : Hp} {pc : Nat} {lv : List (Nat × Value)} {st : List Value} {cc : ByteArray} {nL fr lo : Nat} (C : wk_C X (vC G) cc RR nL fr lo) {i : Nat} (hi : cNum i) (d : decode cc pc = .ok (.getfield 35, 3)) (k : WW X (vC G) h (pc + 3) lv (.int (h i 2) :: st)) : WW X (vC G) h pc lv (.ref (cad G i) :: st) := wk_get C (i := i) (fd_R_35 G) (lz_cNum hi) (he_cNum hi) rfl d k
theorem gf_R_42 {X : wk_X} {G : cGt} {h : Hp} {pc : Nat} {lv : List (Nat × Value)} {st : List Value} {cc : ByteArray} {nL fr lo : Nat} (C : wk_C X (vC G) cc RR nL fr lo) {i : Nat} (hi : cLine i) (d : decode cc pc = .ok (.getfield 42, 3)) (k : WW X (vC G) h (pc + 3) lv (.int (h i 1) :: st)) : WW X (vC G) h pc lv (.ref (cad G i) :: st) := wk_get C (i := i) (fd_R_42 G) (lz_cLine hi) (he_cLine hi) rfl d k
theorem gf_K_9 {X : wk_X} {G : cGt} {h : Hp} {pc : Nat} {lv : List (Nat × Value)} {st : List Value} {cc : ByteArray} {nL fr lo : Nat} (C : wk_C X (vC G) cc RK nL fr lo) (d : decode cc pc = .ok (.getfield 9, 3)) (k : WW X (vC G) h (pc + 3) lv (.ref (cad G 35) :: st)) : WW X (vC G) h pc lv (.ref (cad G 28) :: st) := wk_get C (i := 28) (fd_K_9 G) lz_28 (he_28 G (h 28)) rfl d k
theorem gf_K_15 {X : wk_X} {G : cGt} {h : Hp} {pc : Nat} {lv : List (Nat × Value)} {st : List Value} {cc : ByteArray} {nL fr lo : Nat} (C : wk_C X (vC G) cc RK nL fr lo) (d : decode cc pc = .ok (.getfield 15, 3)) (k : WW X (vC G) h (pc + 3) lv (.ref (cad G 36) :: st)) : WW X (vC G) h pc lv (.ref (cad G 28) :: st) := wk_get C (i := 28) (fd_K_15 G) lz_28 (he_28 G (h 28)) rfl d k
theorem gf_K_18 {X : wk_X} {G : cGt} {h : Hp} {pc : Nat} {lv : List (Nat × Value)} {st : List Value} {cc : ByteArray} {nL fr lo : Nat} (C : wk_C X (vC G) cc RK nL fr lo) (d : decode cc pc = .ok (.getfield 18, 3)) (k : WW X (vC G) h (pc + 3) lv (.ref (cad G 37) :: st)) : WW X (vC G) h pc lv (.ref (cad G 28) :: st) := wk_get C (i := 28) (fd_K_18 G) lz_28 (he_28 G (h 28)) rfl d k
theorem gf_K_26 {X : wk_X} {G : cGt} {h : Hp} {pc : Nat} {lv : List (Nat × Value)} {st : List Value} {cc : ByteArray} {nL fr lo : Nat} (C : wk_C X (vC G) cc RK nL fr lo) (d : decode cc pc = .ok (.getfield 26, 3)) (k : WW X (vC G) h (pc + 3) lv (.ref (cad G 38) :: st)) : WW X (vC G) h pc lv (.ref (cad G 28) :: st) := wk_get C (i := 28) (fd_K_26 G) lz_28 (he_28 G (h 28)) rfl d k
theorem gf_K_30 {X : wk_X} {G : cGt} {h : Hp} {pc : Nat} {lv : List (Nat × Value)} {st : List Value} {cc : ByteArray} {nL fr lo : Nat} (C : wk_C X (vC G) cc RK nL fr lo) (d : decode cc pc = .ok (.getfield 30, 3)) (k : WW X (vC G) h (pc + 3) lv (.ref (cad G 40) :: st)) : WW X (vC G) h pc lv (.ref (cad G 28) :: st) := wk_get C (i := 28) (fd_K_30 G) lz_28 (he_28 G (h 28)) rfl d k
theorem gf_K_33 {X : wk_X} {G : cGt} {h : Hp} {pc : Nat} {lv : List (Nat × Value)} {st : List Value} {cc : ByteArray} {nL fr lo : Nat} (C : wk_C X (vC G) cc RK nL fr lo) (d : decode cc pc = .ok (.getfield 33, 3)) (k : WW X (vC G) h (pc + 3) lv (.ref (cad G 42) :: st)) : WW X (vC G) h pc lv (.ref (cad G 28) :: st) := wk_get C (i := 28) (fd_K_33 G) lz_28 (he_28 G (h 28)) rfl d k
theorem gf_K_36 {X : wk_X} {G : cGt} {h : Hp} {pc : Nat} {lv : List (Nat × Value)} {st : List Value} {cc : ByteArray} {nL fr lo : Nat} (C : wk_C X (vC G) cc RK nL fr lo) (d : decode cc pc = .ok (.getfield 36, 3)) (k : WW X (vC G) h (pc + 3) lv (.ref (cad G 44) :: st)) : WW X (vC G) h pc lv (.ref (cad G 28) :: st) := wk_get C (i := 28) (fd_K_36 G) lz_28 (he_28 G (h 28)) rfl d k
theorem gf_K_39 {X : wk_X} {G : cGt} {h : Hp} {pc : Nat} {lv : List (Nat × Value)} {st : List Value} {cc : ByteArray} {nL fr lo : Nat} (C : wk_C X (vC G) cc RK nL fr lo) {i : Nat} (hi : cNum i) (d : decode cc pc = .ok (.getfield 39, 3)) (k : WW X (vC G) h (pc + 3) lv (.int (h i 3) :: st)) : WW X (vC G) h pc lv (.ref (cad G i) :: st) := wk_get C (i := i) (fd_K_39 G) (lz_cNum hi) (he_cNum hi) rfl d k
theorem gf_K_81 {X : wk_X} {G : cGt} {h : Hp} {pc : Nat} {lv : List (Nat × Value)} {st : List Value} {cc : ByteArray} {nL fr lo : Nat} (C : wk_C X (vC G) cc RK nL fr lo) {i : Nat} (hi : cNum i) (d : decode cc pc = .ok (.getfield 81, 3)) (k : WW X (vC G) h (pc + 3) lv (.int (h i 2) :: st)) : WW X (vC G) h pc lv (.ref (cad G i) :: st) := wk_get C (i := i) (fd_K_81 G) (lz_cNum hi) (he_cNum hi) rfl d k
theorem gf_K_111 {X : wk_X} {G : cGt} {h : Hp} {pc : Nat} {lv : List (Nat × Value)} {st : List Value} {cc : ByteArray} {nL fr lo : Nat} (C : wk_C X (vC G) cc RK nL fr lo) {i : Nat} (hi : cNum i) (d : decode cc pc = .ok (.getfield 111, 3)) (k : WW X (vC G) h (pc + 3) lv (.int (h i 1) :: st)) : WW X (vC G) h pc lv (.ref (cad G i) :: st) := wk_get C (i := i) (fd_K_111 G) (lz_cNum hi) (he_cNum hi) rfl d k
theorem gf_T_60 {X : wk_X} {G : cGt} {h : Hp} {pc : Nat} {lv : List (Nat × Value)} {st : List Value} {cc : ByteArray} {nL fr lo : Nat} (C : wk_C X (vC G) cc RT nL fr lo) {i : Nat} (hi : cNum i) (d : decode cc pc = .ok (.getfield 60, 3)) (k : WW X (vC G) h (pc + 3) lv (.int (h i 1) :: st)) : WW X (vC G) h pc lv (.ref (cad G i) :: st) := wk_get C (i := i) (fd_T_60 G) (lz_cNum hi) (he_cNum hi) rfl d k
theorem gf_T_70 {X : wk_X} {G : cGt} {h : Hp} {pc : Nat} {lv : List (Nat × Value)} {st : List Value} {cc : ByteArray} {nL fr lo : Nat} (C : wk_C X (vC G) cc RT nL fr lo) {i : Nat} (hi : cNum i) (d : decode cc pc = .ok (.getfield 70, 3)) (k : WW X (vC G) h (pc + 3) lv (.int (h i 3) :: st)) : WW X (vC G) h pc lv (.ref (cad G i) :: st) := wk_get C (i := i) (fd_T_70 G) (lz_cNum hi) (he_cNum hi) rfl d k
theorem gf_M_7 {X : wk_X} {G : cGt} {h : Hp} {pc : Nat} {lv : List (Nat × Value)} {st : List Value} {cc : ByteArray} {nL fr lo : Nat} (C : wk_C X (vC G) cc RM nL fr lo) (d : decode cc pc = .ok (.getfield 7, 3)) (k : WW X (vC G) h (pc + 3) lv (.ref (cad G 47) :: st)) : WW X (vC G) h pc lv (.ref (cad G 46) :: st) := wk_get C (i := 46) (fd_M_7 G) lz_46 (he_46 G (h 46)) rfl d k
theorem gf_M_13 {X : wk_X} {G : cGt} {h : Hp} {pc : Nat} {lv : List (Nat × Value)} {st : List Value} {cc : ByteArray} {nL fr lo : Nat} (C : wk_C X (vC G) cc RM nL fr lo) (d : decode cc pc = .ok (.getfield 13, 3)) (k : WW X (vC G) h (pc + 3) lv (.ref (cad G 48) :: st)) : WW X (vC G) h pc lv (.ref (cad G 46) :: st) := wk_get C (i := 46) (fd_M_13 G) lz_46 (he_46 G (h 46)) rfl d k
theorem gf_M_16 {X : wk_X} {G : cGt} {h : Hp} {pc : Nat} {lv : List (Nat × Value)} {st : List Value} {cc : ByteArray} {nL fr lo : Nat} (C : wk_C X (vC G) cc RM nL fr lo) (d : decode cc pc = .ok (.getfield 16, 3)) (k : WW X (vC G) h (pc + 3) lv (.ref (cad G 49) :: st)) : WW X (vC G) h pc lv (.ref (cad G 46) :: st) := wk_get C (i := 46) (fd_M_16 G) lz_46 (he_46 G (h 46)) rfl d k
theorem gf_M_19 {X : wk_X} {G : cGt} {h : Hp} {pc : Nat} {lv : List (Nat × Value)} {st : List Value} {cc : ByteArray} {nL fr lo : Nat} (C : wk_C X (vC G) cc RM nL fr lo) (d : decode cc pc = .ok (.getfield 19, 3)) (k : WW X (vC G) h (pc + 3) lv (.int (h 46 4) :: st)) : WW X (vC G) h pc lv (.ref (cad G 46) :: st) := wk_get C (i := 46) (fd_M_19 G) lz_46 (he_46 G (h 46)) rfl d k
theorem gf_M_23 {X : wk_X} {G : cGt} {h : Hp} {pc : Nat} {lv : List (Nat × Value)} {st : List Value} {cc : ByteArray} {nL fr lo : Nat} (C : wk_C X (vC G) cc RM nL fr lo) (d : decode cc pc = .ok (.getfield 23, 3)) (k : WW X (vC G) h (pc + 3) lv (.ref (cad G 50) :: st)) : WW X (vC G) h pc lv (.ref (cad G 46) :: st) := wk_get C (i := 46) (fd_M_23 G) lz_46 (he_46 G (h 46)) rfl d k
theorem gf_M_26 {X : wk_X} {G : cGt} {h : Hp} {pc : Nat} {lv : List (Nat × Value)} {st : List Value} {cc : ByteArray} {nL fr lo : Nat} (C : wk_C X (vC G) cc RM nL fr lo) (d : decode cc pc = .ok (.getfield 26, 3)) (k : WW X (vC G) h (pc + 3) lv (.ref (cad G 51) :: st)) : WW X (vC G) h pc lv (.ref (cad G 46) :: st) := wk_get C (i := 46) (fd_M_26 G) lz_46 (he_46 G (h 46)) rfl d k
theorem gf_M_29 {X : wk_X} {G : cGt} {h : Hp} {pc : Nat} {lv : List (Nat × Value)} {st : List Value} {cc : ByteArray} {nL fr lo : Nat} (C : wk_C X (vC G) cc RM nL fr lo) (d : decode cc pc = .ok (.getfield 29, 3)) (k : WW X (vC G) h (pc + 3) lv (.ref (cad G 52) :: st)) : WW X (vC G) h pc lv (.ref (cad G 46) :: st) := wk_get C (i := 46) (fd_M_29 G) lz_46 (he_46 G (h 46)) rfl d k
theorem gf_M_32 {X : wk_X} {G : cGt} {h : Hp} {pc : Nat} {lv : List (Nat × Value)} {st : List Value} {cc : ByteArray} {nL fr lo : Nat} (C : wk_C X (vC G) cc RM nL fr lo) (d : decode cc pc = .ok (.getfield 32, 3)) (k : WW X (vC G) h (pc + 3) lv (.ref (cad G 53) :: st)) : WW X (vC G) h pc lv (.ref (cad G 46) :: st) := wk_get C (i := 46) (fd_M_32 G) lz_46 (he_46 G (h 46)) rfl d k
theorem gf_M_35 {X : wk_X} {G : cGt} {h : Hp} {pc : Nat} {lv : List (Nat × Value)} {st : List Value} {cc : ByteArray} {nL fr lo : Nat} (C : wk_C X (vC G) cc RM nL fr lo) (d : decode cc pc = .ok (.getfield 35, 3)) (k : WW X (vC G) h (pc + 3) lv (.ref (cad G 54) :: st)) : WW X (vC G) h pc lv (.ref (cad G 46) :: st) := wk_get C (i := 46) (fd_M_35 G) lz_46 (he_46 G (h 46)) rfl d k
theorem gf_M_38 {X : wk_X} {G : cGt} {h : Hp} {pc : Nat} {lv : List (Nat × Value)} {st : List Value} {cc : ByteArray} {nL fr lo : Nat} (C : wk_C X (vC G) cc RM nL fr lo) (d : decode cc pc = .ok (.getfield 38, 3)) (k : WW X (vC G) h (pc + 3) lv (.ref (cad G 55) :: st)) : WW X (vC G) h pc lv (.ref (cad G 46) :: st) := wk_get C (i := 46) (fd_M_38 G) lz_46 (he_46 G (h 46)) rfl d k
theorem gf_M_41 {X : wk_X} {G : cGt} {h : Hp} {pc : Nat} {lv : List (Nat × Value)} {st : List Value} {cc : ByteArray} {nL fr lo : Nat} (C : wk_C X (vC G) cc RM nL fr lo) (d : decode cc pc = .ok (.getfield 41, 3)) (k : WW X (vC G) h (pc + 3) lv (.int (h 46 1) :: st)) : WW X (vC G) h pc lv (.ref (cad G 46) :: st) := wk_get C (i := 46) (fd_M_41 G) lz_46 (he_46 G (h 46)) rfl d k
theorem gf_M_52 {X : wk_X} {G : cGt} {h : Hp} {pc : Nat} {lv : List (Nat × Value)} {st : List Value} {cc : ByteArray} {nL fr lo : Nat} (C : wk_C X (vC G) cc RM nL fr lo) (d : decode cc pc = .ok (.getfield 52, 3)) (k : WW X (vC G) h (pc + 3) lv (.int (h 46 5) :: st)) : WW X (vC G) h pc lv (.ref (cad G 46) :: st) := wk_get C (i := 46) (fd_M_52 G) lz_46 (he_46 G (h 46)) rfl d k
theorem gf_M_55 {X : wk_X} {G : cGt} {h : Hp} {pc : Nat} {lv : List (Nat × Value)} {st : List Value} {cc : ByteArray} {nL fr lo : Nat} (C : wk_C X (vC G) cc RM nL fr lo) (d : decode cc pc = .ok (.getfield 55, 3)) (k : WW X (vC G) h (pc + 3) lv (.int (h 46 6) :: st)) : WW X (vC G) h pc lv (.ref (cad G 46) :: st) := wk_get C (i := 46) (fd_M_55 G) lz_46 (he_46 G (h 46)) rfl d k
theorem gf_M_86 {X : wk_X} {G : cGt} {h : Hp} {pc : Nat} {lv : List (Nat × Value)} {st : List Value} {cc : ByteArray} {nL fr lo : Nat} (C : wk_C X (vC G) cc RM nL fr lo) (d : decode cc pc = .ok (.getfield 86, 3)) (k : WW X (vC G) h (pc + 3) lv (.int (h 46 13) :: st)) : WW X (vC G) h pc lv (.ref (cad G 46) :: st) := wk_get C (i := 46) (fd_M_86 G) lz_46 (he_46 G (h 46)) rfl d k
theorem pf_D_59 {X : wk_X} {G : cGt} {h : Hp} {pc : Nat} {lv : List (Nat × Value)} {st : List Value} {cc : ByteArray} {nL fr lo : Nat} (C : wk_C X (vC G) cc RD nL fr lo) {v : Int32} (d : decode cc pc = .ok (.putfield 59, 3)) (k : WW X (vC G) (up2 h 0 9 v) (pc + 3) lv st) : WW X (vC G) h pc lv (.int v :: .ref (cad G 0) :: st) := wk_put C (i := 0) (k := 9) (fd_D_59 G) tyD_ok nmD rfl (by decide +kernel) lz_0 (he_0 G (h 0)) (Nat.le_of_ble_eq_true rfl) ((he_0 G (upd (h 0) 9 v)).trans (by simp [upd])) d k
theorem pf_D_63 {X : wk_X} {G : cGt} {h : Hp} {pc : Nat} {lv : List (Nat × Value)} {st : List Value} {cc : ByteArray} {nL fr lo : Nat} (C : wk_C X (vC G) cc RD nL fr lo) {v : Int32} (d : decode cc pc = .ok (.putfield 63, 3)) (k : WW X (vC G) (up2 h 0 10 v) (pc + 3) lv st) : WW X (vC G) h pc lv (.int v :: .ref (cad G 0) :: st) := wk_put C (i := 0) (k := 10) (fd_D_63 G) tyD_ok nmD rfl (by decide +kernel) lz_0 (he_0 G (h 0)) (Nat.le_of_ble_eq_true rfl) ((he_0 G (upd (h 0) 10 v)).trans (by simp [upd])) d k
theorem pf_D_66 {X : wk_X} {G : cGt} {h : Hp} {pc : Nat} {lv : List (Nat × Value)} {st : List Value} {cc : ByteArray} {nL fr lo : Nat} (C : wk_C X (vC G) cc RD nL fr lo) {v : Int32} (d : decode cc pc = .ok (.putfield 66, 3)) (k : WW X (vC G) (up2 h 0 11 v) (pc + 3) lv st) : WW X (vC G) h pc lv (.int v :: .ref (cad G 0) :: st) := wk_put C (i := 0) (k := 11) (fd_D_66 G) tyD_ok nmD rfl (by decide +kernel) lz_0 (he_0 G (h 0)) (Nat.le_of_ble_eq_true rfl) ((he_0 G (upd (h 0) 11 v)).trans (by simp [upd])) d k
theorem pf_D_69 {X : wk_X} {G : cGt} {h : Hp} {pc : Nat} {lv : List (Nat × Value)} {st : List Value} {cc : ByteArray} {nL fr lo : Nat} (C : wk_C X (vC G) cc RD nL fr lo) {i : Nat} (hi : cLine i) {v : Int32} (d : decode cc pc = .ok (.putfield 69, 3)) (k : WW X (vC G) (up2 h i 1 v) (pc + 3) lv st) : WW X (vC G) h pc lv (.int v :: .ref (cad G i) :: st) := wk_put C (i := i) (k := 1) (fd_D_69 G) tyL_ok nmL rfl (by decide +kernel) (lz_cLine hi) (he_cLine hi) (Nat.le_of_ble_eq_true rfl) ((he_cLine hi).trans (by simp [upd])) d k
theorem pf_D_103 {X : wk_X} {G : cGt} {h : Hp} {pc : Nat} {lv : List (Nat × Value)} {st : List Value} {cc : ByteArray} {nL fr lo : Nat} (C : wk_C X (vC G) cc RD nL fr lo) {i : Nat} (hi : cNum i) {v : Int32} (d : decode cc pc = .ok (.putfield 103, 3)) (k : WW X (vC G) (up2 h i 3 v) (pc + 3) lv st) : WW X (vC G) h pc lv (.int v :: .ref (cad G i) :: st) := wk_put C (i := i) (k := 3) (fd_D_103 G) tyN_ok nmN rfl (by decide +kernel) (lz_cNum hi) (he_cNum hi) (Nat.le_of_ble_eq_true rfl) ((he_cNum hi).trans (by simp [upd])) d k
theorem pf_L_9 {X : wk_X} {G : cGt} {h : Hp} {pc : Nat} {lv : List (Nat × Value)} {st : List Value} {cc : ByteArray} {nL fr lo : Nat} (C : wk_C X (vC G) cc RL nL fr lo) {i : Nat} (hi : cLine i) {v : Int32} (d : decode cc pc = .ok (.putfield 9, 3)) (k : WW X (vC G) (up2 h i 1 v) (pc + 3) lv st) : WW X (vC G) h pc lv (.int v :: .ref (cad G i) :: st) := wk_put C (i := i) (k := 1) (fd_L_9 G) tyL_ok nmL rfl (by decide +kernel) (lz_cLine hi) (he_cLine hi) (Nat.le_of_ble_eq_true rfl) ((he_cLine hi).trans (by simp [upd])) d k
theorem pf_N_9 {X : wk_X} {G : cGt} {h : Hp} {pc : Nat} {lv : List (Nat × Value)} {st : List Value} {cc : ByteArray} {nL fr lo : Nat} (C : wk_C X (vC G) cc RN nL fr lo) {i : Nat} (hi : cNum i) {v : Int32} (d : decode cc pc = .ok (.putfield 9, 3)) (k : WW X (vC G) (up2 h i 1 v) (pc + 3) lv st) : WW X (vC G) h pc lv (.int v :: .ref (cad G i) :: st) := wk_put C (i := i) (k := 1) (fd_N_9 G) tyN_ok nmN rfl (by decide +kernel) (lz_cNum hi) (he_cNum hi) (Nat.le_of_ble_eq_true rfl) ((he_cNum hi).trans (by simp [upd])) d k
theorem pf_N_15 {X : wk_X} {G : cGt} {h : Hp} {pc : Nat} {lv : List (Nat × Value)} {st : List Value} {cc : ByteArray} {nL fr lo : Nat} (C : wk_C X (vC G) cc RN nL fr lo) {i : Nat} (hi : cNum i) {v : Int32} (d : decode cc pc = .ok (.putfield 15, 3)) (k : WW X (vC G) (up2 h i 2 v) (pc + 3) lv st) : WW X (vC G) h pc lv (.int v :: .ref (cad G i) :: st) := wk_put C (i := i) (k := 2) (fd_N_15 G) tyN_ok nmN rfl (by decide +kernel) (lz_cNum hi) (he_cNum hi) (Nat.le_of_ble_eq_true rfl) ((he_cNum hi).trans (by simp [upd])) d k
theorem pf_N_18 {X : wk_X} {G : cGt} {h : Hp} {pc : Nat} {lv : List (Nat × Value)} {st : List Value} {cc : ByteArray} {nL fr lo : Nat} (C : wk_C X (vC G) cc RN nL fr lo) {i : Nat} (hi : cNum i) {v : Int32} (d : decode cc pc = .ok (.putfield 18, 3)) (k : WW X (vC G) (up2 h i 3 v) (pc + 3) lv st) : WW X (vC G) h pc lv (.int v :: .ref (cad G i) :: st) := wk_put C (i := i) (k := 3) (fd_N_18 G) tyN_ok nmN rfl (by decide +kernel) (lz_cNum hi) (he_cNum hi) (Nat.le_of_ble_eq_true rfl) ((he_cNum hi).trans (by simp [upd])) d k
theorem pf_R_9 {X : wk_X} {G : cGt} {h : Hp} {pc : Nat} {lv : List (Nat × Value)} {st : List Value} {cc : ByteArray} {nL fr lo : Nat} (C : wk_C X (vC G) cc RR nL fr lo) {v : Int32} (d : decode cc pc = .ok (.putfield 9, 3)) (k : WW X (vC G) (up2 h 26 0 v) (pc + 3) lv st) : WW X (vC G) h pc lv (.int v :: .ref (cad G 26) :: st) := wk_put C (i := 26) (k := 0) (fd_R_9 G) tyR_ok nmR rfl (by decide +kernel) lz_26 (he_26 G (h 26)) (Nat.le_of_ble_eq_true rfl) ((he_26 G (upd (h 26) 0 v)).trans (by simp [upd])) d k
theorem pf_R_35 {X : wk_X} {G : cGt} {h : Hp} {pc : Nat} {lv : List (Nat × Value)} {st : List Value} {cc : ByteArray} {nL fr lo : Nat} (C : wk_C X (vC G) cc RR nL fr lo) {i : Nat} (hi : cNum i) {v : Int32} (d : decode cc pc = .ok (.putfield 35, 3)) (k : WW X (vC G) (up2 h i 2 v) (pc + 3) lv st) : WW X (vC G) h pc lv (.int v :: .ref (cad G i) :: st) := wk_put C (i := i) (k := 2) (fd_R_35 G) tyN_ok nmN rfl (by decide +kernel) (lz_cNum hi) (he_cNum hi) (Nat.le_of_ble_eq_true rfl) ((he_cNum hi).trans (by simp [upd])) d k
theorem pf_K_39 {X : wk_X} {G : cGt} {h : Hp} {pc : Nat} {lv : List (Nat × Value)} {st : List Value} {cc : ByteArray} {nL fr lo : Nat} (C : wk_C X (vC G) cc RK nL fr lo) {i : Nat} (hi : cNum i) {v : Int32} (d : decode cc pc = .ok (.putfield 39, 3)) (k : WW X (vC G) (up2 h i 3 v) (pc + 3) lv st) : WW X (vC G) h pc lv (.int v :: .ref (cad G i) :: st) := wk_put C (i := i) (k := 3) (fd_K_39 G) tyN_ok nmN rfl (by decide +kernel) (lz_cNum hi) (he_cNum hi) (Nat.le_of_ble_eq_true rfl) ((he_cNum hi).trans (by simp [upd])) d k
theorem pf_K_81 {X : wk_X} {G : cGt} {h : Hp} {pc : Nat} {lv : List (Nat × Value)} {st : List Value} {cc : ByteArray} {nL fr lo : Nat} (C : wk_C X (vC G) cc RK nL fr lo) {i : Nat} (hi : cNum i) {v : Int32} (d : decode cc pc = .ok (.putfield 81, 3)) (k : WW X (vC G) (up2 h i 2 v) (pc + 3) lv st) : WW X (vC G) h pc lv (.int v :: .ref (cad G i) :: st) := wk_put C (i := i) (k := 2) (fd_K_81 G) tyN_ok nmN rfl (by decide +kernel) (lz_cNum hi) (he_cNum hi) (Nat.le_of_ble_eq_true rfl) ((he_cNum hi).trans (by simp [upd])) d k
theorem pf_T_15 {X : wk_X} {G : cGt} {h : Hp} {pc : Nat} {lv : List (Nat × Value)} {st : List Value} {cc : ByteArray} {nL fr lo : Nat} (C : wk_C X (vC G) cc RT nL fr lo) {i : Nat} (hi : cLine i) {v : Int32} (d : decode cc pc = .ok (.putfield 15, 3)) (k : WW X (vC G) (up2 h i 1 v) (pc + 3) lv st) : WW X (vC G) h pc lv (.int v :: .ref (cad G i) :: st) := wk_put C (i := i) (k := 1) (fd_T_15 G) tyL_ok nmL rfl (by decide +kernel) (lz_cLine hi) (he_cLine hi) (Nat.le_of_ble_eq_true rfl) ((he_cLine hi).trans (by simp [upd])) d k
theorem pf_M_19 {X : wk_X} {G : cGt} {h : Hp} {pc : Nat} {lv : List (Nat × Value)} {st : List Value} {cc : ByteArray} {nL fr lo : Nat} (C : wk_C X (vC G) cc RM nL fr lo) {v : Int32} (d : decode cc pc = .ok (.putfield 19, 3)) (k : WW X (vC G) (up2 h 46 4 v) (pc + 3) lv st) : WW X (vC G) h pc lv (.int v :: .ref (cad G 46) :: st) := wk_put C (i := 46) (k := 4) (fd_M_19 G) tyM_ok nmM rfl (by decide +kernel) lz_46 (he_46 G (h 46)) (Nat.le_of_ble_eq_true rfl) ((he_46 G (upd (h 46) 4 v)).trans (by simp [upd])) d k
theorem pf_M_41 {X : wk_X} {G : cGt} {h : Hp} {pc : Nat} {lv : List (Nat × Value)} {st : List Value} {cc : ByteArray} {nL fr lo : Nat} (C : wk_C X (vC G) cc RM nL fr lo) {v : Int32} (d : decode cc pc = .ok (.putfield 41, 3)) (k : WW X (vC G) (up2 h 46 1 v) (pc + 3) lv st) : WW X (vC G) h pc lv (.int v :: .ref (cad G 46) :: st) := wk_put C (i := 46) (k := 1) (fd_M_41 G) tyM_ok nmM rfl (by decide +kernel) lz_46 (he_46 G (h 46)) (Nat.le_of_ble_eq_true rfl) ((he_46 G (upd (h 46) 1 v)).trans (by simp [upd])) d k
theorem pf_M_52 {X : wk_X} {G : cGt} {h : Hp} {pc : Nat} {lv : List (Nat × Value)} {st : List Value} {cc : ByteArray} {nL fr lo : Nat} (C : wk_C X (vC G) cc RM nL fr lo) {v : Int32} (d : decode cc pc = .ok (.putfield 52, 3)) (k : WW X (vC G) (up2 h 46 5 v) (pc + 3) lv st) : WW X (vC G) h pc lv (.int v :: .ref (cad G 46) :: st) := wk_put C (i := 46) (k := 5) (fd_M_52 G) tyM_ok nmM rfl (by decide +kernel) lz_46 (he_46 G (h 46)) (Nat.le_of_ble_eq_true rfl) ((he_46 G (upd (h 46) 5 v)).trans (by simp [upd])) d k
theorem pf_M_55 {X : wk_X} {G : cGt} {h : Hp} {pc : Nat} {lv : List (Nat × Value)} {st : List Value} {cc : ByteArray} {nL fr lo : Nat} (C : wk_C X (vC G) cc RM nL fr lo) {v : Int32} (d : decode cc pc = .ok (.putfield 55, 3)) (k : WW X (vC G) (up2 h 46 6 v) (pc + 3) lv st) : WW X (vC G) h pc lv (.int v :: .ref (cad G 46) :: st) := wk_put C (i := 46) (k := 6) (fd_M_55 G) tyM_ok nmM rfl (by decide +kernel) lz_46 (he_46 G (h 46)) (Nat.le_of_ble_eq_true rfl) ((he_46 G (upd (h 46) 6 v)).trans (by simp [upd])) d k
theorem pf_M_86 {X : wk_X} {G : cGt} {h : Hp} {pc : Nat} {lv : List (Nat × Value)} {st : List Value} {cc : ByteArray} {nL fr lo : Nat} (C : wk_C X (vC G) cc RM nL fr lo) {v : Int32} (d : decode cc pc = .ok (.putfield 86, 3)) (k : WW X (vC G) (up2 h 46 13 v) (pc + 3) lv st) : WW X (vC G) h pc lv (.int v :: .ref (cad G 46) :: st) := wk_put C (i := 46) (k := 13) (fd_M_86 G) tyM_ok nmM rfl (by decide +kernel) lz_46 (he_46 G (h 46)) (Nat.le_of_ble_eq_true rfl) ((he_46 G (upd (h 46) 13 v)).trans (by simp [upd])) d k
theorem al_L {X : wk_X} {G : cGt} {h : Hp} {pc : Nat} {lv : List (Nat × Value)} {st : List Value} {cc : ByteArray} {own : String} {nL fr lo : Nat} (C : wk_C X (vC G) cc own nL fr lo) {i : Nat} (hi : cLine i) {x : Int32} (hin : inR x (bl (i + 1))) (d : decode cc pc = .ok (.baload, 1)) (k : WW X (vC G) h (pc + 1) lv (.int (h (i + 1) x.toNatClampNeg) :: st)) : WW X (vC G) h pc lv (.int x :: .ref (cad G (i + 1)) :: st) := wk_bald C (j := i + 1) (t0 := 1) (show i + 1 < 56 by omega) (he_bl hi _) rfl hin d k
theorem as_L {X : wk_X} {G : cGt} {h : Hp} {pc : Nat} {lv : List (Nat × Value)} {st : List Value} {cc : ByteArray} {own : String} {nL fr lo : Nat} (C : wk_C X (vC G) cc own nL fr lo) {i : Nat} (hi : cLine i) {x v : Int32} (hin : inR x (bl (i + 1))) (d : decode cc pc = .ok (.bastore, 1)) (k : WW X (vC G) (up2 h (i + 1) x.toNatClampNeg (vp_nar .byte v)) (pc + 1) lv st) : WW X (vC G) h pc lv (.int v :: .int x :: .ref (cad G (i + 1)) :: st) := wk_bast C (j := i + 1) (t0 := 1) (show i + 1 < 56 by omega) (he_bl hi) rfl hin d k
theorem an_L {X : wk_X} {G : cGt} {h : Hp} {pc : Nat} {lv : List (Nat × Value)} {st : List Value} {cc : ByteArray} {own : String} {nL fr lo : Nat} (C : wk_C X (vC G) cc own nL fr lo) {i : Nat} (hi : cLine i) (d : decode cc pc = .ok (.arraylength, 1)) (k : WW X (vC G) h (pc + 1) lv (.int (Int32.ofNat (bl (i + 1))) :: st)) : WW X (vC G) h pc lv (.ref (cad G (i + 1)) :: st) := wk_alen C (j := i + 1) (n := 0) (t0 := 1) (show i + 1 < 56 by omega) (he_bl hi _) rfl rfl d k
theorem al_N {X : wk_X} {G : cGt} {h : Hp} {pc : Nat} {lv : List (Nat × Value)} {st : List Value} {cc : ByteArray} {own : String} {nL fr lo : Nat} (C : wk_C X (vC G) cc own nL fr lo) {i : Nat} (hi : cNum i) {x : Int32} (hin : inR x (il (i + 1))) (d : decode cc pc = .ok (.iaload, 1)) (k : WW X (vC G) h (pc + 1) lv (.int (h (i + 1) x.toNatClampNeg) :: st)) : WW X (vC G) h pc lv (.int x :: .ref (cad G (i + 1)) :: st) := wk_iald C (j := (i + 1)) (t0 := 0) (show i + 1 < 56 by omega) (he_il hi (h (i + 1))) rfl hin d k
theorem as_N {X : wk_X} {G : cGt} {h : Hp} {pc : Nat} {lv : List (Nat × Value)} {st : List Value} {cc : ByteArray} {own : String} {nL fr lo : Nat} (C : wk_C X (vC G) cc own nL fr lo) {i : Nat} (hi : cNum i) {x v : Int32} (hin : inR x (il (i + 1))) (d : decode cc pc = .ok (.iastore, 1)) (k : WW X (vC G) (up2 h (i + 1) x.toNatClampNeg v) (pc + 1) lv st) : WW X (vC G) h pc lv (.int v :: .int x :: .ref (cad G (i + 1)) :: st) := wk_iast C (j := (i + 1)) (t0 := 0) (show i + 1 < 56 by omega) (he_il hi) rfl hin d k
theorem an_N {X : wk_X} {G : cGt} {h : Hp} {pc : Nat} {lv : List (Nat × Value)} {st : List Value} {cc : ByteArray} {own : String} {nL fr lo : Nat} (C : wk_C X (vC G) cc own nL fr lo) {i : Nat} (hi : cNum i) (d : decode cc pc = .ok (.arraylength, 1)) (k : WW X (vC G) h (pc + 1) lv (.int (Int32.ofNat (il (i + 1))) :: st)) : WW X (vC G) h pc lv (.ref (cad G (i + 1)) :: st) := wk_alen C (j := (i + 1)) (n := 0) (t0 := 0) (show i + 1 < 56 by omega) (he_il hi (h (i + 1))) rfl rfl d k
theorem al_35 {X : wk_X} {G : cGt} {h : Hp} {pc : Nat} {lv : List (Nat × Value)} {st : List Value} {cc : ByteArray} {own : String} {nL fr lo : Nat} (C : wk_C X (vC G) cc own nL fr lo) {x : Int32} (hin : inR x 100) (d : decode cc pc = .ok (.iaload, 1)) (k : WW X (vC G) h (pc + 1) lv (.int (h 35 x.toNatClampNeg) :: st)) : WW X (vC G) h pc lv (.int x :: .ref (cad G 35) :: st) := wk_iald C (j := 35) (t0 := 0) lz_35 (he_35 G (h 35)) rfl hin d k
theorem as_35 {X : wk_X} {G : cGt} {h : Hp} {pc : Nat} {lv : List (Nat × Value)} {st : List Value} {cc : ByteArray} {own : String} {nL fr lo : Nat} (C : wk_C X (vC G) cc own nL fr lo) {x v : Int32} (hin : inR x 100) (d : decode cc pc = .ok (.iastore, 1)) (k : WW X (vC G) (up2 h 35 x.toNatClampNeg v) (pc + 1) lv st) : WW X (vC G) h pc lv (.int v :: .int x :: .ref (cad G 35) :: st) := wk_iast C (j := 35) (t0 := 0) lz_35 (he_35 G) rfl hin d k
theorem an_35 {X : wk_X} {G : cGt} {h : Hp} {pc : Nat} {lv : List (Nat × Value)} {st : List Value} {cc : ByteArray} {own : String} {nL fr lo : Nat} (C : wk_C X (vC G) cc own nL fr lo) (d : decode cc pc = .ok (.arraylength, 1)) (k : WW X (vC G) h (pc + 1) lv (.int (Int32.ofNat 100) :: st)) : WW X (vC G) h pc lv (.ref (cad G 35) :: st) := wk_alen C (j := 35) (n := 0) (t0 := 0) lz_35 (he_35 G (h 35)) rfl rfl d k
theorem al_36 {X : wk_X} {G : cGt} {h : Hp} {pc : Nat} {lv : List (Nat × Value)} {st : List Value} {cc : ByteArray} {own : String} {nL fr lo : Nat} (C : wk_C X (vC G) cc own nL fr lo) {x : Int32} (hin : inR x 100) (d : decode cc pc = .ok (.iaload, 1)) (k : WW X (vC G) h (pc + 1) lv (.int (h 36 x.toNatClampNeg) :: st)) : WW X (vC G) h pc lv (.int x :: .ref (cad G 36) :: st) := wk_iald C (j := 36) (t0 := 0) lz_36 (he_36 G (h 36)) rfl hin d k
theorem as_36 {X : wk_X} {G : cGt} {h : Hp} {pc : Nat} {lv : List (Nat × Value)} {st : List Value} {cc : ByteArray} {own : String} {nL fr lo : Nat} (C : wk_C X (vC G) cc own nL fr lo) {x v : Int32} (hin : inR x 100) (d : decode cc pc = .ok (.iastore, 1)) (k : WW X (vC G) (up2 h 36 x.toNatClampNeg v) (pc + 1) lv st) : WW X (vC G) h pc lv (.int v :: .int x :: .ref (cad G 36) :: st) := wk_iast C (j := 36) (t0 := 0) lz_36 (he_36 G) rfl hin d k
theorem an_36 {X : wk_X} {G : cGt} {h : Hp} {pc : Nat} {lv : List (Nat × Value)} {st : List Value} {cc : ByteArray} {own : String} {nL fr lo : Nat} (C : wk_C X (vC G) cc own nL fr lo) (d : decode cc pc = .ok (.arraylength, 1)) (k : WW X (vC G) h (pc + 1) lv (.int (Int32.ofNat 100) :: st)) : WW X (vC G) h pc lv (.ref (cad G 36) :: st) := wk_alen C (j := 36) (n := 0) (t0 := 0) lz_36 (he_36 G (h 36)) rfl rfl d k
theorem al_37 {X : wk_X} {G : cGt} {h : Hp} {pc : Nat} {lv : List (Nat × Value)} {st : List Value} {cc : ByteArray} {own : String} {nL fr lo : Nat} (C : wk_C X (vC G) cc own nL fr lo) {x : Int32} (hin : inR x 100) (d : decode cc pc = .ok (.iaload, 1)) (k : WW X (vC G) h (pc + 1) lv (.int (h 37 x.toNatClampNeg) :: st)) : WW X (vC G) h pc lv (.int x :: .ref (cad G 37) :: st) := wk_iald C (j := 37) (t0 := 0) lz_37 (he_37 G (h 37)) rfl hin d k
theorem as_37 {X : wk_X} {G : cGt} {h : Hp} {pc : Nat} {lv : List (Nat × Value)} {st : List Value} {cc : ByteArray} {own : String} {nL fr lo : Nat} (C : wk_C X (vC G) cc own nL fr lo) {x v : Int32} (hin : inR x 100) (d : decode cc pc = .ok (.iastore, 1)) (k : WW X (vC G) (up2 h 37 x.toNatClampNeg v) (pc + 1) lv st) : WW X (vC G) h pc lv (.int v :: .int x :: .ref (cad G 37) :: st) := wk_iast C (j := 37) (t0 := 0) lz_37 (he_37 G) rfl hin d k
theorem an_37 {X : wk_X} {G : cGt} {h : Hp} {pc : Nat} {lv : List (Nat × Value)} {st : List Value} {cc : ByteArray} {own : String} {nL fr lo : Nat} (C : wk_C X (vC G) cc own nL fr lo) (d : decode cc pc = .ok (.arraylength, 1)) (k : WW X (vC G) h (pc + 1) lv (.int (Int32.ofNat 100) :: st)) : WW X (vC G) h pc lv (.ref (cad G 37) :: st) := wk_alen C (j := 37) (n := 0) (t0 := 0) lz_37 (he_37 G (h 37)) rfl rfl d k
theorem al_47 {X : wk_X} {G : cGt} {h : Hp} {pc : Nat} {lv : List (Nat × Value)} {st : List Value} {cc : ByteArray} {own : String} {nL fr lo : Nat} (C : wk_C X (vC G) cc own nL fr lo) {x : Int32} (hin : inR x 240) (d : decode cc pc = .ok (.iaload, 1)) (k : WW X (vC G) h (pc + 1) lv (.int (h 47 x.toNatClampNeg) :: st)) : WW X (vC G) h pc lv (.int x :: .ref (cad G 47) :: st) := wk_iald C (j := 47) (t0 := 0) lz_47 (he_47 G (h 47)) rfl hin d k
theorem as_47 {X : wk_X} {G : cGt} {h : Hp} {pc : Nat} {lv : List (Nat × Value)} {st : List Value} {cc : ByteArray} {own : String} {nL fr lo : Nat} (C : wk_C X (vC G) cc own nL fr lo) {x v : Int32} (hin : inR x 240) (d : decode cc pc = .ok (.iastore, 1)) (k : WW X (vC G) (up2 h 47 x.toNatClampNeg v) (pc + 1) lv st) : WW X (vC G) h pc lv (.int v :: .int x :: .ref (cad G 47) :: st) := wk_iast C (j := 47) (t0 := 0) lz_47 (he_47 G) rfl hin d k
theorem an_47 {X : wk_X} {G : cGt} {h : Hp} {pc : Nat} {lv : List (Nat × Value)} {st : List Value} {cc : ByteArray} {own : String} {nL fr lo : Nat} (C : wk_C X (vC G) cc own nL fr lo) (d : decode cc pc = .ok (.arraylength, 1)) (k : WW X (vC G) h (pc + 1) lv (.int (Int32.ofNat 240) :: st)) : WW X (vC G) h pc lv (.ref (cad G 47) :: st) := wk_alen C (j := 47) (n := 0) (t0 := 0) lz_47 (he_47 G (h 47)) rfl rfl d k
theorem al_48 {X : wk_X} {G : cGt} {h : Hp} {pc : Nat} {lv : List (Nat × Value)} {st : List Value} {cc : ByteArray} {own : String} {nL fr lo : Nat} (C : wk_C X (vC G) cc own nL fr lo) {x : Int32} (hin : inR x 2000) (d : decode cc pc = .ok (.iaload, 1)) (k : WW X (vC G) h (pc + 1) lv (.int (h 48 x.toNatClampNeg) :: st)) : WW X (vC G) h pc lv (.int x :: .ref (cad G 48) :: st) := wk_iald C (j := 48) (t0 := 0) lz_48 (he_48 G (h 48)) rfl hin d k
theorem as_48 {X : wk_X} {G : cGt} {h : Hp} {pc : Nat} {lv : List (Nat × Value)} {st : List Value} {cc : ByteArray} {own : String} {nL fr lo : Nat} (C : wk_C X (vC G) cc own nL fr lo) {x v : Int32} (hin : inR x 2000) (d : decode cc pc = .ok (.iastore, 1)) (k : WW X (vC G) (up2 h 48 x.toNatClampNeg v) (pc + 1) lv st) : WW X (vC G) h pc lv (.int v :: .int x :: .ref (cad G 48) :: st) := wk_iast C (j := 48) (t0 := 0) lz_48 (he_48 G) rfl hin d k
theorem an_48 {X : wk_X} {G : cGt} {h : Hp} {pc : Nat} {lv : List (Nat × Value)} {st : List Value} {cc : ByteArray} {own : String} {nL fr lo : Nat} (C : wk_C X (vC G) cc own nL fr lo) (d : decode cc pc = .ok (.arraylength, 1)) (k : WW X (vC G) h (pc + 1) lv (.int (Int32.ofNat 2000) :: st)) : WW X (vC G) h pc lv (.ref (cad G 48) :: st) := wk_alen C (j := 48) (n := 0) (t0 := 0) lz_48 (he_48 G (h 48)) rfl rfl d k
theorem al_49 {X : wk_X} {G : cGt} {h : Hp} {pc : Nat} {lv : List (Nat × Value)} {st : List Value} {cc : ByteArray} {own : String} {nL fr lo : Nat} (C : wk_C X (vC G) cc own nL fr lo) {x : Int32} (hin : inR x 10) (d : decode cc pc = .ok (.iaload, 1)) (k : WW X (vC G) h (pc + 1) lv (.int (h 49 x.toNatClampNeg) :: st)) : WW X (vC G) h pc lv (.int x :: .ref (cad G 49) :: st) := wk_iald C (j := 49) (t0 := 0) lz_49 (he_49 G (h 49)) rfl hin d k
theorem as_49 {X : wk_X} {G : cGt} {h : Hp} {pc : Nat} {lv : List (Nat × Value)} {st : List Value} {cc : ByteArray} {own : String} {nL fr lo : Nat} (C : wk_C X (vC G) cc own nL fr lo) {x v : Int32} (hin : inR x 10) (d : decode cc pc = .ok (.iastore, 1)) (k : WW X (vC G) (up2 h 49 x.toNatClampNeg v) (pc + 1) lv st) : WW X (vC G) h pc lv (.int v :: .int x :: .ref (cad G 49) :: st) := wk_iast C (j := 49) (t0 := 0) lz_49 (he_49 G) rfl hin d k
theorem an_49 {X : wk_X} {G : cGt} {h : Hp} {pc : Nat} {lv : List (Nat × Value)} {st : List Value} {cc : ByteArray} {own : String} {nL fr lo : Nat} (C : wk_C X (vC G) cc own nL fr lo) (d : decode cc pc = .ok (.arraylength, 1)) (k : WW X (vC G) h (pc + 1) lv (.int (Int32.ofNat 10) :: st)) : WW X (vC G) h pc lv (.ref (cad G 49) :: st) := wk_alen C (j := 49) (n := 0) (t0 := 0) lz_49 (he_49 G (h 49)) rfl rfl d k
theorem al_50 {X : wk_X} {G : cGt} {h : Hp} {pc : Nat} {lv : List (Nat × Value)} {st : List Value} {cc : ByteArray} {own : String} {nL fr lo : Nat} (C : wk_C X (vC G) cc own nL fr lo) {x : Int32} (hin : inR x 13000) (d : decode cc pc = .ok (.iaload, 1)) (k : WW X (vC G) h (pc + 1) lv (.int (h 50 x.toNatClampNeg) :: st)) : WW X (vC G) h pc lv (.int x :: .ref (cad G 50) :: st) := wk_iald C (j := 50) (t0 := 0) lz_50 (he_50 G (h 50)) rfl hin d k
theorem as_50 {X : wk_X} {G : cGt} {h : Hp} {pc : Nat} {lv : List (Nat × Value)} {st : List Value} {cc : ByteArray} {own : String} {nL fr lo : Nat} (C : wk_C X (vC G) cc own nL fr lo) {x v : Int32} (hin : inR x 13000) (d : decode cc pc = .ok (.iastore, 1)) (k : WW X (vC G) (up2 h 50 x.toNatClampNeg v) (pc + 1) lv st) : WW X (vC G) h pc lv (.int v :: .int x :: .ref (cad G 50) :: st) := wk_iast C (j := 50) (t0 := 0) lz_50 (he_50 G) rfl hin d k
theorem an_50 {X : wk_X} {G : cGt} {h : Hp} {pc : Nat} {lv : List (Nat × Value)} {st : List Value} {cc : ByteArray} {own : String} {nL fr lo : Nat} (C : wk_C X (vC G) cc own nL fr lo) (d : decode cc pc = .ok (.arraylength, 1)) (k : WW X (vC G) h (pc + 1) lv (.int (Int32.ofNat 13000) :: st)) : WW X (vC G) h pc lv (.ref (cad G 50) :: st) := wk_alen C (j := 50) (n := 0) (t0 := 0) lz_50 (he_50 G (h 50)) rfl rfl d k
theorem al_51 {X : wk_X} {G : cGt} {h : Hp} {pc : Nat} {lv : List (Nat × Value)} {st : List Value} {cc : ByteArray} {own : String} {nL fr lo : Nat} (C : wk_C X (vC G) cc own nL fr lo) {x : Int32} (hin : inR x 5) (d : decode cc pc = .ok (.iaload, 1)) (k : WW X (vC G) h (pc + 1) lv (.int (h 51 x.toNatClampNeg) :: st)) : WW X (vC G) h pc lv (.int x :: .ref (cad G 51) :: st) := wk_iald C (j := 51) (t0 := 0) lz_51 (he_51 G (h 51)) rfl hin d k
theorem as_51 {X : wk_X} {G : cGt} {h : Hp} {pc : Nat} {lv : List (Nat × Value)} {st : List Value} {cc : ByteArray} {own : String} {nL fr lo : Nat} (C : wk_C X (vC G) cc own nL fr lo) {x v : Int32} (hin : inR x 5) (d : decode cc pc = .ok (.iastore, 1)) (k : WW X (vC G) (up2 h 51 x.toNatClampNeg v) (pc + 1) lv st) : WW X (vC G) h pc lv (.int v :: .int x :: .ref (cad G 51) :: st) := wk_iast C (j := 51) (t0 := 0) lz_51 (he_51 G) rfl hin d k
theorem an_51 {X : wk_X} {G : cGt} {h : Hp} {pc : Nat} {lv : List (Nat × Value)} {st : List Value} {cc : ByteArray} {own : String} {nL fr lo : Nat} (C : wk_C X (vC G) cc own nL fr lo) (d : decode cc pc = .ok (.arraylength, 1)) (k : WW X (vC G) h (pc + 1) lv (.int (Int32.ofNat 5) :: st)) : WW X (vC G) h pc lv (.ref (cad G 51) :: st) := wk_alen C (j := 51) (n := 0) (t0 := 0) lz_51 (he_51 G (h 51)) rfl rfl d k
theorem al_52 {X : wk_X} {G : cGt} {h : Hp} {pc : Nat} {lv : List (Nat × Value)} {st : List Value} {cc : ByteArray} {own : String} {nL fr lo : Nat} (C : wk_C X (vC G) cc own nL fr lo) {x : Int32} (hin : inR x 5) (d : decode cc pc = .ok (.iaload, 1)) (k : WW X (vC G) h (pc + 1) lv (.int (h 52 x.toNatClampNeg) :: st)) : WW X (vC G) h pc lv (.int x :: .ref (cad G 52) :: st) := wk_iald C (j := 52) (t0 := 0) lz_52 (he_52 G (h 52)) rfl hin d k
theorem as_52 {X : wk_X} {G : cGt} {h : Hp} {pc : Nat} {lv : List (Nat × Value)} {st : List Value} {cc : ByteArray} {own : String} {nL fr lo : Nat} (C : wk_C X (vC G) cc own nL fr lo) {x v : Int32} (hin : inR x 5) (d : decode cc pc = .ok (.iastore, 1)) (k : WW X (vC G) (up2 h 52 x.toNatClampNeg v) (pc + 1) lv st) : WW X (vC G) h pc lv (.int v :: .int x :: .ref (cad G 52) :: st) := wk_iast C (j := 52) (t0 := 0) lz_52 (he_52 G) rfl hin d k
theorem an_52 {X : wk_X} {G : cGt} {h : Hp} {pc : Nat} {lv : List (Nat × Value)} {st : List Value} {cc : ByteArray} {own : String} {nL fr lo : Nat} (C : wk_C X (vC G) cc own nL fr lo) (d : decode cc pc = .ok (.arraylength, 1)) (k : WW X (vC G) h (pc + 1) lv (.int (Int32.ofNat 5) :: st)) : WW X (vC G) h pc lv (.ref (cad G 52) :: st) := wk_alen C (j := 52) (n := 0) (t0 := 0) lz_52 (he_52 G (h 52)) rfl rfl d k
theorem al_53 {X : wk_X} {G : cGt} {h : Hp} {pc : Nat} {lv : List (Nat × Value)} {st : List Value} {cc : ByteArray} {own : String} {nL fr lo : Nat} (C : wk_C X (vC G) cc own nL fr lo) {x : Int32} (hin : inR x 5) (d : decode cc pc = .ok (.iaload, 1)) (k : WW X (vC G) h (pc + 1) lv (.int (h 53 x.toNatClampNeg) :: st)) : WW X (vC G) h pc lv (.int x :: .ref (cad G 53) :: st) := wk_iald C (j := 53) (t0 := 0) lz_53 (he_53 G (h 53)) rfl hin d k
theorem as_53 {X : wk_X} {G : cGt} {h : Hp} {pc : Nat} {lv : List (Nat × Value)} {st : List Value} {cc : ByteArray} {own : String} {nL fr lo : Nat} (C : wk_C X (vC G) cc own nL fr lo) {x v : Int32} (hin : inR x 5) (d : decode cc pc = .ok (.iastore, 1)) (k : WW X (vC G) (up2 h 53 x.toNatClampNeg v) (pc + 1) lv st) : WW X (vC G) h pc lv (.int v :: .int x :: .ref (cad G 53) :: st) := wk_iast C (j := 53) (t0 := 0) lz_53 (he_53 G) rfl hin d k
theorem an_53 {X : wk_X} {G : cGt} {h : Hp} {pc : Nat} {lv : List (Nat × Value)} {st : List Value} {cc : ByteArray} {own : String} {nL fr lo : Nat} (C : wk_C X (vC G) cc own nL fr lo) (d : decode cc pc = .ok (.arraylength, 1)) (k : WW X (vC G) h (pc + 1) lv (.int (Int32.ofNat 5) :: st)) : WW X (vC G) h pc lv (.ref (cad G 53) :: st) := wk_alen C (j := 53) (n := 0) (t0 := 0) lz_53 (he_53 G (h 53)) rfl rfl d k
theorem al_54 {X : wk_X} {G : cGt} {h : Hp} {pc : Nat} {lv : List (Nat × Value)} {st : List Value} {cc : ByteArray} {own : String} {nL fr lo : Nat} (C : wk_C X (vC G) cc own nL fr lo) {x : Int32} (hin : inR x 300) (d : decode cc pc = .ok (.iaload, 1)) (k : WW X (vC G) h (pc + 1) lv (.int (h 54 x.toNatClampNeg) :: st)) : WW X (vC G) h pc lv (.int x :: .ref (cad G 54) :: st) := wk_iald C (j := 54) (t0 := 0) lz_54 (he_54 G (h 54)) rfl hin d k
theorem as_54 {X : wk_X} {G : cGt} {h : Hp} {pc : Nat} {lv : List (Nat × Value)} {st : List Value} {cc : ByteArray} {own : String} {nL fr lo : Nat} (C : wk_C X (vC G) cc own nL fr lo) {x v : Int32} (hin : inR x 300) (d : decode cc pc = .ok (.iastore, 1)) (k : WW X (vC G) (up2 h 54 x.toNatClampNeg v) (pc + 1) lv st) : WW X (vC G) h pc lv (.int v :: .int x :: .ref (cad G 54) :: st) := wk_iast C (j := 54) (t0 := 0) lz_54 (he_54 G) rfl hin d k
theorem an_54 {X : wk_X} {G : cGt} {h : Hp} {pc : Nat} {lv : List (Nat × Value)} {st : List Value} {cc : ByteArray} {own : String} {nL fr lo : Nat} (C : wk_C X (vC G) cc own nL fr lo) (d : decode cc pc = .ok (.arraylength, 1)) (k : WW X (vC G) h (pc + 1) lv (.int (Int32.ofNat 300) :: st)) : WW X (vC G) h pc lv (.ref (cad G 54) :: st) := wk_alen C (j := 54) (n := 0) (t0 := 0) lz_54 (he_54 G (h 54)) rfl rfl d k
theorem al_55 {X : wk_X} {G : cGt} {h : Hp} {pc : Nat} {lv : List (Nat × Value)} {st : List Value} {cc : ByteArray} {own : String} {nL fr lo : Nat} (C : wk_C X (vC G) cc own nL fr lo) {x : Int32} (hin : inR x 1600) (d : decode cc pc = .ok (.iaload, 1)) (k : WW X (vC G) h (pc + 1) lv (.int (h 55 x.toNatClampNeg) :: st)) : WW X (vC G) h pc lv (.int x :: .ref (cad G 55) :: st) := wk_iald C (j := 55) (t0 := 0) lz_55 (he_55 G (h 55)) rfl hin d k
theorem as_55 {X : wk_X} {G : cGt} {h : Hp} {pc : Nat} {lv : List (Nat × Value)} {st : List Value} {cc : ByteArray} {own : String} {nL fr lo : Nat} (C : wk_C X (vC G) cc own nL fr lo) {x v : Int32} (hin : inR x 1600) (d : decode cc pc = .ok (.iastore, 1)) (k : WW X (vC G) (up2 h 55 x.toNatClampNeg v) (pc + 1) lv st) : WW X (vC G) h pc lv (.int v :: .int x :: .ref (cad G 55) :: st) := wk_iast C (j := 55) (t0 := 0) lz_55 (he_55 G) rfl hin d k
theorem an_55 {X : wk_X} {G : cGt} {h : Hp} {pc : Nat} {lv : List (Nat × Value)} {st : List Value} {cc : ByteArray} {own : String} {nL fr lo : Nat} (C : wk_C X (vC G) cc own nL fr lo) (d : decode cc pc = .ok (.arraylength, 1)) (k : WW X (vC G) h (pc + 1) lv (.int (Int32.ofNat 1600) :: st)) : WW X (vC G) h pc lv (.ref (cad G 55) :: st) := wk_alen C (j := 55) (n := 0) (t0 := 0) lz_55 (he_55 G (h 55)) rfl rfl d k
theorem aa_regs {X : wk_X} {G : cGt} {h : Hp} {pc : Nat} {lv : List (Nat × Value)} {st : List Value} {cc : ByteArray} {own : String} {nL fr lo : Nat} (C : wk_C X (vC G) cc own nL fr lo) {x : Int32} (hin : inR x 10) (d : decode cc pc = .ok (.aaload, 1)) (k : WW X (vC G) h (pc + 1) lv (.ref (cad G (4 + 2 * x.toNatClampNeg)) :: st)) : WW X (vC G) h pc lv (.int x :: .ref (cad G 3) :: st) := wk_aald C (j := 3) (t0 := 2) (show 3 < 56 by decide) (he_3 G (h 3)) rfl hin d k
theorem wc_D_149 : Cond.constant RD 149 (-2000000001 : Int32) ∈ lw_g := (lw_gm 539 (by decide +kernel) rfl)
theorem wc_D_153 : Cond.constant RD 153 (-2000000000 : Int32) ∈ lw_g := (lw_gm 541 (by decide +kernel) rfl)
theorem wc_N_65 : Cond.constant RN 65 (-2000000000 : Int32) ∈ lw_g := (lw_gm 417 (by decide +kernel) rfl)
theorem wc_M_147 : Cond.constant RM 147 (-2000000001 : Int32) ∈ lw_g := (lw_gm 765 (by decide +kernel) rfl)
theorem wc_M_148 : Cond.constant RM 148 (-2000000000 : Int32) ∈ lw_g := (lw_gm 766 (by decide +kernel) rfl)
theorem wc_D_173 : Cond.constantLong RD 173 (200 : Int64) ∈ lw_g := (lw_gm 499 (by decide +kernel) rfl)
set_option maxRecDepth 100000 in
theorem mw_D_106 : wk_mw RD 106 Lib.Math.abs.name Lib.Math.abs.code 1 := ⟨(lw_gm 478 (by decide +kernel) rfl), (lw_gm 423 (by decide +kernel) rfl), (lw_gm 56 (by decide +kernel) rfl), (lw_gm 424 rfl rfl)⟩
set_option maxRecDepth 100000 in
theorem mw_D_182 : wk_mw RD 182 Lib.Math.max.name Lib.Math.max.code 2 := ⟨(lw_gm 494 (by decide +kernel) rfl), (lw_gm 77 (by decide +kernel) rfl), (lw_gm 56 (by decide +kernel) rfl), (lw_gm 78 rfl rfl)⟩
set_option maxRecDepth 100000 in
theorem mw_L_15 : wk_mw RL 15 Lib.Math.max.name Lib.Math.max.code 2 := ⟨(lw_gm 76 (by decide +kernel) rfl), (lw_gm 77 (by decide +kernel) rfl), (lw_gm 56 (by decide +kernel) rfl), (lw_gm 78 rfl rfl)⟩
set_option maxRecDepth 100000 in
theorem mw_N_21 : wk_mw RN 21 Lib.Math.max.name Lib.Math.max.code 2 := ⟨(lw_gm 120 (by decide +kernel) rfl), (lw_gm 77 (by decide +kernel) rfl), (lw_gm 56 (by decide +kernel) rfl), (lw_gm 78 rfl rfl)⟩
set_option maxRecDepth 100000 in
theorem mw_N_62 : wk_mw RN 62 Lib.Math.min.name Lib.Math.min.code 2 := ⟨(lw_gm 317 (by decide +kernel) rfl), (lw_gm 318 (by decide +kernel) rfl), (lw_gm 56 (by decide +kernel) rfl), (lw_gm 319 rfl rfl)⟩
set_option maxRecDepth 100000 in
theorem mw_K_84 : wk_mw RK 84 Lib.Math.min.name Lib.Math.min.code 2 := ⟨(lw_gm 347 (by decide +kernel) rfl), (lw_gm 318 (by decide +kernel) rfl), (lw_gm 56 (by decide +kernel) rfl), (lw_gm 319 rfl rfl)⟩
set_option maxRecDepth 100000 in
theorem mw_K_93 : wk_mw RK 93 Lib.Math.max.name Lib.Math.max.code 2 := ⟨(lw_gm 348 (by decide +kernel) rfl), (lw_gm 77 (by decide +kernel) rfl), (lw_gm 56 (by decide +kernel) rfl), (lw_gm 78 rfl rfl)⟩
set_option maxRecDepth 100000 in
theorem mw_K_142 : wk_mw RK 142 Lib.Math.abs.name Lib.Math.abs.code 1 := ⟨(lw_gm 422 (by decide +kernel) rfl), (lw_gm 423 (by decide +kernel) rfl), (lw_gm 56 (by decide +kernel) rfl), (lw_gm 424 rfl rfl)⟩
set_option maxRecDepth 100000 in
theorem mw_T_40 : wk_mw RT 40 Lib.Math.max.name Lib.Math.max.code 2 := ⟨(lw_gm 455 (by decide +kernel) rfl), (lw_gm 77 (by decide +kernel) rfl), (lw_gm 56 (by decide +kernel) rfl), (lw_gm 78 rfl rfl)⟩
set_option maxRecDepth 100000 in
theorem mw_T_67 : wk_mw RT 67 Lib.Math.abs.name Lib.Math.abs.code 1 := ⟨(lw_gm 469 (by decide +kernel) rfl), (lw_gm 423 (by decide +kernel) rfl), (lw_gm 56 (by decide +kernel) rfl), (lw_gm 424 rfl rfl)⟩
set_option maxRecDepth 100000 in
theorem wd_yL_addInt : Cond.code yL_addInt cL_addInt 3 none ∈ lw_g := (lw_gm 211 rfl rfl)
theorem cw_D_72 : wk_cw RD 72 yL_addInt cL_addInt 3 none 1 := ⟨(lw_gm 208 (by decide +kernel) rfl), (lw_gm 55 (by decide +kernel) rfl), wd_yL_addInt, rfl, by decide +kernel, by decide +kernel, by decide +kernel⟩
set_option maxRecDepth 100000 in
theorem wd_yD_find : Cond.code yD_find cD_find 2 (some (.object "NumberDesk$Line")) ∈ lw_g := (lw_gm 227 rfl rfl)
theorem cw_D_75 : wk_cw RD 75 yD_find cD_find 2 (some (.object "NumberDesk$Line")) 1 := ⟨(lw_gm 224 (by decide +kernel) rfl), (lw_gm 54 (by decide +kernel) rfl), wd_yD_find, rfl, by decide +kernel, by decide +kernel, by decide +kernel⟩
set_option maxRecDepth 100000 in
theorem wd_yL_copy : Cond.code yL_copy cL_copy 3 none ∈ lw_g := (lw_gm 231 rfl rfl)
theorem cw_D_79 : wk_cw RD 79 yL_copy cL_copy 3 none 1 := ⟨(lw_gm 228 (by decide +kernel) rfl), (lw_gm 55 (by decide +kernel) rfl), wd_yL_copy, rfl, by decide +kernel, by decide +kernel, by decide +kernel⟩
set_option maxRecDepth 100000 in
theorem wd_yL_byteAt : Cond.code yL_byteAt cL_byteAt 2 (some .int) ∈ lw_g := (lw_gm 235 rfl rfl)
theorem cw_D_83 : wk_cw RD 83 yL_byteAt cL_byteAt 2 (some .int) 1 := ⟨(lw_gm 244 (by decide +kernel) rfl), (lw_gm 55 (by decide +kernel) rfl), wd_yL_byteAt, rfl, by decide +kernel, by decide +kernel, by decide +kernel⟩
set_option maxRecDepth 100000 in
theorem wd_yD_loadBoth : Cond.code yD_loadBoth cD_loadBoth 4 (some .boolean) ∈ lw_g := (lw_gm 264 rfl rfl)
theorem cw_D_87 : wk_cw RD 87 yD_loadBoth cD_loadBoth 4 (some .boolean) 3 := ⟨(lw_gm 261 (by decide +kernel) rfl), (lw_gm 54 (by decide +kernel) rfl), wd_yD_loadBoth, rfl, by decide +kernel, by decide +kernel, by decide +kernel⟩
set_option maxRecDepth 100000 in
theorem wd_yK_reckon : Cond.code yK_reckon cK_reckon 7 (some .int) ∈ lw_g := (lw_gm 323 rfl rfl)
theorem cw_D_91 : wk_cw RD 91 yK_reckon cK_reckon 7 (some .int) 5 := ⟨(lw_gm 320 (by decide +kernel) rfl), (lw_gm 59 (by decide +kernel) rfl), wd_yK_reckon, rfl, by decide +kernel, by decide +kernel, by decide +kernel⟩
set_option maxRecDepth 100000 in
theorem wd_yD_write : Cond.code yD_write cD_write 4 (some .int) ∈ lw_g := (lw_gm 432 rfl rfl)
theorem cw_D_95 : wk_cw RD 95 yD_write cD_write 4 (some .int) 2 := ⟨(lw_gm 429 (by decide +kernel) rfl), (lw_gm 54 (by decide +kernel) rfl), wd_yD_write, rfl, by decide +kernel, by decide +kernel, by decide +kernel⟩
set_option maxRecDepth 100000 in
theorem wd_yD_load : Cond.code yD_load cD_load 4 (some .boolean) ∈ lw_g := (lw_gm 268 rfl rfl)
theorem cw_D_99 : wk_cw RD 99 yD_load cD_load 4 (some .boolean) 3 := ⟨(lw_gm 265 (by decide +kernel) rfl), (lw_gm 54 (by decide +kernel) rfl), wd_yD_load, rfl, by decide +kernel, by decide +kernel, by decide +kernel⟩
set_option maxRecDepth 100000 in
theorem wd_yN_becomeUnit : Cond.code yN_becomeUnit cN_becomeUnit 2 none ∈ lw_g := (lw_gm 346 rfl rfl)
theorem cw_D_111 : wk_cw RD 111 yN_becomeUnit cN_becomeUnit 2 none 1 := ⟨(lw_gm 479 (by decide +kernel) rfl), (lw_gm 60 (by decide +kernel) rfl), wd_yN_becomeUnit, rfl, by decide +kernel, by decide +kernel, by decide +kernel⟩
set_option maxRecDepth 100000 in
theorem wd_yK_sum : Cond.code yK_sum cK_sum 10 none ∈ lw_g := (lw_gm 327 rfl rfl)
theorem cw_D_114 : wk_cw RD 114 yK_sum cK_sum 10 none 4 := ⟨(lw_gm 484 (by decide +kernel) rfl), (lw_gm 59 (by decide +kernel) rfl), wd_yK_sum, rfl, by decide +kernel, by decide +kernel, by decide +kernel⟩
set_option maxRecDepth 100000 in
theorem wd_yN_ahead : Cond.code yN_ahead cN_ahead 1 (some .int) ∈ lw_g := (lw_gm 342 rfl rfl)
theorem cw_D_118 : wk_cw RD 118 yN_ahead cN_ahead 1 (some .int) 0 := ⟨(lw_gm 489 (by decide +kernel) rfl), (lw_gm 60 (by decide +kernel) rfl), wd_yN_ahead, rfl, by decide +kernel, by decide +kernel, by decide +kernel⟩
set_option maxRecDepth 100000 in
theorem wd_yN_clear : Cond.code yN_clear cN_clear 1 none ∈ lw_g := (lw_gm 276 rfl rfl)
theorem cw_D_122 : wk_cw RD 122 yN_clear cN_clear 1 none 0 := ⟨(lw_gm 490 (by decide +kernel) rfl), (lw_gm 60 (by decide +kernel) rfl), wd_yN_clear, rfl, by decide +kernel, by decide +kernel, by decide +kernel⟩
set_option maxRecDepth 100000 in
theorem wd_yD_placesAhead : Cond.code yD_placesAhead cD_placesAhead 1 (some .int) ∈ lw_g := (lw_gm 493 rfl rfl)
theorem cw_D_125 : wk_cw RD 125 yD_placesAhead cD_placesAhead 1 (some .int) 1 := ⟨(lw_gm 491 (by decide +kernel) rfl), (lw_gm 54 (by decide +kernel) rfl), wd_yD_placesAhead, rfl, by decide +kernel, by decide +kernel, by decide +kernel⟩
set_option maxRecDepth 100000 in
theorem wd_yD_layOut : Cond.code yD_layOut cD_layOut 8 (some .int) ∈ lw_g := (lw_gm 498 rfl rfl)
theorem cw_D_129 : wk_cw RD 129 yD_layOut cD_layOut 8 (some .int) 4 := ⟨(lw_gm 495 (by decide +kernel) rfl), (lw_gm 54 (by decide +kernel) rfl), wd_yD_layOut, rfl, by decide +kernel, by decide +kernel, by decide +kernel⟩
set_option maxRecDepth 100000 in
theorem wd_yN_places : Cond.code yN_places cN_places 1 (some .int) ∈ lw_g := (lw_gm 445 rfl rfl)
theorem cw_D_133 : wk_cw RD 133 yN_places cN_places 1 (some .int) 0 := ⟨(lw_gm 506 (by decide +kernel) rfl), (lw_gm 60 (by decide +kernel) rfl), wd_yN_places, rfl, by decide +kernel, by decide +kernel, by decide +kernel⟩
set_option maxRecDepth 100000 in
theorem wd_yN_roundToPlaces : Cond.code yN_roundToPlaces cN_roundToPlaces 5 none ∈ lw_g := (lw_gm 510 rfl rfl)
theorem cw_D_136 : wk_cw RD 136 yN_roundToPlaces cN_roundToPlaces 5 none 1 := ⟨(lw_gm 507 (by decide +kernel) rfl), (lw_gm 60 (by decide +kernel) rfl), wd_yN_roundToPlaces, rfl, by decide +kernel, by decide +kernel, by decide +kernel⟩
set_option maxRecDepth 100000 in
theorem wd_yD_standing : Cond.code yD_standing cD_standing 1 (some .int) ∈ lw_g := (lw_gm 520 rfl rfl)
theorem cw_D_139 : wk_cw RD 139 yD_standing cD_standing 1 (some .int) 1 := ⟨(lw_gm 518 (by decide +kernel) rfl), (lw_gm 54 (by decide +kernel) rfl), wd_yD_standing, rfl, by decide +kernel, by decide +kernel, by decide +kernel⟩
set_option maxRecDepth 100000 in
theorem wd_yD_strictOrder : Cond.code yD_strictOrder cD_strictOrder 5 (some .int) ∈ lw_g := (lw_gm 523 rfl rfl)
theorem cw_D_142 : wk_cw RD 142 yD_strictOrder cD_strictOrder 5 (some .int) 2 := ⟨(lw_gm 521 (by decide +kernel) rfl), (lw_gm 54 (by decide +kernel) rfl), wd_yD_strictOrder, rfl, by decide +kernel, by decide +kernel, by decide +kernel⟩
set_option maxRecDepth 100000 in
theorem wd_yD_looseOrder : Cond.code yD_looseOrder cD_looseOrder 7 (some .int) ∈ lw_g := (lw_gm 526 rfl rfl)
theorem cw_D_146 : wk_cw RD 146 yD_looseOrder cD_looseOrder 7 (some .int) 2 := ⟨(lw_gm 524 (by decide +kernel) rfl), (lw_gm 54 (by decide +kernel) rfl), wd_yD_looseOrder, rfl, by decide +kernel, by decide +kernel, by decide +kernel⟩
set_option maxRecDepth 100000 in
theorem wd_yN_wholeValue : Cond.code yN_wholeValue cN_wholeValue 4 (some .int) ∈ lw_g := (lw_gm 415 rfl rfl)
theorem cw_D_150 : wk_cw RD 150 yN_wholeValue cN_wholeValue 4 (some .int) 0 := ⟨(lw_gm 540 (by decide +kernel) rfl), (lw_gm 60 (by decide +kernel) rfl), wd_yN_wholeValue, rfl, by decide +kernel, by decide +kernel, by decide +kernel⟩
set_option maxRecDepth 100000 in
theorem wd_yR_read : Cond.code yR_read cR_read 4 (some .boolean) ∈ lw_g := (lw_gm 272 rfl rfl)
theorem cw_D_154 : wk_cw RD 154 yR_read cR_read 4 (some .boolean) 2 := ⟨(lw_gm 269 (by decide +kernel) rfl), (lw_gm 57 (by decide +kernel) rfl), wd_yR_read, rfl, by decide +kernel, by decide +kernel, by decide +kernel⟩
set_option maxRecDepth 100000 in
theorem wd_yN_firstPower : Cond.code yN_firstPower cN_firstPower 1 (some .int) ∈ lw_g := (lw_gm 440 rfl rfl)
theorem cw_D_161 : wk_cw RD 161 yN_firstPower cN_firstPower 1 (some .int) 0 := ⟨(lw_gm 546 (by decide +kernel) rfl), (lw_gm 60 (by decide +kernel) rfl), wd_yN_firstPower, rfl, by decide +kernel, by decide +kernel, by decide +kernel⟩
set_option maxRecDepth 100000 in
theorem wd_yN_roundTo : Cond.code yN_roundTo cN_roundTo 3 none ∈ lw_g := (lw_gm 308 rfl rfl)
theorem cw_D_164 : wk_cw RD 164 yN_roundTo cN_roundTo 3 none 1 := ⟨(lw_gm 305 (by decide +kernel) rfl), (lw_gm 60 (by decide +kernel) rfl), wd_yN_roundTo, rfl, by decide +kernel, by decide +kernel, by decide +kernel⟩
set_option maxRecDepth 100000 in
theorem wd_yT_write : Cond.code yT_write cT_write 6 (some .int) ∈ lw_g := (lw_gm 436 rfl rfl)
theorem cw_D_167 : wk_cw RD 167 yT_write cT_write 6 (some .int) 4 := ⟨(lw_gm 433 (by decide +kernel) rfl), (lw_gm 58 (by decide +kernel) rfl), wd_yT_write, rfl, by decide +kernel, by decide +kernel, by decide +kernel⟩
set_option maxRecDepth 100000 in
theorem wd_yD_keepPage : Cond.code yD_keepPage cD_keepPage 2 (some .int) ∈ lw_g := (lw_gm 473 rfl rfl)
theorem cw_D_169 : wk_cw RD 169 yD_keepPage cD_keepPage 2 (some .int) 1 := ⟨(lw_gm 470 (by decide +kernel) rfl), (lw_gm 54 (by decide +kernel) rfl), wd_yD_keepPage, rfl, by decide +kernel, by decide +kernel, by decide +kernel⟩
set_option maxRecDepth 100000 in
theorem wd_yL_add : Cond.code yL_add cL_add 2 none ∈ lw_g := (lw_gm 215 rfl rfl)
theorem cw_D_175 : wk_cw RD 175 yL_add cL_add 2 none 1 := ⟨(lw_gm 500 (by decide +kernel) rfl), (lw_gm 55 (by decide +kernel) rfl), wd_yL_add, rfl, by decide +kernel, by decide +kernel, by decide +kernel⟩
set_option maxRecDepth 100000 in
theorem wd_yT_addPlain : Cond.code yT_addPlain cT_addPlain 5 none ∈ lw_g := (lw_gm 449 rfl rfl)
theorem cw_D_178 : wk_cw RD 178 yT_addPlain cT_addPlain 5 none 3 := ⟨(lw_gm 501 (by decide +kernel) rfl), (lw_gm 58 (by decide +kernel) rfl), wd_yT_addPlain, rfl, by decide +kernel, by decide +kernel, by decide +kernel⟩
set_option maxRecDepth 100000 in
theorem wd_yL_firstInk : Cond.code yL_firstInk cL_firstInk 2 (some .int) ∈ lw_g := (lw_gm 530 rfl rfl)
theorem cw_D_186 : wk_cw RD 186 yL_firstInk cL_firstInk 2 (some .int) 0 := ⟨(lw_gm 527 (by decide +kernel) rfl), (lw_gm 55 (by decide +kernel) rfl), wd_yL_firstInk, rfl, by decide +kernel, by decide +kernel, by decide +kernel⟩
set_option maxRecDepth 100000 in
theorem wd_yL_byteOrBlank : Cond.code yL_byteOrBlank cL_byteOrBlank 3 (some .int) ∈ lw_g := (lw_gm 534 rfl rfl)
theorem cw_D_189 : wk_cw RD 189 yL_byteOrBlank cL_byteOrBlank 3 (some .int) 1 := ⟨(lw_gm 531 (by decide +kernel) rfl), (lw_gm 55 (by decide +kernel) rfl), wd_yL_byteOrBlank, rfl, by decide +kernel, by decide +kernel, by decide +kernel⟩
theorem cw_L_25 : wk_cw RL 25 yL_add cL_add 2 none 1 := ⟨(lw_gm 212 (by decide +kernel) rfl), (lw_gm 55 (by decide +kernel) rfl), wd_yL_add, rfl, by decide +kernel, by decide +kernel, by decide +kernel⟩
theorem cw_L_29 : wk_cw RL 29 yL_byteAt cL_byteAt 2 (some .int) 1 := ⟨(lw_gm 232 (by decide +kernel) rfl), (lw_gm 55 (by decide +kernel) rfl), wd_yL_byteAt, rfl, by decide +kernel, by decide +kernel, by decide +kernel⟩
theorem cw_N_31 : wk_cw RN 31 yN_clear cN_clear 1 none 0 := ⟨(lw_gm 332 (by decide +kernel) rfl), (lw_gm 60 (by decide +kernel) rfl), wd_yN_clear, rfl, by decide +kernel, by decide +kernel, by decide +kernel⟩
set_option maxRecDepth 100000 in
theorem wd_yN_push : Cond.code yN_push cN_push 3 none ∈ lw_g := (lw_gm 296 rfl rfl)
theorem cw_N_34 : wk_cw RN 34 yN_push cN_push 3 none 1 := ⟨(lw_gm 333 (by decide +kernel) rfl), (lw_gm 60 (by decide +kernel) rfl), wd_yN_push, rfl, by decide +kernel, by decide +kernel, by decide +kernel⟩
set_option maxRecDepth 100000 in
theorem wd_yN_digit : Cond.code yN_digit cN_digit 2 (some .int) ∈ lw_g := (lw_gm 312 rfl rfl)
theorem cw_N_38 : wk_cw RN 38 yN_digit cN_digit 2 (some .int) 1 := ⟨(lw_gm 309 (by decide +kernel) rfl), (lw_gm 60 (by decide +kernel) rfl), wd_yN_digit, rfl, by decide +kernel, by decide +kernel, by decide +kernel⟩
set_option maxRecDepth 100000 in
theorem wd_yN_settle : Cond.code yN_settle cN_settle 3 none ∈ lw_g := (lw_gm 304 rfl rfl)
theorem cw_N_42 : wk_cw RN 42 yN_settle cN_settle 3 none 2 := ⟨(lw_gm 334 (by decide +kernel) rfl), (lw_gm 60 (by decide +kernel) rfl), wd_yN_settle, rfl, by decide +kernel, by decide +kernel, by decide +kernel⟩
set_option maxRecDepth 100000 in
theorem wd_yN_countUp : Cond.code yN_countUp cN_countUp 2 none ∈ lw_g := (lw_gm 316 rfl rfl)
theorem cw_N_46 : wk_cw RN 46 yN_countUp cN_countUp 2 none 0 := ⟨(lw_gm 313 (by decide +kernel) rfl), (lw_gm 60 (by decide +kernel) rfl), wd_yN_countUp, rfl, by decide +kernel, by decide +kernel, by decide +kernel⟩
theorem cw_N_49 : wk_cw RN 49 yN_places cN_places 1 (some .int) 0 := ⟨(lw_gm 511 (by decide +kernel) rfl), (lw_gm 60 (by decide +kernel) rfl), wd_yN_places, rfl, by decide +kernel, by decide +kernel, by decide +kernel⟩
theorem cw_N_53 : wk_cw RN 53 yN_ahead cN_ahead 1 (some .int) 0 := ⟨(lw_gm 416 (by decide +kernel) rfl), (lw_gm 60 (by decide +kernel) rfl), wd_yN_ahead, rfl, by decide +kernel, by decide +kernel, by decide +kernel⟩
theorem cw_N_56 : wk_cw RN 56 yN_roundTo cN_roundTo 3 none 1 := ⟨(lw_gm 512 (by decide +kernel) rfl), (lw_gm 60 (by decide +kernel) rfl), wd_yN_roundTo, rfl, by decide +kernel, by decide +kernel, by decide +kernel⟩
theorem cw_N_59 : wk_cw RN 59 yN_becomeUnit cN_becomeUnit 2 none 1 := ⟨(lw_gm 513 (by decide +kernel) rfl), (lw_gm 60 (by decide +kernel) rfl), wd_yN_becomeUnit, rfl, by decide +kernel, by decide +kernel, by decide +kernel⟩
theorem cw_R_15 : wk_cw RR 15 yN_clear cN_clear 1 none 0 := ⟨(lw_gm 273 (by decide +kernel) rfl), (lw_gm 60 (by decide +kernel) rfl), wd_yN_clear, rfl, by decide +kernel, by decide +kernel, by decide +kernel⟩
set_option maxRecDepth 100000 in
theorem wd_yR_skipBlanks : Cond.code yR_skipBlanks cR_skipBlanks 2 none ∈ lw_g := (lw_gm 280 rfl rfl)
theorem cw_R_20 : wk_cw RR 20 yR_skipBlanks cR_skipBlanks 2 none 1 := ⟨(lw_gm 277 (by decide +kernel) rfl), (lw_gm 57 (by decide +kernel) rfl), wd_yR_skipBlanks, rfl, by decide +kernel, by decide +kernel, by decide +kernel⟩
set_option maxRecDepth 100000 in
theorem wd_yR_readSign : Cond.code yR_readSign cR_readSign 3 (some .int) ∈ lw_g := (lw_gm 285 rfl rfl)
theorem cw_R_24 : wk_cw RR 24 yR_readSign cR_readSign 3 (some .int) 1 := ⟨(lw_gm 282 (by decide +kernel) rfl), (lw_gm 57 (by decide +kernel) rfl), wd_yR_readSign, rfl, by decide +kernel, by decide +kernel, by decide +kernel⟩
set_option maxRecDepth 100000 in
theorem wd_yR_readDigits : Cond.code yR_readDigits cR_readDigits 7 (some .boolean) ∈ lw_g := (lw_gm 289 rfl rfl)
theorem cw_R_28 : wk_cw RR 28 yR_readDigits cR_readDigits 7 (some .boolean) 2 := ⟨(lw_gm 286 (by decide +kernel) rfl), (lw_gm 57 (by decide +kernel) rfl), wd_yR_readDigits, rfl, by decide +kernel, by decide +kernel, by decide +kernel⟩
set_option maxRecDepth 100000 in
theorem wd_yR_readExponent : Cond.code yR_readExponent cR_readExponent 7 (some .boolean) ∈ lw_g := (lw_gm 300 rfl rfl)
theorem cw_R_32 : wk_cw RR 32 yR_readExponent cR_readExponent 7 (some .boolean) 2 := ⟨(lw_gm 297 (by decide +kernel) rfl), (lw_gm 57 (by decide +kernel) rfl), wd_yR_readExponent, rfl, by decide +kernel, by decide +kernel, by decide +kernel⟩
theorem cw_R_38 : wk_cw RR 38 yN_settle cN_settle 3 none 2 := ⟨(lw_gm 301 (by decide +kernel) rfl), (lw_gm 60 (by decide +kernel) rfl), wd_yN_settle, rfl, by decide +kernel, by decide +kernel, by decide +kernel⟩
theorem cw_R_47 : wk_cw RR 47 yL_byteAt cL_byteAt 2 (some .int) 1 := ⟨(lw_gm 281 (by decide +kernel) rfl), (lw_gm 55 (by decide +kernel) rfl), wd_yL_byteAt, rfl, by decide +kernel, by decide +kernel, by decide +kernel⟩
set_option maxRecDepth 100000 in
theorem wd_yR_isDigit : Cond.code yR_isDigit cR_isDigit 1 (some .boolean) ∈ lw_g := (lw_gm 292 rfl rfl)
theorem cw_R_51 : wk_cw RR 51 yR_isDigit cR_isDigit 1 (some .boolean) 1 := ⟨(lw_gm 290 (by decide +kernel) rfl), (lw_gm 57 (by decide +kernel) rfl), wd_yR_isDigit, rfl, by decide +kernel, by decide +kernel, by decide +kernel⟩
theorem cw_R_55 : wk_cw RR 55 yN_push cN_push 3 none 1 := ⟨(lw_gm 293 (by decide +kernel) rfl), (lw_gm 60 (by decide +kernel) rfl), wd_yN_push, rfl, by decide +kernel, by decide +kernel, by decide +kernel⟩
theorem cw_K_43 : wk_cw RK 43 yK_sum cK_sum 10 none 4 := ⟨(lw_gm 324 (by decide +kernel) rfl), (lw_gm 59 (by decide +kernel) rfl), wd_yK_sum, rfl, by decide +kernel, by decide +kernel, by decide +kernel⟩
set_option maxRecDepth 100000 in
theorem wd_yK_product : Cond.code yK_product cK_product 8 none ∈ lw_g := (lw_gm 371 rfl rfl)
theorem cw_K_47 : wk_cw RK 47 yK_product cK_product 8 none 3 := ⟨(lw_gm 368 (by decide +kernel) rfl), (lw_gm 59 (by decide +kernel) rfl), wd_yK_product, rfl, by decide +kernel, by decide +kernel, by decide +kernel⟩
set_option maxRecDepth 100000 in
theorem wd_yK_quotient : Cond.code yK_quotient cK_quotient 6 none ∈ lw_g := (lw_gm 378 rfl rfl)
theorem cw_K_51 : wk_cw RK 51 yK_quotient cK_quotient 6 none 4 := ⟨(lw_gm 375 (by decide +kernel) rfl), (lw_gm 59 (by decide +kernel) rfl), wd_yK_quotient, rfl, by decide +kernel, by decide +kernel, by decide +kernel⟩
set_option maxRecDepth 100000 in
theorem wd_yK_partOf : Cond.code yK_partOf cK_partOf 5 (some .int) ∈ lw_g := (lw_gm 407 rfl rfl)
theorem cw_K_55 : wk_cw RK 55 yK_partOf cK_partOf 5 (some .int) 4 := ⟨(lw_gm 404 (by decide +kernel) rfl), (lw_gm 59 (by decide +kernel) rfl), wd_yK_partOf, rfl, by decide +kernel, by decide +kernel, by decide +kernel⟩
set_option maxRecDepth 100000 in
theorem wd_yK_restOf : Cond.code yK_restOf cK_restOf 6 (some .int) ∈ lw_g := (lw_gm 411 rfl rfl)
theorem cw_K_59 : wk_cw RK 59 yK_restOf cK_restOf 6 (some .int) 4 := ⟨(lw_gm 408 (by decide +kernel) rfl), (lw_gm 59 (by decide +kernel) rfl), wd_yK_restOf, rfl, by decide +kernel, by decide +kernel, by decide +kernel⟩
theorem cw_K_62 : wk_cw RK 62 yN_wholeValue cN_wholeValue 4 (some .int) 0 := ⟨(lw_gm 412 (by decide +kernel) rfl), (lw_gm 60 (by decide +kernel) rfl), wd_yN_wholeValue, rfl, by decide +kernel, by decide +kernel, by decide +kernel⟩
set_option maxRecDepth 100000 in
theorem wd_yK_powerOf : Cond.code yK_powerOf cK_powerOf 9 (some .int) ∈ lw_g := (lw_gm 421 rfl rfl)
theorem cw_K_66 : wk_cw RK 66 yK_powerOf cK_powerOf 9 (some .int) 4 := ⟨(lw_gm 418 (by decide +kernel) rfl), (lw_gm 59 (by decide +kernel) rfl), wd_yK_powerOf, rfl, by decide +kernel, by decide +kernel, by decide +kernel⟩
theorem cw_K_70 : wk_cw RK 70 yN_roundTo cN_roundTo 3 none 1 := ⟨(lw_gm 399 (by decide +kernel) rfl), (lw_gm 60 (by decide +kernel) rfl), wd_yN_roundTo, rfl, by decide +kernel, by decide +kernel, by decide +kernel⟩
set_option maxRecDepth 100000 in
theorem wd_yN_copy : Cond.code yN_copy cN_copy 3 none ∈ lw_g := (lw_gm 331 rfl rfl)
theorem cw_K_73 : wk_cw RK 73 yN_copy cN_copy 3 none 1 := ⟨(lw_gm 328 (by decide +kernel) rfl), (lw_gm 60 (by decide +kernel) rfl), wd_yN_copy, rfl, by decide +kernel, by decide +kernel, by decide +kernel⟩
set_option maxRecDepth 100000 in
theorem wd_yK_nearTo : Cond.code yK_nearTo cK_nearTo 4 (some (.object "NumberDesk$Num")) ∈ lw_g := (lw_gm 338 rfl rfl)
theorem cw_K_77 : wk_cw RK 77 yK_nearTo cK_nearTo 4 (some (.object "NumberDesk$Num")) 2 := ⟨(lw_gm 335 (by decide +kernel) rfl), (lw_gm 59 (by decide +kernel) rfl), wd_yK_nearTo, rfl, by decide +kernel, by decide +kernel, by decide +kernel⟩
theorem cw_K_90 : wk_cw RK 90 yN_ahead cN_ahead 1 (some .int) 0 := ⟨(lw_gm 339 (by decide +kernel) rfl), (lw_gm 60 (by decide +kernel) rfl), wd_yN_ahead, rfl, by decide +kernel, by decide +kernel, by decide +kernel⟩
set_option maxRecDepth 100000 in
theorem wd_yK_fillCells : Cond.code yK_fillCells cK_fillCells 9 none ∈ lw_g := (lw_gm 352 rfl rfl)
theorem cw_K_96 : wk_cw RK 96 yK_fillCells cK_fillCells 9 none 5 := ⟨(lw_gm 349 (by decide +kernel) rfl), (lw_gm 59 (by decide +kernel) rfl), wd_yK_fillCells, rfl, by decide +kernel, by decide +kernel, by decide +kernel⟩
set_option maxRecDepth 100000 in
theorem wd_yK_takeCells : Cond.code yK_takeCells cK_takeCells 6 none ∈ lw_g := (lw_gm 360 rfl rfl)
theorem cw_K_100 : wk_cw RK 100 yK_takeCells cK_takeCells 6 none 4 := ⟨(lw_gm 357 (by decide +kernel) rfl), (lw_gm 59 (by decide +kernel) rfl), wd_yK_takeCells, rfl, by decide +kernel, by decide +kernel, by decide +kernel⟩
set_option maxRecDepth 100000 in
theorem wd_yK_isBelow : Cond.code yK_isBelow cK_isBelow 5 (some .boolean) ∈ lw_g := (lw_gm 366 rfl rfl)
theorem cw_K_104 : wk_cw RK 104 yK_isBelow cK_isBelow 5 (some .boolean) 2 := ⟨(lw_gm 364 (by decide +kernel) rfl), (lw_gm 59 (by decide +kernel) rfl), wd_yK_isBelow, rfl, by decide +kernel, by decide +kernel, by decide +kernel⟩
theorem cw_K_108 : wk_cw RK 108 yN_becomeUnit cN_becomeUnit 2 none 1 := ⟨(lw_gm 343 (by decide +kernel) rfl), (lw_gm 60 (by decide +kernel) rfl), wd_yN_becomeUnit, rfl, by decide +kernel, by decide +kernel, by decide +kernel⟩
theorem cw_K_114 : wk_cw RK 114 yN_digit cN_digit 2 (some .int) 1 := ⟨(lw_gm 367 (by decide +kernel) rfl), (lw_gm 60 (by decide +kernel) rfl), wd_yN_digit, rfl, by decide +kernel, by decide +kernel, by decide +kernel⟩
set_option maxRecDepth 100000 in
theorem wd_yN_digitAtPower : Cond.code yN_digitAtPower cN_digitAtPower 2 (some .int) ∈ lw_g := (lw_gm 356 rfl rfl)
theorem cw_K_118 : wk_cw RK 118 yN_digitAtPower cN_digitAtPower 2 (some .int) 1 := ⟨(lw_gm 353 (by decide +kernel) rfl), (lw_gm 60 (by decide +kernel) rfl), wd_yN_digitAtPower, rfl, by decide +kernel, by decide +kernel, by decide +kernel⟩
theorem cw_K_121 : wk_cw RK 121 yN_clear cN_clear 1 none 0 := ⟨(lw_gm 361 (by decide +kernel) rfl), (lw_gm 60 (by decide +kernel) rfl), wd_yN_clear, rfl, by decide +kernel, by decide +kernel, by decide +kernel⟩
theorem cw_K_124 : wk_cw RK 124 yN_push cN_push 3 none 1 := ⟨(lw_gm 362 (by decide +kernel) rfl), (lw_gm 60 (by decide +kernel) rfl), wd_yN_push, rfl, by decide +kernel, by decide +kernel, by decide +kernel⟩
theorem cw_K_127 : wk_cw RK 127 yN_settle cN_settle 3 none 2 := ⟨(lw_gm 363 (by decide +kernel) rfl), (lw_gm 60 (by decide +kernel) rfl), wd_yN_settle, rfl, by decide +kernel, by decide +kernel, by decide +kernel⟩
set_option maxRecDepth 100000 in
theorem wd_yK_crossSum : Cond.code yK_crossSum cK_crossSum 5 (some .int) ∈ lw_g := (lw_gm 374 rfl rfl)
theorem cw_K_131 : wk_cw RK 131 yK_crossSum cK_crossSum 5 (some .int) 3 := ⟨(lw_gm 372 (by decide +kernel) rfl), (lw_gm 59 (by decide +kernel) rfl), wd_yK_crossSum, rfl, by decide +kernel, by decide +kernel, by decide +kernel⟩
set_option maxRecDepth 100000 in
theorem wd_yK_divide : Cond.code yK_divide cK_divide 8 (some .int) ∈ lw_g := (lw_gm 382 rfl rfl)
theorem cw_K_135 : wk_cw RK 135 yK_divide cK_divide 8 (some .int) 5 := ⟨(lw_gm 379 (by decide +kernel) rfl), (lw_gm 59 (by decide +kernel) rfl), wd_yK_divide, rfl, by decide +kernel, by decide +kernel, by decide +kernel⟩
set_option maxRecDepth 100000 in
theorem wd_yN_dropEndZeros : Cond.code yN_dropEndZeros cN_dropEndZeros 1 none ∈ lw_g := (lw_gm 403 rfl rfl)
theorem cw_K_139 : wk_cw RK 139 yN_dropEndZeros cN_dropEndZeros 1 none 0 := ⟨(lw_gm 400 (by decide +kernel) rfl), (lw_gm 60 (by decide +kernel) rfl), wd_yN_dropEndZeros, rfl, by decide +kernel, by decide +kernel, by decide +kernel⟩
set_option maxRecDepth 100000 in
theorem wd_yK_multiplyInto : Cond.code yK_multiplyInto cK_multiplyInto 4 none ∈ lw_g := (lw_gm 428 rfl rfl)
theorem cw_K_145 : wk_cw RK 145 yK_multiplyInto cK_multiplyInto 4 none 3 := ⟨(lw_gm 425 (by decide +kernel) rfl), (lw_gm 59 (by decide +kernel) rfl), wd_yK_multiplyInto, rfl, by decide +kernel, by decide +kernel, by decide +kernel⟩
set_option maxRecDepth 100000 in
theorem wd_yK_bringDown : Cond.code yK_bringDown cK_bringDown 4 none ∈ lw_g := (lw_gm 386 rfl rfl)
theorem cw_K_149 : wk_cw RK 149 yK_bringDown cK_bringDown 4 none 2 := ⟨(lw_gm 383 (by decide +kernel) rfl), (lw_gm 59 (by decide +kernel) rfl), wd_yK_bringDown, rfl, by decide +kernel, by decide +kernel, by decide +kernel⟩
set_option maxRecDepth 100000 in
theorem wd_yK_takeAwayAll : Cond.code yK_takeAwayAll cK_takeAwayAll 3 (some .int) ∈ lw_g := (lw_gm 390 rfl rfl)
theorem cw_K_152 : wk_cw RK 152 yK_takeAwayAll cK_takeAwayAll 3 (some .int) 1 := ⟨(lw_gm 387 (by decide +kernel) rfl), (lw_gm 59 (by decide +kernel) rfl), wd_yK_takeAwayAll, rfl, by decide +kernel, by decide +kernel, by decide +kernel⟩
set_option maxRecDepth 100000 in
theorem wd_yK_holdsDivisor : Cond.code yK_holdsDivisor cK_holdsDivisor 4 (some .boolean) ∈ lw_g := (lw_gm 394 rfl rfl)
theorem cw_K_155 : wk_cw RK 155 yK_holdsDivisor cK_holdsDivisor 4 (some .boolean) 1 := ⟨(lw_gm 391 (by decide +kernel) rfl), (lw_gm 59 (by decide +kernel) rfl), wd_yK_holdsDivisor, rfl, by decide +kernel, by decide +kernel, by decide +kernel⟩
set_option maxRecDepth 100000 in
theorem wd_yK_takeAwayOnce : Cond.code yK_takeAwayOnce cK_takeAwayOnce 5 none ∈ lw_g := (lw_gm 398 rfl rfl)
theorem cw_K_159 : wk_cw RK 159 yK_takeAwayOnce cK_takeAwayOnce 5 none 1 := ⟨(lw_gm 395 (by decide +kernel) rfl), (lw_gm 59 (by decide +kernel) rfl), wd_yK_takeAwayOnce, rfl, by decide +kernel, by decide +kernel, by decide +kernel⟩
theorem cw_T_9 : wk_cw RT 9 yN_firstPower cN_firstPower 1 (some .int) 0 := ⟨(lw_gm 437 (by decide +kernel) rfl), (lw_gm 60 (by decide +kernel) rfl), wd_yN_firstPower, rfl, by decide +kernel, by decide +kernel, by decide +kernel⟩
theorem cw_T_21 : wk_cw RT 21 yN_ahead cN_ahead 1 (some .int) 0 := ⟨(lw_gm 441 (by decide +kernel) rfl), (lw_gm 60 (by decide +kernel) rfl), wd_yN_ahead, rfl, by decide +kernel, by decide +kernel, by decide +kernel⟩
theorem cw_T_24 : wk_cw RT 24 yN_places cN_places 1 (some .int) 0 := ⟨(lw_gm 442 (by decide +kernel) rfl), (lw_gm 60 (by decide +kernel) rfl), wd_yN_places, rfl, by decide +kernel, by decide +kernel, by decide +kernel⟩
theorem cw_T_27 : wk_cw RT 27 yT_addPlain cT_addPlain 5 none 3 := ⟨(lw_gm 446 (by decide +kernel) rfl), (lw_gm 58 (by decide +kernel) rfl), wd_yT_addPlain, rfl, by decide +kernel, by decide +kernel, by decide +kernel⟩
set_option maxRecDepth 100000 in
theorem wd_yT_addWithExponent : Cond.code yT_addWithExponent cT_addWithExponent 7 none ∈ lw_g := (lw_gm 460 rfl rfl)
theorem cw_T_33 : wk_cw RT 33 yT_addWithExponent cT_addWithExponent 7 none 3 := ⟨(lw_gm 457 (by decide +kernel) rfl), (lw_gm 58 (by decide +kernel) rfl), wd_yT_addWithExponent, rfl, by decide +kernel, by decide +kernel, by decide +kernel⟩
set_option maxRecDepth 100000 in
theorem wd_yT_addSign : Cond.code yT_addSign cT_addSign 3 none ∈ lw_g := (lw_gm 453 rfl rfl)
theorem cw_T_36 : wk_cw RT 36 yT_addSign cT_addSign 3 none 2 := ⟨(lw_gm 450 (by decide +kernel) rfl), (lw_gm 58 (by decide +kernel) rfl), wd_yT_addSign, rfl, by decide +kernel, by decide +kernel, by decide +kernel⟩
theorem cw_T_46 : wk_cw RT 46 yN_digitAtPower cN_digitAtPower 2 (some .int) 1 := ⟨(lw_gm 456 (by decide +kernel) rfl), (lw_gm 60 (by decide +kernel) rfl), wd_yN_digitAtPower, rfl, by decide +kernel, by decide +kernel, by decide +kernel⟩
theorem cw_T_50 : wk_cw RT 50 yL_add cL_add 2 none 1 := ⟨(lw_gm 454 (by decide +kernel) rfl), (lw_gm 55 (by decide +kernel) rfl), wd_yL_add, rfl, by decide +kernel, by decide +kernel, by decide +kernel⟩
set_option maxRecDepth 100000 in
theorem wd_yA_floorMod : Cond.code yA_floorMod cA_floorMod 3 (some .int) ∈ lw_g := (lw_gm 463 rfl rfl)
theorem cw_T_54 : wk_cw RT 54 yA_floorMod cA_floorMod 3 (some .int) 2 := ⟨(lw_gm 461 (by decide +kernel) rfl), (lw_gm 56 (by decide +kernel) rfl), wd_yA_floorMod, rfl, by decide +kernel, by decide +kernel, by decide +kernel⟩
theorem cw_T_57 : wk_cw RT 57 yN_digit cN_digit 2 (some .int) 1 := ⟨(lw_gm 464 (by decide +kernel) rfl), (lw_gm 60 (by decide +kernel) rfl), wd_yN_digit, rfl, by decide +kernel, by decide +kernel, by decide +kernel⟩
set_option maxRecDepth 100000 in
theorem wd_yT_addExponent : Cond.code yT_addExponent cT_addExponent 4 none ∈ lw_g := (lw_gm 468 rfl rfl)
theorem cw_T_63 : wk_cw RT 63 yT_addExponent cT_addExponent 4 none 2 := ⟨(lw_gm 465 (by decide +kernel) rfl), (lw_gm 58 (by decide +kernel) rfl), wd_yT_addExponent, rfl, by decide +kernel, by decide +kernel, by decide +kernel⟩
set_option maxRecDepth 100000 in
theorem wd_yD_feed : Cond.code yD_feed cD_feed 6 (some .int) ∈ lw_g := (lw_gm 207 rfl rfl)
theorem cw_W_13 : wk_cw RW 13 yD_feed cD_feed 6 (some .int) 5 := ⟨(lw_gm 204 (by decide +kernel) rfl), (lw_gm 54 (by decide +kernel) rfl), wd_yD_feed, rfl, by decide +kernel, by decide +kernel, by decide +kernel⟩
set_option maxRecDepth 100000 in
theorem wd_yM_feed : Cond.code yM_feed cM_feed 6 (some .int) ∈ lw_g := (lw_gm 599 rfl rfl)
theorem cw_W_17 : wk_cw RW 17 yM_feed cM_feed 6 (some .int) 5 := ⟨(lw_gm 596 (by decide +kernel) rfl), (lw_gm 61 (by decide +kernel) rfl), wd_yM_feed, rfl, by decide +kernel, by decide +kernel, by decide +kernel⟩
set_option maxRecDepth 100000 in
theorem wd_yD_end : Cond.code yD_end cD_end 2 (some .int) ∈ lw_g := (lw_gm 219 rfl rfl)
theorem cw_W_18 : wk_cw RW 18 yD_end cD_end 2 (some .int) 1 := ⟨(lw_gm 216 (by decide +kernel) rfl), (lw_gm 54 (by decide +kernel) rfl), wd_yD_end, rfl, by decide +kernel, by decide +kernel, by decide +kernel⟩
set_option maxRecDepth 100000 in
theorem wd_yM_end : Cond.code yM_end cM_end 2 (some .int) ∈ lw_g := (lw_gm 607 rfl rfl)
theorem cw_W_22 : wk_cw RW 22 yM_end cM_end 2 (some .int) 1 := ⟨(lw_gm 604 (by decide +kernel) rfl), (lw_gm 61 (by decide +kernel) rfl), wd_yM_end, rfl, by decide +kernel, by decide +kernel, by decide +kernel⟩
set_option maxRecDepth 100000 in
theorem wd_yD_put : Cond.code yD_put cD_put 3 (some .int) ∈ lw_g := (lw_gm 223 rfl rfl)
theorem cw_W_23 : wk_cw RW 23 yD_put cD_put 3 (some .int) 1 := ⟨(lw_gm 220 (by decide +kernel) rfl), (lw_gm 54 (by decide +kernel) rfl), wd_yD_put, rfl, by decide +kernel, by decide +kernel, by decide +kernel⟩
set_option maxRecDepth 100000 in
theorem wd_yM_put : Cond.code yM_put cM_put 3 (some .int) ∈ lw_g := (lw_gm 611 rfl rfl)
theorem cw_W_26 : wk_cw RW 26 yM_put cM_put 3 (some .int) 1 := ⟨(lw_gm 608 (by decide +kernel) rfl), (lw_gm 61 (by decide +kernel) rfl), wd_yM_put, rfl, by decide +kernel, by decide +kernel, by decide +kernel⟩
set_option maxRecDepth 100000 in
theorem wd_yD_size : Cond.code yD_size cD_size 3 (some .int) ∈ lw_g := (lw_gm 239 rfl rfl)
theorem cw_W_27 : wk_cw RW 27 yD_size cD_size 3 (some .int) 1 := ⟨(lw_gm 236 (by decide +kernel) rfl), (lw_gm 54 (by decide +kernel) rfl), wd_yD_size, rfl, by decide +kernel, by decide +kernel, by decide +kernel⟩
set_option maxRecDepth 100000 in
theorem wd_yM_size : Cond.code yM_size cM_size 2 (some .int) ∈ lw_g := (lw_gm 618 rfl rfl)
theorem cw_W_30 : wk_cw RW 30 yM_size cM_size 2 (some .int) 1 := ⟨(lw_gm 615 (by decide +kernel) rfl), (lw_gm 61 (by decide +kernel) rfl), wd_yM_size, rfl, by decide +kernel, by decide +kernel, by decide +kernel⟩
set_option maxRecDepth 100000 in
theorem wd_yD_at : Cond.code yD_at cD_at 4 (some .int) ∈ lw_g := (lw_gm 243 rfl rfl)
theorem cw_W_31 : wk_cw RW 31 yD_at cD_at 4 (some .int) 2 := ⟨(lw_gm 240 (by decide +kernel) rfl), (lw_gm 54 (by decide +kernel) rfl), wd_yD_at, rfl, by decide +kernel, by decide +kernel, by decide +kernel⟩
set_option maxRecDepth 100000 in
theorem wd_yM_at : Cond.code yM_at cM_at 3 (some .int) ∈ lw_g := (lw_gm 622 rfl rfl)
theorem cw_W_35 : wk_cw RW 35 yM_at cM_at 3 (some .int) 2 := ⟨(lw_gm 619 (by decide +kernel) rfl), (lw_gm 61 (by decide +kernel) rfl), wd_yM_at, rfl, by decide +kernel, by decide +kernel, by decide +kernel⟩
set_option maxRecDepth 100000 in
theorem wd_yD_digits : Cond.code yD_digits cD_digits 2 (some .int) ∈ lw_g := (lw_gm 248 rfl rfl)
theorem cw_W_36 : wk_cw RW 36 yD_digits cD_digits 2 (some .int) 1 := ⟨(lw_gm 245 (by decide +kernel) rfl), (lw_gm 54 (by decide +kernel) rfl), wd_yD_digits, rfl, by decide +kernel, by decide +kernel, by decide +kernel⟩
set_option maxRecDepth 100000 in
theorem wd_yM_digits : Cond.code yM_digits cM_digits 2 (some .int) ∈ lw_g := (lw_gm 626 rfl rfl)
theorem cw_W_39 : wk_cw RW 39 yM_digits cM_digits 2 (some .int) 1 := ⟨(lw_gm 623 (by decide +kernel) rfl), (lw_gm 61 (by decide +kernel) rfl), wd_yM_digits, rfl, by decide +kernel, by decide +kernel, by decide +kernel⟩
set_option maxRecDepth 100000 in
theorem wd_yD_fuzz : Cond.code yD_fuzz cD_fuzz 2 (some .int) ∈ lw_g := (lw_gm 252 rfl rfl)
theorem cw_W_40 : wk_cw RW 40 yD_fuzz cD_fuzz 2 (some .int) 1 := ⟨(lw_gm 249 (by decide +kernel) rfl), (lw_gm 54 (by decide +kernel) rfl), wd_yD_fuzz, rfl, by decide +kernel, by decide +kernel, by decide +kernel⟩
set_option maxRecDepth 100000 in
theorem wd_yM_fuzz : Cond.code yM_fuzz cM_fuzz 2 (some .int) ∈ lw_g := (lw_gm 630 rfl rfl)
theorem cw_W_43 : wk_cw RW 43 yM_fuzz cM_fuzz 2 (some .int) 1 := ⟨(lw_gm 627 (by decide +kernel) rfl), (lw_gm 61 (by decide +kernel) rfl), wd_yM_fuzz, rfl, by decide +kernel, by decide +kernel, by decide +kernel⟩
set_option maxRecDepth 100000 in
theorem wd_yD_form : Cond.code yD_form cD_form 2 (some .int) ∈ lw_g := (lw_gm 256 rfl rfl)
theorem cw_W_44 : wk_cw RW 44 yD_form cD_form 2 (some .int) 1 := ⟨(lw_gm 253 (by decide +kernel) rfl), (lw_gm 54 (by decide +kernel) rfl), wd_yD_form, rfl, by decide +kernel, by decide +kernel, by decide +kernel⟩
set_option maxRecDepth 100000 in
theorem wd_yM_form : Cond.code yM_form cM_form 2 (some .int) ∈ lw_g := (lw_gm 634 rfl rfl)
theorem cw_W_47 : wk_cw RW 47 yM_form cM_form 2 (some .int) 1 := ⟨(lw_gm 631 (by decide +kernel) rfl), (lw_gm 61 (by decide +kernel) rfl), wd_yM_form, rfl, by decide +kernel, by decide +kernel, by decide +kernel⟩
set_option maxRecDepth 100000 in
theorem wd_yD_work : Cond.code yD_work cD_work 9 (some .int) ∈ lw_g := (lw_gm 260 rfl rfl)
theorem cw_W_48 : wk_cw RW 48 yD_work cD_work 9 (some .int) 4 := ⟨(lw_gm 257 (by decide +kernel) rfl), (lw_gm 54 (by decide +kernel) rfl), wd_yD_work, rfl, by decide +kernel, by decide +kernel, by decide +kernel⟩
set_option maxRecDepth 100000 in
theorem wd_yM_work : Cond.code yM_work cM_work 7 (some .int) ∈ lw_g := (lw_gm 638 rfl rfl)
theorem cw_W_52 : wk_cw RW 52 yM_work cM_work 7 (some .int) 4 := ⟨(lw_gm 635 (by decide +kernel) rfl), (lw_gm 61 (by decide +kernel) rfl), wd_yM_work, rfl, by decide +kernel, by decide +kernel, by decide +kernel⟩
set_option maxRecDepth 100000 in
theorem wd_yD_turn : Cond.code yD_turn cD_turn 6 (some .int) ∈ lw_g := (lw_gm 477 rfl rfl)
theorem cw_W_53 : wk_cw RW 53 yD_turn cD_turn 6 (some .int) 3 := ⟨(lw_gm 474 (by decide +kernel) rfl), (lw_gm 54 (by decide +kernel) rfl), wd_yD_turn, rfl, by decide +kernel, by decide +kernel, by decide +kernel⟩
set_option maxRecDepth 100000 in
theorem wd_yM_turn : Cond.code yM_turn cM_turn 5 (some .int) ∈ lw_g := (lw_gm 733 rfl rfl)
theorem cw_W_57 : wk_cw RW 57 yM_turn cM_turn 5 (some .int) 3 := ⟨(lw_gm 730 (by decide +kernel) rfl), (lw_gm 61 (by decide +kernel) rfl), wd_yM_turn, rfl, by decide +kernel, by decide +kernel, by decide +kernel⟩
set_option maxRecDepth 100000 in
theorem wd_yD_most : Cond.code yD_most cD_most 9 (some .int) ∈ lw_g := (lw_gm 483 rfl rfl)
theorem cw_W_58 : wk_cw RW 58 yD_most cD_most 9 (some .int) 4 := ⟨(lw_gm 480 (by decide +kernel) rfl), (lw_gm 54 (by decide +kernel) rfl), wd_yD_most, rfl, by decide +kernel, by decide +kernel, by decide +kernel⟩
set_option maxRecDepth 100000 in
theorem wd_yM_most : Cond.code yM_most cM_most 6 (some .int) ∈ lw_g := (lw_gm 737 rfl rfl)
theorem cw_W_62 : wk_cw RW 62 yM_most cM_most 6 (some .int) 4 := ⟨(lw_gm 734 (by decide +kernel) rfl), (lw_gm 61 (by decide +kernel) rfl), wd_yM_most, rfl, by decide +kernel, by decide +kernel, by decide +kernel⟩
set_option maxRecDepth 100000 in
theorem wd_yD_cut : Cond.code yD_cut cD_cut 6 (some .int) ∈ lw_g := (lw_gm 488 rfl rfl)
theorem cw_W_63 : wk_cw RW 63 yD_cut cD_cut 6 (some .int) 3 := ⟨(lw_gm 485 (by decide +kernel) rfl), (lw_gm 54 (by decide +kernel) rfl), wd_yD_cut, rfl, by decide +kernel, by decide +kernel, by decide +kernel⟩
set_option maxRecDepth 100000 in
theorem wd_yM_cut : Cond.code yM_cut cM_cut 6 (some .int) ∈ lw_g := (lw_gm 741 rfl rfl)
theorem cw_W_66 : wk_cw RW 66 yM_cut cM_cut 6 (some .int) 3 := ⟨(lw_gm 738 (by decide +kernel) rfl), (lw_gm 61 (by decide +kernel) rfl), wd_yM_cut, rfl, by decide +kernel, by decide +kernel, by decide +kernel⟩
set_option maxRecDepth 100000 in
theorem wd_yD_column : Cond.code yD_column cD_column 10 (some .int) ∈ lw_g := (lw_gm 505 rfl rfl)
theorem cw_W_67 : wk_cw RW 67 yD_column cD_column 10 (some .int) 4 := ⟨(lw_gm 502 (by decide +kernel) rfl), (lw_gm 54 (by decide +kernel) rfl), wd_yD_column, rfl, by decide +kernel, by decide +kernel, by decide +kernel⟩
set_option maxRecDepth 100000 in
theorem wd_yM_column : Cond.code yM_column cM_column 9 (some .int) ∈ lw_g := (lw_gm 745 rfl rfl)
theorem cw_W_70 : wk_cw RW 70 yM_column cM_column 9 (some .int) 4 := ⟨(lw_gm 742 (by decide +kernel) rfl), (lw_gm 61 (by decide +kernel) rfl), wd_yM_column, rfl, by decide +kernel, by decide +kernel, by decide +kernel⟩
set_option maxRecDepth 100000 in
theorem wd_yD_compare : Cond.code yD_compare cD_compare 6 (some .int) ∈ lw_g := (lw_gm 517 rfl rfl)
theorem cw_W_71 : wk_cw RW 71 yD_compare cD_compare 6 (some .int) 3 := ⟨(lw_gm 514 (by decide +kernel) rfl), (lw_gm 54 (by decide +kernel) rfl), wd_yD_compare, rfl, by decide +kernel, by decide +kernel, by decide +kernel⟩
set_option maxRecDepth 100000 in
theorem wd_yM_compare : Cond.code yM_compare cM_compare 4 (some .int) ∈ lw_g := (lw_gm 749 rfl rfl)
theorem cw_W_75 : wk_cw RW 75 yM_compare cM_compare 4 (some .int) 3 := ⟨(lw_gm 746 (by decide +kernel) rfl), (lw_gm 61 (by decide +kernel) rfl), wd_yM_compare, rfl, by decide +kernel, by decide +kernel, by decide +kernel⟩
set_option maxRecDepth 100000 in
theorem wd_yD_whole : Cond.code yD_whole cD_whole 3 (some .int) ∈ lw_g := (lw_gm 538 rfl rfl)
theorem cw_W_76 : wk_cw RW 76 yD_whole cD_whole 3 (some .int) 1 := ⟨(lw_gm 535 (by decide +kernel) rfl), (lw_gm 54 (by decide +kernel) rfl), wd_yD_whole, rfl, by decide +kernel, by decide +kernel, by decide +kernel⟩
set_option maxRecDepth 100000 in
theorem wd_yM_whole : Cond.code yM_whole cM_whole 2 (some .int) ∈ lw_g := (lw_gm 764 rfl rfl)
theorem cw_W_79 : wk_cw RW 79 yM_whole cM_whole 2 (some .int) 1 := ⟨(lw_gm 761 (by decide +kernel) rfl), (lw_gm 61 (by decide +kernel) rfl), wd_yM_whole, rfl, by decide +kernel, by decide +kernel, by decide +kernel⟩
set_option maxRecDepth 100000 in
theorem wd_yD_about : Cond.code yD_about cD_about 4 (some .int) ∈ lw_g := (lw_gm 545 rfl rfl)
theorem cw_W_80 : wk_cw RW 80 yD_about cD_about 4 (some .int) 2 := ⟨(lw_gm 542 (by decide +kernel) rfl), (lw_gm 54 (by decide +kernel) rfl), wd_yD_about, rfl, by decide +kernel, by decide +kernel, by decide +kernel⟩
set_option maxRecDepth 100000 in
theorem wd_yM_about : Cond.code yM_about cM_about 4 (some .int) ∈ lw_g := (lw_gm 770 rfl rfl)
theorem cw_W_83 : wk_cw RW 83 yM_about cM_about 4 (some .int) 2 := ⟨(lw_gm 767 (by decide +kernel) rfl), (lw_gm 61 (by decide +kernel) rfl), wd_yM_about, rfl, by decide +kernel, by decide +kernel, by decide +kernel⟩
set_option maxRecDepth 100000 in
theorem wd_yM_four : Cond.code yM_four cM_four 3 none ∈ lw_g := (lw_gm 603 rfl rfl)
theorem cw_M_44 : wk_cw RM 44 yM_four cM_four 3 none 1 := ⟨(lw_gm 600 (by decide +kernel) rfl), (lw_gm 61 (by decide +kernel) rfl), wd_yM_four, rfl, by decide +kernel, by decide +kernel, by decide +kernel⟩
set_option maxRecDepth 100000 in
theorem wd_yM_isRegister : Cond.code yM_isRegister cM_isRegister 1 (some .boolean) ∈ lw_g := (lw_gm 614 rfl rfl)
theorem cw_M_48 : wk_cw RM 48 yM_isRegister cM_isRegister 1 (some .boolean) 1 := ⟨(lw_gm 612 (by decide +kernel) rfl), (lw_gm 61 (by decide +kernel) rfl), wd_yM_isRegister, rfl, by decide +kernel, by decide +kernel, by decide +kernel⟩
set_option maxRecDepth 100000 in
theorem wd_yM_zero : Cond.code yM_zero cM_zero 2 none ∈ lw_g := (lw_gm 653 rfl rfl)
theorem cw_M_58 : wk_cw RM 58 yM_zero cM_zero 2 none 1 := ⟨(lw_gm 650 (by decide +kernel) rfl), (lw_gm 61 (by decide +kernel) rfl), wd_yM_zero, rfl, by decide +kernel, by decide +kernel, by decide +kernel⟩
set_option maxRecDepth 100000 in
theorem wd_yM_isDigit : Cond.code yM_isDigit cM_isDigit 1 (some .boolean) ∈ lw_g := (lw_gm 645 rfl rfl)
theorem cw_M_61 : wk_cw RM 61 yM_isDigit cM_isDigit 1 (some .boolean) 1 := ⟨(lw_gm 643 (by decide +kernel) rfl), (lw_gm 61 (by decide +kernel) rfl), wd_yM_isDigit, rfl, by decide +kernel, by decide +kernel, by decide +kernel⟩
set_option maxRecDepth 100000 in
theorem wd_yM_settle : Cond.code yM_settle cM_settle 4 none ∈ lw_g := (lw_gm 649 rfl rfl)
theorem cw_M_64 : wk_cw RM 64 yM_settle cM_settle 4 none 1 := ⟨(lw_gm 646 (by decide +kernel) rfl), (lw_gm 61 (by decide +kernel) rfl), wd_yM_settle, rfl, by decide +kernel, by decide +kernel, by decide +kernel⟩
set_option maxRecDepth 100000 in
theorem wd_yM_high : Cond.code yM_high cM_high 2 (some .int) ∈ lw_g := (lw_gm 665 rfl rfl)
theorem cw_M_67 : wk_cw RM 67 yM_high cM_high 2 (some .int) 1 := ⟨(lw_gm 662 (by decide +kernel) rfl), (lw_gm 61 (by decide +kernel) rfl), wd_yM_high, rfl, by decide +kernel, by decide +kernel, by decide +kernel⟩
set_option maxRecDepth 100000 in
theorem wd_yM_copy : Cond.code yM_copy cM_copy 4 none ∈ lw_g := (lw_gm 685 rfl rfl)
theorem cw_M_71 : wk_cw RM 71 yM_copy cM_copy 4 none 2 := ⟨(lw_gm 682 (by decide +kernel) rfl), (lw_gm 61 (by decide +kernel) rfl), wd_yM_copy, rfl, by decide +kernel, by decide +kernel, by decide +kernel⟩
set_option maxRecDepth 100000 in
theorem wd_yM_digit : Cond.code yM_digit cM_digit 4 (some .int) ∈ lw_g := (lw_gm 669 rfl rfl)
theorem cw_M_75 : wk_cw RM 75 yM_digit cM_digit 4 (some .int) 2 := ⟨(lw_gm 666 (by decide +kernel) rfl), (lw_gm 61 (by decide +kernel) rfl), wd_yM_digit, rfl, by decide +kernel, by decide +kernel, by decide +kernel⟩
set_option maxRecDepth 100000 in
theorem wd_yM_isEnough : Cond.code yM_isEnough cM_isEnough 3 (some .boolean) ∈ lw_g := (lw_gm 697 rfl rfl)
theorem cw_M_79 : wk_cw RM 79 yM_isEnough cM_isEnough 3 (some .boolean) 1 := ⟨(lw_gm 694 (by decide +kernel) rfl), (lw_gm 61 (by decide +kernel) rfl), wd_yM_isEnough, rfl, by decide +kernel, by decide +kernel, by decide +kernel⟩
set_option maxRecDepth 100000 in
theorem wd_yM_divide : Cond.code yM_divide cM_divide 11 none ∈ lw_g := (lw_gm 693 rfl rfl)
theorem cw_M_82 : wk_cw RM 82 yM_divide cM_divide 11 none 4 := ⟨(lw_gm 690 (by decide +kernel) rfl), (lw_gm 61 (by decide +kernel) rfl), wd_yM_divide, rfl, by decide +kernel, by decide +kernel, by decide +kernel⟩
set_option maxRecDepth 100000 in
theorem wd_yM_letter : Cond.code yM_letter cM_letter 2 none ∈ lw_g := (lw_gm 721 rfl rfl)
theorem cw_M_89 : wk_cw RM 89 yM_letter cM_letter 2 none 1 := ⟨(lw_gm 718 (by decide +kernel) rfl), (lw_gm 61 (by decide +kernel) rfl), wd_yM_letter, rfl, by decide +kernel, by decide +kernel, by decide +kernel⟩
set_option maxRecDepth 100000 in
theorem wd_yM_plain : Cond.code yM_plain cM_plain 5 none ∈ lw_g := (lw_gm 725 rfl rfl)
theorem cw_M_92 : wk_cw RM 92 yM_plain cM_plain 5 none 3 := ⟨(lw_gm 722 (by decide +kernel) rfl), (lw_gm 61 (by decide +kernel) rfl), wd_yM_plain, rfl, by decide +kernel, by decide +kernel, by decide +kernel⟩
set_option maxRecDepth 100000 in
theorem wd_yM_write : Cond.code yM_write cM_write 6 (some .int) ∈ lw_g := (lw_gm 717 rfl rfl)
theorem cw_M_96 : wk_cw RM 96 yM_write cM_write 6 (some .int) 1 := ⟨(lw_gm 714 (by decide +kernel) rfl), (lw_gm 61 (by decide +kernel) rfl), wd_yM_write, rfl, by decide +kernel, by decide +kernel, by decide +kernel⟩
set_option maxRecDepth 100000 in
theorem wd_yM_keep : Cond.code yM_keep cM_keep 3 (some .int) ∈ lw_g := (lw_gm 729 rfl rfl)
theorem cw_M_99 : wk_cw RM 99 yM_keep cM_keep 3 (some .int) 1 := ⟨(lw_gm 726 (by decide +kernel) rfl), (lw_gm 61 (by decide +kernel) rfl), wd_yM_keep, rfl, by decide +kernel, by decide +kernel, by decide +kernel⟩
set_option maxRecDepth 100000 in
theorem wd_yM_round : Cond.code yM_round cM_round 5 none ∈ lw_g := (lw_gm 661 rfl rfl)
theorem cw_M_102 : wk_cw RM 102 yM_round cM_round 5 none 2 := ⟨(lw_gm 658 (by decide +kernel) rfl), (lw_gm 61 (by decide +kernel) rfl), wd_yM_round, rfl, by decide +kernel, by decide +kernel, by decide +kernel⟩
set_option maxRecDepth 100000 in
theorem wd_yM_multiply : Cond.code yM_multiply cM_multiply 8 none ∈ lw_g := (lw_gm 689 rfl rfl)
theorem cw_M_105 : wk_cw RM 105 yM_multiply cM_multiply 8 none 3 := ⟨(lw_gm 686 (by decide +kernel) rfl), (lw_gm 61 (by decide +kernel) rfl), wd_yM_multiply, rfl, by decide +kernel, by decide +kernel, by decide +kernel⟩
set_option maxRecDepth 100000 in
theorem wd_yM_noZeros : Cond.code yM_noZeros cM_noZeros 2 none ∈ lw_g := (lw_gm 701 rfl rfl)
theorem cw_M_108 : wk_cw RM 108 yM_noZeros cM_noZeros 2 none 1 := ⟨(lw_gm 698 (by decide +kernel) rfl), (lw_gm 61 (by decide +kernel) rfl), wd_yM_noZeros, rfl, by decide +kernel, by decide +kernel, by decide +kernel⟩
set_option maxRecDepth 100000 in
theorem wd_yM_add : Cond.code yM_add cM_add 13 none ∈ lw_g := (lw_gm 681 rfl rfl)
theorem cw_M_111 : wk_cw RM 111 yM_add cM_add 13 none 4 := ⟨(lw_gm 678 (by decide +kernel) rfl), (lw_gm 61 (by decide +kernel) rfl), wd_yM_add, rfl, by decide +kernel, by decide +kernel, by decide +kernel⟩
set_option maxRecDepth 100000 in
theorem wd_yM_part : Cond.code yM_part cM_part 9 (some .boolean) ∈ lw_g := (lw_gm 705 rfl rfl)
theorem cw_M_115 : wk_cw RM 115 yM_part cM_part 9 (some .boolean) 3 := ⟨(lw_gm 702 (by decide +kernel) rfl), (lw_gm 61 (by decide +kernel) rfl), wd_yM_part, rfl, by decide +kernel, by decide +kernel, by decide +kernel⟩
set_option maxRecDepth 100000 in
theorem wd_yM_raise : Cond.code yM_raise cM_raise 5 (some .int) ∈ lw_g := (lw_gm 709 rfl rfl)
theorem cw_M_119 : wk_cw RM 119 yM_raise cM_raise 5 (some .int) 1 := ⟨(lw_gm 706 (by decide +kernel) rfl), (lw_gm 61 (by decide +kernel) rfl), wd_yM_raise, rfl, by decide +kernel, by decide +kernel, by decide +kernel⟩
set_option maxRecDepth 100000 in
theorem wd_yM_read : Cond.code yM_read cM_read 12 (some .boolean) ∈ lw_g := (lw_gm 642 rfl rfl)
theorem cw_M_122 : wk_cw RM 122 yM_read cM_read 12 (some .boolean) 2 := ⟨(lw_gm 639 (by decide +kernel) rfl), (lw_gm 61 (by decide +kernel) rfl), wd_yM_read, rfl, by decide +kernel, by decide +kernel, by decide +kernel⟩
set_option maxRecDepth 100000 in
theorem wd_yM_isWhole : Cond.code yM_isWhole cM_isWhole 3 (some .boolean) ∈ lw_g := (lw_gm 657 rfl rfl)
theorem cw_M_126 : wk_cw RM 126 yM_isWhole cM_isWhole 3 (some .boolean) 1 := ⟨(lw_gm 654 (by decide +kernel) rfl), (lw_gm 61 (by decide +kernel) rfl), wd_yM_isWhole, rfl, by decide +kernel, by decide +kernel, by decide +kernel⟩
set_option maxRecDepth 100000 in
theorem wd_yM_valueOf : Cond.code yM_valueOf cM_valueOf 4 (some .int) ∈ lw_g := (lw_gm 673 rfl rfl)
theorem cw_M_129 : wk_cw RM 129 yM_valueOf cM_valueOf 4 (some .int) 1 := ⟨(lw_gm 670 (by decide +kernel) rfl), (lw_gm 61 (by decide +kernel) rfl), wd_yM_valueOf, rfl, by decide +kernel, by decide +kernel, by decide +kernel⟩
set_option maxRecDepth 100000 in
theorem wd_yM_worked : Cond.code yM_worked cM_worked 3 (some .int) ∈ lw_g := (lw_gm 677 rfl rfl)
theorem cw_M_132 : wk_cw RM 132 yM_worked cM_worked 3 (some .int) 2 := ⟨(lw_gm 674 (by decide +kernel) rfl), (lw_gm 61 (by decide +kernel) rfl), wd_yM_worked, rfl, by decide +kernel, by decide +kernel, by decide +kernel⟩
set_option maxRecDepth 100000 in
theorem wd_yM_answer : Cond.code yM_answer cM_answer 4 (some .int) ∈ lw_g := (lw_gm 713 rfl rfl)
theorem cw_M_135 : wk_cw RM 135 yM_answer cM_answer 4 (some .int) 2 := ⟨(lw_gm 710 (by decide +kernel) rfl), (lw_gm 61 (by decide +kernel) rfl), wd_yM_answer, rfl, by decide +kernel, by decide +kernel, by decide +kernel⟩
set_option maxRecDepth 100000 in
theorem wd_yM_strictly : Cond.code yM_strictly cM_strictly 4 (some .int) ∈ lw_g := (lw_gm 753 rfl rfl)
theorem cw_M_138 : wk_cw RM 138 yM_strictly cM_strictly 4 (some .int) 2 := ⟨(lw_gm 750 (by decide +kernel) rfl), (lw_gm 61 (by decide +kernel) rfl), wd_yM_strictly, rfl, by decide +kernel, by decide +kernel, by decide +kernel⟩
set_option maxRecDepth 100000 in
theorem wd_yM_told : Cond.code yM_told cM_told 1 (some .int) ∈ lw_g := (lw_gm 756 rfl rfl)
theorem cw_M_141 : wk_cw RM 141 yM_told cM_told 1 (some .int) 1 := ⟨(lw_gm 754 (by decide +kernel) rfl), (lw_gm 61 (by decide +kernel) rfl), wd_yM_told, rfl, by decide +kernel, by decide +kernel, by decide +kernel⟩
set_option maxRecDepth 100000 in
theorem wd_yM_loosely : Cond.code yM_loosely cM_loosely 9 (some .int) ∈ lw_g := (lw_gm 760 rfl rfl)
theorem cw_M_144 : wk_cw RM 144 yM_loosely cM_loosely 9 (some .int) 2 := ⟨(lw_gm 757 (by decide +kernel) rfl), (lw_gm 61 (by decide +kernel) rfl), wd_yM_loosely, rfl, by decide +kernel, by decide +kernel, by decide +kernel⟩
theorem ws_D_looseOrder : Cond.static yD_looseOrder ∈ lw_g := (lw_gm 525 (by decide +kernel) rfl)
theorem ws_D_placesAhead : Cond.static yD_placesAhead ∈ lw_g := (lw_gm 492 (by decide +kernel) rfl)
theorem ws_D_standing : Cond.static yD_standing ∈ lw_g := (lw_gm 519 (by decide +kernel) rfl)
theorem ws_D_strictOrder : Cond.static yD_strictOrder ∈ lw_g := (lw_gm 522 (by decide +kernel) rfl)
theorem ws_R_isDigit : Cond.static yR_isDigit ∈ lw_g := (lw_gm 291 (by decide +kernel) rfl)
theorem ws_K_crossSum : Cond.static yK_crossSum ∈ lw_g := (lw_gm 373 (by decide +kernel) rfl)
theorem ws_K_isBelow : Cond.static yK_isBelow ∈ lw_g := (lw_gm 365 (by decide +kernel) rfl)
theorem ws_M_isDigit : Cond.static yM_isDigit ∈ lw_g := (lw_gm 644 (by decide +kernel) rfl)
theorem ws_M_isRegister : Cond.static yM_isRegister ∈ lw_g := (lw_gm 613 (by decide +kernel) rfl)
theorem ws_M_told : Cond.static yM_told ∈ lw_g := (lw_gm 755 (by decide +kernel) rfl)
theorem ws_A_floorMod : Cond.static yA_floorMod ∈ lw_g := (lw_gm 462 (by decide +kernel) rfl)
theorem wi_D_about : Cond.instanceMethod yD_about ∈ lw_g ∧ Cond.selects RD yD_about yD_about ∈ lw_g := ⟨(lw_gm 543 (by decide +kernel) rfl), (lw_gm 544 (by decide +kernel) rfl)⟩
theorem wi_D_at : Cond.instanceMethod yD_at ∈ lw_g ∧ Cond.selects RD yD_at yD_at ∈ lw_g := ⟨(lw_gm 241 (by decide +kernel) rfl), (lw_gm 242 (by decide +kernel) rfl)⟩
theorem wi_D_column : Cond.instanceMethod yD_column ∈ lw_g ∧ Cond.selects RD yD_column yD_column ∈ lw_g := ⟨(lw_gm 503 (by decide +kernel) rfl), (lw_gm 504 (by decide +kernel) rfl)⟩
theorem wi_D_compare : Cond.instanceMethod yD_compare ∈ lw_g ∧ Cond.selects RD yD_compare yD_compare ∈ lw_g := ⟨(lw_gm 515 (by decide +kernel) rfl), (lw_gm 516 (by decide +kernel) rfl)⟩
theorem wi_D_cut : Cond.instanceMethod yD_cut ∈ lw_g ∧ Cond.selects RD yD_cut yD_cut ∈ lw_g := ⟨(lw_gm 486 (by decide +kernel) rfl), (lw_gm 487 (by decide +kernel) rfl)⟩
theorem wi_D_digits : Cond.instanceMethod yD_digits ∈ lw_g ∧ Cond.selects RD yD_digits yD_digits ∈ lw_g := ⟨(lw_gm 246 (by decide +kernel) rfl), (lw_gm 247 (by decide +kernel) rfl)⟩
theorem wi_D_end : Cond.instanceMethod yD_end ∈ lw_g ∧ Cond.selects RD yD_end yD_end ∈ lw_g := ⟨(lw_gm 217 (by decide +kernel) rfl), (lw_gm 218 (by decide +kernel) rfl)⟩
theorem wi_D_feed : Cond.instanceMethod yD_feed ∈ lw_g ∧ Cond.selects RD yD_feed yD_feed ∈ lw_g := ⟨(lw_gm 205 (by decide +kernel) rfl), (lw_gm 206 (by decide +kernel) rfl)⟩
theorem wi_D_find : Cond.instanceMethod yD_find ∈ lw_g ∧ Cond.selects RD yD_find yD_find ∈ lw_g := ⟨(lw_gm 226 (by decide +kernel) rfl), (lw_gm 0 (by decide +kernel) rfl)⟩
theorem wi_D_form : Cond.instanceMethod yD_form ∈ lw_g ∧ Cond.selects RD yD_form yD_form ∈ lw_g := ⟨(lw_gm 254 (by decide +kernel) rfl), (lw_gm 255 (by decide +kernel) rfl)⟩
theorem wi_D_fuzz : Cond.instanceMethod yD_fuzz ∈ lw_g ∧ Cond.selects RD yD_fuzz yD_fuzz ∈ lw_g := ⟨(lw_gm 250 (by decide +kernel) rfl), (lw_gm 251 (by decide +kernel) rfl)⟩
theorem wi_D_keepPage : Cond.instanceMethod yD_keepPage ∈ lw_g ∧ Cond.selects RD yD_keepPage yD_keepPage ∈ lw_g := ⟨(lw_gm 472 (by decide +kernel) rfl), (lw_gm 26 (by decide +kernel) rfl)⟩
theorem wi_D_layOut : Cond.instanceMethod yD_layOut ∈ lw_g ∧ Cond.selects RD yD_layOut yD_layOut ∈ lw_g := ⟨(lw_gm 497 (by decide +kernel) rfl), (lw_gm 27 (by decide +kernel) rfl)⟩
theorem wi_D_load : Cond.instanceMethod yD_load ∈ lw_g ∧ Cond.selects RD yD_load yD_load ∈ lw_g := ⟨(lw_gm 267 (by decide +kernel) rfl), (lw_gm 2 (by decide +kernel) rfl)⟩
theorem wi_D_loadBoth : Cond.instanceMethod yD_loadBoth ∈ lw_g ∧ Cond.selects RD yD_loadBoth yD_loadBoth ∈ lw_g := ⟨(lw_gm 263 (by decide +kernel) rfl), (lw_gm 1 (by decide +kernel) rfl)⟩
theorem wi_D_most : Cond.instanceMethod yD_most ∈ lw_g ∧ Cond.selects RD yD_most yD_most ∈ lw_g := ⟨(lw_gm 481 (by decide +kernel) rfl), (lw_gm 482 (by decide +kernel) rfl)⟩
theorem wi_D_put : Cond.instanceMethod yD_put ∈ lw_g ∧ Cond.selects RD yD_put yD_put ∈ lw_g := ⟨(lw_gm 221 (by decide +kernel) rfl), (lw_gm 222 (by decide +kernel) rfl)⟩
theorem wi_D_size : Cond.instanceMethod yD_size ∈ lw_g ∧ Cond.selects RD yD_size yD_size ∈ lw_g := ⟨(lw_gm 237 (by decide +kernel) rfl), (lw_gm 238 (by decide +kernel) rfl)⟩
theorem wi_D_turn : Cond.instanceMethod yD_turn ∈ lw_g ∧ Cond.selects RD yD_turn yD_turn ∈ lw_g := ⟨(lw_gm 475 (by decide +kernel) rfl), (lw_gm 476 (by decide +kernel) rfl)⟩
theorem wi_D_whole : Cond.instanceMethod yD_whole ∈ lw_g ∧ Cond.selects RD yD_whole yD_whole ∈ lw_g := ⟨(lw_gm 536 (by decide +kernel) rfl), (lw_gm 537 (by decide +kernel) rfl)⟩
theorem wi_D_work : Cond.instanceMethod yD_work ∈ lw_g ∧ Cond.selects RD yD_work yD_work ∈ lw_g := ⟨(lw_gm 258 (by decide +kernel) rfl), (lw_gm 259 (by decide +kernel) rfl)⟩
theorem wi_D_write : Cond.instanceMethod yD_write ∈ lw_g ∧ Cond.selects RD yD_write yD_write ∈ lw_g := ⟨(lw_gm 431 (by decide +kernel) rfl), (lw_gm 22 (by decide +kernel) rfl)⟩
theorem wi_L_add : Cond.instanceMethod yL_add ∈ lw_g ∧ Cond.selects RL yL_add yL_add ∈ lw_g := ⟨(lw_gm 213 (by decide +kernel) rfl), (lw_gm 214 (by decide +kernel) rfl)⟩
theorem wi_L_addInt : Cond.instanceMethod yL_addInt ∈ lw_g ∧ Cond.selects RL yL_addInt yL_addInt ∈ lw_g := ⟨(lw_gm 209 (by decide +kernel) rfl), (lw_gm 210 (by decide +kernel) rfl)⟩
theorem wi_L_byteAt : Cond.instanceMethod yL_byteAt ∈ lw_g ∧ Cond.selects RL yL_byteAt yL_byteAt ∈ lw_g := ⟨(lw_gm 233 (by decide +kernel) rfl), (lw_gm 234 (by decide +kernel) rfl)⟩
theorem wi_L_byteOrBlank : Cond.instanceMethod yL_byteOrBlank ∈ lw_g ∧ Cond.selects RL yL_byteOrBlank yL_byteOrBlank ∈ lw_g := ⟨(lw_gm 532 (by decide +kernel) rfl), (lw_gm 533 (by decide +kernel) rfl)⟩
theorem wi_L_copy : Cond.instanceMethod yL_copy ∈ lw_g ∧ Cond.selects RL yL_copy yL_copy ∈ lw_g := ⟨(lw_gm 229 (by decide +kernel) rfl), (lw_gm 230 (by decide +kernel) rfl)⟩
theorem wi_L_firstInk : Cond.instanceMethod yL_firstInk ∈ lw_g ∧ Cond.selects RL yL_firstInk yL_firstInk ∈ lw_g := ⟨(lw_gm 528 (by decide +kernel) rfl), (lw_gm 529 (by decide +kernel) rfl)⟩
theorem wi_N_ahead : Cond.instanceMethod yN_ahead ∈ lw_g ∧ Cond.selects RN yN_ahead yN_ahead ∈ lw_g := ⟨(lw_gm 340 (by decide +kernel) rfl), (lw_gm 341 (by decide +kernel) rfl)⟩
theorem wi_N_becomeUnit : Cond.instanceMethod yN_becomeUnit ∈ lw_g ∧ Cond.selects RN yN_becomeUnit yN_becomeUnit ∈ lw_g := ⟨(lw_gm 344 (by decide +kernel) rfl), (lw_gm 345 (by decide +kernel) rfl)⟩
theorem wi_N_clear : Cond.instanceMethod yN_clear ∈ lw_g ∧ Cond.selects RN yN_clear yN_clear ∈ lw_g := ⟨(lw_gm 274 (by decide +kernel) rfl), (lw_gm 275 (by decide +kernel) rfl)⟩
theorem wi_N_copy : Cond.instanceMethod yN_copy ∈ lw_g ∧ Cond.selects RN yN_copy yN_copy ∈ lw_g := ⟨(lw_gm 329 (by decide +kernel) rfl), (lw_gm 330 (by decide +kernel) rfl)⟩
theorem wi_N_countUp : Cond.instanceMethod yN_countUp ∈ lw_g ∧ Cond.selects RN yN_countUp yN_countUp ∈ lw_g := ⟨(lw_gm 315 (by decide +kernel) rfl), (lw_gm 7 (by decide +kernel) rfl)⟩
theorem wi_N_digit : Cond.instanceMethod yN_digit ∈ lw_g ∧ Cond.selects RN yN_digit yN_digit ∈ lw_g := ⟨(lw_gm 310 (by decide +kernel) rfl), (lw_gm 311 (by decide +kernel) rfl)⟩
theorem wi_N_digitAtPower : Cond.instanceMethod yN_digitAtPower ∈ lw_g ∧ Cond.selects RN yN_digitAtPower yN_digitAtPower ∈ lw_g := ⟨(lw_gm 354 (by decide +kernel) rfl), (lw_gm 355 (by decide +kernel) rfl)⟩
theorem wi_N_dropEndZeros : Cond.instanceMethod yN_dropEndZeros ∈ lw_g ∧ Cond.selects RN yN_dropEndZeros yN_dropEndZeros ∈ lw_g := ⟨(lw_gm 401 (by decide +kernel) rfl), (lw_gm 402 (by decide +kernel) rfl)⟩
theorem wi_N_firstPower : Cond.instanceMethod yN_firstPower ∈ lw_g ∧ Cond.selects RN yN_firstPower yN_firstPower ∈ lw_g := ⟨(lw_gm 438 (by decide +kernel) rfl), (lw_gm 439 (by decide +kernel) rfl)⟩
theorem wi_N_places : Cond.instanceMethod yN_places ∈ lw_g ∧ Cond.selects RN yN_places yN_places ∈ lw_g := ⟨(lw_gm 443 (by decide +kernel) rfl), (lw_gm 444 (by decide +kernel) rfl)⟩
theorem wi_N_push : Cond.instanceMethod yN_push ∈ lw_g ∧ Cond.selects RN yN_push yN_push ∈ lw_g := ⟨(lw_gm 294 (by decide +kernel) rfl), (lw_gm 295 (by decide +kernel) rfl)⟩
theorem wi_N_roundTo : Cond.instanceMethod yN_roundTo ∈ lw_g ∧ Cond.selects RN yN_roundTo yN_roundTo ∈ lw_g := ⟨(lw_gm 306 (by decide +kernel) rfl), (lw_gm 307 (by decide +kernel) rfl)⟩
theorem wi_N_roundToPlaces : Cond.instanceMethod yN_roundToPlaces ∈ lw_g ∧ Cond.selects RN yN_roundToPlaces yN_roundToPlaces ∈ lw_g := ⟨(lw_gm 508 (by decide +kernel) rfl), (lw_gm 509 (by decide +kernel) rfl)⟩
theorem wi_N_settle : Cond.instanceMethod yN_settle ∈ lw_g ∧ Cond.selects RN yN_settle yN_settle ∈ lw_g := ⟨(lw_gm 302 (by decide +kernel) rfl), (lw_gm 303 (by decide +kernel) rfl)⟩
theorem wi_N_wholeValue : Cond.instanceMethod yN_wholeValue ∈ lw_g ∧ Cond.selects RN yN_wholeValue yN_wholeValue ∈ lw_g := ⟨(lw_gm 413 (by decide +kernel) rfl), (lw_gm 414 (by decide +kernel) rfl)⟩
theorem wi_R_read : Cond.instanceMethod yR_read ∈ lw_g ∧ Cond.selects RR yR_read yR_read ∈ lw_g := ⟨(lw_gm 270 (by decide +kernel) rfl), (lw_gm 271 (by decide +kernel) rfl)⟩
theorem wi_R_readDigits : Cond.instanceMethod yR_readDigits ∈ lw_g ∧ Cond.selects RR yR_readDigits yR_readDigits ∈ lw_g := ⟨(lw_gm 288 (by decide +kernel) rfl), (lw_gm 5 (by decide +kernel) rfl)⟩
theorem wi_R_readExponent : Cond.instanceMethod yR_readExponent ∈ lw_g ∧ Cond.selects RR yR_readExponent yR_readExponent ∈ lw_g := ⟨(lw_gm 299 (by decide +kernel) rfl), (lw_gm 6 (by decide +kernel) rfl)⟩
theorem wi_R_readSign : Cond.instanceMethod yR_readSign ∈ lw_g ∧ Cond.selects RR yR_readSign yR_readSign ∈ lw_g := ⟨(lw_gm 284 (by decide +kernel) rfl), (lw_gm 4 (by decide +kernel) rfl)⟩
theorem wi_R_skipBlanks : Cond.instanceMethod yR_skipBlanks ∈ lw_g ∧ Cond.selects RR yR_skipBlanks yR_skipBlanks ∈ lw_g := ⟨(lw_gm 279 (by decide +kernel) rfl), (lw_gm 3 (by decide +kernel) rfl)⟩
theorem wi_K_bringDown : Cond.instanceMethod yK_bringDown ∈ lw_g ∧ Cond.selects RK yK_bringDown yK_bringDown ∈ lw_g := ⟨(lw_gm 385 (by decide +kernel) rfl), (lw_gm 14 (by decide +kernel) rfl)⟩
theorem wi_K_divide : Cond.instanceMethod yK_divide ∈ lw_g ∧ Cond.selects RK yK_divide yK_divide ∈ lw_g := ⟨(lw_gm 381 (by decide +kernel) rfl), (lw_gm 13 (by decide +kernel) rfl)⟩
theorem wi_K_fillCells : Cond.instanceMethod yK_fillCells ∈ lw_g ∧ Cond.selects RK yK_fillCells yK_fillCells ∈ lw_g := ⟨(lw_gm 351 (by decide +kernel) rfl), (lw_gm 9 (by decide +kernel) rfl)⟩
theorem wi_K_holdsDivisor : Cond.instanceMethod yK_holdsDivisor ∈ lw_g ∧ Cond.selects RK yK_holdsDivisor yK_holdsDivisor ∈ lw_g := ⟨(lw_gm 393 (by decide +kernel) rfl), (lw_gm 16 (by decide +kernel) rfl)⟩
theorem wi_K_multiplyInto : Cond.instanceMethod yK_multiplyInto ∈ lw_g ∧ Cond.selects RK yK_multiplyInto yK_multiplyInto ∈ lw_g := ⟨(lw_gm 427 (by decide +kernel) rfl), (lw_gm 21 (by decide +kernel) rfl)⟩
theorem wi_K_nearTo : Cond.instanceMethod yK_nearTo ∈ lw_g ∧ Cond.selects RK yK_nearTo yK_nearTo ∈ lw_g := ⟨(lw_gm 337 (by decide +kernel) rfl), (lw_gm 8 (by decide +kernel) rfl)⟩
theorem wi_K_partOf : Cond.instanceMethod yK_partOf ∈ lw_g ∧ Cond.selects RK yK_partOf yK_partOf ∈ lw_g := ⟨(lw_gm 406 (by decide +kernel) rfl), (lw_gm 18 (by decide +kernel) rfl)⟩
theorem wi_K_powerOf : Cond.instanceMethod yK_powerOf ∈ lw_g ∧ Cond.selects RK yK_powerOf yK_powerOf ∈ lw_g := ⟨(lw_gm 420 (by decide +kernel) rfl), (lw_gm 20 (by decide +kernel) rfl)⟩
theorem wi_K_product : Cond.instanceMethod yK_product ∈ lw_g ∧ Cond.selects RK yK_product yK_product ∈ lw_g := ⟨(lw_gm 370 (by decide +kernel) rfl), (lw_gm 11 (by decide +kernel) rfl)⟩
theorem wi_K_quotient : Cond.instanceMethod yK_quotient ∈ lw_g ∧ Cond.selects RK yK_quotient yK_quotient ∈ lw_g := ⟨(lw_gm 377 (by decide +kernel) rfl), (lw_gm 12 (by decide +kernel) rfl)⟩
theorem wi_K_reckon : Cond.instanceMethod yK_reckon ∈ lw_g ∧ Cond.selects RK yK_reckon yK_reckon ∈ lw_g := ⟨(lw_gm 321 (by decide +kernel) rfl), (lw_gm 322 (by decide +kernel) rfl)⟩
theorem wi_K_restOf : Cond.instanceMethod yK_restOf ∈ lw_g ∧ Cond.selects RK yK_restOf yK_restOf ∈ lw_g := ⟨(lw_gm 410 (by decide +kernel) rfl), (lw_gm 19 (by decide +kernel) rfl)⟩
theorem wi_K_sum : Cond.instanceMethod yK_sum ∈ lw_g ∧ Cond.selects RK yK_sum yK_sum ∈ lw_g := ⟨(lw_gm 325 (by decide +kernel) rfl), (lw_gm 326 (by decide +kernel) rfl)⟩
theorem wi_K_takeAwayAll : Cond.instanceMethod yK_takeAwayAll ∈ lw_g ∧ Cond.selects RK yK_takeAwayAll yK_takeAwayAll ∈ lw_g := ⟨(lw_gm 389 (by decide +kernel) rfl), (lw_gm 15 (by decide +kernel) rfl)⟩
theorem wi_K_takeAwayOnce : Cond.instanceMethod yK_takeAwayOnce ∈ lw_g ∧ Cond.selects RK yK_takeAwayOnce yK_takeAwayOnce ∈ lw_g := ⟨(lw_gm 397 (by decide +kernel) rfl), (lw_gm 17 (by decide +kernel) rfl)⟩
theorem wi_K_takeCells : Cond.instanceMethod yK_takeCells ∈ lw_g ∧ Cond.selects RK yK_takeCells yK_takeCells ∈ lw_g := ⟨(lw_gm 359 (by decide +kernel) rfl), (lw_gm 10 (by decide +kernel) rfl)⟩
theorem wi_T_addExponent : Cond.instanceMethod yT_addExponent ∈ lw_g ∧ Cond.selects RT yT_addExponent yT_addExponent ∈ lw_g := ⟨(lw_gm 467 (by decide +kernel) rfl), (lw_gm 25 (by decide +kernel) rfl)⟩
theorem wi_T_addPlain : Cond.instanceMethod yT_addPlain ∈ lw_g ∧ Cond.selects RT yT_addPlain yT_addPlain ∈ lw_g := ⟨(lw_gm 447 (by decide +kernel) rfl), (lw_gm 448 (by decide +kernel) rfl)⟩
theorem wi_T_addSign : Cond.instanceMethod yT_addSign ∈ lw_g ∧ Cond.selects RT yT_addSign yT_addSign ∈ lw_g := ⟨(lw_gm 452 (by decide +kernel) rfl), (lw_gm 23 (by decide +kernel) rfl)⟩
theorem wi_T_addWithExponent : Cond.instanceMethod yT_addWithExponent ∈ lw_g ∧ Cond.selects RT yT_addWithExponent yT_addWithExponent ∈ lw_g := ⟨(lw_gm 459 (by decide +kernel) rfl), (lw_gm 24 (by decide +kernel) rfl)⟩
theorem wi_T_write : Cond.instanceMethod yT_write ∈ lw_g ∧ Cond.selects RT yT_write yT_write ∈ lw_g := ⟨(lw_gm 434 (by decide +kernel) rfl), (lw_gm 435 (by decide +kernel) rfl)⟩
theorem wi_M_about : Cond.instanceMethod yM_about ∈ lw_g ∧ Cond.selects RM yM_about yM_about ∈ lw_g := ⟨(lw_gm 768 (by decide +kernel) rfl), (lw_gm 769 (by decide +kernel) rfl)⟩
theorem wi_M_add : Cond.instanceMethod yM_add ∈ lw_g ∧ Cond.selects RM yM_add yM_add ∈ lw_g := ⟨(lw_gm 680 (by decide +kernel) rfl), (lw_gm 38 (by decide +kernel) rfl)⟩
theorem wi_M_answer : Cond.instanceMethod yM_answer ∈ lw_g ∧ Cond.selects RM yM_answer yM_answer ∈ lw_g := ⟨(lw_gm 712 (by decide +kernel) rfl), (lw_gm 46 (by decide +kernel) rfl)⟩
theorem wi_M_at : Cond.instanceMethod yM_at ∈ lw_g ∧ Cond.selects RM yM_at yM_at ∈ lw_g := ⟨(lw_gm 620 (by decide +kernel) rfl), (lw_gm 621 (by decide +kernel) rfl)⟩
theorem wi_M_column : Cond.instanceMethod yM_column ∈ lw_g ∧ Cond.selects RM yM_column yM_column ∈ lw_g := ⟨(lw_gm 743 (by decide +kernel) rfl), (lw_gm 744 (by decide +kernel) rfl)⟩
theorem wi_M_compare : Cond.instanceMethod yM_compare ∈ lw_g ∧ Cond.selects RM yM_compare yM_compare ∈ lw_g := ⟨(lw_gm 747 (by decide +kernel) rfl), (lw_gm 748 (by decide +kernel) rfl)⟩
theorem wi_M_copy : Cond.instanceMethod yM_copy ∈ lw_g ∧ Cond.selects RM yM_copy yM_copy ∈ lw_g := ⟨(lw_gm 684 (by decide +kernel) rfl), (lw_gm 39 (by decide +kernel) rfl)⟩
theorem wi_M_cut : Cond.instanceMethod yM_cut ∈ lw_g ∧ Cond.selects RM yM_cut yM_cut ∈ lw_g := ⟨(lw_gm 739 (by decide +kernel) rfl), (lw_gm 740 (by decide +kernel) rfl)⟩
theorem wi_M_digit : Cond.instanceMethod yM_digit ∈ lw_g ∧ Cond.selects RM yM_digit yM_digit ∈ lw_g := ⟨(lw_gm 668 (by decide +kernel) rfl), (lw_gm 35 (by decide +kernel) rfl)⟩
theorem wi_M_digits : Cond.instanceMethod yM_digits ∈ lw_g ∧ Cond.selects RM yM_digits yM_digits ∈ lw_g := ⟨(lw_gm 624 (by decide +kernel) rfl), (lw_gm 625 (by decide +kernel) rfl)⟩
theorem wi_M_divide : Cond.instanceMethod yM_divide ∈ lw_g ∧ Cond.selects RM yM_divide yM_divide ∈ lw_g := ⟨(lw_gm 692 (by decide +kernel) rfl), (lw_gm 41 (by decide +kernel) rfl)⟩
theorem wi_M_end : Cond.instanceMethod yM_end ∈ lw_g ∧ Cond.selects RM yM_end yM_end ∈ lw_g := ⟨(lw_gm 605 (by decide +kernel) rfl), (lw_gm 606 (by decide +kernel) rfl)⟩
theorem wi_M_feed : Cond.instanceMethod yM_feed ∈ lw_g ∧ Cond.selects RM yM_feed yM_feed ∈ lw_g := ⟨(lw_gm 597 (by decide +kernel) rfl), (lw_gm 598 (by decide +kernel) rfl)⟩
theorem wi_M_form : Cond.instanceMethod yM_form ∈ lw_g ∧ Cond.selects RM yM_form yM_form ∈ lw_g := ⟨(lw_gm 632 (by decide +kernel) rfl), (lw_gm 633 (by decide +kernel) rfl)⟩
theorem wi_M_four : Cond.instanceMethod yM_four ∈ lw_g ∧ Cond.selects RM yM_four yM_four ∈ lw_g := ⟨(lw_gm 602 (by decide +kernel) rfl), (lw_gm 28 (by decide +kernel) rfl)⟩
theorem wi_M_fuzz : Cond.instanceMethod yM_fuzz ∈ lw_g ∧ Cond.selects RM yM_fuzz yM_fuzz ∈ lw_g := ⟨(lw_gm 628 (by decide +kernel) rfl), (lw_gm 629 (by decide +kernel) rfl)⟩
theorem wi_M_high : Cond.instanceMethod yM_high ∈ lw_g ∧ Cond.selects RM yM_high yM_high ∈ lw_g := ⟨(lw_gm 664 (by decide +kernel) rfl), (lw_gm 34 (by decide +kernel) rfl)⟩
theorem wi_M_isEnough : Cond.instanceMethod yM_isEnough ∈ lw_g ∧ Cond.selects RM yM_isEnough yM_isEnough ∈ lw_g := ⟨(lw_gm 696 (by decide +kernel) rfl), (lw_gm 42 (by decide +kernel) rfl)⟩
theorem wi_M_isWhole : Cond.instanceMethod yM_isWhole ∈ lw_g ∧ Cond.selects RM yM_isWhole yM_isWhole ∈ lw_g := ⟨(lw_gm 656 (by decide +kernel) rfl), (lw_gm 32 (by decide +kernel) rfl)⟩
theorem wi_M_keep : Cond.instanceMethod yM_keep ∈ lw_g ∧ Cond.selects RM yM_keep yM_keep ∈ lw_g := ⟨(lw_gm 728 (by decide +kernel) rfl), (lw_gm 50 (by decide +kernel) rfl)⟩
theorem wi_M_letter : Cond.instanceMethod yM_letter ∈ lw_g ∧ Cond.selects RM yM_letter yM_letter ∈ lw_g := ⟨(lw_gm 720 (by decide +kernel) rfl), (lw_gm 48 (by decide +kernel) rfl)⟩
theorem wi_M_loosely : Cond.instanceMethod yM_loosely ∈ lw_g ∧ Cond.selects RM yM_loosely yM_loosely ∈ lw_g := ⟨(lw_gm 759 (by decide +kernel) rfl), (lw_gm 52 (by decide +kernel) rfl)⟩
theorem wi_M_most : Cond.instanceMethod yM_most ∈ lw_g ∧ Cond.selects RM yM_most yM_most ∈ lw_g := ⟨(lw_gm 735 (by decide +kernel) rfl), (lw_gm 736 (by decide +kernel) rfl)⟩
theorem wi_M_multiply : Cond.instanceMethod yM_multiply ∈ lw_g ∧ Cond.selects RM yM_multiply yM_multiply ∈ lw_g := ⟨(lw_gm 688 (by decide +kernel) rfl), (lw_gm 40 (by decide +kernel) rfl)⟩
theorem wi_M_noZeros : Cond.instanceMethod yM_noZeros ∈ lw_g ∧ Cond.selects RM yM_noZeros yM_noZeros ∈ lw_g := ⟨(lw_gm 700 (by decide +kernel) rfl), (lw_gm 43 (by decide +kernel) rfl)⟩
theorem wi_M_part : Cond.instanceMethod yM_part ∈ lw_g ∧ Cond.selects RM yM_part yM_part ∈ lw_g := ⟨(lw_gm 704 (by decide +kernel) rfl), (lw_gm 44 (by decide +kernel) rfl)⟩
theorem wi_M_plain : Cond.instanceMethod yM_plain ∈ lw_g ∧ Cond.selects RM yM_plain yM_plain ∈ lw_g := ⟨(lw_gm 724 (by decide +kernel) rfl), (lw_gm 49 (by decide +kernel) rfl)⟩
theorem wi_M_put : Cond.instanceMethod yM_put ∈ lw_g ∧ Cond.selects RM yM_put yM_put ∈ lw_g := ⟨(lw_gm 609 (by decide +kernel) rfl), (lw_gm 610 (by decide +kernel) rfl)⟩
theorem wi_M_raise : Cond.instanceMethod yM_raise ∈ lw_g ∧ Cond.selects RM yM_raise yM_raise ∈ lw_g := ⟨(lw_gm 708 (by decide +kernel) rfl), (lw_gm 45 (by decide +kernel) rfl)⟩
theorem wi_M_read : Cond.instanceMethod yM_read ∈ lw_g ∧ Cond.selects RM yM_read yM_read ∈ lw_g := ⟨(lw_gm 641 (by decide +kernel) rfl), (lw_gm 29 (by decide +kernel) rfl)⟩
theorem wi_M_round : Cond.instanceMethod yM_round ∈ lw_g ∧ Cond.selects RM yM_round yM_round ∈ lw_g := ⟨(lw_gm 660 (by decide +kernel) rfl), (lw_gm 33 (by decide +kernel) rfl)⟩
theorem wi_M_settle : Cond.instanceMethod yM_settle ∈ lw_g ∧ Cond.selects RM yM_settle yM_settle ∈ lw_g := ⟨(lw_gm 648 (by decide +kernel) rfl), (lw_gm 30 (by decide +kernel) rfl)⟩
theorem wi_M_size : Cond.instanceMethod yM_size ∈ lw_g ∧ Cond.selects RM yM_size yM_size ∈ lw_g := ⟨(lw_gm 616 (by decide +kernel) rfl), (lw_gm 617 (by decide +kernel) rfl)⟩
theorem wi_M_strictly : Cond.instanceMethod yM_strictly ∈ lw_g ∧ Cond.selects RM yM_strictly yM_strictly ∈ lw_g := ⟨(lw_gm 752 (by decide +kernel) rfl), (lw_gm 51 (by decide +kernel) rfl)⟩
theorem wi_M_turn : Cond.instanceMethod yM_turn ∈ lw_g ∧ Cond.selects RM yM_turn yM_turn ∈ lw_g := ⟨(lw_gm 731 (by decide +kernel) rfl), (lw_gm 732 (by decide +kernel) rfl)⟩
theorem wi_M_valueOf : Cond.instanceMethod yM_valueOf ∈ lw_g ∧ Cond.selects RM yM_valueOf yM_valueOf ∈ lw_g := ⟨(lw_gm 672 (by decide +kernel) rfl), (lw_gm 36 (by decide +kernel) rfl)⟩
theorem wi_M_whole : Cond.instanceMethod yM_whole ∈ lw_g ∧ Cond.selects RM yM_whole yM_whole ∈ lw_g := ⟨(lw_gm 762 (by decide +kernel) rfl), (lw_gm 763 (by decide +kernel) rfl)⟩
theorem wi_M_work : Cond.instanceMethod yM_work ∈ lw_g ∧ Cond.selects RM yM_work yM_work ∈ lw_g := ⟨(lw_gm 636 (by decide +kernel) rfl), (lw_gm 637 (by decide +kernel) rfl)⟩
theorem wi_M_worked : Cond.instanceMethod yM_worked ∈ lw_g ∧ Cond.selects RM yM_worked yM_worked ∈ lw_g := ⟨(lw_gm 676 (by decide +kernel) rfl), (lw_gm 37 (by decide +kernel) rfl)⟩
theorem wi_M_write : Cond.instanceMethod yM_write ∈ lw_g ∧ Cond.selects RM yM_write yM_write ∈ lw_g := ⟨(lw_gm 716 (by decide +kernel) rfl), (lw_gm 47 (by decide +kernel) rfl)⟩
theorem wi_M_zero : Cond.instanceMethod yM_zero ∈ lw_g ∧ Cond.selects RM yM_zero yM_zero ∈ lw_g := ⟨(lw_gm 652 (by decide +kernel) rfl), (lw_gm 31 (by decide +kernel) rfl)⟩
theorem kbipush_m42 : (Int8.ofInt (-42)).toInt32 = (-42) := by decide +kernel
theorem kbipush_m41 : (Int8.ofInt (-41)).toInt32 = (-41) := by decide +kernel
theorem kbipush_m40 : (Int8.ofInt (-40)).toInt32 = (-40) := by decide +kernel
theorem kbipush_m26 : (Int8.ofInt (-26)).toInt32 = (-26) := by decide +kernel
theorem kbipush_m5 : (Int8.ofInt (-5)).toInt32 = (-5) := by decide +kernel
theorem kbipush_6 : (Int8.ofInt 6).toInt32 = 6 := by decide +kernel
theorem kbipush_8 : (Int8.ofInt 8).toInt32 = 8 := by decide +kernel
theorem kbipush_9 : (Int8.ofInt 9).toInt32 = 9 := by decide +kernel
theorem kbipush_10 : (Int8.ofInt 10).toInt32 = 10 := by decide +kernel
theorem kbipush_15 : (Int8.ofInt 15).toInt32 = 15 := by decide +kernel
theorem kbipush_20 : (Int8.ofInt 20).toInt32 = 20 := by decide +kernel
theorem kbipush_24 : (Int8.ofInt 24).toInt32 = 24 := by decide +kernel
theorem kbipush_26 : (Int8.ofInt 26).toInt32 = 26 := by decide +kernel
theorem kbipush_30 : (Int8.ofInt 30).toInt32 = 30 := by decide +kernel
theorem kbipush_32 : (Int8.ofInt 32).toInt32 = 32 := by decide +kernel
theorem kbipush_42 : (Int8.ofInt 42).toInt32 = 42 := by decide +kernel
theorem kbipush_43 : (Int8.ofInt 43).toInt32 = 43 := by decide +kernel
theorem kbipush_45 : (Int8.ofInt 45).toInt32 = 45 := by decide +kernel
theorem kbipush_46 : (Int8.ofInt 46).toInt32 = 46 := by decide +kernel
theorem kbipush_48 : (Int8.ofInt 48).toInt32 = 48 := by decide +kernel
theorem kbipush_57 : (Int8.ofInt 57).toInt32 = 57 := by decide +kernel
theorem kbipush_69 : (Int8.ofInt 69).toInt32 = 69 := by decide +kernel
theorem kbipush_99 : (Int8.ofInt 99).toInt32 = 99 := by decide +kernel
theorem kbipush_100 : (Int8.ofInt 100).toInt32 = 100 := by decide +kernel
theorem kbipush_101 : (Int8.ofInt 101).toInt32 = 101 := by decide +kernel
theorem kiconst_m8 : Int32.ofInt (-8) = (-8) := by decide +kernel
theorem kiconst_m1 : Int32.ofInt (-1) = (-1) := by decide +kernel
theorem kiconst_0 : Int32.ofInt 0 = 0 := by decide +kernel
theorem kiconst_1 : Int32.ofInt 1 = 1 := by decide +kernel
theorem kiconst_2 : Int32.ofInt 2 = 2 := by decide +kernel
theorem kiconst_3 : Int32.ofInt 3 = 3 := by decide +kernel
theorem kiconst_4 : Int32.ofInt 4 = 4 := by decide +kernel
theorem kiconst_5 : Int32.ofInt 5 = 5 := by decide +kernel
theorem kiconst_6 : Int32.ofInt 6 = 6 := by decide +kernel
theorem ksipush_m999 : (Int16.ofInt (-999)).toInt32 = (-999) := by decide +kernel
theorem ksipush_200 : (Int16.ofInt 200).toInt32 = 200 := by decide +kernel
theorem ksipush_240 : (Int16.ofInt 240).toInt32 = 240 := by decide +kernel
theorem ksipush_255 : (Int16.ofInt 255).toInt32 = 255 := by decide +kernel
theorem ksipush_300 : (Int16.ofInt 300).toInt32 = 300 := by decide +kernel
theorem ksipush_999 : (Int16.ofInt 999).toInt32 = 999 := by decide +kernel
theorem ksipush_1400 : (Int16.ofInt 1400).toInt32 = 1400 := by decide +kernel
theorem ksipush_1500 : (Int16.ofInt 1500).toInt32 = 1500 := by decide +kernel
theorem ksipush_1600 : (Int16.ofInt 1600).toInt32 = 1600 := by decide +kernel
theorem ksipush_2000 : (Int16.ofInt 2000).toInt32 = 2000 := by decide +kernel
theorem ksipush_2600 : (Int16.ofInt 2600).toInt32 = 2600 := by decide +kernel
theorem ksipush_5000 : (Int16.ofInt 5000).toInt32 = 5000 := by decide +kernel
theorem ksipush_5200 : (Int16.ofInt 5200).toInt32 = 5200 := by decide +kernel
theorem ksipush_10400 : (Int16.ofInt 10400).toInt32 = 10400 := by decide +kernel
theorem ksipush_13000 : (Int16.ofInt 13000).toInt32 = 13000 := by decide +kernel
