theorem dA_floorMod_0 : decode cA_floorMod 0 = .ok (.iload_n 0, 1) := by decide +kernel
theorem dA_floorMod_1 : decode cA_floorMod 1 = .ok (.iload_n 1, 1) := by decide +kernel
theorem dA_floorMod_2 : decode cA_floorMod 2 = .ok (.irem, 1) := by decide +kernel
theorem dA_floorMod_3 : decode cA_floorMod 3 = .ok (.istore_n 2, 1) := by decide +kernel
theorem dA_floorMod_4 : decode cA_floorMod 4 = .ok (.iload_n 0, 1) := by decide +kernel
theorem dA_floorMod_5 : decode cA_floorMod 5 = .ok (.iload_n 1, 1) := by decide +kernel
theorem dA_floorMod_6 : decode cA_floorMod 6 = .ok (.ixor, 1) := by decide +kernel
theorem dA_floorMod_7 : decode cA_floorMod 7 = .ok (.ifCond .ge 11, 3) := by decide +kernel
theorem dA_floorMod_10 : decode cA_floorMod 10 = .ok (.iload_n 2, 1) := by decide +kernel
theorem dA_floorMod_11 : decode cA_floorMod 11 = .ok (.ifCond .eq 7, 3) := by decide +kernel
theorem dA_floorMod_14 : decode cA_floorMod 14 = .ok (.iload_n 2, 1) := by decide +kernel
theorem dA_floorMod_15 : decode cA_floorMod 15 = .ok (.iload_n 1, 1) := by decide +kernel
theorem dA_floorMod_16 : decode cA_floorMod 16 = .ok (.iadd, 1) := by decide +kernel
theorem dA_floorMod_17 : decode cA_floorMod 17 = .ok (.ireturn, 1) := by decide +kernel
theorem dA_floorMod_18 : decode cA_floorMod 18 = .ok (.iload_n 2, 1) := by decide +kernel
theorem dA_floorMod_19 : decode cA_floorMod 19 = .ok (.ireturn, 1) := by decide +kernel
theorem dL_add_0 : decode cL_add 0 = .ok (.aload_n 0, 1) := by decide +kernel
theorem dL_add_1 : decode cL_add 1 = .ok (.getfield 9, 3) := by decide +kernel
theorem dL_add_4 : decode cL_add 4 = .ok (.ifCond .lt 36, 3) := by decide +kernel
theorem dL_add_7 : decode cL_add 7 = .ok (.aload_n 0, 1) := by decide +kernel
theorem dL_add_8 : decode cL_add 8 = .ok (.getfield 9, 3) := by decide +kernel
theorem dL_add_11 : decode cL_add 11 = .ok (.aload_n 0, 1) := by decide +kernel
theorem dL_add_12 : decode cL_add 12 = .ok (.getfield 21, 3) := by decide +kernel
theorem dL_add_15 : decode cL_add 15 = .ok (.arraylength, 1) := by decide +kernel
theorem dL_add_16 : decode cL_add 16 = .ok (.if_icmp .ge 24, 3) := by decide +kernel
theorem dL_add_19 : decode cL_add 19 = .ok (.aload_n 0, 1) := by decide +kernel
theorem dL_add_20 : decode cL_add 20 = .ok (.getfield 21, 3) := by decide +kernel
theorem dL_add_23 : decode cL_add 23 = .ok (.aload_n 0, 1) := by decide +kernel
theorem dL_add_24 : decode cL_add 24 = .ok (.getfield 9, 3) := by decide +kernel
theorem dL_add_27 : decode cL_add 27 = .ok (.iload_n 1, 1) := by decide +kernel
theorem dL_add_28 : decode cL_add 28 = .ok (.i2b, 1) := by decide +kernel
theorem dL_add_29 : decode cL_add 29 = .ok (.bastore, 1) := by decide +kernel
theorem dL_add_30 : decode cL_add 30 = .ok (.aload_n 0, 1) := by decide +kernel
theorem dL_add_31 : decode cL_add 31 = .ok (.dup, 1) := by decide +kernel
theorem dL_add_32 : decode cL_add 32 = .ok (.getfield 9, 3) := by decide +kernel
theorem dL_add_35 : decode cL_add 35 = .ok (.iconst 1, 1) := by decide +kernel
theorem dL_add_36 : decode cL_add 36 = .ok (.iadd, 1) := by decide +kernel
theorem dL_add_37 : decode cL_add 37 = .ok (.putfield 9, 3) := by decide +kernel
theorem dL_add_40 : decode cL_add 40 = .ok (.return_, 1) := by decide +kernel
theorem dL_addInt_0 : decode cL_addInt 0 = .ok (.bipush 24, 2) := by decide +kernel
theorem dL_addInt_2 : decode cL_addInt 2 = .ok (.istore_n 2, 1) := by decide +kernel
theorem dL_addInt_3 : decode cL_addInt 3 = .ok (.iload_n 2, 1) := by decide +kernel
theorem dL_addInt_4 : decode cL_addInt 4 = .ok (.ifCond .lt 16, 3) := by decide +kernel
theorem dL_addInt_7 : decode cL_addInt 7 = .ok (.aload_n 0, 1) := by decide +kernel
theorem dL_addInt_8 : decode cL_addInt 8 = .ok (.iload_n 1, 1) := by decide +kernel
theorem dL_addInt_9 : decode cL_addInt 9 = .ok (.iload_n 2, 1) := by decide +kernel
theorem dL_addInt_10 : decode cL_addInt 10 = .ok (.iushr, 1) := by decide +kernel
theorem dL_addInt_11 : decode cL_addInt 11 = .ok (.invokevirtual 25, 3) := by decide +kernel
theorem dL_addInt_14 : decode cL_addInt 14 = .ok (.iinc 2 (-8), 3) := by decide +kernel
theorem dL_addInt_17 : decode cL_addInt 17 = .ok (.goto (-14), 3) := by decide +kernel
theorem dL_addInt_20 : decode cL_addInt 20 = .ok (.return_, 1) := by decide +kernel
theorem dL_byteAt_0 : decode cL_byteAt 0 = .ok (.iload_n 1, 1) := by decide +kernel
theorem dL_byteAt_1 : decode cL_byteAt 1 = .ok (.ifCond .lt 20, 3) := by decide +kernel
theorem dL_byteAt_4 : decode cL_byteAt 4 = .ok (.iload_n 1, 1) := by decide +kernel
theorem dL_byteAt_5 : decode cL_byteAt 5 = .ok (.aload_n 0, 1) := by decide +kernel
theorem dL_byteAt_6 : decode cL_byteAt 6 = .ok (.getfield 9, 3) := by decide +kernel
theorem dL_byteAt_9 : decode cL_byteAt 9 = .ok (.if_icmp .ge 12, 3) := by decide +kernel
theorem dL_byteAt_12 : decode cL_byteAt 12 = .ok (.iload_n 1, 1) := by decide +kernel
theorem dL_byteAt_13 : decode cL_byteAt 13 = .ok (.aload_n 0, 1) := by decide +kernel
theorem dL_byteAt_14 : decode cL_byteAt 14 = .ok (.getfield 21, 3) := by decide +kernel
theorem dL_byteAt_17 : decode cL_byteAt 17 = .ok (.arraylength, 1) := by decide +kernel
theorem dL_byteAt_18 : decode cL_byteAt 18 = .ok (.if_icmp .lt 7, 3) := by decide +kernel
theorem dL_byteAt_21 : decode cL_byteAt 21 = .ok (.iconst (-1), 1) := by decide +kernel
theorem dL_byteAt_22 : decode cL_byteAt 22 = .ok (.goto 13, 3) := by decide +kernel
theorem dL_byteAt_25 : decode cL_byteAt 25 = .ok (.aload_n 0, 1) := by decide +kernel
theorem dL_byteAt_26 : decode cL_byteAt 26 = .ok (.getfield 21, 3) := by decide +kernel
theorem dL_byteAt_29 : decode cL_byteAt 29 = .ok (.iload_n 1, 1) := by decide +kernel
theorem dL_byteAt_30 : decode cL_byteAt 30 = .ok (.baload, 1) := by decide +kernel
theorem dL_byteAt_31 : decode cL_byteAt 31 = .ok (.sipush 255, 3) := by decide +kernel
theorem dL_byteAt_34 : decode cL_byteAt 34 = .ok (.iand, 1) := by decide +kernel
theorem dL_byteAt_35 : decode cL_byteAt 35 = .ok (.ireturn, 1) := by decide +kernel
theorem dL_copy_0 : decode cL_copy 0 = .ok (.aload_n 0, 1) := by decide +kernel
theorem dL_copy_1 : decode cL_copy 1 = .ok (.iconst 0, 1) := by decide +kernel
theorem dL_copy_2 : decode cL_copy 2 = .ok (.putfield 9, 3) := by decide +kernel
theorem dL_copy_5 : decode cL_copy 5 = .ok (.iconst 0, 1) := by decide +kernel
theorem dL_copy_6 : decode cL_copy 6 = .ok (.istore_n 2, 1) := by decide +kernel
theorem dL_copy_7 : decode cL_copy 7 = .ok (.iload_n 2, 1) := by decide +kernel
theorem dL_copy_8 : decode cL_copy 8 = .ok (.aload_n 1, 1) := by decide +kernel
theorem dL_copy_9 : decode cL_copy 9 = .ok (.getfield 9, 3) := by decide +kernel
theorem dL_copy_12 : decode cL_copy 12 = .ok (.if_icmp .ge 18, 3) := by decide +kernel
theorem dL_copy_15 : decode cL_copy 15 = .ok (.aload_n 0, 1) := by decide +kernel
theorem dL_copy_16 : decode cL_copy 16 = .ok (.aload_n 1, 1) := by decide +kernel
theorem dL_copy_17 : decode cL_copy 17 = .ok (.iload_n 2, 1) := by decide +kernel
theorem dL_copy_18 : decode cL_copy 18 = .ok (.invokevirtual 29, 3) := by decide +kernel
theorem dL_copy_21 : decode cL_copy 21 = .ok (.invokevirtual 25, 3) := by decide +kernel
theorem dL_copy_24 : decode cL_copy 24 = .ok (.iinc 2 1, 3) := by decide +kernel
theorem dL_copy_27 : decode cL_copy 27 = .ok (.goto (-20), 3) := by decide +kernel
theorem dL_copy_30 : decode cL_copy 30 = .ok (.return_, 1) := by decide +kernel
theorem dL_byteOrBlank_0 : decode cL_byteOrBlank 0 = .ok (.aload_n 0, 1) := by decide +kernel
theorem dL_byteOrBlank_1 : decode cL_byteOrBlank 1 = .ok (.iload_n 1, 1) := by decide +kernel
theorem dL_byteOrBlank_2 : decode cL_byteOrBlank 2 = .ok (.invokevirtual 29, 3) := by decide +kernel
theorem dL_byteOrBlank_5 : decode cL_byteOrBlank 5 = .ok (.istore_n 2, 1) := by decide +kernel
theorem dL_byteOrBlank_6 : decode cL_byteOrBlank 6 = .ok (.iload_n 2, 1) := by decide +kernel
theorem dL_byteOrBlank_7 : decode cL_byteOrBlank 7 = .ok (.iconst (-1), 1) := by decide +kernel
theorem dL_byteOrBlank_8 : decode cL_byteOrBlank 8 = .ok (.if_icmp .ne 8, 3) := by decide +kernel
theorem dL_byteOrBlank_11 : decode cL_byteOrBlank 11 = .ok (.bipush 32, 2) := by decide +kernel
theorem dL_byteOrBlank_13 : decode cL_byteOrBlank 13 = .ok (.goto 4, 3) := by decide +kernel
theorem dL_byteOrBlank_16 : decode cL_byteOrBlank 16 = .ok (.iload_n 2, 1) := by decide +kernel
theorem dL_byteOrBlank_17 : decode cL_byteOrBlank 17 = .ok (.ireturn, 1) := by decide +kernel
theorem dL_firstInk_0 : decode cL_firstInk 0 = .ok (.iconst 0, 1) := by decide +kernel
theorem dL_firstInk_1 : decode cL_firstInk 1 = .ok (.istore_n 1, 1) := by decide +kernel
theorem dL_firstInk_2 : decode cL_firstInk 2 = .ok (.iload_n 1, 1) := by decide +kernel
theorem dL_firstInk_3 : decode cL_firstInk 3 = .ok (.aload_n 0, 1) := by decide +kernel
theorem dL_firstInk_4 : decode cL_firstInk 4 = .ok (.getfield 9, 3) := by decide +kernel
theorem dL_firstInk_7 : decode cL_firstInk 7 = .ok (.if_icmp .ge 19, 3) := by decide +kernel
theorem dL_firstInk_10 : decode cL_firstInk 10 = .ok (.aload_n 0, 1) := by decide +kernel
theorem dL_firstInk_11 : decode cL_firstInk 11 = .ok (.iload_n 1, 1) := by decide +kernel
theorem dL_firstInk_12 : decode cL_firstInk 12 = .ok (.invokevirtual 29, 3) := by decide +kernel
theorem dL_firstInk_15 : decode cL_firstInk 15 = .ok (.bipush 32, 2) := by decide +kernel
theorem dL_firstInk_17 : decode cL_firstInk 17 = .ok (.if_icmp .ne 9, 3) := by decide +kernel
theorem dL_firstInk_20 : decode cL_firstInk 20 = .ok (.iinc 1 1, 3) := by decide +kernel
theorem dL_firstInk_23 : decode cL_firstInk 23 = .ok (.goto (-21), 3) := by decide +kernel
theorem dL_firstInk_26 : decode cL_firstInk 26 = .ok (.iload_n 1, 1) := by decide +kernel
theorem dL_firstInk_27 : decode cL_firstInk 27 = .ok (.ireturn, 1) := by decide +kernel
set_option maxHeartbeats 4000000 in
set_option maxRecDepth 100000 in
theorem b_A_floorMod {X : wk_X} {G : cGt} (hI : wd_inj (vC G)) (C : wk_C X (vC G) cA_floorMod RA 3 0 0) {v0 : Int32} {v1 : Int32} {h : Hp} {q : Int32 × Hp}  (hf : f_A_floorMod v0 v1 h = some q) (hq : wk_Q X (vC G) (some (.int q.1)) q.2 (some .int)) : WW X (vC G) h 0 [(0, .int v0), (1, .int v1)] [] := by
  unfold f_A_floorMod at hf
  refine wk_iload_n C 0 dA_floorMod_0 rfl rfl ?_
  refine wk_iload_n C 1 dA_floorMod_1 rfl rfl ?_
  obtain ⟨c_2, hf⟩ := chk_some hf
  refine wk_irem C dA_floorMod_2 c_2 ?_
  refine wk_istore_n C 2 dA_floorMod_3 rfl (by decide) ?_
  refine wk_iload_n C 0 dA_floorMod_4 rfl rfl ?_
  refine wk_iload_n C 1 dA_floorMod_5 rfl rfl ?_
  refine wk_ixor C dA_floorMod_6 ?_
  refine wk_if_ge (tgt := 18) C dA_floorMod_7 rfl hf (fun c_7 hf => ?_) (fun c_7 hf => ?_)
  · refine wk_iload_n C 2 dA_floorMod_18 rfl rfl ?_
    cases hf
    exact wk_ireturn C hq dA_floorMod_19
  · refine wk_iload_n C 2 dA_floorMod_10 rfl rfl ?_
    refine wk_if_eq (tgt := 18) C dA_floorMod_11 rfl hf (fun c_11 hf => ?_) (fun c_11 hf => ?_)
    · refine wk_iload_n C 2 dA_floorMod_18 rfl rfl ?_
      cases hf
      exact wk_ireturn C hq dA_floorMod_19
    · refine wk_iload_n C 2 dA_floorMod_14 rfl rfl ?_
      refine wk_iload_n C 1 dA_floorMod_15 rfl rfl ?_
      refine wk_iadd C dA_floorMod_16 ?_
      cases hf
      exact wk_ireturn C hq dA_floorMod_17
theorem m_A_floorMod {l : Launch} {G : cGt} (hI : wd_inj (vC G)) {v0 : Int32} {v1 : Int32} {h h' : Hp} {r : Int32}  (hf : f_A_floorMod v0 v1 h = some (r, h')) : wk_M l (vC G) yA_floorMod cA_floorMod 3 (some .int) 0 0 [.int v0, .int v1] h (some (.int r)) h' :=
  wk_metF hI (by decide +kernel) rfl (Nat.le_of_ble_eq_true rfl) (wk_cat1 rfl) (fun X hX C hq => by subst hX; exact b_A_floorMod hI C  hf hq)
set_option maxHeartbeats 4000000 in
set_option maxRecDepth 100000 in
theorem b_L_add {X : wk_X} {G : cGt} (hI : wd_inj (vC G)) (C : wk_C X (vC G) cL_add RL 2 0 0) {v0 : Nat} {v1 : Int32} {h : Hp} {q : Unit × Hp} (k_v0 : cLine v0) (hf : f_L_add v0 v1 h = some q) (hq : wk_Q X (vC G) none q.2 none) : WW X (vC G) h 0 [(0, .ref (cad G v0)), (1, .int v1)] [] := by
  unfold f_L_add at hf
  refine wk_aload_n C 0 dL_add_0 rfl rfl ?_
  refine gf_L_9 C k_v0 dL_add_1 ?_
  refine wk_if_lt (tgt := 40) C dL_add_4 rfl hf (fun c_4 hf => ?_) (fun c_4 hf => ?_)
  · cases hf
    exact wk_return C hq dL_add_40
  · refine wk_aload_n C 0 dL_add_7 rfl rfl ?_
    refine gf_L_9 C k_v0 dL_add_8 ?_
    refine wk_aload_n C 0 dL_add_11 rfl rfl ?_
    refine gf_L_21 C k_v0 dL_add_12 ?_
    refine an_L C k_v0 dL_add_15 ?_
    refine wk_icmp_ge (tgt := 40) C dL_add_16 rfl hf (fun c_16 hf => ?_) (fun c_16 hf => ?_)
    · cases hf
      exact wk_return C hq dL_add_40
    · refine wk_aload_n C 0 dL_add_19 rfl rfl ?_
      refine gf_L_21 C k_v0 dL_add_20 ?_
      refine wk_aload_n C 0 dL_add_23 rfl rfl ?_
      refine gf_L_9 C k_v0 dL_add_24 ?_
      refine wk_iload_n C 1 dL_add_27 rfl rfl ?_
      refine wk_i2b C dL_add_28 ?_
      obtain ⟨c_29, hf⟩ := chk_some hf
      refine as_L C k_v0 c_29 dL_add_29 ?_
      refine wk_aload_n C 0 dL_add_30 rfl rfl ?_
      refine wk_dup C dL_add_31 rfl ?_
      refine gf_L_9 C k_v0 dL_add_32 ?_
      refine wk_iconst C dL_add_35 kiconst_1 ?_
      refine wk_iadd C dL_add_36 ?_
      refine pf_L_9 C k_v0 dL_add_37 ?_
      cases hf
      exact wk_return C hq dL_add_40
theorem m_L_add {l : Launch} {G : cGt} (hI : wd_inj (vC G)) {v0 : Nat} {v1 : Int32} {h h' : Hp} {r : Unit} (k_v0 : cLine v0) (hf : f_L_add v0 v1 h = some (r, h')) : wk_M l (vC G) yL_add cL_add 2 none 0 0 [.ref (cad G v0), .int v1] h none h' :=
  wk_met hI (by decide +kernel) rfl (Nat.le_of_ble_eq_true rfl) (wk_cat1 rfl) (fun X hX C hq => by subst hX; exact b_L_add hI C k_v0 hf hq)
set_option maxHeartbeats 4000000 in
set_option maxRecDepth 100000 in
theorem b_L_addInt_3 {X : wk_X} {G : cGt} (hI : wd_inj (vC G)) (C : wk_C X (vC G) cL_addInt RL 3 1 21) : ∀ (n : Nat) {v0 : Nat} {v1 : Int32} {v2 : Int32} {h : Hp} {q : Unit × Hp} (k_v0 : cLine v0) (hf : f_L_addInt_3 n v0 v1 v2 h = some q) (hq : wk_Q X (vC G) none q.2 none), WW X (vC G) h 3 [(0, .ref (cad G v0)), (1, .int v1), (2, .int v2)] [] := by
  intro n
  induction n with
  | zero =>
    intros
    rename_i hf _
    cases hf
  | succ n ih =>
    intro v0 v1 v2 h q k_v0 hf hq
    rw [f_L_addInt_3] at hf
    refine wk_iload_n C 2 dL_addInt_3 rfl rfl ?_
    refine wk_if_lt (tgt := 20) C dL_addInt_4 rfl hf (fun c_4 hf => ?_) (fun c_4 hf => ?_)
    · cases hf
      exact wk_return C hq dL_addInt_20
    · refine wk_aload_n C 0 dL_addInt_7 rfl rfl ?_
      refine wk_iload_n C 1 dL_addInt_8 rfl rfl ?_
      refine wk_iload_n C 2 dL_addInt_9 rfl rfl ?_
      refine wk_iushr C dL_addInt_10 ?_
      obtain ⟨r11, h11, e_11, hf⟩ := bd_some hf
      refine wk_callV (As := [.int ((Int32.toUInt32 v1 >>> (Int32.toUInt32 v2 &&& Int32.toUInt32 31)).toInt32)]) (rest := []) C lw_good cw_L_25 wi_L_add (m_L_add hI k_v0 e_11) (lz_cLine k_v0) (he_cLine k_v0) rfl rfl rfl (Nat.le_of_ble_eq_true rfl) (by decide) dL_addInt_11 ?_
      refine wk_iinc C dL_addInt_14 rfl kiconst_m8 (by decide) ?_
      refine wk_goto (tgt := 3) C dL_addInt_17 rfl ?_
      exact wk_go (ih k_v0 hf hq) (And.intro rfl (And.intro rfl (And.intro rfl trivial)))
set_option maxHeartbeats 4000000 in
set_option maxRecDepth 100000 in
theorem b_L_addInt {X : wk_X} {G : cGt} (hI : wd_inj (vC G)) (C : wk_C X (vC G) cL_addInt RL 3 1 21) {v0 : Nat} {v1 : Int32} {h : Hp} {q : Unit × Hp} (k_v0 : cLine v0) (hf : f_L_addInt v0 v1 h = some q) (hq : wk_Q X (vC G) none q.2 none) : WW X (vC G) h 0 [(0, .ref (cad G v0)), (1, .int v1)] [] := by
  unfold f_L_addInt at hf
  refine wk_bipush C dL_addInt_0 kbipush_24 ?_
  refine wk_istore_n C 2 dL_addInt_2 rfl (by decide) ?_
  exact wk_go (b_L_addInt_3 hI C fuel k_v0 hf hq) (And.intro rfl (And.intro rfl (And.intro rfl trivial)))
theorem m_L_addInt {l : Launch} {G : cGt} (hI : wd_inj (vC G)) {v0 : Nat} {v1 : Int32} {h h' : Hp} {r : Unit} (k_v0 : cLine v0) (hf : f_L_addInt v0 v1 h = some (r, h')) : wk_M l (vC G) yL_addInt cL_addInt 3 none 1 21 [.ref (cad G v0), .int v1] h none h' :=
  wk_met hI (by decide +kernel) rfl (Nat.le_of_ble_eq_true rfl) (wk_cat1 rfl) (fun X hX C hq => by subst hX; exact b_L_addInt hI C k_v0 hf hq)
set_option maxHeartbeats 4000000 in
set_option maxRecDepth 100000 in
theorem b_L_byteAt {X : wk_X} {G : cGt} (hI : wd_inj (vC G)) (C : wk_C X (vC G) cL_byteAt RL 2 0 0) {v0 : Nat} {v1 : Int32} {h : Hp} {q : Int32 × Hp} (k_v0 : cLine v0) (hf : f_L_byteAt v0 v1 h = some q) (hq : wk_Q X (vC G) (some (.int q.1)) q.2 (some .int)) : WW X (vC G) h 0 [(0, .ref (cad G v0)), (1, .int v1)] [] := by
  unfold f_L_byteAt at hf
  refine wk_iload_n C 1 dL_byteAt_0 rfl rfl ?_
  refine wk_if_lt (tgt := 21) C dL_byteAt_1 rfl hf (fun c_1 hf => ?_) (fun c_1 hf => ?_)
  · refine wk_iconst C dL_byteAt_21 kiconst_m1 ?_
    refine wk_goto (tgt := 35) C dL_byteAt_22 rfl ?_
    cases hf
    exact wk_ireturn C hq dL_byteAt_35
  · refine wk_iload_n C 1 dL_byteAt_4 rfl rfl ?_
    refine wk_aload_n C 0 dL_byteAt_5 rfl rfl ?_
    refine gf_L_9 C k_v0 dL_byteAt_6 ?_
    refine wk_icmp_ge (tgt := 21) C dL_byteAt_9 rfl hf (fun c_9 hf => ?_) (fun c_9 hf => ?_)
    · refine wk_iconst C dL_byteAt_21 kiconst_m1 ?_
      refine wk_goto (tgt := 35) C dL_byteAt_22 rfl ?_
      cases hf
      exact wk_ireturn C hq dL_byteAt_35
    · refine wk_iload_n C 1 dL_byteAt_12 rfl rfl ?_
      refine wk_aload_n C 0 dL_byteAt_13 rfl rfl ?_
      refine gf_L_21 C k_v0 dL_byteAt_14 ?_
      refine an_L C k_v0 dL_byteAt_17 ?_
      refine wk_icmp_lt (tgt := 25) C dL_byteAt_18 rfl hf (fun c_18 hf => ?_) (fun c_18 hf => ?_)
      · refine wk_aload_n C 0 dL_byteAt_25 rfl rfl ?_
        refine gf_L_21 C k_v0 dL_byteAt_26 ?_
        refine wk_iload_n C 1 dL_byteAt_29 rfl rfl ?_
        obtain ⟨c_30, hf⟩ := chk_some hf
        refine al_L C k_v0 c_30 dL_byteAt_30 ?_
        refine wk_sipush C dL_byteAt_31 ksipush_255 ?_
        refine wk_iand C dL_byteAt_34 ?_
        cases hf
        exact wk_ireturn C hq dL_byteAt_35
      · refine wk_iconst C dL_byteAt_21 kiconst_m1 ?_
        refine wk_goto (tgt := 35) C dL_byteAt_22 rfl ?_
        cases hf
        exact wk_ireturn C hq dL_byteAt_35
theorem m_L_byteAt {l : Launch} {G : cGt} (hI : wd_inj (vC G)) {v0 : Nat} {v1 : Int32} {h h' : Hp} {r : Int32} (k_v0 : cLine v0) (hf : f_L_byteAt v0 v1 h = some (r, h')) : wk_M l (vC G) yL_byteAt cL_byteAt 2 (some .int) 0 0 [.ref (cad G v0), .int v1] h (some (.int r)) h' :=
  wk_met hI (by decide +kernel) rfl (Nat.le_of_ble_eq_true rfl) (wk_cat1 rfl) (fun X hX C hq => by subst hX; exact b_L_byteAt hI C k_v0 hf hq)
set_option maxHeartbeats 4000000 in
set_option maxRecDepth 100000 in
theorem b_L_copy_7 {X : wk_X} {G : cGt} (hI : wd_inj (vC G)) (C : wk_C X (vC G) cL_copy RL 3 1 21) : ∀ (n : Nat) {v0 : Nat} {v1 : Nat} {v2 : Int32} {h : Hp} {q : Unit × Hp} (k_v0 : cLine v0) (k_v1 : cLine v1) (hf : f_L_copy_7 n v0 v1 v2 h = some q) (hq : wk_Q X (vC G) none q.2 none), WW X (vC G) h 7 [(0, .ref (cad G v0)), (1, .ref (cad G v1)), (2, .int v2)] [] := by
  intro n
  induction n with
  | zero =>
    intros
    rename_i hf _
    cases hf
  | succ n ih =>
    intro v0 v1 v2 h q k_v0 k_v1 hf hq
    rw [f_L_copy_7] at hf
    refine wk_iload_n C 2 dL_copy_7 rfl rfl ?_
    refine wk_aload_n C 1 dL_copy_8 rfl rfl ?_
    refine gf_L_9 C k_v1 dL_copy_9 ?_
    refine wk_icmp_ge (tgt := 30) C dL_copy_12 rfl hf (fun c_12 hf => ?_) (fun c_12 hf => ?_)
    · cases hf
      exact wk_return C hq dL_copy_30
    · refine wk_aload_n C 0 dL_copy_15 rfl rfl ?_
      refine wk_aload_n C 1 dL_copy_16 rfl rfl ?_
      refine wk_iload_n C 2 dL_copy_17 rfl rfl ?_
      obtain ⟨r18, h18, e_18, hf⟩ := bd_some hf
      refine wk_callV (As := [.int v2]) (rest := [.ref (cad G v0)]) C lw_good cw_L_29 wi_L_byteAt (m_L_byteAt hI k_v1 e_18) (lz_cLine k_v1) (he_cLine k_v1) rfl rfl rfl (Nat.le_of_ble_eq_true rfl) (by decide) dL_copy_18 ?_
      obtain ⟨r21, h21, e_21, hf⟩ := bd_some hf
      refine wk_callV (As := [.int r18]) (rest := []) C lw_good cw_L_25 wi_L_add (m_L_add hI k_v0 e_21) (lz_cLine k_v0) (he_cLine k_v0) rfl rfl rfl (Nat.le_of_ble_eq_true rfl) (by decide) dL_copy_21 ?_
      refine wk_iinc C dL_copy_24 rfl kiconst_1 (by decide) ?_
      refine wk_goto (tgt := 7) C dL_copy_27 rfl ?_
      exact wk_go (ih k_v0 k_v1 hf hq) (And.intro rfl (And.intro rfl (And.intro rfl trivial)))
set_option maxHeartbeats 4000000 in
set_option maxRecDepth 100000 in
theorem b_L_copy {X : wk_X} {G : cGt} (hI : wd_inj (vC G)) (C : wk_C X (vC G) cL_copy RL 3 1 21) {v0 : Nat} {v1 : Nat} {h : Hp} {q : Unit × Hp} (k_v0 : cLine v0) (k_v1 : cLine v1) (hf : f_L_copy v0 v1 h = some q) (hq : wk_Q X (vC G) none q.2 none) : WW X (vC G) h 0 [(0, .ref (cad G v0)), (1, .ref (cad G v1))] [] := by
  unfold f_L_copy at hf
  refine wk_aload_n C 0 dL_copy_0 rfl rfl ?_
  refine wk_iconst C dL_copy_1 kiconst_0 ?_
  refine pf_L_9 C k_v0 dL_copy_2 ?_
  refine wk_iconst C dL_copy_5 kiconst_0 ?_
  refine wk_istore_n C 2 dL_copy_6 rfl (by decide) ?_
  exact wk_go (b_L_copy_7 hI C fuel k_v0 k_v1 hf hq) (And.intro rfl (And.intro rfl (And.intro rfl trivial)))
theorem m_L_copy {l : Launch} {G : cGt} (hI : wd_inj (vC G)) {v0 : Nat} {v1 : Nat} {h h' : Hp} {r : Unit} (k_v0 : cLine v0) (k_v1 : cLine v1) (hf : f_L_copy v0 v1 h = some (r, h')) : wk_M l (vC G) yL_copy cL_copy 3 none 1 21 [.ref (cad G v0), .ref (cad G v1)] h none h' :=
  wk_met hI (by decide +kernel) rfl (Nat.le_of_ble_eq_true rfl) (wk_cat1 rfl) (fun X hX C hq => by subst hX; exact b_L_copy hI C k_v0 k_v1 hf hq)
set_option maxHeartbeats 4000000 in
set_option maxRecDepth 100000 in
theorem b_L_byteOrBlank {X : wk_X} {G : cGt} (hI : wd_inj (vC G)) (C : wk_C X (vC G) cL_byteOrBlank RL 3 1 21) {v0 : Nat} {v1 : Int32} {h : Hp} {q : Int32 × Hp} (k_v0 : cLine v0) (hf : f_L_byteOrBlank v0 v1 h = some q) (hq : wk_Q X (vC G) (some (.int q.1)) q.2 (some .int)) : WW X (vC G) h 0 [(0, .ref (cad G v0)), (1, .int v1)] [] := by
  unfold f_L_byteOrBlank at hf
  refine wk_aload_n C 0 dL_byteOrBlank_0 rfl rfl ?_
  refine wk_iload_n C 1 dL_byteOrBlank_1 rfl rfl ?_
  obtain ⟨r2, h2, e_2, hf⟩ := bd_some hf
  refine wk_callV (As := [.int v1]) (rest := []) C lw_good cw_L_29 wi_L_byteAt (m_L_byteAt hI k_v0 e_2) (lz_cLine k_v0) (he_cLine k_v0) rfl rfl rfl (Nat.le_of_ble_eq_true rfl) (by decide) dL_byteOrBlank_2 ?_
  refine wk_istore_n C 2 dL_byteOrBlank_5 rfl (by decide) ?_
  refine wk_iload_n C 2 dL_byteOrBlank_6 rfl rfl ?_
  refine wk_iconst C dL_byteOrBlank_7 kiconst_m1 ?_
  refine wk_icmp_ne (tgt := 16) C dL_byteOrBlank_8 rfl hf (fun c_8 hf => ?_) (fun c_8 hf => ?_)
  · refine wk_iload_n C 2 dL_byteOrBlank_16 rfl rfl ?_
    cases hf
    exact wk_ireturn C hq dL_byteOrBlank_17
  · refine wk_bipush C dL_byteOrBlank_11 kbipush_32 ?_
    refine wk_goto (tgt := 17) C dL_byteOrBlank_13 rfl ?_
    cases hf
    exact wk_ireturn C hq dL_byteOrBlank_17
theorem m_L_byteOrBlank {l : Launch} {G : cGt} (hI : wd_inj (vC G)) {v0 : Nat} {v1 : Int32} {h h' : Hp} {r : Int32} (k_v0 : cLine v0) (hf : f_L_byteOrBlank v0 v1 h = some (r, h')) : wk_M l (vC G) yL_byteOrBlank cL_byteOrBlank 3 (some .int) 1 21 [.ref (cad G v0), .int v1] h (some (.int r)) h' :=
  wk_met hI (by decide +kernel) rfl (Nat.le_of_ble_eq_true rfl) (wk_cat1 rfl) (fun X hX C hq => by subst hX; exact b_L_byteOrBlank hI C k_v0 hf hq)
set_option maxHeartbeats 4000000 in
set_option maxRecDepth 100000 in
theorem b_L_firstInk_2 {X : wk_X} {G : cGt} (hI : wd_inj (vC G)) (C : wk_C X (vC G) cL_firstInk RL 2 1 21) : ∀ (n : Nat) {v0 : Nat} {v1 : Int32} {h : Hp} {q : Int32 × Hp} (k_v0 : cLine v0) (hf : f_L_firstInk_2 n v0 v1 h = some q) (hq : wk_Q X (vC G) (some (.int q.1)) q.2 (some .int)), WW X (vC G) h 2 [(0, .ref (cad G v0)), (1, .int v1)] [] := by
  intro n
  induction n with
  | zero =>
    intros
    rename_i hf _
    cases hf
  | succ n ih =>
    intro v0 v1 h q k_v0 hf hq
    rw [f_L_firstInk_2] at hf
    refine wk_iload_n C 1 dL_firstInk_2 rfl rfl ?_
    refine wk_aload_n C 0 dL_firstInk_3 rfl rfl ?_
    refine gf_L_9 C k_v0 dL_firstInk_4 ?_
    refine wk_icmp_ge (tgt := 26) C dL_firstInk_7 rfl hf (fun c_7 hf => ?_) (fun c_7 hf => ?_)
    · refine wk_iload_n C 1 dL_firstInk_26 rfl rfl ?_
      cases hf
      exact wk_ireturn C hq dL_firstInk_27
    · refine wk_aload_n C 0 dL_firstInk_10 rfl rfl ?_
      refine wk_iload_n C 1 dL_firstInk_11 rfl rfl ?_
      obtain ⟨r12, h12, e_12, hf⟩ := bd_some hf
      refine wk_callV (As := [.int v1]) (rest := []) C lw_good cw_L_29 wi_L_byteAt (m_L_byteAt hI k_v0 e_12) (lz_cLine k_v0) (he_cLine k_v0) rfl rfl rfl (Nat.le_of_ble_eq_true rfl) (by decide) dL_firstInk_12 ?_
      refine wk_bipush C dL_firstInk_15 kbipush_32 ?_
      refine wk_icmp_ne (tgt := 26) C dL_firstInk_17 rfl hf (fun c_17 hf => ?_) (fun c_17 hf => ?_)
      · refine wk_iload_n C 1 dL_firstInk_26 rfl rfl ?_
        cases hf
        exact wk_ireturn C hq dL_firstInk_27
      · refine wk_iinc C dL_firstInk_20 rfl kiconst_1 (by decide) ?_
        refine wk_goto (tgt := 2) C dL_firstInk_23 rfl ?_
        exact wk_go (ih k_v0 hf hq) (And.intro rfl (And.intro rfl trivial))
set_option maxHeartbeats 4000000 in
set_option maxRecDepth 100000 in
theorem b_L_firstInk {X : wk_X} {G : cGt} (hI : wd_inj (vC G)) (C : wk_C X (vC G) cL_firstInk RL 2 1 21) {v0 : Nat} {h : Hp} {q : Int32 × Hp} (k_v0 : cLine v0) (hf : f_L_firstInk v0 h = some q) (hq : wk_Q X (vC G) (some (.int q.1)) q.2 (some .int)) : WW X (vC G) h 0 [(0, .ref (cad G v0))] [] := by
  unfold f_L_firstInk at hf
  refine wk_iconst C dL_firstInk_0 kiconst_0 ?_
  refine wk_istore_n C 1 dL_firstInk_1 rfl (by decide) ?_
  exact wk_go (b_L_firstInk_2 hI C fuel k_v0 hf hq) (And.intro rfl (And.intro rfl trivial))
theorem m_L_firstInk {l : Launch} {G : cGt} (hI : wd_inj (vC G)) {v0 : Nat} {h h' : Hp} {r : Int32} (k_v0 : cLine v0) (hf : f_L_firstInk v0 h = some (r, h')) : wk_M l (vC G) yL_firstInk cL_firstInk 2 (some .int) 1 21 [.ref (cad G v0)] h (some (.int r)) h' :=
  wk_met hI (by decide +kernel) rfl (Nat.le_of_ble_eq_true rfl) (wk_cat1 rfl) (fun X hX C hq => by subst hX; exact b_L_firstInk hI C k_v0 hf hq)
