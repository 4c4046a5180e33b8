/-! THE LAW'S LOOP: both sides answer alike, call by call -/
theorem both {fD fM K : Hp → Option (Int32 × Hp)} {h : Hp} {σ σ' : St} {r : Int32} (hC : ∃ h1, fD h = some (r, h1) ∧ SC h1 σ' ∧ lo h h1) (hM : ∀ h1, SR h1 σ → ∃ h2, fM h1 = some (r, h2) ∧ SR h2 σ' ∧ hi h1 h2) (H : SR h σ) (ok' : okS σ') (hK : ∀ (h2 : Hp) (τ : St), SC h2 τ → SR h2 τ → okS τ → ∃ h', K h2 = some (1, h')) : ∃ h', bd (fD h) (fun r1 h1 => bd (fM h1) (fun r2 h2 => if r1 = r2 then K h2 else some (0, h2))) = some (1, h') := by
  obtain ⟨h1, e1, S1, l1⟩ := hC
  obtain ⟨h2, e2, S2, l2⟩ := hM h1 (SR_lo H l1)
  rw [bd_t e1, bd_t e2, if_pos rfl]
  exact hK h2 σ' (SC_hi S1 l2) S2 ok'
theorem drop4 {f : Hp → Option (Int32 × Hp)} {h : Hp} {r : Int32} {σ : St} (x : ∃ h', f h = some (r, h') ∧ SC h' σ ∧ okS σ ∧ lo h h') : ∃ h', f h = some (r, h') ∧ SC h' σ ∧ lo h h' := by
  obtain ⟨h', a, b, _, d⟩ := x
  exact ⟨h', a, b, d⟩
theorem ok4 {f : Hp → Option (Int32 × Hp)} {h : Hp} {r : Int32} {σ : St} (x : ∃ h', f h = some (r, h') ∧ SC h' σ ∧ okS σ ∧ lo h h') : okS σ := by
  obtain ⟨h', _, _, c, _⟩ := x
  exact c
set_option maxHeartbeats 4000000 in
set_option maxRecDepth 100000 in
theorem law_loop {L : Nat} {xs : Nat → Int32} (hL : L ≤ 3072) : ∀ (n m k : Nat) (h : Hp) (σ : St), L ≤ k + m → m < n → k ≤ 10000 → SC h σ → SR h σ → okS σ → ∃ h', f_W_law_18 L xs n (iI (k : Int)) h = some (1, h') := by
  intro n
  induction n with
  | zero =>
    intro m k h σ _ hn
    omega
  | succ n ih =>
    intro m k h σ hm hn hk S R ok
    have ec : Int32.ofNat L - 6 = iI ((L : Int) - 6) := by rw [iI_ofNat, show (6 : Int32) = iI 6 from rfl, iI_sub]
    rw [f_W_law_18, ec]
    by_cases q : (L : Int) - 6 < (k : Int)
    · rw [if_pos (by rw [iI_lt ⟨by omega, by omega⟩ ⟨by omega, by omega⟩]; exact q)]
      exact ⟨h, rfl⟩
    rw [if_neg (by rw [iI_lt ⟨by omega, by omega⟩ ⟨by omega, by omega⟩]; exact q)]
    have hK : ∀ (h2 : Hp) (τ : St), SC h2 τ → SR h2 τ → okS τ → ∃ h', f_W_law_18 L xs n (iI (k : Int) + 6) h2 = some (1, h') := fun h2 τ a b c => by
      rw [show (6 : Int32) = iI 6 from rfl, iI_add, show (k : Int) + 6 = ((k + 6 : Nat) : Int) by omega]
      exact ih (m - 6) (k + 6) h2 τ (by omega) (by omega) (by omega) a b c
    have e1 : iI (k : Int) + 1 = iI ((k + 1 : Nat) : Int) := scN k
    have e2 : iI (k : Int) + 2 = iI ((k + 2 : Nat) : Int) := by rw [show (2 : Int32) = iI 2 from rfl, iI_add]; rfl
    have e3 : iI (k : Int) + 3 = iI ((k + 3 : Nat) : Int) := by rw [show (3 : Int32) = iI 3 from rfl, iI_add]; rfl
    have e4 : iI (k : Int) + 4 = iI ((k + 4 : Nat) : Int) := by rw [show (4 : Int32) = iI 4 from rfl, iI_add]; rfl
    have e5 : iI (k : Int) + 5 = iI ((k + 5 : Nat) : Int) := by rw [show (5 : Int32) = iI 5 from rfl, iI_add]; rfl
    have c0 : ∀ X : Option (Int32 × Hp), chk (inR (iI (k : Int)) L) X = X := fun X => chk_t (iI_inR (by omega) (by omega) (by omega))
    have c1 : ∀ X : Option (Int32 × Hp), chk (inR (iI (k : Int) + 1) L) X = X := fun X => chk_t (by rw [e1]; exact iI_inR (by omega) (by omega) (by omega))
    have c2 : ∀ X : Option (Int32 × Hp), chk (inR (iI (k : Int) + 2) L) X = X := fun X => chk_t (by rw [e2]; exact iI_inR (by omega) (by omega) (by omega))
    have c3 : ∀ X : Option (Int32 × Hp), chk (inR (iI (k : Int) + 3) L) X = X := fun X => chk_t (by rw [e3]; exact iI_inR (by omega) (by omega) (by omega))
    have c4 : ∀ X : Option (Int32 × Hp), chk (inR (iI (k : Int) + 4) L) X = X := fun X => chk_t (by rw [e4]; exact iI_inR (by omega) (by omega) (by omega))
    have c5 : ∀ X : Option (Int32 × Hp), chk (inR (iI (k : Int) + 5) L) X = X := fun X => chk_t (by rw [e5]; exact iI_inR (by omega) (by omega) (by omega))
    obtain ⟨z1, x1, b1⟩ := in32 (xs (Int32.toNatClampNeg (iI (k : Int) + 1)))
    obtain ⟨z2, x2, b2⟩ := in32 (xs (Int32.toNatClampNeg (iI (k : Int) + 2)))
    obtain ⟨z3, x3, b3⟩ := in32 (xs (Int32.toNatClampNeg (iI (k : Int) + 3)))
    obtain ⟨z4, x4, b4⟩ := in32 (xs (Int32.toNatClampNeg (iI (k : Int) + 4)))
    unfold f_W_law_471 f_W_law_631
    simp only [c0, c1, c2, c3, c4, c5, x1, x2, x3, x4]
    by_cases t : xs (Int32.toNatClampNeg (iI (k : Int))) &&& 15 = 0
    · rw [if_pos t]
      exact both (fD := f_D_feed _ _ _ _ _) (fM := f_M_feed _ _ _ _ _) (K := f_W_law_18 L xs n (iI (k : Int) + 6)) (C_feed S ok) (fun g Rg => M_feed Rg ok) R (okS_feed ok) hK
    rw [if_neg t]
    clear t
    by_cases t : xs (Int32.toNatClampNeg (iI (k : Int))) &&& 15 = 1
    · rw [if_pos t]
      exact both (fD := f_D_end _) (fM := f_M_end _) (K := f_W_law_18 L xs n (iI (k : Int) + 6)) (C_end b1 S ok) (fun g Rg => M_end b1 Rg ok) R (okS_end ok) hK
    rw [if_neg t]
    clear t
    by_cases t : xs (Int32.toNatClampNeg (iI (k : Int))) &&& 15 = 2
    · rw [if_pos t]
      exact both (fD := f_D_put _) (fM := f_M_put _) (K := f_W_law_18 L xs n (iI (k : Int) + 6)) (C_put b1 S ok) (fun g Rg => M_put b1 Rg ok) R (okS_put ok) hK
    rw [if_neg t]
    clear t
    by_cases t : xs (Int32.toNatClampNeg (iI (k : Int))) &&& 15 = 3
    · rw [if_pos t]
      exact both (fD := f_D_size _) (fM := f_M_size _) (K := f_W_law_18 L xs n (iI (k : Int) + 6)) ⟨h, C_size b1 S, S, lo_r _⟩ (fun g Rg => ⟨g, M_size b1 Rg, Rg, hi_r _⟩) R ok hK
    rw [if_neg t]
    clear t
    by_cases t : xs (Int32.toNatClampNeg (iI (k : Int))) &&& 15 = 4
    · rw [if_pos t]
      exact both (fD := f_D_at _ _) (fM := f_M_at _ _) (K := f_W_law_18 L xs n (iI (k : Int) + 6)) ⟨h, C_at b1 b2 S, S, lo_r _⟩ (fun g Rg => ⟨g, M_at b1 b2 Rg ok, Rg, hi_r _⟩) R ok hK
    rw [if_neg t]
    clear t
    by_cases t : xs (Int32.toNatClampNeg (iI (k : Int))) &&& 15 = 5
    · rw [if_pos t]
      exact both (fD := f_D_digits _) (fM := f_M_digits _) (K := f_W_law_18 L xs n (iI (k : Int) + 6)) (C_digits b1 S ok) (fun g Rg => M_digits b1 Rg ok) R (okS_digits ok) hK
    rw [if_neg t]
    clear t
    by_cases t : xs (Int32.toNatClampNeg (iI (k : Int))) &&& 15 = 6
    · rw [if_pos t]
      exact both (fD := f_D_fuzz _) (fM := f_M_fuzz _) (K := f_W_law_18 L xs n (iI (k : Int) + 6)) (C_fuzz b1 S ok) (fun g Rg => M_fuzz b1 Rg ok) R (okS_fuzz ok) hK
    rw [if_neg t]
    clear t
    by_cases t : xs (Int32.toNatClampNeg (iI (k : Int))) &&& 15 = 7
    · rw [if_pos t]
      exact both (fD := f_D_form _) (fM := f_M_form _) (K := f_W_law_18 L xs n (iI (k : Int) + 6)) (C_form b1 S) (fun g Rg => M_form b1 Rg) R (okS_form ok) hK
    rw [if_neg t]
    clear t
    by_cases t : xs (Int32.toNatClampNeg (iI (k : Int))) &&& 15 = 8
    · rw [if_pos t]
      have C := C_work b1 b2 b3 b4 S ok
      have o := ok4 (f := f_D_work _ _ _ _) C
      exact both (fD := f_D_work _ _ _ _) (fM := f_M_work _ _ _ _) (K := f_W_law_18 L xs n (iI (k : Int) + 6)) (drop4 (f := f_D_work _ _ _ _) C) (fun g Rg => M_work b1 b2 b3 b4 Rg ok o) R o hK
    rw [if_neg t]
    clear t
    by_cases t : xs (Int32.toNatClampNeg (iI (k : Int))) &&& 15 = 9
    · rw [if_pos t]
      have C := C_turn b1 b2 b3 S ok
      have o := ok4 (f := f_D_turn _ _ _) C
      exact both (fD := f_D_turn _ _ _) (fM := f_M_turn _ _ _) (K := f_W_law_18 L xs n (iI (k : Int) + 6)) (drop4 (f := f_D_turn _ _ _) C) (fun g Rg => M_turn b1 b2 b3 Rg ok o) R o hK
    rw [if_neg t]
    clear t
    by_cases t : xs (Int32.toNatClampNeg (iI (k : Int))) &&& 15 = 10
    · rw [if_pos t]
      by_cases w : iI z4 = 0
      · rw [if_pos w]
        simp only [if_pos w]
        have C := C_most (w := 0) (by omega) b1 b2 b3 S ok
        have o := ok4 (f := f_D_most _ _ _ _) C
        exact both (fD := f_D_most _ _ _ _) (fM := f_M_most _ _ _ _) (K := f_W_law_18 L xs n (iI (k : Int) + 6)) (drop4 (f := f_D_most _ _ _ _) C) (fun g Rg => M_most (w := 0) (by omega) b1 b2 b3 Rg ok o) R o hK
      · rw [if_neg w]
        simp only [if_neg w]
        have C := C_most (w := 1) (by omega) b1 b2 b3 S ok
        have o := ok4 (f := f_D_most _ _ _ _) C
        exact both (fD := f_D_most _ _ _ _) (fM := f_M_most _ _ _ _) (K := f_W_law_18 L xs n (iI (k : Int) + 6)) (drop4 (f := f_D_most _ _ _ _) C) (fun g Rg => M_most (w := 1) (by omega) b1 b2 b3 Rg ok o) R o hK
    rw [if_neg t]
    clear t
    by_cases t : xs (Int32.toNatClampNeg (iI (k : Int))) &&& 15 = 11
    · rw [if_pos t]
      have C := C_cut b1 b2 b3 S ok
      have o := ok4 (f := f_D_cut _ _ _) C
      exact both (fD := f_D_cut _ _ _) (fM := f_M_cut _ _ _) (K := f_W_law_18 L xs n (iI (k : Int) + 6)) (drop4 (f := f_D_cut _ _ _) C) (fun g Rg => M_cut b1 b2 b3 Rg ok) R o hK
    rw [if_neg t]
    clear t
    by_cases t : xs (Int32.toNatClampNeg (iI (k : Int))) &&& 15 = 12
    · rw [if_pos t]
      have C := C_column b1 b2 b3 b4 S ok
      have o := ok4 (f := f_D_column _ _ _ _) C
      exact both (fD := f_D_column _ _ _ _) (fM := f_M_column _ _ _ _) (K := f_W_law_18 L xs n (iI (k : Int) + 6)) (drop4 (f := f_D_column _ _ _ _) C) (fun g Rg => M_column b1 b2 b3 b4 Rg ok) R o hK
    rw [if_neg t]
    clear t
    by_cases t : xs (Int32.toNatClampNeg (iI (k : Int))) &&& 15 = 13
    · rw [if_pos t]
      by_cases w : iI z3 = 0
      · rw [if_pos w]
        simp only [if_pos w]
        exact both (fD := f_D_compare _ _ (iI 0)) (fM := f_M_compare _ _ (iI 0)) (K := f_W_law_18 L xs n (iI (k : Int) + 6)) (C_compare b1 b2 ⟨by omega, by omega⟩ S ok) (fun g Rg => M_compare b1 b2 ⟨by omega, by omega⟩ Rg ok) R ok hK
      · rw [if_neg w]
        simp only [if_neg w]
        exact both (fD := f_D_compare _ _ (iI 1)) (fM := f_M_compare _ _ (iI 1)) (K := f_W_law_18 L xs n (iI (k : Int) + 6)) (C_compare b1 b2 ⟨by omega, by omega⟩ S ok) (fun g Rg => M_compare b1 b2 ⟨by omega, by omega⟩ Rg ok) R ok hK
    rw [if_neg t]
    clear t
    by_cases t : xs (Int32.toNatClampNeg (iI (k : Int))) &&& 15 = 14
    · rw [if_pos t]
      exact both (fD := f_D_whole _) (fM := f_M_whole _) (K := f_W_law_18 L xs n (iI (k : Int) + 6)) (C_whole b1 S ok) (fun g Rg => M_whole b1 Rg ok) R ok hK
    rw [if_neg t]
    clear t
    by_cases t : xs (Int32.toNatClampNeg (iI (k : Int))) &&& 15 = 15
    · rw [if_pos t]
      exact both (fD := f_D_about _ _) (fM := f_M_about _ _) (K := f_W_law_18 L xs n (iI (k : Int) + 6)) (C_about b1 b2 S ok) (fun g Rg => M_about b1 b2 Rg ok) R ok hK
    rw [if_neg t]
    exact hK h σ S R ok
theorem hp0_z {i k : Nat} (h0 : i ≠ 0) (h1 : i ≠ 46) : hp0 i k = 0 := by
  unfold hp0
  split
  · exact absurd rfl h0
  · exact absurd rfl h1
  · rfl
theorem isL_start {i : Nat} (h0 : i ≠ 0) (h1 : i ≠ 46) : isL hp0 i [] := ⟨by rw [hp0_z h0 h1]; rfl, Nat.zero_le _, fun k hk => absurd hk (Nat.not_lt_zero k), fun k hk => absurd hk (Nat.not_lt_zero k)⟩
theorem main_pure (L : Nat) (xs : Nat → Int32) (hL : L ≤ 3072) : ∃ h', f_W_law_18 L xs fuel 0 hp0 = some (1, h') := by
  have nil : ∀ n, okB [] n := fun n => ⟨Nat.zero_le _, fun k hk => absurd hk (Nat.not_lt_zero k)⟩
  have S : SC hp0 ([], fun _ => [], 9, 0, 0) := ⟨isL_start (by omega) (by omega), fun r hr => isL_start (by omega) (by omega), rfl, rfl, rfl⟩
  have R : SR hp0 ([], fun _ => [], 9, 0, 0) := ⟨⟨rfl, fun k hk => absurd hk (Nat.not_lt_zero k)⟩, fun r hr => ⟨by rw [hp0_z (by omega) (by omega)]; rfl, fun k hk => absurd hk (Nat.not_lt_zero k)⟩, rfl, rfl, rfl⟩
  have ok : okS ([], fun _ => [], 9, 0, 0) := ⟨nil 240, fun _ _ => nil 200, by decide, by decide, by decide, by decide⟩
  exact law_loop hL fuel L 0 hp0 _ (by omega) (by unfold fuel; omega) (by omega) S R ok
