/-! PURE 6: the class's Num: zeros at the end, units, places, whole values -/
def strp : Nat → Nat → Int → Nat × Int
  | 0, c, e => (c, e)
  | f + 1, c, e => if 1 < nd c ∧ c % 10 = 0 then strp f (c / 10) (e + 1) else (c, e)
/-- without zeros at the end -/
def strip (c : Nat) (e : Int) : Nat × Int := strp (nd c) c e
theorem isD_div {h : Hp} {i c : Nat} {h' : Hp} (H : isD h i c) (hn : 1 < nd c) (h1 : h' i 1 = iI ((nd c : Int) - 1)) (h2 : h' (i + 1) = h (i + 1)) : isD h' i (c / 10) := by
  have e := nd_divp (c := c) (k := 1) hn
  rw [Nat.pow_one] at e
  refine ⟨by rw [e, h1]; congr 1; omega, by rw [e]; have := H.2.1; omega, fun k hk => ?_⟩
  rw [e] at hk ⊢
  rw [h2, H.2.2 k (by omega)]
  congr 2
  unfold dg
  have e2 := div_pp c 1 (nd c - 1 - 1 - k)
  rw [Nat.pow_one] at e2
  rw [e2]
  congr 3
  omega
theorem N_drop_loop {i : Nat} {s : Int} : ∀ (m n c : Nat) (e : Int) (h : Hp), nd c ≤ m → m < n → isN h i s c e → ∃ h', f_N_dropEndZeros_0 n i h = some ((), h') ∧ isN h' i s (strp m c e).1 (strp m c e).2 ∧ kp h h' i (i + 1) := by
  have hil := il_le (i + 1)
  intro m
  induction m with
  | zero =>
    intro n c e h hm hn H
    obtain ⟨n, rfl⟩ : ∃ q, n = q + 1 := ⟨n - 1, by omega⟩
    have h2 := H.1.2.1
    rw [f_N_dropEndZeros_0, H.1.1, if_pos (by rw [i1, iI_le ⟨by omega, by omega⟩ ⟨by omega, by omega⟩]; omega)]
    exact ⟨h, rfl, H, kp_r _ _ _⟩
  | succ m ih =>
    intro n c e h hm hn H
    obtain ⟨n, rfl⟩ : ∃ q, n = q + 1 := ⟨n - 1, by omega⟩
    have h2 := H.1.2.1
    rw [f_N_dropEndZeros_0, H.1.1, strp]
    by_cases q : nd c ≤ 1
    · rw [if_pos (by rw [i1, iI_le ⟨by omega, by omega⟩ ⟨by omega, by omega⟩]; omega), if_neg (by omega)]
      exact ⟨h, rfl, H, kp_r _ _ _⟩
    · rw [if_neg (by rw [i1, iI_le ⟨by omega, by omega⟩ ⟨by omega, by omega⟩]; omega), i1, iI_sub, bd_t (N_digit H.1 ⟨by omega, by omega⟩)]
      have ed : dz c ((nd c : Int) - 1) = c % 10 := by
        unfold dz
        rw [if_pos (by omega), show ((nd c : Int) - 1).toNat = nd c - 1 by omega, dg_last (by omega)]
      rw [ed]
      by_cases q2 : c % 10 = 0
      · rw [if_pos (by rw [q2]; rfl), if_pos ⟨by omega, q2⟩, H.1.1, iI_sub, up2_k _ _ _ (by omega : (2 : Nat) ≠ 1), H.2.1, iI_add]
        obtain ⟨h', e', H', K'⟩ := ih n (c / 10) (e + 1) (up2 (up2 h i 1 (iI ((nd c : Int) - 1))) i 2 (iI (e + 1))) (by
          have e := nd_divp (c := c) (k := 1) (by omega)
          rw [Nat.pow_one] at e
          omega) (by omega) ⟨isD_div H.1 (by omega) (by rw [up2_k _ _ _ (by omega), up2_s]) (by rw [up2_ne _ _ _ (by omega), up2_ne _ _ _ (by omega)]), by rw [up2_s], by rw [up2_k _ _ _ (by omega), up2_k _ _ _ (by omega)]; exact H.2.2⟩
        exact ⟨h', e', H', kp_t (fun j p _ => by rw [up2_ne _ _ _ p, up2_ne _ _ _ p]) K'⟩
      · rw [if_neg (by
          intro z
          have := (iI_eq ⟨by omega, by omega⟩ ⟨by omega, by omega⟩).mp (show iI ((c % 10 : Nat) : Int) = iI 0 from z)
          omega), if_neg (by omega)]
        exact ⟨h, rfl, H, kp_r _ _ _⟩
theorem N_drop {h : Hp} {i c : Nat} {s e : Int} (H : isN h i s c e) : ∃ h', f_N_dropEndZeros i h = some ((), h') ∧ isN h' i s (strip c e).1 (strip c e).2 ∧ kp h h' i (i + 1) := by
  have hil := il_le (i + 1)
  have h2 := H.1.2.1
  exact N_drop_loop (nd c) fuel c e h (Nat.le_refl _) (by unfold fuel; omega) H
theorem strp_nd : ∀ (m c : Nat) (e : Int), nd (strp m c e).1 ≤ nd c ∧ (0 < c → 0 < (strp m c e).1) := by
  intro m
  induction m with
  | zero => intro c e; exact ⟨Nat.le_refl _, id⟩
  | succ m ih =>
    intro c e
    rw [strp]
    split
    · rename_i q
      obtain ⟨a, b⟩ := ih (c / 10) (e + 1)
      have e1 := nd_divp (c := c) (k := 1) (by omega)
      rw [Nat.pow_one] at e1
      refine ⟨by omega, fun _ => b ?_⟩
      rcases Nat.eq_zero_or_pos (c / 10) with z | z
      · rw [z, nd_0] at e1; omega
      · exact z
    · exact ⟨Nat.le_refl _, id⟩
theorem nd_1 : nd 1 = 1 := by decide
theorem N_unit {h : Hp} {i : Nat} {s : Int} (hi : 1 ≤ il (i + 1)) (hs : bI s) : ∃ h', f_N_becomeUnit i (iI s) h = some ((), h') ∧ isN h' i s (if s = 0 then 0 else 1) 0 ∧ kp h h' i (i + 1) := by
  unfold f_N_becomeUnit
  obtain ⟨h1, e1, H1, K1⟩ := N_clear h i
  rw [bd_t e1]
  simp (disch := omega) only [iI_lit, iI_eq]
  by_cases q : s = 0
  · rw [if_pos (by omega), if_pos q, q]
    exact ⟨h1, rfl, H1, K1⟩
  · rw [if_neg (by omega), if_neg q]
    obtain ⟨h2, e2, H2, K2⟩ := N_push (d := 1) H1.1 (by omega) (by rw [show 10 * 0 + 1 = 1 from rfl, nd_1]; exact hi)
    rw [bd_t e2]
    refine ⟨_, rfl, ⟨isD_eq H2 (up2_k _ _ _ (by omega)) (up2_ne _ _ _ (by omega)), ?_, by rw [up2_s]⟩, kp_t (kp_t K1 K2.1) (fun j p _ => up2_ne _ _ _ p)⟩
    rw [up2_k _ _ _ (by omega), K2.2.1]
    exact H1.2.1
-- ===== whole values =====
theorem wv83 {i c : Nat} {s e0 : Int} (hs : s = 0 ∨ s = 1 ∨ s = -1) : ∀ (m n v : Nat) (h : Hp), m < n → m ≤ 9 → v * 10 ^ m < 1000000000 → isN h i s c e0 → f_N_wholeValue_83 n i (iI (v : Int)) (iI (m : Int)) h = some (iI (if s < 0 then -((v * 10 ^ m : Nat) : Int) else ((v * 10 ^ m : Nat) : Int)), h) := by
  intro m
  induction m with
  | zero =>
    intro n v h hn hm hv H
    obtain ⟨n, rfl⟩ : ∃ q, n = q + 1 := ⟨n - 1, by omega⟩
    rw [f_N_wholeValue_83, H.2.2]
    simp (disch := omega) only [iI_lit, iI_le, iI_neg]
    rw [if_pos (by omega), Nat.pow_zero, Nat.mul_one]
    by_cases q : s < 0
    · rw [if_neg (by omega), if_pos q]
    · rw [if_pos (by omega), if_neg q]
  | succ m ih =>
    intro n v h hn hm hv H
    obtain ⟨n, rfl⟩ : ∃ q, n = q + 1 := ⟨n - 1, by omega⟩
    have e : v * 10 ^ (m + 1) = v * 10 * 10 ^ m := by rw [Nat.pow_succ, Nat.mul_comm (10 ^ m) 10, Nat.mul_assoc]
    rw [e] at hv ⊢
    rw [f_N_wholeValue_83, if_neg (by rw [i0, iI_le ⟨by omega, by omega⟩ ⟨by omega, by omega⟩]; omega), im1, iI_add, show (10 : Int32) = iI 10 from rfl, iI_mul]
    have := ih n (v * 10) h (by omega) (by omega) hv H
    rw [← this]
    congr 2
    all_goals omega
theorem wv83n {i c : Nat} {s e0 e : Int} (hs : s = 0 ∨ s = 1 ∨ s = -1) {n v : Nat} {h : Hp} (he : bI e) (h0 : e ≤ 0) (H : isN h i s c e0) : f_N_wholeValue_83 (n + 1) i (iI (v : Int)) (iI e) h = some (iI (if s < 0 then -(v : Int) else (v : Int)), h) := by
  rw [f_N_wholeValue_83, H.2.2]
  simp (disch := omega) only [iI_lit, iI_le, iI_neg]
  rw [if_pos (by omega)]
  by_cases q : s < 0
  · rw [if_neg (by omega), if_pos q]
  · rw [if_pos (by omega), if_neg q]
/-- how many of the digits stand ahead of the point -/
def aN (c : Nat) (e : Int) : Nat := min ((nd c : Int) + e).toNat (nd c)
def restZ (c : Nat) (e : Int) (k : Nat) : Prop := ∀ j, k ≤ j → j < nd c → (nd c : Int) + e ≤ j → dg c (nd c) j = 0
theorem wv16 {i c : Nat} {s e : Int} (he : bI ((nd c : Int) + e)) : ∀ (m k n : Nat) (h : Hp), k + m = nd c → m < n → isN h i s c e → (restZ c e k → f_N_wholeValue_16 n i (iI (dv (dg c (nd c)) (min k (aN c e)) : Int)) (iI (k : Int)) h = f_N_wholeValue_83 fuel i (iI (dv (dg c (nd c)) (aN c e) : Int)) (iI e) h) ∧ (¬ restZ c e k → f_N_wholeValue_16 n i (iI (dv (dg c (nd c)) (min k (aN c e)) : Int)) (iI (k : Int)) h = some (-2000000000, h)) := by
  have hil := il_le (i + 1)
  intro m
  induction m with
  | zero =>
    intro k n h hk hn H
    obtain ⟨n, rfl⟩ : ∃ q, n = q + 1 := ⟨n - 1, by omega⟩
    have h2 := H.1.2.1
    refine ⟨fun _ => ?_, fun z => absurd (fun j h1 h2 => by omega) z⟩
    rw [f_N_wholeValue_16, H.1.1, if_pos (by rw [iI_le ⟨by omega, by omega⟩ ⟨by omega, by omega⟩]; omega), H.2.1, show min k (aN c e) = aN c e by unfold aN; omega]
  | succ m ih =>
    intro k n h hk hn H
    obtain ⟨n, rfl⟩ : ∃ q, n = q + 1 := ⟨n - 1, by omega⟩
    have h2 := H.1.2.1
    have hd := dg_lt c (nd c) k
    have ed : dz c (k : Int) = dg c (nd c) k := by unfold dz; rw [if_pos (by omega), Int.toNat_natCast]
    have D := N_digit (z := (k : Int)) H.1 ⟨by omega, by omega⟩
    rw [ed] at D
    have ek : iI (k : Int) + 1 = iI ((k + 1 : Nat) : Int) := by rw [i1, iI_add]; rfl
    obtain ⟨I1, I2⟩ := ih (k + 1) n h (by omega) (by omega) H
    rw [f_N_wholeValue_16, H.1.1, if_neg (by rw [iI_le ⟨by omega, by omega⟩ ⟨by omega, by omega⟩]; omega), bd_t (N_ahead H)]
    by_cases q : (k : Int) < (nd c : Int) + e
    · rw [if_pos (by rw [iI_lt ⟨by omega, by omega⟩ he]; exact q)]
      unfold f_N_wholeValue_37
      rw [if_pos rfl]
      unfold f_N_wholeValue_53
      rw [if_pos rfl, bd_t D, ek]
      have e1 : min k (aN c e) = k := by unfold aN; omega
      have e2 : min (k + 1) (aN c e) = k + 1 := by unfold aN; omega
      have e3 : iI (dv (dg c (nd c)) k : Int) * 10 + iI (dg c (nd c) k : Int) = iI (dv (dg c (nd c)) (k + 1) : Int) := by
        rw [show (10 : Int32) = iI 10 from rfl, iI_mul, iI_add, dv_s]; rfl
      rw [e2] at I1 I2
      rw [e1, e3]
      exact ⟨fun z => I1 (fun j h1 h2 h3 => z j (by omega) h2 h3), fun z => I2 (fun y => z (fun j h1 h2 h3 => y j (by omega) h2 h3))⟩
    · rw [if_neg (by rw [iI_lt ⟨by omega, by omega⟩ he]; exact q)]
      unfold f_N_wholeValue_37
      rw [if_neg (by decide), bd_t D]
      have e1 : min k (aN c e) = aN c e := by unfold aN; omega
      have e2 : min (k + 1) (aN c e) = aN c e := by unfold aN; omega
      by_cases z0 : dg c (nd c) k = 0
      · rw [if_pos (by rw [z0]; rfl)]
        unfold f_N_wholeValue_53
        rw [if_neg (by decide), ek]
        rw [e2] at I1 I2
        rw [e1]
        refine ⟨fun z => I1 (fun j h1 h2 h3 => z j (by omega) h2 h3), fun z => I2 (fun y => z (fun j h1 h2 h3 => ?_))⟩
        by_cases x : j = k
        · rw [x]; exact z0
        · exact y j (by omega) h2 h3
      · rw [if_neg (by
          intro z
          have := (iI_eq ⟨by omega, by omega⟩ ⟨by omega, by omega⟩).mp (show iI ((dg c (nd c) k : Nat) : Int) = iI 0 from z)
          omega)]
        exact ⟨fun z => absurd (z k (Nat.le_refl _) (by omega) (by omega)) z0, fun _ => rfl⟩
/-- a whole value: none if it has more than 9 digits ahead of the point, or one behind it that isn't 0 -/
def wv (s : Int) (c : Nat) (e : Int) : Option Int := if 9 < (nd c : Int) + e then none else if 0 ≤ e then some (if s < 0 then -((c * 10 ^ e.toNat : Nat) : Int) else ((c * 10 ^ e.toNat : Nat) : Int)) else if c % 10 ^ (-e).toNat = 0 then some (if s < 0 then -((c / 10 ^ (-e).toNat : Nat) : Int) else ((c / 10 ^ (-e).toNat : Nat) : Int)) else none
theorem restZ_iff {c : Nat} {e : Int} (he : e < 0) : restZ c e 0 ↔ c % 10 ^ (-e).toNat = 0 := by
  by_cases q : 0 ≤ (nd c : Int) + e
  · obtain ⟨a, ha⟩ : ∃ a : Nat, (nd c : Int) + e = a := ⟨((nd c : Int) + e).toNat, by omega⟩
    have hn : nd c = a + (-e).toNat := by omega
    have e1 := dv_add (dg c (nd c)) a (-e).toNat
    rw [← hn, dg_dv_nd] at e1
    have hlt : dv (fun k => dg c (nd c) (a + k)) (-e).toNat < 10 ^ (-e).toNat := dv_lt (fun k _ => dg_lt _ _ _)
    have e2 : c % 10 ^ (-e).toNat = dv (fun k => dg c (nd c) (a + k)) (-e).toNat := by
      rw [Nat.mul_comm] at e1
      conv => lhs; rw [e1]
      rw [Nat.mul_add_mod, Nat.mod_eq_of_lt hlt]
    rw [e2]
    constructor
    · intro z
      exact dv_z (fun k hk => z (a + k) (Nat.zero_le _) (by omega) (by omega))
    · intro z j h1 h2 h3
      have := dv_dg (f := fun k => dg c (nd c) (a + k)) (n := (-e).toNat) (k := j - a) (by omega) (fun _ _ => dg_lt _ _ _)
      rw [z] at this
      have h4 : dg c (nd c) (a + (j - a)) = dg 0 (-e).toNat (j - a) := this
      rw [show a + (j - a) = j by omega] at h4
      rw [h4]
      unfold dg
      simp
  · have hlt : c < 10 ^ (-e).toNat := Nat.lt_of_lt_of_le (nd_lt c) (Nat.pow_le_pow_right (by decide) (by omega))
    rw [Nat.mod_eq_of_lt hlt]
    constructor
    · intro z
      have := dv_z (d := dg c (nd c)) (n := nd c) (fun k hk => z k (Nat.zero_le _) hk (by omega))
      rw [dg_dv_nd] at this
      exact this
    · intro z j h1 h2
      rw [z, nd_0] at h2
      omega
theorem N_whole {h : Hp} {i c : Nat} {s e : Int} (H : isN h i s c e) (hs : s = 0 ∨ s = 1 ∨ s = -1) (he : -1000000000 ≤ e ∧ e ≤ 1000000000) : f_N_wholeValue i h = some (iI ((wv s c e).getD (-2000000000)), h) := by
  have hil := il_le (i + 1)
  have h2 := H.1.2.1
  unfold f_N_wholeValue wv
  rw [bd_t (N_ahead H)]
  by_cases q : (nd c : Int) + e ≤ 9
  · rw [if_pos (by rw [show (9 : Int32) = iI 9 from rfl, iI_le ⟨by omega, by omega⟩ ⟨by omega, by omega⟩]; exact q), if_neg (by omega)]
    obtain ⟨I1, I2⟩ := wv16 (i := i) (s := s) (c := c) (e := e) ⟨by omega, by omega⟩ (nd c) 0 fuel h (by omega) (by unfold fuel; omega) H
    rw [Nat.zero_min, dv_0] at I1 I2
    by_cases p : 0 ≤ e
    · rw [if_pos p]
      obtain ⟨m, rfl⟩ : ∃ m : Nat, e = m := ⟨e.toNat, by omega⟩
      have ea : aN c (m : Int) = nd c := by unfold aN; omega
      rw [ea, dg_dv_nd] at I1
      have hb : c * 10 ^ m < 1000000000 := by
        have h1 : c * 10 ^ m < 10 ^ nd c * 10 ^ m := Nat.mul_lt_mul_of_pos_right (nd_lt c) (p10 m)
        rw [← Nat.pow_add] at h1
        have h3 : 10 ^ (nd c + m) ≤ 10 ^ 9 := Nat.pow_le_pow_right (by decide) (by omega)
        have h4 : (10 : Nat) ^ 9 = 1000000000 := by decide
        omega
      refine (I1 (fun j h1 h2 h3 => by omega)).trans ?_
      rw [wv83 hs m fuel c h (by unfold fuel; omega) (by omega) hb H]
      rfl
    · rw [if_neg p]
      have ea : dv (dg c (nd c)) (aN c e) = c / 10 ^ (-e).toNat := by
        rw [dg_pre (by unfold aN; omega)]
        by_cases q2 : 0 ≤ (nd c : Int) + e
        · congr 2
          unfold aN
          omega
        · rw [show aN c e = 0 by unfold aN; omega, Nat.sub_zero, Nat.div_eq_of_lt (nd_lt c), Nat.div_eq_of_lt]
          exact Nat.lt_of_lt_of_le (nd_lt c) (Nat.pow_le_pow_right (by decide) (by omega))
      rw [ea] at I1
      by_cases z : c % 10 ^ (-e).toNat = 0
      · rw [if_pos z]
        refine (I1 ((restZ_iff (by omega)).mpr z)).trans ?_
        rw [show fuel = 999999 + 1 from rfl, wv83n hs ⟨by omega, by omega⟩ (by omega) H]
        rfl
      · rw [if_neg z]
        exact (I2 (fun y => z ((restZ_iff (by omega)).mp y))).trans rfl
  · rw [if_neg (by rw [show (9 : Int32) = iI 9 from rfl, iI_le ⟨by omega, by omega⟩ ⟨by omega, by omega⟩]; exact q), if_pos (by omega)]
    rfl
