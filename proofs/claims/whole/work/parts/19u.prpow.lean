/-! PURE 29: the reference's power -/
theorem M_unit {z : Nat} {h : Hp} (hz : z < 5) : ∃ h', f_M_zero (iI (z : Int)) h = some ((), h') ∧ km h h' z ∧ ∀ k, k = 2600 * z → isM (up2 (up2 h' 53 z 1) 50 k 1) z 1 1 0 ∧ km h (up2 (up2 h' 53 z 1) 50 k 1) z := by
  obtain ⟨h1, e1, M1, k1⟩ := M_zero (h := h) hz
  refine ⟨h1, e1, k1, fun k hk => ⟨⟨?_, ?_, ?_, by decide, fun q hq => ?_⟩, ?_⟩⟩
  · rw [up2_o _ _ _ _ (by omega), up2_o _ _ _ _ (by omega)]
    exact M1.1
  · rw [up2_o _ _ _ _ (by omega), up2_o _ _ _ _ (by omega)]
    exact M1.2.1
  · rw [up2_o _ _ _ _ (by omega), up2_s]
    rfl
  · have hq : q < 1 := hq
    rw [hk, show 2600 * z + q = 2600 * z by omega, up2_s, show q = 0 by omega]
    decide
  · rw [hk]
    exact km_t k1 (km_t (km_53 _ _ _) (km_50 _ z 0 _ (by omega)))
theorem M_202 {n : Nat} {p : Int × Nat × Int} {h : Hp} (hn : 0 < n) (hn2 : n ≤ 20) (h4 : h 46 4 = iI (n : Int)) (M : isM h 2 p.1 p.2.1 p.2.2) : ∃ h', f_M_raise_202 h = some (0, h') ∧ isM h' 2 (stT (rN n p)).1 (stT (rN n p)).2.1 (stT (rN n p)).2.2 ∧ fw h h' := by
  unfold f_M_raise_202
  obtain ⟨g1, e1, M1, k1⟩ := M_round (z := 2) (n := n) (by omega) M hn (by omega)
  rw [h4, bd_t (show f_M_round 2 (iI (n : Int)) h = _ from e1)]
  obtain ⟨g2, e2, M2, k2⟩ := M_noZeros (z := 2) (by omega) M1
  rw [bd_t (show f_M_noZeros 2 g1 = _ from e2)]
  exact ⟨g2, rfl, M2, fw_t (fw_km k1) (fw_km k2)⟩
/-- a product, rounded, back in its place -/
theorem M_sq {y m b1 b2 n2 : Nat} {p u : Int × Nat × Int} {h : Hp} (hy : y < 3) (hm : 0 < m) (hm2 : m ≤ 24) (hn2 : n2 ≤ 24) (op : okN b1 m p) (ou : okN b2 n2 u) (M1 : isM h 2 p.1 p.2.1 p.2.2) (M2 : isM h y u.1 u.2.1 u.2.2) : ∃ g1 g2 g3, f_M_multiply 2 (iI (y : Int)) 3 h = some ((), g1) ∧ f_M_round 3 (iI (m : Int)) g1 = some ((), g2) ∧ f_M_copy 3 2 g2 = some ((), g3) ∧ isM g3 2 (mulR m p u).1 (mulR m p u).2.1 (mulR m p u).2.2 ∧ fw h g3 ∧ ∀ (c : Nat) (s e : Int), isM h 0 s c e → isM g3 0 s c e := by
  obtain ⟨o1, o2, o3, o4, o5, o6⟩ := op
  obtain ⟨u1, u2, u3, u4, u5, u6⟩ := ou
  obtain ⟨g1, e1, M3, k1⟩ := M_mul (x := 2) (y := y) (z := 3) (t := p) (u := u) (by omega) (by omega) (by omega) (by omega) (by omega) o1 u1 o2 u2 (by unfold mn; omega) M1 M2
  obtain ⟨g2, e2, M4, k2⟩ := M_round (z := 3) (n := m) (by omega) M3 hm (by omega)
  obtain ⟨g3, e3, M5, k3⟩ := M_copy (x := 3) (z := 2) (by omega) (by omega) (by omega) M4
  exact ⟨g1, g2, g3, e1, e2, e3, M5, fw_t (fw_km k1) (fw_t (fw_km k2) (fw_km k3)), fun c s e M0 => isM_km (by omega) (isM_km (by omega) (isM_km (by omega) M0 k1) k2) k3⟩
theorem M_pow_loop {m n v : Nat} {vv : Int} {b : Int × Nat × Int} (hm : 0 < m) (hm2 : m ≤ 24) (hn : 0 < n) (hn2 : n ≤ 20) (hv : v < 1000) (hvv : -1000 ≤ vv ∧ vv ≤ 1000) (hb : okN 1501 20 b) (hz : vv < 0 → 0 < b.2.1) : ∀ (k f : Nat) (h : Hp) (p : Int × Nat × Int), k < f → k ≤ 10 → okN (4000 * 2 ^ (10 - k) - 2000) m p → 0 < p.2.1 ∨ b.2.1 = 0 → isM h 0 b.1 b.2.1 b.2.2 → isM h 2 p.1 p.2.1 p.2.2 → h 46 4 = iI (n : Int) → ∃ h', f_M_raise_81 f (iI vv) (iI (v : Int)) (iI (m : Int)) (iI ((k : Int) - 1)) h = some (0, h') ∧ isM h' 2 (if 0 ≤ vv then stT (rN n (pwL m v b k p)) else stT (rN n (stT (quT m (1, 1, 0) (pwL m v b k p))))).1 (if 0 ≤ vv then stT (rN n (pwL m v b k p)) else stT (rN n (stT (quT m (1, 1, 0) (pwL m v b k p))))).2.1 (if 0 ≤ vv then stT (rN n (pwL m v b k p)) else stT (rN n (stT (quT m (1, 1, 0) (pwL m v b k p))))).2.2 ∧ fw h h' := by
  intro k
  induction k with
  | zero =>
    intro f h p hf hk op pz M1 M2 h4
    obtain ⟨f, rfl⟩ : ∃ q, f = q + 1 := ⟨f - 1, by omega⟩
    have e0 : pwL m v b 0 p = p := rfl
    have np := op.2.2.2.2.2
    rw [f_M_raise_81, if_pos (by rw [i0, iI_lt ⟨by omega, by omega⟩ ⟨by omega, by omega⟩]; omega), e0]
    by_cases q : 0 ≤ vv
    · rw [if_pos (by rw [i0, iI_le ⟨by omega, by omega⟩ ⟨by omega, by omega⟩]; exact q), if_pos q]
      exact M_202 hn hn2 h4 M2
    · have pp : 0 < p.2.1 := by
        rcases pz with a | a
        · exact a
        · have := hz (by omega)
          omega
      rw [if_neg (by rw [i0, iI_le ⟨by omega, by omega⟩ ⟨by omega, by omega⟩]; exact q), if_neg q]
      obtain ⟨g1, e1, k1, U⟩ := M_unit (z := 4) (h := h) (by omega)
      obtain ⟨M3, k1'⟩ := U 10400 (by omega)
      rw [bd_t (show f_M_zero 4 h = _ from e1), chk_t (show inR 4 5 from inz (z := 4) (by omega)), chk_t (show inR 10400 13000 from iI_inR (a := 10400) (by omega) (by omega) (by omega)), show Int32.toNatClampNeg 4 = 4 from rfl, show Int32.toNatClampNeg 10400 = 10400 from rfl]
      obtain ⟨g2, e2, M4, k2⟩ := M_div (x := 4) (y := 2) (z := 3) (n := m) (t := (1, 1, 0)) (u := p) (by omega) (by omega) (by omega) (by omega) (by omega) (Or.inr (Or.inl rfl)) ⟨fun z => absurd z (by decide), fun z => absurd z (by decide)⟩ pp (by omega) (by show nd 1 ≤ 2600; rw [nd_1]; omega) (by omega) M3 (isM_km (by omega) M2 k1')
      rw [bd_t (show f_M_divide 4 2 (iI (m : Int)) 3 _ = _ from e2)]
      obtain ⟨g3, e3, M5, k3⟩ := M_round (z := 3) (n := m) (by omega) M4 hm (by omega)
      rw [bd_t (show f_M_round 3 (iI (m : Int)) g2 = _ from e3)]
      obtain ⟨g4, e4, M6, k4⟩ := M_noZeros (z := 3) (by omega) M5
      rw [bd_t (show f_M_noZeros 3 g3 = _ from e4)]
      obtain ⟨g5, e5, M7, k5⟩ := M_copy (x := 3) (z := 2) (by omega) (by omega) (by omega) M6
      rw [bd_t (show f_M_copy 3 2 g4 = _ from e5)]
      have f5 : fw h g5 := fw_t (fw_km k1') (fw_t (fw_kd k2) (fw_t (fw_km k3) (fw_t (fw_km k4) (fw_km k5))))
      obtain ⟨g6, e6, M8, k6⟩ := M_202 (p := stT (quT m (1, 1, 0) p)) hn hn2 (by rw [f5.2 4 (by omega)]; exact h4) M7
      exact ⟨g6, e6, M8, fw_t f5 k6⟩
  | succ k ih =>
    intro f h p hf hk op pz M1 M2 h4
    obtain ⟨f, rfl⟩ : ∃ q, f = q + 1 := ⟨f - 1, by omega⟩
    have em : ((k + 1 : Nat) : Int) - 1 = (k : Int) := by omega
    have P : 2 ^ (10 - k) = 2 * 2 ^ (10 - (k + 1)) := by
      rw [← Nat.pow_succ']
      congr 1
      omega
    have Q : 0 < 2 ^ (10 - (k + 1)) := Nat.pow_pos (by decide)
    have s1 := mulR_ok hm op op
    have s2 := mulR_ok hm s1 hb
    have vb : v / 2 ^ k < 1000 := Nat.lt_of_le_of_lt (Nat.div_le_self _ _) hv
    rw [f_M_raise_81, em, if_neg (by rw [i0, iI_lt ⟨by omega, by omega⟩ ⟨by omega, by omega⟩]; omega), sh_tab k (by omega) v hv, b1_tab _ vb, im1, iI_add, show (k : Int) + -1 = (k : Int) - 1 by omega]
    obtain ⟨w, hw⟩ : ∃ w, v / 2 ^ k = w := ⟨_, rfl⟩
    rw [hw] at vb ⊢
    by_cases q1 : w = 0
    · have e0 : pwL m v b (k + 1) p = pwL m v b k p := if_pos (by rw [hw]; exact q1)
      rw [q1, if_pos (by rfl), e0]
      exact ih f h p (by omega) (by omega) (okN_w op (by omega) (Nat.le_refl _)) pz M1 M2 h4
    · rw [if_neg (by rw [i0, iI_eq ⟨by omega, by omega⟩ ⟨by omega, by omega⟩]; omega)]
      obtain ⟨g1, g2, g3, e1, e2, e3, M3, k3, K0⟩ := M_sq (y := 2) (p := p) (u := p) (by omega) hm hm2 hm2 op op M2 M2
      rw [bd_t (show f_M_multiply 2 2 3 h = _ from e1), bd_t e2, bd_t e3]
      have M1' := K0 _ _ _ M1
      have h4' : g3 46 4 = iI (n : Int) := by rw [k3.2 4 (by omega)]; exact h4
      by_cases q2 : w % 2 = 0
      · have e0 : pwL m v b (k + 1) p = pwL m v b k (mulR m p p) := by
          show (if v / 2 ^ k = 0 then _ else if v / 2 ^ k % 2 = 0 then _ else _) = _
          rw [hw, if_neg q1, if_pos q2]
        rw [if_pos (by rw [q2]; rfl), e0]
        obtain ⟨g4, e4, M4, k4⟩ := ih f g3 (mulR m p p) (by omega) (by omega) (okN_w s1 (by omega) (Nat.le_refl _)) (by
          rcases pz with a | a
          · exact Or.inl (mulR_pos hm a a)
          · exact Or.inr a) M1' M3 h4'
        exact ⟨g4, e4, M4, fw_t k3 k4⟩
      · have e0 : pwL m v b (k + 1) p = pwL m v b k (mulR m (mulR m p p) b) := by
          show (if v / 2 ^ k = 0 then _ else if v / 2 ^ k % 2 = 0 then _ else _) = _
          rw [hw, if_neg q1, if_neg q2]
        rw [if_neg (by rw [i0, iI_eq ⟨by omega, by omega⟩ ⟨by omega, by omega⟩]; omega), e0]
        obtain ⟨g4, g5, g6, e4, e5, e6, M4, k6, K1⟩ := M_sq (y := 0) (p := mulR m p p) (u := b) (by omega) hm hm2 (by decide) s1 hb M3 M1'
        rw [bd_t (show f_M_multiply 2 0 3 g3 = _ from e4), bd_t e5, bd_t e6]
        have M1'' := K1 _ _ _ M1'
        have h4'' : g6 46 4 = iI (n : Int) := by rw [k6.2 4 (by omega)]; exact h4'
        obtain ⟨g7, e7, M5, k7⟩ := ih f g6 (mulR m (mulR m p p) b) (by omega) (by omega) (okN_w s2 (by omega) (Nat.le_refl _)) (by
          rcases Nat.eq_zero_or_pos b.2.1 with y | y
          · exact Or.inr y
          · rcases pz with a | a
            · exact Or.inl (mulR_pos hm (mulR_pos hm a a) y)
            · omega) M1'' M4 h4''
        exact ⟨g7, e7, M5, fw_t k3 (fw_t k6 k7)⟩
theorem M_raise {n : Nat} {v : Int} {b : Int × Nat × Int} {h : Hp} (hn : 0 < n) (hn2 : n ≤ 20) (hv : -999 ≤ v ∧ v ≤ 999) (hb : okN 1501 20 b) (h4 : h 46 4 = iI (n : Int)) (M : isM h 0 b.1 b.2.1 b.2.2) : ∃ h', f_M_raise (iI v) h = some (iI (pwC v b), h') ∧ (pwC v b = 0 → isM h' 2 (pwT n v b).1 (pwT n v b).2.1 (pwT n v b).2.2) ∧ fw h h' := by
  have o1 := hb.1
  unfold isS at o1
  have o2 := hb.2.1
  have pm := pwM_b n v
  have c5 : inR 0 5 := inz (z := 0) (by omega)
  have cl0 : Int32.toNatClampNeg 0 = 0 := rfl
  have e0 : pwC v b = if v < 0 ∧ b.2.1 = 0 then 42 else 0 := if_neg (by omega)
  have t56 : (v < 0 → 0 < b.2.1) → ∀ x y : Int32, x + y = iI (pwM n v : Int) → ∃ h', f_M_raise_56 (iI v) (iI (v.natAbs : Int)) (x + y) h = some (0, h') ∧ isM h' 2 (pwT n v b).1 (pwT n v b).2.1 (pwT n v b).2.2 ∧ fw h h' := by
    intro hz x y hxy
    unfold f_M_raise_56
    obtain ⟨g1, e1, k1, U⟩ := M_unit (z := 2) (h := h) (by omega)
    obtain ⟨M3, k1'⟩ := U 5200 (by omega)
    rw [bd_t (show f_M_zero 2 h = _ from e1), chk_t (show inR 2 5 from inz (z := 2) (by omega)), chk_t (show inR 5200 13000 from iI_inR (a := 5200) (by omega) (by omega) (by omega)), show Int32.toNatClampNeg 2 = 2 from rfl, show Int32.toNatClampNeg 5200 = 5200 from rfl, hxy]
    obtain ⟨g2, e2, M2, k2⟩ := M_pow_loop (m := pwM n v) (n := n) (v := v.natAbs) (vv := v) (b := b) (by omega) (by omega) hn hn2 (by omega) ⟨by omega, by omega⟩ hb hz 10 fuel _ (1, 1, 0) (by unfold fuel; omega) (by omega) (one_ok (by omega)) (Or.inl Nat.one_pos) (isM_km (by omega) M k1') M3 (by rw [(fw_km k1').2 4 (by omega)]; exact h4)
    exact ⟨g2, e2, M2, fw_t (fw_km k1') k2⟩
  have t38 : ∀ x y : Int32, x + y = iI (pwM n v : Int) → ∃ h', f_M_raise_38 (iI v) (iI (v.natAbs : Int)) x y h = some (iI (pwC v b), h') ∧ (pwC v b = 0 → isM h' 2 (pwT n v b).1 (pwT n v b).2.1 (pwT n v b).2.2) ∧ fw h h' := by
    intro x y hxy
    unfold f_M_raise_38
    rw [chk_t c5, cl0, M.2.2.1, e0]
    by_cases q4 : b.2.1 = 0
    · rw [if_pos (by rw [o2.mpr q4]; rfl)]
      by_cases q3 : 0 ≤ v
      · rw [if_pos (by rw [i0, iI_le ⟨by omega, by omega⟩ ⟨by omega, by omega⟩]; exact q3), if_neg (show ¬ (v < 0 ∧ b.2.1 = 0) by omega)]
        obtain ⟨g, e, M1, k⟩ := t56 (fun z => by omega) x y hxy
        exact ⟨g, e, fun _ => M1, k⟩
      · rw [if_neg (by rw [i0, iI_le ⟨by omega, by omega⟩ ⟨by omega, by omega⟩]; exact q3), if_pos (show v < 0 ∧ b.2.1 = 0 from ⟨by omega, q4⟩)]
        exact ⟨h, rfl, fun z => absurd z (by decide), fw_r _⟩
    · have s0 : b.1 ≠ 0 := fun z => q4 (o2.mp z)
      rw [if_neg (by rw [i0, iI_eq ⟨by omega, by omega⟩ ⟨by omega, by omega⟩]; exact s0), if_neg (show ¬ (v < 0 ∧ b.2.1 = 0) from fun z => q4 z.2)]
      obtain ⟨g, e, M1, k⟩ := t56 (fun z => by omega) x y hxy
      exact ⟨g, e, fun _ => M1, k⟩
  have t10 : ∃ h', f_M_raise_10 (iI v) (iI (v.natAbs : Int)) h = some (iI (pwC v b), h') ∧ (pwC v b = 0 → isM h' 2 (pwT n v b).1 (pwT n v b).2.1 (pwT n v b).2.2) ∧ fw h h' := by
    unfold f_M_raise_10
    rw [h4]
    by_cases a1 : v.natAbs ≤ 99
    · rw [if_pos (by rw [show (99 : Int32) = iI 99 from rfl, iI_le ⟨by omega, by omega⟩ ⟨by omega, by omega⟩]; omega)]
      by_cases a2 : v.natAbs ≤ 9
      · rw [if_pos (by rw [show (9 : Int32) = iI 9 from rfl, iI_le ⟨by omega, by omega⟩ ⟨by omega, by omega⟩]; omega)]
        refine t38 _ _ ?_
        rw [scN, scN, show n + 1 + 1 = pwM n v by unfold pwM; rw [if_pos a2]]
      · rw [if_neg (by rw [show (9 : Int32) = iI 9 from rfl, iI_le ⟨by omega, by omega⟩ ⟨by omega, by omega⟩]; omega)]
        refine t38 _ _ ?_
        rw [scN, show (2 : Int32) = iI 2 from rfl, iI_add, show ((n + 1 : Nat) : Int) + 2 = (pwM n v : Int) by unfold pwM; rw [if_neg a2, if_pos a1]; omega]
    · rw [if_neg (by rw [show (99 : Int32) = iI 99 from rfl, iI_le ⟨by omega, by omega⟩ ⟨by omega, by omega⟩]; omega)]
      refine t38 _ _ ?_
      rw [scN, show (3 : Int32) = iI 3 from rfl, iI_add, show ((n + 1 : Nat) : Int) + 3 = (pwM n v : Int) by unfold pwM; rw [if_neg (show ¬ v.natAbs ≤ 9 by omega), if_neg a1]; omega]
  unfold f_M_raise
  by_cases q : 0 ≤ v
  · rw [if_pos (by rw [i0, iI_le ⟨by omega, by omega⟩ ⟨by omega, by omega⟩]; exact q)]
    rw [show ((v.natAbs : Nat) : Int) = v by omega] at t10
    exact t10
  · rw [if_neg (by rw [i0, iI_le ⟨by omega, by omega⟩ ⟨by omega, by omega⟩]; exact q), iI_neg]
    rw [show ((v.natAbs : Nat) : Int) = -v by omega] at t10
    exact t10
