/-! PURE 25: the reference's long division -/
def kd (h h' : Hp) (z : Nat) : Prop := (∀ j, j ≠ 50 → j ≠ 51 → j ≠ 52 → j ≠ 53 → j ≠ 54 → h' j = h j) ∧ (∀ k, k ≠ z → h' 51 k = h 51 k ∧ h' 52 k = h 52 k ∧ h' 53 k = h 53 k) ∧ ∀ q, q < 2600 * z ∨ 2600 * z + 2600 ≤ q → h' 50 q = h 50 q
theorem kd_km {h h' : Hp} {z : Nat} (x : km h h' z) : kd h h' z := ⟨fun j a b c d _ => x.1 j a b c d, x.2.1, x.2.2⟩
theorem kd_r (h : Hp) (z : Nat) : kd h h z := kd_km (km_r h z)
theorem kd_t {h h1 h2 : Hp} {z : Nat} (x : kd h h1 z) (y : kd h1 h2 z) : kd h h2 z := ⟨fun j a b c d e => (y.1 j a b c d e).trans (x.1 j a b c d e), fun k hk => ⟨(y.2.1 k hk).1.trans (x.2.1 k hk).1, (y.2.1 k hk).2.1.trans (x.2.1 k hk).2.1, (y.2.1 k hk).2.2.trans (x.2.1 k hk).2.2⟩, fun q hq => (y.2.2 q hq).trans (x.2.2 q hq)⟩
theorem kd_f {h h' : Hp} {z : Nat} (x : ∀ y, y ≠ 54 → h' y = h y) : kd h h' z := ⟨fun j _ _ _ _ e => x j e, fun k _ => ⟨by rw [x 51 (by omega)], by rw [x 52 (by omega)], by rw [x 53 (by omega)]⟩, fun q _ => by rw [x 50 (by omega)]⟩
theorem isM_kd {h h' : Hp} {z y c : Nat} {s e : Int} (hy : y ≠ z) (H : isM h y s c e) (k : kd h h' z) : isM h' y s c e := by
  obtain ⟨h1, h2, h3, h4, h5⟩ := H
  have a := k.2.1 y hy
  exact ⟨a.1.trans h1, a.2.1.trans h2, a.2.2.trans h3, h4, fun q hq => by rw [k.2.2 _ (by omega)]; exact h5 q hq⟩
theorem isM_54 {h h' : Hp} {y c : Nat} {s e : Int} (H : isM h y s c e) (k : ∀ y, y ≠ 54 → h' y = h y) : isM h' y s c e := by
  obtain ⟨h1, h2, h3, h4, h5⟩ := H
  exact ⟨by rw [k 51 (by omega)]; exact h1, by rw [k 52 (by omega)]; exact h2, by rw [k 53 (by omega)]; exact h3, h4, fun q hq => by rw [k 50 (by omega)]; exact h5 q hq⟩
theorem fw_kd {h h' : Hp} {z : Nat} (x : kd h h' z) : fw h h' := ⟨fun j a b => x.1 j (by omega) (by omega) (by omega) (by omega) (by omega), fun k _ => by rw [x.1 46 (by omega) (by omega) (by omega) (by omega) (by omega)]⟩
theorem in300 {n : Nat} (h : n < 300) : inR (iI (n : Int)) 300 := iI_inR (by omega) (by omega) (by omega)
-- ===== is it enough? =====
theorem M_en_loop {y L : Nat} {u : Int × Nat × Int} {h : Hp} (hy : y < 5) (hu : 0 < u.2.1) (hw : nd u.2.1 ≤ 60) (M : isM h y u.1 u.2.1 u.2.2) (B : isB h 54 (nd u.2.1 + 1) L) : ∀ (m k n : Nat), k + m = nd u.2.1 → m < n → f_M_isEnough_13 n (iI (y : Int)) (iI (k : Int)) h = some (iI (if cmpF L u.2.1 m < 0 then 0 else 1), h) := by
  have mu := mn_c hu
  intro m
  induction m with
  | zero =>
    intro k n hk hn
    obtain ⟨n, rfl⟩ : ∃ q, n = q + 1 := ⟨n - 1, by omega⟩
    rw [f_M_isEnough_13, chk_t (inz hy), clz hy, M.1, mu, if_pos (leN (by omega) (by omega) (by omega)), if_neg (show ¬ cmpF _ _ 0 < 0 from fun z => absurd (show (0 : Int) < 0 from z) (by decide))]
    rfl
  | succ m ih =>
    intro k n hk hn
    obtain ⟨n, rfl⟩ : ∃ q, n = q + 1 := ⟨n - 1, by omega⟩
    have a := Nat.mod_lt (L / 10 ^ m) (show 10 > 0 by decide)
    have b := Nat.mod_lt (u.2.1 / 10 ^ m) (show 10 > 0 by decide)
    have x1 : dg L (nd u.2.1 + 1) (k + 1) = L / 10 ^ m % 10 := by rw [dg_top (by omega), show nd u.2.1 + 1 - (k + 1 + 1) = m by omega]
    have y1 : dg u.2.1 (mn u.2.1) k = u.2.1 / 10 ^ m % 10 := by rw [mu, dg_top (by omega), show nd u.2.1 - (k + 1) = m by omega]
    have ch1 : ∀ {β : Type} (X : Option β), chk (inR (iI ((k + 1 : Nat) : Int)) 300) X = X := fun X => chk_t (in300 (by omega))
    have ch2 : ∀ {β : Type} (X : Option β), chk (inR (iI ((2600 * y + k : Nat) : Int)) 13000) X = X := fun X => chk_t (ixR hy (by omega))
    rw [f_M_isEnough_13, chk_t (inz hy), clz hy, M.1, mu, if_neg (nleN (by omega) (by omega) (by omega)), scN, ixN]
    simp only [ch1, ch2]
    rw [clN (n := k + 1) (by omega), clN (n := 2600 * y + k) (by omega), B.2 (k + 1) (by omega), M.2.2.2.2 k (by omega), x1, y1]
    by_cases q : L / 10 ^ m % 10 = u.2.1 / 10 ^ m % 10
    · have ec : cmpF L u.2.1 (m + 1) = cmpF L u.2.1 m := if_pos q
      rw [if_pos (by rw [q]), ec]
      exact ih (k + 1) n (by omega) (by omega)
    · have ec : cmpF L u.2.1 (m + 1) = ((L / 10 ^ m % 10 : Nat) : Int) - ((u.2.1 / 10 ^ m % 10 : Nat) : Int) := if_neg q
      rw [if_neg (by rw [iI_eq ⟨by omega, by omega⟩ ⟨by omega, by omega⟩]; omega), ec]
      by_cases z : ((L / 10 ^ m % 10 : Nat) : Int) - ((u.2.1 / 10 ^ m % 10 : Nat) : Int) < 0
      · rw [if_pos (leN (by omega) (by omega) (by omega)), if_pos z]
        rfl
      · rw [if_neg (nleN (by omega) (by omega) (by omega)), if_neg z]
        rfl
theorem M_en {y L : Nat} {u : Int × Nat × Int} {h : Hp} (hy : y < 5) (hu : 0 < u.2.1) (hw : nd u.2.1 ≤ 60) (M : isM h y u.1 u.2.1 u.2.2) (B : isB h 54 (nd u.2.1 + 1) L) : f_M_isEnough (iI (y : Int)) h = some (iI (if L < u.2.1 then 0 else 1), h) := by
  have P : 10 ^ (nd u.2.1 + 1) = 10 ^ nd u.2.1 * 10 := Nat.pow_succ _ _
  have d0 : dg L (nd u.2.1 + 1) 0 = L / 10 ^ nd u.2.1 := by
    unfold dg
    rw [show nd u.2.1 + 1 - 1 - 0 = nd u.2.1 by omega]
    exact Nat.mod_eq_of_lt (Nat.div_lt_of_lt_mul (by rw [← P]; exact B.1))
  have dl := dg_lt L (nd u.2.1 + 1) 0
  have nl := nd_lt u.2.1
  have e0 : h 54 0 = iI (dg L (nd u.2.1 + 1) 0 : Int) := B.2 0 (by omega)
  unfold f_M_isEnough
  rw [chk_t (show inR 0 300 from iI_inR (a := 0) (by omega) (by omega) (by omega)), show Int32.toNatClampNeg 0 = 0 from rfl, e0]
  by_cases q : L < 10 ^ nd u.2.1
  · have z : dg L (nd u.2.1 + 1) 0 = 0 := by rw [d0, Nat.div_eq_of_lt q]
    rw [if_pos (by rw [z]; decide)]
    have c := cmpF_lt (X := L) (Y := u.2.1) (nd u.2.1) (by rw [Nat.div_eq_of_lt q, Nat.div_eq_of_lt nl])
    have l := M_en_loop hy hu hw M B (nd u.2.1) 0 fuel (by omega) (by unfold fuel; omega)
    rw [ifq c] at l
    exact l
  · have z : 0 < dg L (nd u.2.1 + 1) 0 := by
      rw [d0]
      exact Nat.div_pos (by omega) (p10 _)
    rw [if_neg (by rw [i0, iI_le ⟨by omega, by omega⟩ ⟨by omega, by omega⟩]; omega), if_neg (by omega)]
    rfl
-- ===== take away once =====
theorem M_sub_loop {y A : Nat} {u : Int × Nat × Int} {v1 v3 v4 v5 v6 v7 : Int32} {k137 : Int32 → Int32 → Int32 → Int32 → Int32 → Int32 → Int32 → Hp → Option (Unit × Hp)} (hy : y < 5) (hu : 0 < u.2.1) (hw : nd u.2.1 ≤ 60) (hAB : u.2.1 ≤ A) (hA : A < 10 ^ (nd u.2.1 + 1)) : ∀ (m k n : Nat) (h : Hp), k + m = nd u.2.1 + 1 → m < n → isM h y u.1 u.2.1 u.2.2 → (∀ q, q < m → h 54 q = iI (dg A (nd u.2.1 + 1) q : Int)) → (∀ q, m ≤ q → q < nd u.2.1 + 1 → h 54 q = iI (dg (A - u.2.1) (nd u.2.1 + 1) q : Int)) → ∃ h', f_M_divide_156 k137 n v1 (iI (y : Int)) v3 v4 v5 v6 v7 (iI (cyF A u.2.1 (-1) k)) (iI ((m : Int) - 1)) h = k137 v1 (iI (y : Int)) v3 v4 v5 v6 (v7 + 1) h' ∧ (∀ q, q < nd u.2.1 + 1 → h' 54 q = iI (dg (A - u.2.1) (nd u.2.1 + 1) q : Int)) ∧ ∀ y, y ≠ 54 → h' y = h y := by
  have mu := mn_c hu
  have hg : (-1 : Int) = 1 ∨ (-1 : Int) = -1 := Or.inr rfl
  intro m
  induction m with
  | zero =>
    intro k n h hk hn M F1 F3
    obtain ⟨n, rfl⟩ : ∃ q, n = q + 1 := ⟨n - 1, by omega⟩
    rw [f_M_divide_156, if_pos (by rw [i0, iI_lt ⟨by omega, by omega⟩ ⟨by omega, by omega⟩]; omega)]
    exact ⟨h, rfl, fun q hq => F3 q (by omega) hq, fun _ _ => rfl⟩
  | succ m ih =>
    intro k n h hk hn M F1 F3
    obtain ⟨n, rfl⟩ : ∃ q, n = q + 1 := ⟨n - 1, by omega⟩
    have em : ((m + 1 : Nat) : Int) - 1 = (m : Int) := by omega
    have cb := cyF_b (X := A) (Y := u.2.1) hg k
    have hd := dgF_p (X := A) (Y := u.2.1) hg k
    have hs := cyF_s A u.2.1 (-1) k
    have x1 : dg A (nd u.2.1 + 1) m = A / 10 ^ k % 10 := by rw [dg_top (by omega), show nd u.2.1 + 1 - (m + 1) = k by omega]
    have ed : dgF A u.2.1 (-1) k = dg (A - u.2.1) (nd u.2.1 + 1) m := by
      rw [dgF_dg hAB hA (by omega), show nd u.2.1 + 1 - 1 - k = m by omega]
    have go : ∀ (s0 : Int32), s0 = iI (cyF A u.2.1 (-1) (k + 1)) → ∃ h', f_M_divide_208 (fun v1 v2 v3 v4 v5 v6 v7 v8 v9 h => f_M_divide_156 k137 n v1 v2 v3 v4 v5 v6 v7 v8 v9 h) v1 (iI (y : Int)) v3 v4 v5 v6 v7 (iI (m : Int)) (iI (rkF A u.2.1 (-1) k)) s0 h = k137 v1 (iI (y : Int)) v3 v4 v5 v6 (v7 + 1) h' ∧ (∀ q, q < nd u.2.1 + 1 → h' 54 q = iI (dg (A - u.2.1) (nd u.2.1 + 1) q : Int)) ∧ ∀ y, y ≠ 54 → h' y = h y := by
      intro s0 e0
      have dd : ∀ v : Int32, v = iI (dg (A - u.2.1) (nd u.2.1 + 1) m : Int) → ∃ h', chk (inR (iI (m : Int)) 300) (f_M_divide_156 k137 n v1 (iI (y : Int)) v3 v4 v5 v6 v7 s0 (iI (m : Int) + (-1)) (up2 h 54 (Int32.toNatClampNeg (iI (m : Int))) v)) = k137 v1 (iI (y : Int)) v3 v4 v5 v6 (v7 + 1) h' ∧ (∀ q, q < nd u.2.1 + 1 → h' 54 q = iI (dg (A - u.2.1) (nd u.2.1 + 1) q : Int)) ∧ ∀ y, y ≠ 54 → h' y = h y := by
        intro v ev
        rw [chk_t (in300 (by omega)), clN (by omega), im1, iI_add, show (m : Int) + -1 = (m : Int) - 1 by omega, e0, ev]
        obtain ⟨h', e', a', b'⟩ := ih (k + 1) n (up2 h 54 m (iI (dg (A - u.2.1) (nd u.2.1 + 1) m : Int))) (by omega) (by omega) (isM_54 M (fun y hy => up2_ne _ _ _ hy)) (fun q hq => by rw [up2_k _ _ _ (by omega)]; exact F1 q (by omega)) (fun q h1 h2 => by
          by_cases z : q = m
          · rw [z, up2_s]
          · rw [up2_k _ _ _ z]
            exact F3 q (by omega) h2)
        exact ⟨h', e', a', fun y hy => by rw [b' y hy, up2_ne _ _ _ hy]⟩
      unfold f_M_divide_208
      by_cases q : rkF A u.2.1 (-1) k < 0
      · rw [if_pos q] at hs
        rw [if_neg (by rw [i0, iI_le ⟨by omega, by omega⟩ ⟨by omega, by omega⟩]; omega)]
        exact dd _ (by rw [← ed, show (10 : Int32) = iI 10 from rfl, iI_add, hd.1, hs]; congr 1)
      · rw [if_neg q, if_pos (by omega)] at hs
        rw [if_pos (by rw [i0, iI_le ⟨by omega, by omega⟩ ⟨by omega, by omega⟩]; omega)]
        exact dd _ (by rw [← ed, hd.1, hs]; congr 1; omega)
    have fin : ∃ h', (if 0 ≤ iI (rkF A u.2.1 (-1) k) then f_M_divide_208 (fun v1 v2 v3 v4 v5 v6 v7 v8 v9 h => f_M_divide_156 k137 n v1 v2 v3 v4 v5 v6 v7 v8 v9 h) v1 (iI (y : Int)) v3 v4 v5 v6 v7 (iI (m : Int)) (iI (rkF A u.2.1 (-1) k)) 0 h else f_M_divide_208 (fun v1 v2 v3 v4 v5 v6 v7 v8 v9 h => f_M_divide_156 k137 n v1 v2 v3 v4 v5 v6 v7 v8 v9 h) v1 (iI (y : Int)) v3 v4 v5 v6 v7 (iI (m : Int)) (iI (rkF A u.2.1 (-1) k)) (-1) h) = k137 v1 (iI (y : Int)) v3 v4 v5 v6 (v7 + 1) h' ∧ (∀ q, q < nd u.2.1 + 1 → h' 54 q = iI (dg (A - u.2.1) (nd u.2.1 + 1) q : Int)) ∧ ∀ y, y ≠ 54 → h' y = h y := by
      by_cases q : rkF A u.2.1 (-1) k < 0
      · rw [if_neg (by rw [i0, iI_le ⟨by omega, by omega⟩ ⟨by omega, by omega⟩]; omega)]
        exact go _ (by rw [hs, if_pos q, im1])
      · rw [if_pos (by rw [i0, iI_le ⟨by omega, by omega⟩ ⟨by omega, by omega⟩]; omega)]
        exact go _ (by rw [hs, if_neg q, if_pos (by omega)]; rfl)
    rw [f_M_divide_156, em, if_neg (by rw [i0, iI_lt ⟨by omega, by omega⟩ ⟨by omega, by omega⟩]; omega), chk_t (in300 (by omega)), clN (n := m) (by omega), F1 m (by omega), x1, iI_add]
    by_cases m0 : m = 0
    · have y1 : u.2.1 / 10 ^ k % 10 = 0 := by
        rw [Nat.div_eq_of_lt (Nat.lt_of_lt_of_le (nd_lt u.2.1) (Nat.pow_le_pow_right (by decide) (by omega)))]
      rw [if_pos (by rw [i0, iI_le ⟨by omega, by omega⟩ ⟨by omega, by omega⟩]; omega), Int32.sub_zero, show ((A / 10 ^ k % 10 : Nat) : Int) + cyF A u.2.1 (-1) k = rkF A u.2.1 (-1) k by unfold rkF; rw [y1]; omega]
      exact fin
    · have y1 : dg u.2.1 (mn u.2.1) (m - 1) = u.2.1 / 10 ^ k % 10 := by rw [mu, dg_top (by omega), show nd u.2.1 - (m - 1 + 1) = k by omega]
      have ix : ((2600 * iI (y : Int)) + iI (m : Int)) - 1 = iI ((2600 * y + (m - 1) : Nat) : Int) := by
        rw [show (2600 : Int32) = iI 2600 from rfl, iI_mul, iI_add, i1, iI_sub]
        congr 1
        omega
      rw [if_neg (by rw [i0, iI_le ⟨by omega, by omega⟩ ⟨by omega, by omega⟩]; omega), ix, chk_t (ixR hy (by omega)), clN (n := 2600 * y + (m - 1)) (by omega), M.2.2.2.2 (m - 1) (by omega), y1, iI_sub, show ((A / 10 ^ k % 10 : Nat) : Int) + cyF A u.2.1 (-1) k - ((u.2.1 / 10 ^ k % 10 : Nat) : Int) = rkF A u.2.1 (-1) k by unfold rkF; omega]
      exact fin
theorem M_all_loop {y : Nat} {u : Int × Nat × Int} {v1 v3 v4 v5 v6 : Int32} {k50 : Int32 → Int32 → Int32 → Int32 → Int32 → Int32 → Hp → Option (Unit × Hp)} (hy : y < 5) (hu : 0 < u.2.1) (hw : nd u.2.1 ≤ 60) : ∀ (m k n A : Nat) (h : Hp), m < n → A < u.2.1 * (m + 1) → isM h y u.1 u.2.1 u.2.2 → isB h 54 (nd u.2.1 + 1) A → ∃ h', f_M_divide_137 k50 n v1 (iI (y : Int)) v3 v4 v5 v6 (iI (k : Int)) h = (if v5 = 0 then if iI ((k + A / u.2.1 : Nat) : Int) = 0 then k50 v1 (iI (y : Int)) v3 v4 v5 v6 h' else f_M_divide_257 k50 v1 (iI (y : Int)) v3 v4 v5 v6 (iI ((k + A / u.2.1 : Nat) : Int)) h' else f_M_divide_257 k50 v1 (iI (y : Int)) v3 v4 v5 v6 (iI ((k + A / u.2.1 : Nat) : Int)) h') ∧ isB h' 54 (nd u.2.1 + 1) (A % u.2.1) ∧ ∀ y, y ≠ 54 → h' y = h y := by
  have mu := mn_c hu
  have small : ∀ (k n A : Nat) (h : Hp), 0 < n → A < u.2.1 → isM h y u.1 u.2.1 u.2.2 → isB h 54 (nd u.2.1 + 1) A → ∃ h', f_M_divide_137 k50 n v1 (iI (y : Int)) v3 v4 v5 v6 (iI (k : Int)) h = (if v5 = 0 then if iI ((k + A / u.2.1 : Nat) : Int) = 0 then k50 v1 (iI (y : Int)) v3 v4 v5 v6 h' else f_M_divide_257 k50 v1 (iI (y : Int)) v3 v4 v5 v6 (iI ((k + A / u.2.1 : Nat) : Int)) h' else f_M_divide_257 k50 v1 (iI (y : Int)) v3 v4 v5 v6 (iI ((k + A / u.2.1 : Nat) : Int)) h') ∧ isB h' 54 (nd u.2.1 + 1) (A % u.2.1) ∧ ∀ y, y ≠ 54 → h' y = h y := by
    intro k n A h hn hA M B
    obtain ⟨n, rfl⟩ : ∃ q, n = q + 1 := ⟨n - 1, by omega⟩
    rw [f_M_divide_137, bd_t (M_en hy hu hw M B), if_pos (by rw [if_pos hA]; rfl), Nat.div_eq_of_lt hA, Nat.mod_eq_of_lt hA, Nat.add_zero]
    exact ⟨h, rfl, B, fun _ _ => rfl⟩
  intro m
  induction m with
  | zero =>
    intro k n A h hn hA M B
    rw [Nat.zero_add, Nat.mul_one] at hA
    exact small k n A h (by omega) hA M B
  | succ m ih =>
    intro k n A h hn hA M B
    by_cases q : A < u.2.1
    · exact small k n A h (by omega) q M B
    · obtain ⟨n, rfl⟩ : ∃ q, n = q + 1 := ⟨n - 1, by omega⟩
      rw [f_M_divide_137, bd_t (M_en hy hu hw M B), if_neg (by rw [if_neg q]; decide), chk_t (inz hy), clz hy, M.1, mu]
      obtain ⟨h1, e1, F1, k1⟩ := M_sub_loop (y := y) (A := A) (u := u) (v1 := v1) (v3 := v3) (v4 := v4) (v5 := v5) (v6 := v6) (v7 := iI (k : Int)) (k137 := fun v1 v2 v3 v4 v5 v6 v7 h => f_M_divide_137 k50 n v1 v2 v3 v4 v5 v6 v7 h) hy hu hw (by omega) B.1 (nd u.2.1 + 1) 0 fuel h (by omega) (by unfold fuel; omega) M (fun q hq => B.2 q hq) (fun q h1 h2 => by omega)
      have e1 : f_M_divide_156 (fun v1 v2 v3 v4 v5 v6 v7 h => f_M_divide_137 k50 n v1 v2 v3 v4 v5 v6 v7 h) fuel v1 (iI (y : Int)) v3 v4 v5 v6 (iI (k : Int)) 0 (iI (nd u.2.1 : Int)) h = f_M_divide_137 k50 n v1 (iI (y : Int)) v3 v4 v5 v6 (iI (k : Int) + 1) h1 := by
        rw [show ((nd u.2.1 + 1 : Nat) : Int) - 1 = (nd u.2.1 : Int) by omega] at e1
        exact e1
      rw [e1, scN]
      have e2 : u.2.1 * (m + 1 + 1) = u.2.1 * (m + 1) + u.2.1 := Nat.mul_succ _ _
      obtain ⟨h2, e3, B4, k2⟩ := ih (k + 1) n (A - u.2.1) h1 (by omega) (by omega) (isM_54 M k1) ⟨Nat.lt_of_le_of_lt (Nat.sub_le _ _) B.1, F1⟩
      have d1 : A / u.2.1 = (A - u.2.1) / u.2.1 + 1 := by
        rw [Nat.div_eq A u.2.1, if_pos ⟨hu, by omega⟩]
      have d2 : A % u.2.1 = (A - u.2.1) % u.2.1 := Nat.mod_eq_sub_mod (by omega)
      rw [d1, d2, show k + ((A - u.2.1) / u.2.1 + 1) = k + 1 + (A - u.2.1) / u.2.1 by omega]
      exact ⟨h2, e3, B4, fun y hy => by rw [k2 y hy, k1 y hy]⟩
theorem M_down_loop {x y A T : Nat} {t u : Int × Nat × Int} {v3 v4 v5 : Int32} {k50 : Int32 → Int32 → Int32 → Int32 → Int32 → Int32 → Hp → Option (Unit × Hp)} (hx : x < 5) (hy : y < 5) (ht : 0 < t.2.1) (hu : 0 < u.2.1) (hw : nd u.2.1 ≤ 60) (hwt : nd t.2.1 ≤ 2600) (hT : T ≤ 100000) : ∀ (m k n : Nat) (h : Hp), k + m = nd u.2.1 → m < n → isM h x t.1 t.2.1 t.2.2 → isM h y u.1 u.2.1 u.2.2 → (∀ q, q < nd u.2.1 + 1 → h 54 q = iI ((if q < k then dg A (nd u.2.1 + 1) (q + 1) else dg A (nd u.2.1 + 1) q : Nat) : Int)) → ∃ h', f_M_divide_59 k50 n (iI (x : Int)) (iI (y : Int)) v3 v4 v5 (iI (T : Int)) (iI (k : Int)) h = f_M_divide_137 k50 fuel (iI (x : Int)) (iI (y : Int)) v3 v4 v5 (iI ((T + 1 : Nat) : Int)) 0 h' ∧ (∀ q, q < nd u.2.1 + 1 → h' 54 q = iI ((if q < nd u.2.1 then dg A (nd u.2.1 + 1) (q + 1) else dz t.2.1 (T : Int) : Nat) : Int)) ∧ ∀ y, y ≠ 54 → h' y = h y := by
  have mu := mn_c hu
  have mt := mn_c ht
  intro m
  induction m with
  | zero =>
    intro k n h hk hn M1 M2 F
    obtain ⟨n, rfl⟩ : ∃ q, n = q + 1 := ⟨n - 1, by omega⟩
    rw [f_M_divide_59]
    simp only [chk_t (inz hy), chk_t (inz hx), clz hy, clz hx, M2.1, M1.1, mu, mt]
    rw [if_pos (leN (by omega) (by omega) (by omega)), scN]
    have ch : ∀ {β : Type} (X : Option β), chk (inR (iI (nd u.2.1 : Int)) 300) X = X := fun X => chk_t (in300 (by omega))
    have fin : ∀ v : Int32, v = iI (dz t.2.1 (T : Int) : Int) → (∀ q, q < nd u.2.1 + 1 → (up2 h 54 (nd u.2.1) v) 54 q = iI ((if q < nd u.2.1 then dg A (nd u.2.1 + 1) (q + 1) else dz t.2.1 (T : Int) : Nat) : Int)) ∧ ∀ y, y ≠ 54 → (up2 h 54 (nd u.2.1) v) y = h y := fun v ev => ⟨fun q hq => by
      by_cases z : q = nd u.2.1
      · rw [z, up2_s, if_neg (by omega), ev]
      · rw [up2_k _ _ _ z, F q hq, if_pos (by omega), if_pos (by omega)], fun y hy => up2_ne _ _ _ hy⟩
    by_cases q : nd t.2.1 ≤ T
    · rw [if_pos (leN (by omega) (by omega) q), ch, clN (n := nd u.2.1) (by omega)]
      refine ⟨_, rfl, fin 0 ?_⟩
      have : dz t.2.1 (T : Int) = 0 := if_neg (by omega)
      rw [this]
      rfl
    · rw [if_neg (nleN (by omega) (by omega) (by omega)), ixN, chk_t (ixR hx (by omega)), ch, clN (n := nd u.2.1) (by omega), clN (n := 2600 * x + T) (by omega), M1.2.2.2.2 T (by omega)]
      refine ⟨_, rfl, fin _ ?_⟩
      have : dz t.2.1 (T : Int) = dg t.2.1 (nd t.2.1) (T : Int).toNat := if_pos (by omega)
      rw [this, mt, Int.toNat_natCast]
  | succ m ih =>
    intro k n h hk hn M1 M2 F
    obtain ⟨n, rfl⟩ : ∃ q, n = q + 1 := ⟨n - 1, by omega⟩
    rw [f_M_divide_59]
    simp only [chk_t (inz hy), chk_t (inz hx), clz hy, clz hx, M2.1, M1.1, mu, mt]
    rw [if_neg (nleN (by omega) (by omega) (by omega)), scN, chk_t (in300 (by omega)), chk_t (in300 (by omega)), clN (n := k) (by omega), clN (n := k + 1) (by omega), F (k + 1) (by omega), if_neg (by omega)]
    have k0 : ∀ y, y ≠ 54 → (up2 h 54 k (iI (dg A (nd u.2.1 + 1) (k + 1) : Int))) y = h y := fun y hy => up2_ne _ _ _ hy
    obtain ⟨h', e', a', b'⟩ := ih (k + 1) n (up2 h 54 k (iI (dg A (nd u.2.1 + 1) (k + 1) : Int))) (by omega) (by omega) (isM_54 M1 k0) (isM_54 M2 k0) (fun q hq => by
      by_cases z : q = k
      · rw [z, up2_s, if_pos (by omega)]
      · rw [up2_k _ _ _ z, F q hq]
        by_cases w : q < k
        · rw [if_pos w, if_pos (by omega)]
        · rw [if_neg w, if_neg (by omega)])
    exact ⟨h', e', a', fun y hy => by rw [b' y hy, k0 y hy]⟩
theorem isB_down {h : Hp} {w A d : Nat} (hw0 : 0 < w) (hd : d < 10) (hA : A < 10 ^ (w - 1)) (F : ∀ q, q < w → h 54 q = iI ((if q < w - 1 then dg A w (q + 1) else d : Nat) : Int)) : isB h 54 w (10 * A + d) := by
  have P : 10 ^ w = 10 ^ (w - 1) * 10 := by
    rw [← Nat.pow_succ]
    congr 1
    omega
  refine ⟨by omega, fun k hk => ?_⟩
  rw [F k hk]
  congr 2
  by_cases z : k < w - 1
  · rw [if_pos z]
    unfold dg
    rw [show w - 1 - k = (w - 1 - (k + 1)) + 1 by omega, Nat.pow_succ', ← Nat.div_div_eq_div_mul, Nat.mul_add_div (by decide), Nat.div_eq_of_lt hd]
    rfl
  · rw [if_neg z]
    unfold dg
    rw [show w - 1 - k = 0 by omega, Nat.pow_zero, Nat.div_one]
    omega
