/-! PURE 7: the reference's numbers -/
def mn (c : Nat) : Nat := max 1 (nd c)
theorem mn_pos (c : Nat) : 0 < mn c := by unfold mn; omega
theorem mn_lt (c : Nat) : c < 10 ^ mn c := Nat.lt_of_lt_of_le (nd_lt c) (Nat.pow_le_pow_right (by decide) (by unfold mn; omega))
theorem mn_c {c : Nat} (h : 0 < c) : mn c = nd c := by have := nd_pos h; unfold mn; omega
theorem mn_0 : mn 0 = 1 := rfl
def isM (h : Hp) (z : Nat) (s : Int) (c : Nat) (e : Int) : Prop := h 51 z = iI (mn c : Int) ∧ h 52 z = iI e ∧ h 53 z = iI s ∧ mn c ≤ 2600 ∧ ∀ k, k < mn c → h 50 (2600 * z + k) = iI (dg c (mn c) k : Int)
def km (h h' : Hp) (z : Nat) : Prop := (∀ j, j ≠ 50 → j ≠ 51 → j ≠ 52 → j ≠ 53 → h' j = h j) ∧ (∀ k, k ≠ z → h' 51 k = h 51 k ∧ h' 52 k = h 52 k ∧ h' 53 k = h 53 k) ∧ ∀ q, q < 2600 * z ∨ 2600 * z + 2600 ≤ q → h' 50 q = h 50 q
theorem km_r (h : Hp) (z : Nat) : km h h z := ⟨fun _ _ _ _ _ => rfl, fun _ _ => ⟨rfl, rfl, rfl⟩, fun _ _ => rfl⟩
theorem km_t {h h1 h2 : Hp} {z : Nat} (x : km h h1 z) (y : km h1 h2 z) : km h h2 z := ⟨fun j a b c d => (y.1 j a b c d).trans (x.1 j a b c d), fun k p => ⟨(y.2.1 k p).1.trans (x.2.1 k p).1, (y.2.1 k p).2.1.trans (x.2.1 k p).2.1, (y.2.1 k p).2.2.trans (x.2.1 k p).2.2⟩, fun q p => (y.2.2 q p).trans (x.2.2 q p)⟩
theorem km_50 (h : Hp) (z k : Nat) (v : Int32) (hk : k < 2600) : km h (up2 h 50 (2600 * z + k) v) z := ⟨fun j a _ _ _ => up2_ne _ _ _ a, fun q _ => ⟨up2_o _ _ _ _ (by omega), up2_o _ _ _ _ (by omega), up2_o _ _ _ _ (by omega)⟩, fun q p => up2_k _ _ _ (by omega)⟩
theorem km_51 (h : Hp) (z : Nat) (v : Int32) : km h (up2 h 51 z v) z := ⟨fun j _ b _ _ => up2_ne _ _ _ b, fun q p => ⟨up2_k _ _ _ p, up2_o _ _ _ _ (by omega), up2_o _ _ _ _ (by omega)⟩, fun q _ => up2_o _ _ _ _ (by omega)⟩
theorem km_52 (h : Hp) (z : Nat) (v : Int32) : km h (up2 h 52 z v) z := ⟨fun j _ _ c _ => up2_ne _ _ _ c, fun q p => ⟨up2_o _ _ _ _ (by omega), up2_k _ _ _ p, up2_o _ _ _ _ (by omega)⟩, fun q _ => up2_o _ _ _ _ (by omega)⟩
theorem km_53 (h : Hp) (z : Nat) (v : Int32) : km h (up2 h 53 z v) z := ⟨fun j _ _ _ d => up2_ne _ _ _ d, fun q p => ⟨up2_o _ _ _ _ (by omega), up2_o _ _ _ _ (by omega), up2_k _ _ _ p⟩, fun q _ => up2_o _ _ _ _ (by omega)⟩
theorem isM_km {h h' : Hp} {z y c : Nat} {s e : Int} (hy : y ≠ z) (H : isM h y s c e) (k : km h h' z) : isM h' y s c e := by
  obtain ⟨h1, h2, h3, h4, h5⟩ := H
  obtain ⟨k1, k2, k3⟩ := k.2.1 y hy
  refine ⟨by rw [k1]; exact h1, by rw [k2]; exact h2, by rw [k3]; exact h3, h4, fun q hq => ?_⟩
  rw [k.2.2 _ (by omega)]
  exact h5 q hq
theorem inz {z : Nat} (hz : z < 5) : inR (iI (z : Int)) 5 := iI_inR (by omega) (by omega) (by omega)
theorem clz {z : Nat} (hz : z < 5) : (iI (z : Int)).toNatClampNeg = z := by rw [iI_cl (by omega) (by omega), Int.toNat_natCast]
theorem ixz {z : Nat} (k : Int) : (2600 : Int32) * iI (z : Int) + iI k = iI (2600 * (z : Int) + k) := by rw [show (2600 : Int32) = iI 2600 from rfl, iI_mul, iI_add]
theorem ix0 {z : Nat} : (2600 : Int32) * iI (z : Int) = iI (2600 * (z : Int)) := by rw [show (2600 : Int32) = iI 2600 from rfl, iI_mul]
theorem M_zero {h : Hp} {z : Nat} (hz : z < 5) : ∃ h', f_M_zero (iI (z : Int)) h = some ((), h') ∧ isM h' z 0 0 0 ∧ km h h' z := by
  unfold f_M_zero
  rw [chk_t (inz hz), chk_t (inz hz), chk_t (inz hz), ix0, chk_t (iI_inR (by omega) (by omega) (by omega)), clz hz, iI_cl (by omega) (by omega), show (2600 * (z : Int)).toNat = 2600 * z + 0 by omega]
  refine ⟨_, rfl, ⟨?_, ?_, ?_, by decide, fun k hk => ?_⟩, km_t (km_t (km_t (km_53 _ _ _) (km_51 _ _ _)) (km_52 _ _ _)) (km_50 _ _ _ _ (by omega))⟩
  · rw [up2_o _ _ _ _ (by omega), up2_o _ _ _ _ (by omega), up2_s]; rfl
  · rw [up2_o _ _ _ _ (by omega), up2_s]; rfl
  · rw [up2_o _ _ _ _ (by omega), up2_o _ _ _ _ (by omega), up2_o _ _ _ _ (by omega), up2_s]; rfl
  · have : k = 0 := by rw [mn_0] at hk; omega
    rw [this, up2_s]
    unfold dg
    simp
    rfl
-- ===== settle =====
def isU (h : Hp) (z n : Nat) (f : Nat → Nat) : Prop := h 51 z = iI (n : Int) ∧ n ≤ 2600 ∧ (∀ k, k < n → f k < 10) ∧ ∀ k, k < n → h 50 (2600 * z + k) = iI (f k : Int)
theorem M_set_a {z n : Nat} {f : Nat → Nat} {h : Hp} (hz : z < 5) (U : isU h z n f) : ∀ (m k j : Nat), k + m = n → m < j → (∀ q, q < k → f q = 0) → ∃ k1, k1 ≤ n ∧ (∀ q, q < k1 → f q = 0) ∧ (k1 < n → f k1 ≠ 0) ∧ f_M_settle_2 j (iI (z : Int)) (iI (k : Int)) h = f_M_settle_33 (iI (z : Int)) (iI (k1 : Int)) h := by
  obtain ⟨u1, u2, u3, u4⟩ := U
  intro m
  induction m with
  | zero =>
    intro k j hk hj h0
    obtain ⟨j, rfl⟩ : ∃ q, j = q + 1 := ⟨j - 1, by omega⟩
    refine ⟨k, by omega, h0, fun q => by omega, ?_⟩
    rw [f_M_settle_2, chk_t (inz hz)]
    simp only [clz hz, u1]
    rw [if_pos (by rw [iI_le ⟨by omega, by omega⟩ ⟨by omega, by omega⟩]; omega)]
  | succ m ih =>
    intro k j hk hj h0
    obtain ⟨j, rfl⟩ : ∃ q, j = q + 1 := ⟨j - 1, by omega⟩
    have ecl : (iI (2600 * (z : Int) + (k : Int))).toNatClampNeg = 2600 * z + k := by rw [iI_cl (by omega) (by omega)]; omega
    have h10 := u3 k (by omega)
    rw [f_M_settle_2, chk_t (inz hz)]
    simp only [clz hz, u1, ixz]
    rw [if_neg (by rw [iI_le ⟨by omega, by omega⟩ ⟨by omega, by omega⟩]; omega), chk_t (iI_inR (by omega) (by omega) (by omega))]
    simp only [ecl, u4 k (by omega)]
    by_cases q : f k = 0
    · rw [if_pos (by rw [q]; rfl)]
      obtain ⟨k1, a1, a2, a3, a4⟩ := ih (k + 1) j (by omega) (by omega) (fun x hx => by
        by_cases y : x = k
        · rw [y]; exact q
        · exact h0 x (by omega))
      refine ⟨k1, a1, a2, a3, ?_⟩
      rw [← a4, i1, iI_add]
      rfl
    · refine ⟨k, by omega, h0, fun _ => q, ?_⟩
      rw [if_neg (by
        intro y
        have := (iI_eq ⟨by omega, by omega⟩ ⟨by omega, by omega⟩).mp (show iI ((f k : Nat) : Int) = iI 0 from y)
        omega)]
theorem M_set_b {z n k1 : Nat} {f : Nat → Nat} (hz : z < 5) (hk0 : 0 < k1) (hk1 : k1 < n) (hn : n ≤ 2600) : ∀ (m i j : Nat) (h : Hp), i + m = n - k1 → m < j → h 51 z = iI ((n - k1 : Nat) : Int) → (∀ q, q < n → h 50 (2600 * z + q) = iI ((if q < i then f (q + k1) else f q : Nat) : Int)) → ∃ h', f_M_settle_61 j (iI (z : Int)) (iI (k1 : Int)) (iI (i : Int)) h = some ((), h') ∧ (∀ q, q < n - k1 → h' 50 (2600 * z + q) = iI (f (q + k1) : Int)) ∧ (∀ y, y ≠ 50 → h' y = h y) ∧ km h h' z := by
  intro m
  induction m with
  | zero =>
    intro i j h hi hj h1 ha
    obtain ⟨j, rfl⟩ : ∃ q, j = q + 1 := ⟨j - 1, by omega⟩
    rw [f_M_settle_61, chk_t (inz hz)]
    simp only [clz hz, h1]
    rw [if_pos (by rw [iI_le ⟨by omega, by omega⟩ ⟨by omega, by omega⟩]; omega)]
    refine ⟨h, rfl, fun q hq => ?_, fun _ _ => rfl, km_r _ _⟩
    rw [ha q (by omega), if_pos (by omega)]
  | succ m ih =>
    intro i j h hi hj h1 ha
    obtain ⟨j, rfl⟩ : ∃ q, j = q + 1 := ⟨j - 1, by omega⟩
    have ec1 : (iI (2600 * (z : Int) + (i : Int))).toNatClampNeg = 2600 * z + i := by rw [iI_cl (by omega) (by omega)]; omega
    have ec2 : (iI (2600 * (z : Int) + (i : Int) + (k1 : Int))).toNatClampNeg = 2600 * z + (i + k1) := by rw [iI_cl (by omega) (by omega)]; omega
    rw [f_M_settle_61, chk_t (inz hz)]
    simp only [clz hz, h1, ixz, iI_add]
    rw [if_neg (by rw [iI_le ⟨by omega, by omega⟩ ⟨by omega, by omega⟩]; omega), if_neg (by rw [i0, iI_le ⟨by omega, by omega⟩ ⟨by omega, by omega⟩]; omega), chk_t (iI_inR (by omega) (by omega) (by omega)), chk_t (iI_inR (by omega) (by omega) (by omega)), ec1, ec2, ha (i + k1) (by omega), if_neg (by omega)]
    obtain ⟨h', e', a', b', c'⟩ := ih (i + 1) j (up2 h 50 (2600 * z + i) (iI (f (i + k1) : Int))) (by omega) (by omega) (by rw [up2_o _ _ _ _ (by omega)]; exact h1) (fun q hq => by
      by_cases y : q = i
      · rw [y, up2_s, if_pos (by omega)]
      · rw [up2_k _ _ _ (by omega), ha q hq]
        by_cases x : q < i
        · rw [if_pos x, if_pos (by omega)]
        · rw [if_neg x, if_neg (by omega)])
    refine ⟨h', ?_, a', fun y hy => (b' y hy).trans (up2_ne _ _ _ hy), km_t (km_50 _ _ _ _ (by omega)) c'⟩
    rw [← e', i1, iI_add]
    rfl
theorem M_settle {h : Hp} {z n : Nat} {f : Nat → Nat} {s e : Int} (hz : z < 5) (hn : 0 < n) (U : isU h z n f) (h2 : h 52 z = iI e) (h3 : h 53 z = iI s) : ∃ h', f_M_settle (iI (z : Int)) h = some ((), h') ∧ isM h' z (if dv f n = 0 then 0 else s) (dv f n) (if dv f n = 0 then 0 else e) ∧ km h h' z := by
  obtain ⟨k1, a1, a2, a3, a4⟩ := M_set_a hz U n 0 fuel (by omega) (by have := U.2.1; unfold fuel; omega) (fun q hq => absurd hq (Nat.not_lt_zero q))
  obtain ⟨u1, u2, u3, u4⟩ := U
  have e1 := dv_add f k1 (n - k1)
  rw [show k1 + (n - k1) = n by omega, dv_z a2, Nat.zero_mul, Nat.zero_add] at e1
  unfold f_M_settle
  rw [show (0 : Int32) = iI ((0 : Nat) : Int) from rfl, a4]
  unfold f_M_settle_33
  rw [chk_t (inz hz)]
  simp only [clz hz, u1]
  by_cases q : k1 = n
  · have ez : dv f n = 0 := by rw [← q]; exact dv_z a2
    rw [if_pos (by rw [q]), ez, if_pos rfl, if_pos rfl]
    obtain ⟨h', e', H', K'⟩ := M_zero (h := h) hz
    rw [bd_t e']
    exact ⟨h', rfl, H', K'⟩
  · have hlt : k1 < n := by omega
    have hc := dv_pos (d := fun k => f (k1 + k)) (n := n - k1) (by omega) (a3 hlt)
    have hc2 : dv (fun k => f (k1 + k)) (n - k1) < 10 ^ (n - k1) := dv_lt (fun k hk => u3 (k1 + k) (by omega))
    rw [← e1] at hc hc2
    have hnd := nd_eq (by omega) hc hc2
    have hpos : 0 < dv f n := Nat.lt_of_lt_of_le (p10 _) hc
    rw [if_neg (by rw [iI_eq ⟨by omega, by omega⟩ ⟨by omega, by omega⟩]; omega), chk_t (inz hz), chk_t (inz hz), iI_sub, if_neg (by omega), if_neg (by omega)]
    have em : mn (dv f n) = n - k1 := by rw [mn_c hpos, hnd]
    have fin : ∀ h' : Hp, (∀ y, y ≠ 50 → h' y = (up2 h 51 z (iI ((n : Int) - (k1 : Int)))) y) → (∀ q, q < n - k1 → h' 50 (2600 * z + q) = iI (f (q + k1) : Int)) → isM h' z s (dv f n) e := fun h' b a => by
      refine ⟨by rw [b 51 (by omega), up2_s, em]; congr 1; omega, by rw [b 52 (by omega), up2_o _ _ _ _ (by omega)]; exact h2, by rw [b 53 (by omega), up2_o _ _ _ _ (by omega)]; exact h3, by omega, fun k hk => ?_⟩
      rw [em] at hk ⊢
      rw [a k hk]
      congr 2
      have := dv_dg (f := fun k => f (k1 + k)) (n := n - k1) hk (fun j hj => u3 (k1 + j) (by omega))
      rw [← e1] at this
      rw [← this, Nat.add_comm]
    by_cases k0 : k1 = 0
    · refine ⟨up2 h 51 z (iI ((n : Int) - (k1 : Int))), ?_, fin _ (fun _ _ => rfl) (fun q hq => ?_), km_51 _ _ _⟩
      · rw [show fuel = 999999 + 1 from rfl, f_M_settle_61, chk_t (inz hz)]
        simp only [clz hz, up2_s]
        rw [if_neg (by rw [i0, iI_le ⟨by omega, by omega⟩ ⟨by omega, by omega⟩]; omega), if_pos (by rw [k0]; decide)]
      · rw [up2_o _ _ _ _ (by omega), u4 q (by omega), k0, Nat.add_zero]
    · obtain ⟨h', e', a', b', c'⟩ := M_set_b (f := f) hz (by omega) hlt u2 (n - k1) 0 fuel (up2 h 51 z (iI ((n : Int) - (k1 : Int)))) (by omega) (by unfold fuel; omega) (by rw [up2_s]; congr 1; omega) (fun q hq => by rw [up2_o _ _ _ _ (by omega), u4 q hq, if_neg (by omega)])
      exact ⟨h', e', fin h' b' a', km_t (km_51 _ _ _) c'⟩
