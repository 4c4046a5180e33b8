/-! PURE 5: the class's Num -/
def isD (h : Hp) (i c : Nat) : Prop := h i 1 = iI (nd c : Int) ∧ nd c ≤ il (i + 1) ∧ ∀ k, k < nd c → h (i + 1) k = iI (dg c (nd c) k : Int)
def isN (h : Hp) (i : Nat) (s : Int) (c : Nat) (e : Int) : Prop := isD h i c ∧ h i 2 = iI e ∧ h i 3 = iI s
theorem isD_eq {h h' : Hp} {i c : Nat} (H : isD h i c) (e1 : h' i 1 = h i 1) (e2 : h' (i + 1) = h (i + 1)) : isD h' i c := ⟨by rw [e1]; exact H.1, H.2.1, fun k hk => by rw [e2]; exact H.2.2 k hk⟩
theorem isN_eq {h h' : Hp} {i c : Nat} {s e : Int} (H : isN h i s c e) (e1 : h' i = h i) (e2 : h' (i + 1) = h (i + 1)) : isN h' i s c e := ⟨isD_eq H.1 (by rw [e1]) e2, by rw [e1]; exact H.2.1, by rw [e1]; exact H.2.2⟩
def kq (h h' : Hp) (i : Nat) : Prop := kp h h' i (i + 1) ∧ h' i 2 = h i 2 ∧ h' i 3 = h i 3
theorem kq_r (h : Hp) (i : Nat) : kq h h i := ⟨kp_r _ _ _, rfl, rfl⟩
theorem kq_t {h h1 h2 : Hp} {i : Nat} (x : kq h h1 i) (y : kq h1 h2 i) : kq h h2 i := ⟨kp_t x.1 y.1, y.2.1.trans x.2.1, y.2.2.trans x.2.2⟩
theorem N_clear (h : Hp) (i : Nat) : ∃ h', f_N_clear i h = some ((), h') ∧ isN h' i 0 0 0 ∧ kp h h' i (i + 1) := by
  refine ⟨_, rfl, ⟨⟨?_, Nat.zero_le _, fun k hk => absurd hk (Nat.not_lt_zero k)⟩, ?_, ?_⟩, fun j p _ => ?_⟩
  · rw [up2_k _ _ _ (by omega), up2_k _ _ _ (by omega), up2_s]; rfl
  · rw [up2_k _ _ _ (by omega), up2_s]; rfl
  · rw [up2_s]; rfl
  · rw [up2_ne _ _ _ p, up2_ne _ _ _ p, up2_ne _ _ _ p]
theorem N_push {h : Hp} {i c d : Nat} (H : isD h i c) (hd : d < 10) (hl : nd (10 * c + d) ≤ il (i + 1)) : ∃ h', f_N_push i (iI (d : Int)) h = some ((), h') ∧ isD h' i (10 * c + d) ∧ kq h h' i := by
  obtain ⟨h1, h2, h3⟩ := H
  have hil := il_le (i + 1)
  unfold f_N_push
  rw [h1]
  simp (disch := omega) only [iI_lit, iI_lt, iI_eq]
  by_cases z : c = 0 ∧ d = 0
  · obtain ⟨rfl, rfl⟩ := z
    rw [if_neg (by rw [nd_0]; omega), if_pos (by omega)]
    unfold f_N_push_16
    rw [if_pos (by rfl)]
    exact ⟨h, rfl, ⟨h1, h2, h3⟩, kq_r _ _⟩
  · have hn := nd_push (c := c) (d := d) hd (by omega)
    rw [hn] at hl
    have key : ∃ h', f_N_push_16 i (iI (d : Int)) (iI 1) h = some ((), h') ∧ isD h' i (10 * c + d) ∧ kq h h' i := by
      unfold f_N_push_16
      rw [if_neg (by decide), h1, up2_o _ _ _ _ (by omega : i ≠ i + 1), h1]
      simp (disch := omega) only [iI_lit, iI_lt, iI_le, iI_ofNat, iI_add]
      rw [if_neg (by omega), if_neg (by omega), chk_t (iI_inR (by omega) (by omega) (by omega)), iI_cl (by omega) (by omega), Int.toNat_natCast]
      refine ⟨_, rfl, ⟨?_, by rw [hn]; exact hl, fun k hk => ?_⟩, fun j p q => ?_, ?_, ?_⟩
      · rw [up2_s, hn]; rfl
      · rw [hn] at hk ⊢
        rw [up2_o _ _ _ _ (by omega)]
        by_cases q : k < nd c
        · rw [up2_k _ _ _ (by omega), dg_push hd q]
          exact h3 k q
        · rw [show k = nd c by omega, up2_s]
          congr 2
          have e := dg_last (c := 10 * c + d) (n := nd c + 1) (by omega)
          rw [show nd c + 1 - 1 = nd c by omega] at e
          rw [e]
          omega
      · rw [up2_ne _ _ _ p, up2_ne _ _ _ q]
      · rw [up2_k _ _ _ (by omega), up2_o _ _ _ _ (by omega)]
      · rw [up2_k _ _ _ (by omega), up2_o _ _ _ _ (by omega)]
    by_cases q : 0 < c
    · have := nd_pos q
      rw [if_pos (by omega)]
      exact key
    · have c0 : c = 0 := by omega
      rw [if_neg (by rw [c0, nd_0]; omega), if_neg (by omega)]
      exact key
/-- the digit at a place from the top; 0 where there is none -/
def dz (c : Nat) (z : Int) : Nat := if 0 ≤ z ∧ z < nd c then dg c (nd c) z.toNat else 0
theorem N_digit {h : Hp} {i c : Nat} {z : Int} (H : isD h i c) (hz : bI z) : f_N_digit i (iI z) h = some (iI (dz c z : Int), h) := by
  obtain ⟨h1, h2, h3⟩ := H
  have hil := il_le (i + 1)
  unfold f_N_digit dz
  rw [h1]
  simp (disch := omega) only [iI_lit, iI_lt, iI_le, iI_ofNat]
  by_cases c1 : z < 0
  · rw [if_pos (by omega), if_neg (by omega)]
  · rw [if_neg (by omega)]
    by_cases c2 : z < nd c
    · rw [if_neg (by omega), if_pos (by omega), chk_t (iI_inR (by omega) (by omega) (by omega)), iI_cl (by omega) (by omega), if_pos (by omega), h3 _ (by omega)]
    · rw [if_pos (by omega), if_neg (by omega)]
theorem dz_lt (c : Nat) (z : Int) : dz c z < 10 := by
  unfold dz
  split
  · exact dg_lt _ _ _
  · omega
theorem N_settle {h : Hp} {i c : Nat} {s e : Int} (H : isD h i c) : ∃ h', f_N_settle i (iI s) (iI e) h = some ((), h') ∧ isN h' i (if c = 0 then 0 else s) c (if c = 0 then 0 else e) ∧ kp h h' i (i + 1) := by
  have hil := il_le (i + 1)
  have h2 := H.2.1
  have ee : ∀ v, (up2 h i 3 v) i 1 = h i 1 := fun v => up2_k _ _ _ (by omega)
  unfold f_N_settle f_N_settle_13
  rw [ee, ee, H.1]
  simp (disch := omega) only [iI_lit, iI_eq]
  have mk : ∀ a b : Int32, isD (up2 (up2 h i 3 a) i 2 b) i c ∧ (up2 (up2 h i 3 a) i 2 b) i 2 = b ∧ (up2 (up2 h i 3 a) i 2 b) i 3 = a ∧ kp h (up2 (up2 h i 3 a) i 2 b) i (i + 1) := fun a b =>
    ⟨isD_eq H (by rw [up2_k _ _ _ (by omega), up2_k _ _ _ (by omega)]) (by rw [up2_ne _ _ _ (by omega), up2_ne _ _ _ (by omega)]), up2_s _ _ _ _, by rw [up2_k _ _ _ (by omega), up2_s], fun j p _ => by rw [up2_ne _ _ _ p, up2_ne _ _ _ p]⟩
  by_cases q : c = 0
  · rw [if_pos q, if_pos q, if_pos (by rw [q, nd_0]), if_pos (by rw [q, nd_0])]
    obtain ⟨a, b, d, f⟩ := mk (iI ((0 : Nat) : Int)) (iI ((0 : Nat) : Int))
    exact ⟨_, rfl, ⟨a, b, d⟩, f⟩
  · have := nd_pos (by omega : 0 < c)
    rw [if_neg q, if_neg q, if_neg (by omega), if_neg (by omega)]
    obtain ⟨a, b, d, f⟩ := mk (iI s) (iI e)
    exact ⟨_, rfl, ⟨a, b, d⟩, f⟩
theorem dg_pre {c k : Nat} (hk : k ≤ nd c) : dv (dg c (nd c)) k = c / 10 ^ (nd c - k) := by
  have e := dv_trunc (d := dg c (nd c)) hk (fun j _ => dg_lt _ _ _)
  rw [e, dg_dv_nd]
theorem nd_pre {c k : Nat} (hk : k ≤ nd c) : nd (dv (dg c (nd c)) k) = k := by
  rw [dg_pre hk]
  by_cases q : k = 0
  · rw [q, Nat.sub_zero, Nat.div_eq_of_lt (nd_lt c)]
    rfl
  · rw [nd_divp (by omega)]
    omega
theorem N_copy_loop {i j c : Nat} {s e : Int} (hij : i ≠ j) (hij1 : i ≠ j + 1) (hij2 : i + 1 ≠ j) (hl : nd c ≤ il (i + 1)) (hz : c = 0 → s = 0 ∧ e = 0) : ∀ (m k n : Nat) (h : Hp), k + m = nd c → m < n → isD h i (dv (dg c (nd c)) k) → isN h j s c e → ∃ h', f_N_copy_6 n i j (iI (k : Int)) h = some ((), h') ∧ isN h' i s c e ∧ kp h h' i (i + 1) := by
  have hil := il_le (i + 1)
  intro m
  induction m with
  | zero =>
    intro k n h hk hn Hi Hj
    obtain ⟨n, rfl⟩ : ∃ q, n = q + 1 := ⟨n - 1, by omega⟩
    rw [show k = nd c by omega, dg_dv_nd] at Hi
    rw [f_N_copy_6, Hj.1.1, if_pos (by rw [iI_le ⟨by omega, by omega⟩ ⟨by omega, by omega⟩]; omega), Hj.2.1, Hj.2.2]
    obtain ⟨h', e', H', K'⟩ := N_settle (s := s) (e := e) Hi
    rw [bd_t e']
    refine ⟨h', rfl, ?_, K'⟩
    by_cases q : c = 0
    · rw [if_pos q, if_pos q] at H'
      rw [(hz q).1, (hz q).2]
      exact H'
    · rw [if_neg q, if_neg q] at H'
      exact H'
  | succ m ih =>
    intro k n h hk hn Hi Hj
    obtain ⟨n, rfl⟩ : ∃ q, n = q + 1 := ⟨n - 1, by omega⟩
    have hd := dg_lt c (nd c) k
    have e0 : 10 * dv (dg c (nd c)) k + dg c (nd c) k = dv (dg c (nd c)) (k + 1) := by rw [dv_s]; omega
    rw [f_N_copy_6, Hj.1.1, if_neg (by rw [iI_le ⟨by omega, by omega⟩ ⟨by omega, by omega⟩]; omega), bd_t (N_digit Hj.1 ⟨by omega, by omega⟩)]
    have ed : dz c (k : Int) = dg c (nd c) k := by unfold dz; rw [if_pos (by omega), Int.toNat_natCast]
    rw [ed]
    obtain ⟨h1, e1, H1, K1⟩ := N_push Hi hd (by rw [e0, nd_pre (by omega)]; omega)
    rw [bd_t e1]
    rw [e0] at H1
    obtain ⟨h', e', H', K'⟩ := ih (k + 1) n h1 (by omega) (by omega) H1 (isN_eq Hj (K1.1 j (fun z => hij z.symm) (fun z => hij2 z.symm)) (K1.1 (j + 1) (fun z => hij1 z.symm) (by omega)))
    refine ⟨h', ?_, H', kp_t K1.1 K'⟩
    rw [← e', i1, iI_add]
    rfl
theorem N_copy {h : Hp} {i j c : Nat} {s e : Int} (hij : i ≠ j) (hij1 : i ≠ j + 1) (hij2 : i + 1 ≠ j) (hl : nd c ≤ il (i + 1)) (hz : c = 0 → s = 0 ∧ e = 0) (Hj : isN h j s c e) : ∃ h', f_N_copy i j h = some ((), h') ∧ isN h' i s c e ∧ kp h h' i (i + 1) := by
  have hil := il_le (i + 1)
  unfold f_N_copy
  obtain ⟨h1, e1, H1, K1⟩ := N_clear h i
  rw [bd_t e1]
  obtain ⟨h', e', H', K'⟩ := N_copy_loop hij hij1 hij2 hl hz (nd c) 0 fuel h1 (by omega) (by unfold fuel; omega) H1.1 (isN_eq Hj (K1 j (fun z => hij z.symm) (fun z => hij2 z.symm)) (K1 (j + 1) (fun z => hij1 z.symm) (by omega)))
  exact ⟨h', e', H', kp_t K1 K'⟩
theorem N_ahead {h : Hp} {i c : Nat} {s e : Int} (H : isN h i s c e) : f_N_ahead i h = some (iI ((nd c : Int) + e), h) := by
  unfold f_N_ahead
  rw [H.1.1, H.2.1, iI_add]
theorem N_places {h : Hp} {i c : Nat} {s e : Int} (he : bI e) (H : isN h i s c e) : f_N_places i h = some (iI (if 0 ≤ e then 0 else -e), h) := by
  unfold f_N_places
  rw [H.2.1]
  simp (disch := omega) only [iI_lit, iI_le, iI_neg]
  by_cases q : 0 ≤ e
  · rw [if_pos (by omega), if_pos q]; rfl
  · rw [if_neg (by omega), if_neg q]
theorem N_firstPower {h : Hp} {i c : Nat} {s e : Int} (H : isN h i s c e) : f_N_firstPower i h = some (iI (if c = 0 then 0 else (nd c : Int) + e - 1), h) := by
  have hil := il_le (i + 1)
  have h2 := H.1.2.1
  unfold f_N_firstPower
  rw [H.1.1, H.2.1]
  simp (disch := omega) only [iI_lit, iI_eq, iI_add, iI_sub]
  by_cases q : c = 0
  · rw [if_pos (by rw [q, nd_0]), if_pos q]; rfl
  · have := nd_pos (by omega : 0 < c)
    rw [if_neg (by omega), if_neg q]; rfl
/-- the digit at a power of ten -/
def dp (c : Nat) (e p : Int) : Nat := if e ≤ p then c / 10 ^ (p - e).toNat % 10 else 0
theorem N_digitAtPower {h : Hp} {i c : Nat} {s e p : Int} (H : isN h i s c e) (h1 : -1000000000 ≤ p - e) (h2 : p - e ≤ 1000000000) : f_N_digitAtPower i (iI p) h = some (iI (dp c e p : Int), h) := by
  have hil := il_le (i + 1)
  have h3 := H.1.2.1
  unfold f_N_digitAtPower
  rw [H.1.1, H.2.1]
  simp only [iI_lit, iI_sub]
  rw [bd_t (N_digit H.1 ⟨by omega, by omega⟩)]
  have : dz c ((nd c : Int) - ((1 : Nat) : Int) - (p - e)) = dp c e p := by
    unfold dz dp
    by_cases q : e ≤ p
    · rw [if_pos q]
      by_cases q2 : p - e < nd c
      · rw [if_pos (by omega)]
        unfold dg
        congr 3
        omega
      · rw [if_neg (by omega), Nat.div_eq_of_lt]
        exact Nat.lt_of_lt_of_le (nd_lt c) (Nat.pow_le_pow_right (by decide) (by omega))
    · rw [if_neg q, if_neg (by omega)]
  rw [this]
-- ===== rounding =====
theorem nines {d : Nat → Nat} {m : Nat} : ∀ b, (∀ k, m ≤ k → k < m + b → d k = 9) → dv d (m + b) + 1 = (dv d m + 1) * 10 ^ b
  | 0, _ => by simp
  | b + 1, h => by
    rw [← Nat.add_assoc, dv_s, h (m + b) (by omega) (by omega)]
    have e := nines b (fun k h1 h2 => h k h1 (by omega))
    rw [Nat.pow_succ, ← Nat.mul_assoc, ← e]
    omega
theorem dzeros {d : Nat → Nat} {m : Nat} (b : Nat) (h : ∀ k, m ≤ k → k < m + b → d k = 0) : dv d (m + b) = dv d m * 10 ^ b := by
  rw [dv_add, dv_z (fun k hk => h (m + k) (by omega) (by omega)), Nat.add_zero]
theorem isD_of {h : Hp} {i c n : Nat} {f : Nat → Nat} (h1 : h i 1 = iI (n : Int)) (hl : n ≤ il (i + 1)) (hf : ∀ k, k < n → f k < 10) (ha : ∀ k, k < n → h (i + 1) k = iI (f k : Int)) (hc : dv f n = c) (hn : nd c = n) : isD h i c := by
  subst hc
  refine ⟨by rw [hn]; exact h1, by rw [hn]; exact hl, fun k hk => ?_⟩
  rw [hn] at hk ⊢
  rw [ha k hk, ← dv_dg hk hf]
theorem N_up_loop {i q : Nat} (hq : 0 < q) (hl : nd q ≤ il (i + 1)) : ∀ (m n : Nat) (h : Hp) (f : Nat → Nat), m ≤ nd q → m < n → h i 1 = iI (nd q : Int) → (∀ k, k < nd q → h (i + 1) k = iI (f k : Int)) → (∀ k, k < m → f k = dg q (nd q) k) → (∀ k, m ≤ k → k < nd q → f k = 0 ∧ dg q (nd q) k = 9) → ∃ h', f_N_countUp_15 n i (iI ((m : Int) - 1)) h = some ((), h') ∧ kp h h' i (i + 1) ∧ h' i 3 = h i 3 ∧ isD h' i (if q + 1 = 10 ^ nd q then 10 ^ (nd q - 1) else q + 1) ∧ h' i 2 = (if q + 1 = 10 ^ nd q then h i 2 + 1 else h i 2) := by
  have hil := il_le (i + 1)
  have hn0 := nd_pos hq
  intro m
  induction m with
  | zero =>
    intro n h f hm hn h1 ha hf hz
    obtain ⟨n, rfl⟩ : ∃ x, n = x + 1 := ⟨n - 1, by omega⟩
    have e9 := nines (d := dg q (nd q)) (m := 0) (nd q) (fun k _ h2 => (hz k (by omega) (by omega)).2)
    rw [Nat.zero_add, dg_dv_nd, dv_0] at e9
    have e10 : q + 1 = 10 ^ nd q := by omega
    rw [f_N_countUp_15, if_pos (by rw [i0, iI_lt ⟨by omega, by omega⟩ ⟨by omega, by omega⟩]; omega)]
    unfold f_N_countUp_43
    rw [if_pos (by rw [i0, iI_lt ⟨by omega, by omega⟩ ⟨by omega, by omega⟩]; omega), chk_t (show inR 0 (il (i + 1)) from ⟨by decide, by show 0 < il (i + 1); omega⟩), show (0 : Int32).toNatClampNeg = 0 from rfl]
    refine ⟨_, rfl, fun j p1 p2 => by rw [up2_ne _ _ _ p1, up2_ne _ _ _ p2], ?_, ?_, ?_⟩
    · rw [up2_k _ _ _ (by omega), up2_o _ _ _ _ (by omega)]
    · rw [if_pos e10]
      refine isD_of (n := nd q) (f := fun k => if k = 0 then 1 else 0) ?_ hl (fun k _ => by show (if k = 0 then 1 else 0) < 10; split <;> omega) (fun k hk => ?_) ?_ ?_
      · rw [up2_k _ _ _ (by omega), up2_o _ _ _ _ (by omega)]; exact h1
      · rw [up2_o _ _ _ _ (by omega)]
        by_cases z : k = 0
        · rw [z, up2_s]; rfl
        · rw [up2_k _ _ _ z, ha k hk, (hz k (by omega) hk).1]
          show _ = iI (((if k = 0 then 1 else 0 : Nat)) : Int)
          rw [if_neg z]
      · have := dzeros (d := fun k => if k = 0 then 1 else 0) (m := 1) (nd q - 1) (fun k h1 _ => by show (if k = 0 then 1 else 0) = 0; rw [if_neg (by omega)])
        rw [show 1 + (nd q - 1) = nd q by omega] at this
        rw [this]
        simp [dv]
      · exact nd_eq hn0 (Nat.le_refl _) (Nat.pow_lt_pow_right (by decide) (by omega))
    · rw [if_pos e10, up2_s, up2_o _ _ _ _ (by omega)]
  | succ m ih =>
    intro n h f hm hn h1 ha hf hz
    obtain ⟨n, rfl⟩ : ∃ x, n = x + 1 := ⟨n - 1, by omega⟩
    have ez : ((m + 1 : Nat) : Int) - 1 = (m : Int) := by omega
    rw [ez, f_N_countUp_15, if_neg (by rw [i0, iI_lt ⟨by omega, by omega⟩ ⟨by omega, by omega⟩]; omega), chk_t (iI_inR (by omega) (by omega) (by omega))]
    have ecl : (iI (m : Int)).toNatClampNeg = m := by rw [iI_cl (by omega) (by omega), Int.toNat_natCast]
    simp only [ecl, ha m (by omega), hf m (by omega)]
    have hd := dg_lt q (nd q) m
    by_cases c9 : dg q (nd q) m = 9
    · rw [if_pos (by rw [c9]; rfl), chk_t (iI_inR (by omega) (by omega) (by omega))]
      obtain ⟨h', e', k', s', d', x'⟩ := ih n (up2 h (i + 1) m 0) (fun k => if k = m then 0 else f k) (by omega) (by omega) (by rw [up2_o _ _ _ _ (by omega)]; exact h1) (fun k hk => by
        by_cases z : k = m
        · rw [z, up2_s]
          show _ = iI (((if m = m then 0 else f m : Nat)) : Int)
          rw [if_pos rfl]; rfl
        · rw [up2_k _ _ _ z, ha k hk]
          show _ = iI (((if k = m then 0 else f k : Nat)) : Int)
          rw [if_neg z]) (fun k hk => by
        show (if k = m then 0 else f k) = _
        rw [if_neg (by omega), hf k (by omega)]) (fun k h2 h3 => by
        show (if k = m then 0 else f k) = 0 ∧ _
        by_cases z : k = m
        · rw [if_pos z, z]
          exact ⟨rfl, c9⟩
        · rw [if_neg z]
          exact hz k (by omega) h3)
      refine ⟨h', ?_, kp_t (fun j _ p2 => up2_ne _ _ _ p2) k', s'.trans (up2_o _ _ _ _ (by omega)), d', ?_⟩
      · rw [← e', im1, iI_add]
        rfl
      · rw [x', up2_o _ _ _ _ (by omega)]
    · rw [if_neg (by
        intro z
        have := (iI_eq ⟨by omega, by omega⟩ ⟨by omega, by omega⟩).mp (show iI ((dg q (nd q) m : Nat) : Int) = iI 9 from z)
        omega)]
      unfold f_N_countUp_43
      rw [if_neg (by rw [i0, iI_lt ⟨by omega, by omega⟩ ⟨by omega, by omega⟩]; omega), chk_t (iI_inR (by omega) (by omega) (by omega)), chk_t (iI_inR (by omega) (by omega) (by omega)), iI_cl (by omega) (by omega), Int.toNat_natCast, ha m (by omega), hf m (by omega), i1, iI_add]
      have e9 := nines (d := dg q (nd q)) (m := m + 1) (nd q - (m + 1)) (fun k h2 h3 => (hz k h2 (by omega)).2)
      rw [show m + 1 + (nd q - (m + 1)) = nd q by omega, dg_dv_nd] at e9
      have ev : dv (fun k => if k = m then dg q (nd q) m + 1 else f k) (nd q) = q + 1 := by
        have e1 := dzeros (d := fun k => if k = m then dg q (nd q) m + 1 else f k) (m := m + 1) (nd q - (m + 1)) (fun k h2 h3 => by
          show (if k = m then _ else f k) = 0
          rw [if_neg (by omega)]
          exact (hz k h2 (by omega)).1)
        rw [show m + 1 + (nd q - (m + 1)) = nd q by omega] at e1
        have e2 : dv (fun k => if k = m then dg q (nd q) m + 1 else f k) m = dv (dg q (nd q)) m := dv_congr (fun k hk => by
          show (if k = m then _ else f k) = _
          rw [if_neg (by omega), hf k (by omega)])
        rw [e1, e9, dv_s, dv_s, e2, if_pos rfl, Nat.add_assoc]
      have hlt : ∀ k, k < nd q → (fun k => if k = m then dg q (nd q) m + 1 else f k) k < 10 := fun k hk => by
        show (if k = m then dg q (nd q) m + 1 else f k) < 10
        split
        · omega
        · by_cases z : k < m + 1
          · rw [hf k z]; exact dg_lt _ _ _
          · rw [(hz k (by omega) hk).1]; omega
      have hb := dv_lt hlt
      rw [ev] at hb
      have hge := nd_le hq
      refine ⟨_, rfl, fun j p1 p2 => up2_ne _ _ _ p2, up2_o _ _ _ _ (by omega), ?_, ?_⟩
      · rw [if_neg (by omega)]
        refine isD_of (n := nd q) ?_ hl hlt (fun k hk => ?_) ev (nd_eq hn0 (by omega) hb)
        · rw [up2_o _ _ _ _ (by omega)]; exact h1
        · by_cases z : k = m
          · rw [z, up2_s]
            show _ = iI (((if m = m then dg q (nd q) m + 1 else f m : Nat)) : Int)
            rw [if_pos rfl]; rfl
          · rw [up2_k _ _ _ z, ha k hk]
            show _ = iI (((if k = m then dg q (nd q) m + 1 else f k : Nat)) : Int)
            rw [if_neg z]
      · rw [if_neg (by omega), up2_o _ _ _ _ (by omega)]
theorem N_countUp {h : Hp} {i q : Nat} (hq : 0 < q) (H : isD h i q) : ∃ h', f_N_countUp i h = some ((), h') ∧ kp h h' i (i + 1) ∧ h' i 3 = h i 3 ∧ isD h' i (if q + 1 = 10 ^ nd q then 10 ^ (nd q - 1) else q + 1) ∧ h' i 2 = (if q + 1 = 10 ^ nd q then h i 2 + 1 else h i 2) := by
  have hil := il_le (i + 1)
  have h2 := H.2.1
  obtain ⟨h', e', r⟩ := N_up_loop hq H.2.1 (nd q) fuel h (dg q (nd q)) (Nat.le_refl _) (by unfold fuel; omega) H.1 H.2.2 (fun _ _ => rfl) (fun k h1 h2 => by omega)
  refine ⟨h', ?_, r⟩
  unfold f_N_countUp
  rw [H.1, if_neg (by rw [iI_ofNat, iI_lt ⟨by omega, by omega⟩ ⟨by omega, by omega⟩]; omega), i1, iI_sub]
  exact e'
theorem N_roundTo {h : Hp} {i c n : Nat} {s e : Int} (H : isN h i s c e) (hn : 0 < n) (hn2 : n < 1000000) : ∃ h', f_N_roundTo i (iI (n : Int)) h = some ((), h') ∧ isN h' i s (rnd n c e).1 (rnd n c e).2 ∧ kp h h' i (i + 1) := by
  have hil := il_le (i + 1)
  have h2 := H.1.2.1
  unfold f_N_roundTo
  rw [H.1.1]
  simp (disch := omega) only [iI_lit, iI_lt]
  rw [if_neg (by omega)]
  by_cases q : n < nd c
  · rw [if_pos (by omega), bd_t (N_digit H.1 ⟨by omega, by omega⟩)]
    have ed : dz c (n : Int) = c / 10 ^ (nd c - n - 1) % 10 := by
      unfold dz dg
      rw [if_pos (by omega), Int.toNat_natCast, show nd c - 1 - n = nd c - n - 1 by omega]
    have hdz := dz_lt c (n : Int)
    have hc : 0 < c := by
      rcases Nat.eq_zero_or_pos c with z | z
      · rw [z, nd_0] at q; omega
      · exact z
    have eq0 := nd_divp (c := c) (k := nd c - n) (by omega)
    rw [show nd c - (nd c - n) = n by omega] at eq0
    have hq0 : 0 < c / 10 ^ (nd c - n) := by
      rcases Nat.eq_zero_or_pos (c / 10 ^ (nd c - n)) with z | z
      · rw [z, nd_0] at eq0; omega
      · exact z
    have T : isD (up2 (up2 h i 2 (iI (e + ((nd c : Int) - n)))) i 1 (iI (n : Int))) i (c / 10 ^ (nd c - n)) := by
      refine ⟨by rw [up2_s, eq0], by rw [eq0]; omega, fun k hk => ?_⟩
      rw [eq0] at hk ⊢
      rw [up2_o _ _ _ _ (by omega), up2_o _ _ _ _ (by omega), H.1.2.2 k (by omega)]
      congr 2
      unfold dg
      rw [div_pp]
      congr 3
      omega
    have T2 : (up2 (up2 h i 2 (iI (e + ((nd c : Int) - n)))) i 1 (iI (n : Int))) i 2 = iI (e + ((nd c : Int) - n)) := by rw [up2_k _ _ _ (by omega), up2_s]
    have T3 : (up2 (up2 h i 2 (iI (e + ((nd c : Int) - n)))) i 1 (iI (n : Int))) i 3 = iI s := by rw [up2_k _ _ _ (by omega), up2_k _ _ _ (by omega)]; exact H.2.2
    have TK : kp h (up2 (up2 h i 2 (iI (e + ((nd c : Int) - n)))) i 1 (iI (n : Int))) i (i + 1) := fun j p _ => by rw [up2_ne _ _ _ p, up2_ne _ _ _ p]
    have ee : e + ((nd c : Int) - n) = e + ((nd c - n : Nat) : Int) := by omega
    by_cases u : dz c (n : Int) < 5
    · rw [if_pos (by rw [iI_lt ⟨by omega, by omega⟩ ⟨by omega, by omega⟩]; omega)]
      unfold f_N_roundTo_28
      rw [if_pos (by rfl), H.2.1, H.1.1, iI_sub, iI_add]
      have er : rnd n c e = (c / 10 ^ (nd c - n), e + ((nd c - n : Nat) : Int)) := by
        have hb := nd_lt (c / 10 ^ (nd c - n))
        rw [eq0] at hb
        have e5 : rup c (nd c - n) = c / 10 ^ (nd c - n) := by unfold rup; rw [if_neg (by rw [← ed]; omega), Nat.add_zero]
        unfold rnd
        rw [if_neg (by omega), e5, if_neg (by omega)]
      rw [er]
      exact ⟨_, rfl, ⟨T, by rw [T2, ee], T3⟩, TK⟩
    · rw [if_neg (by rw [iI_lt ⟨by omega, by omega⟩ ⟨by omega, by omega⟩]; omega)]
      unfold f_N_roundTo_28
      rw [if_neg (by decide), H.2.1, H.1.1, iI_sub, iI_add]
      obtain ⟨h', e', k', s', d', x'⟩ := N_countUp hq0 T
      rw [bd_t e']
      rw [eq0] at d' x'
      have e5 : rup c (nd c - n) = c / 10 ^ (nd c - n) + 1 := by unfold rup; rw [if_pos (by rw [← ed]; omega)]
      refine ⟨h', rfl, ?_, kp_t TK k'⟩
      unfold rnd
      rw [if_neg (by omega), e5]
      by_cases z : c / 10 ^ (nd c - n) + 1 = 10 ^ n
      · rw [if_pos z] at d' x' ⊢
        exact ⟨d', by rw [x', T2, i1, iI_add, ee], by rw [s', T3]⟩
      · rw [if_neg z] at d' x' ⊢
        exact ⟨d', by rw [x', T2, ee], by rw [s', T3]⟩
  · rw [if_neg (by omega), rnd_same (by omega)]
    exact ⟨h, rfl, H, kp_r _ _ _⟩
