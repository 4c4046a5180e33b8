/-! PURE 28: powers -/
def mulR (m : Nat) (t u : Int × Nat × Int) : Int × Nat × Int := rN m (nrm (t.1 * u.1) (t.2.1 * u.2.1) (t.2.2 + u.2.2))
theorem nd_mul (a b : Nat) : nd (a * b) ≤ nd a + nd b := by
  apply nd_le_of
  rw [Nat.pow_add]
  exact Nat.mul_lt_mul'' (nd_lt a) (nd_lt b)
theorem nrm_ok {b n : Nat} {s e : Int} {c : Nat} (hs : isS s) (hz : s = 0 → c = 0) (he : -(b : Int) ≤ e ∧ e ≤ b) (hc : nd c ≤ n) : okN b n (nrm s c e) := by
  unfold nrm
  by_cases q : c = 0
  · rw [if_pos q]
    exact okN_0
  · rw [if_neg q]
    exact ⟨hs, ⟨fun z => hz z, fun z => absurd z q⟩, fun z => absurd z q, he.1, he.2, hc⟩
theorem sg_mul {a b : Int} (ha : isS a) (hb : isS b) : isS (a * b) ∧ (a * b = 0 → a = 0 ∨ b = 0) := by
  unfold isS at *
  rcases ha with a | a | a <;> rcases hb with b | b | b <;> rw [a, b] <;> decide
theorem pr_ok {b1 b2 n1 n2 : Nat} {t u : Int × Nat × Int} (H1 : okN b1 n1 t) (H2 : okN b2 n2 u) : okN (b1 + b2) (n1 + n2) (nrm (t.1 * u.1) (t.2.1 * u.2.1) (t.2.2 + u.2.2)) := by
  obtain ⟨t1, t2, t3, t4, t5, t6⟩ := H1
  obtain ⟨u1, u2, u3, u4, u5, u6⟩ := H2
  have s := sg_mul t1 u1
  refine nrm_ok s.1 (fun z => ?_) ⟨by omega, by omega⟩ (by have := nd_mul t.2.1 u.2.1; omega)
  rcases s.2 z with a | a
  · rw [t2.mp a, Nat.zero_mul]
  · rw [u2.mp a, Nat.mul_zero]
theorem mulR_ok {b1 b2 n1 n2 m : Nat} {t u : Int × Nat × Int} (hm : 0 < m) (H1 : okN b1 n1 t) (H2 : okN b2 n2 u) : okN (b1 + b2 + (n1 + n2) + 1) m (mulR m t u) := rN_ok hm (pr_ok H1 H2)
theorem mulR_pos {m : Nat} {t u : Int × Nat × Int} (hm : 0 < m) (ht : 0 < t.2.1) (hu : 0 < u.2.1) : 0 < (mulR m t u).2.1 := by
  have : 0 < t.2.1 * u.2.1 := Nat.mul_pos ht hu
  unfold mulR nrm
  rw [if_neg (by omega)]
  exact rnd_pos hm this
/-- the power: squares and products from the top bit down -/
def pwL (m v : Nat) (b : Int × Nat × Int) : Nat → (Int × Nat × Int) → Int × Nat × Int
  | 0, p => p
  | k + 1, p => if v / 2 ^ k = 0 then pwL m v b k p else if v / 2 ^ k % 2 = 0 then pwL m v b k (mulR m p p) else pwL m v b k (mulR m (mulR m p p) b)
theorem sh_tab : ∀ k, k < 10 → ∀ v, v < 1000 → (iI ((v : Nat) : Int)) >>> (iI ((k : Nat) : Int) &&& 31) = iI ((v / 2 ^ k : Nat) : Int) := by decide +kernel
theorem b1_tab : ∀ v, v < 1000 → (iI ((v : Nat) : Int)) &&& 1 = iI ((v % 2 : Nat) : Int) := by decide +kernel
theorem one_ok {b n : Nat} (hn : 0 < n) : okN b n (1, 1, 0) := ⟨Or.inr (Or.inl rfl), ⟨fun z => absurd z (by decide), fun z => absurd z (by decide)⟩, fun _ => rfl, by show -(b : Int) ≤ 0; omega, by show (0 : Int) ≤ b; omega, by show nd 1 ≤ n; rw [nd_1]; exact hn⟩
def pwM (n : Nat) (v : Int) : Nat := n + 1 + (if v.natAbs ≤ 9 then 1 else if v.natAbs ≤ 99 then 2 else 3)
theorem pwM_b (n : Nat) (v : Int) : n + 2 ≤ pwM n v ∧ pwM n v ≤ n + 4 := by
  unfold pwM
  split
  · omega
  · split <;> omega
def pwP (n : Nat) (v : Int) (b : Int × Nat × Int) : Int × Nat × Int := pwL (pwM n v) v.natAbs b 10 (1, 1, 0)
def pwT (n : Nat) (v : Int) (b : Int × Nat × Int) : Int × Nat × Int := if 0 ≤ v then stT (rN n (pwP n v b)) else stT (rN n (stT (quT (pwM n v) (1, 1, 0) (pwP n v b))))
theorem pwL_pos {m v : Nat} {b : Int × Nat × Int} (hm : 0 < m) (hb : 0 < b.2.1) : ∀ k p, 0 < p.2.1 → 0 < (pwL m v b k p).2.1
  | 0, _, h => h
  | k + 1, p, h => by
    unfold pwL
    split
    · exact pwL_pos hm hb k p h
    · split
      · exact pwL_pos hm hb k _ (mulR_pos hm h h)
      · exact pwL_pos hm hb k _ (mulR_pos hm (mulR_pos hm h h) hb)
theorem pwL_ok {m v : Nat} {b : Int × Nat × Int} (hm : 0 < m) (hm2 : m ≤ 24) (hb : okN 1501 20 b) : ∀ (k : Nat) (p : Int × Nat × Int), k ≤ 10 → okN (4000 * 2 ^ (10 - k) - 2000) m p → okN 5000000 m (pwL m v b k p) := by
  intro k
  induction k with
  | zero =>
    intro p _ h
    have e0 : pwL m v b 0 p = p := rfl
    have e : (2 : Nat) ^ (10 - 0) = 1024 := by decide
    rw [e] at h
    rw [e0]
    exact okN_w h (by omega) (Nat.le_refl _)
  | succ k ih =>
    intro p hk h
    have P : 2 ^ (10 - k) = 2 * 2 ^ (10 - (k + 1)) := by
      rw [← Nat.pow_succ']
      congr 1
      omega
    have Q : 0 < 2 ^ (10 - (k + 1)) := Nat.pow_pos (by decide)
    have s1 := mulR_ok hm h h
    have s2 := mulR_ok hm s1 hb
    unfold pwL
    split
    · exact ih p (by omega) (okN_w h (by omega) (Nat.le_refl _))
    · split
      · exact ih _ (by omega) (okN_w s1 (by omega) (Nat.le_refl _))
      · exact ih _ (by omega) (okN_w s2 (by omega) (Nat.le_refl _))
-- ===== the class =====
def kP (h h' : Hp) : Prop := ∀ y, y ≠ 33 → y ≠ 34 → y ≠ 35 → y ≠ 36 → y ≠ 37 → y ≠ 42 → y ≠ 43 → y ≠ 44 → y ≠ 45 → h' y = h y
theorem kP_t {h h1 h2 : Hp} (x : kP h h1) (y : kP h1 h2) : kP h h2 := fun j a b c d e f g i k => (y j a b c d e f g i k).trans (x j a b c d e f g i k)
theorem K_mulInto {j m b2 n2 : Nat} {p u : Int × Nat × Int} {b1 : Nat} {h : Hp} (hj : j = 29 ∨ j = 33) (hm : 0 < m) (hm2 : m ≤ 24) (n2b : n2 ≤ 24) (op : okN b1 m p) (ou : okN b2 n2 u) (N1 : isN h 33 p.1 p.2.1 p.2.2) (N2 : isN h j u.1 u.2.1 u.2.2) : ∃ h', f_K_multiplyInto 33 j (iI (m : Int)) h = some ((), h') ∧ isN h' 33 (mulR m p u).1 (mulR m p u).2.1 (mulR m p u).2.2 ∧ kP h h' := by
  have hp := op.2.2.2.2.2
  have hu := ou.2.2.2.2.2
  unfold f_K_multiplyInto
  obtain ⟨g1, e1, N3, k1⟩ := K_prod (i := 33) (j := j) (z := 42) (t := p) (u := u) (by omega) (by omega) (by omega) (by omega) (by omega) (by omega) (by decide) (by omega) N1 N2
  rw [bd_t e1]
  obtain ⟨g2, e2, N4, k2⟩ := N_roundTo N3 hm (by omega)
  rw [bd_t e2]
  have ok := mulR_ok hm op ou
  obtain ⟨o1, o2, o3, o4, o5, o6⟩ := ok
  obtain ⟨g3, e3, N5, k3⟩ := N_copy (i := 33) (j := 42) (s := (mulR m p u).1) (c := (mulR m p u).2.1) (e := (mulR m p u).2.2) (by omega) (by omega) (by omega) (by show _ ≤ 100; omega) (fun z => ⟨o2.mpr z, o3 z⟩) N4
  rw [bd_t e3]
  exact ⟨g3, rfl, N5, fun y a b c d e f g i k => by rw [k3 y a b, k2 y f g, k1 y c f g]⟩
theorem K_pow_loop {m n v : Nat} {vv : Int} {b : Int × Nat × Int} (hm : 0 < m) (hm2 : m ≤ 24) (hn : 0 < n) (hn2 : n ≤ 20) (hv : v < 1000) (hvv : -1000 ≤ vv ∧ vv ≤ 1000) (hb : okN 1501 20 b) (hz : vv < 0 → 0 < b.2.1) : ∀ (k f : Nat) (h : Hp) (p : Int × Nat × Int), k < f → k ≤ 10 → okN (4000 * 2 ^ (10 - k) - 2000) m p → 0 < p.2.1 ∨ b.2.1 = 0 → isN h 29 b.1 b.2.1 b.2.2 → isN h 33 p.1 p.2.1 p.2.2 → ∃ h', f_K_powerOf_76 f 29 (iI vv) (iI (n : Int)) 33 (iI (v : Int)) (iI (m : Int)) (iI ((k : Int) - 1)) h = some (0, h') ∧ isN h' 33 (if 0 ≤ vv then stT (rN n (pwL m v b k p)) else stT (rN n (stT (quT m (1, 1, 0) (pwL m v b k p))))).1 (if 0 ≤ vv then stT (rN n (pwL m v b k p)) else stT (rN n (stT (quT m (1, 1, 0) (pwL m v b k p))))).2.1 (if 0 ≤ vv then stT (rN n (pwL m v b k p)) else stT (rN n (stT (quT m (1, 1, 0) (pwL m v b k p))))).2.2 ∧ kP h h' := by
  intro k
  induction k with
  | zero =>
    intro f h p hf hk op pz N1 N2
    obtain ⟨f, rfl⟩ : ∃ q, f = q + 1 := ⟨f - 1, by omega⟩
    have e0 : pwL m v b 0 p = p := rfl
    have np := op.2.2.2.2.2
    rw [f_K_powerOf_76, if_pos (by rw [i0, iI_lt ⟨by omega, by omega⟩ ⟨by omega, by omega⟩]; omega), e0]
    by_cases q : 0 ≤ vv
    · rw [if_pos (by rw [i0, iI_le ⟨by omega, by omega⟩ ⟨by omega, by omega⟩]; exact q), if_pos q]
      obtain ⟨g1, e1, N3, k1⟩ := N_roundTo N2 hn (by omega)
      rw [bd_t e1]
      obtain ⟨g2, e2, N4, k2⟩ := N_drop N3
      rw [bd_t e2]
      exact ⟨g2, rfl, N4, fun y a b c d e f g i k => by rw [k2 y a b, k1 y a b]⟩
    · have pp : 0 < p.2.1 := by
        rcases pz with a | a
        · exact a
        · have := hz (by omega)
          omega
      rw [if_neg (by rw [i0, iI_le ⟨by omega, by omega⟩ ⟨by omega, by omega⟩]; exact q), if_neg q]
      obtain ⟨g1, e1, N3, k1⟩ := N_unit (h := h) (i := 44) (s := 1) (by decide) ⟨by omega, by omega⟩
      rw [bd_t (show f_N_becomeUnit 44 1 h = _ from e1)]
      rw [if_neg (by decide)] at N3
      have N2' : isN g1 33 p.1 p.2.1 p.2.2 := isN_eq N2 (k1 33 (by omega) (by omega)) (k1 34 (by omega) (by omega))
      obtain ⟨g2, e2, N4, k2⟩ := K_quot (i := 44) (j := 33) (z := 42) (n := m) (t := (1, 1, 0)) (u := p) (by omega) (by omega) (by omega) (by omega) (by omega) rfl pp hm (by omega) (by omega) N3 N2'
      rw [bd_t e2]
      have hq : nd (stT (quT m (1, 1, 0) p)).2.1 ≤ 24 := by
        have a := (strp_nd (nd (quT m (1, 1, 0) p).2.1) (quT m (1, 1, 0) p).2.1 (quT m (1, 1, 0) p).2.2).1
        have c := rnd_nd (n := m) (c := (qu0 m (1, 1, 0) p).2.1) (e := (qu0 m (1, 1, 0) p).2.2) hm
        have a : nd (stT (quT m (1, 1, 0) p)).2.1 ≤ nd (quT m (1, 1, 0) p).2.1 := a
        have c : nd (quT m (1, 1, 0) p).2.1 ≤ m := c
        omega
      have h0 := quS_nd (n := m) (t := (1, 1, 0)) (u := p) Nat.one_pos pp
      have hq0 : 0 < (stT (quT m (1, 1, 0) p)).2.1 := by
        have a := (strp_nd (nd (quT m (1, 1, 0) p).2.1) (quT m (1, 1, 0) p).2.1 (quT m (1, 1, 0) p).2.2).2
        apply a
        have e : (qu0 m (1, 1, 0) p).2.1 = pfx 1 (quS m (1, 1, 0) p) / p.2.1 := by
          unfold qu0 nrm
          rw [if_neg (fun w => by rw [w, nd_0] at h0; omega)]
        have c := rnd_pos (n := m) (c := (qu0 m (1, 1, 0) p).2.1) (e := (qu0 m (1, 1, 0) p).2.2) hm (by
          rw [e]
          rcases Nat.eq_zero_or_pos (pfx 1 (quS m (1, 1, 0) p) / p.2.1) with w | w
          · have h0 : m + 1 ≤ nd (pfx 1 (quS m (1, 1, 0) p) / p.2.1) := h0
            rw [w, nd_0] at h0
            omega
          · exact w)
        exact c
      obtain ⟨g3, e3, N5, k3⟩ := N_copy (i := 33) (j := 42) (by omega) (by omega) (by omega) (by show _ ≤ 100; omega) (fun z => by omega) N4
      rw [bd_t e3]
      obtain ⟨g4, e4, N6, k4⟩ := N_roundTo N5 hn (by omega)
      rw [bd_t e4]
      obtain ⟨g5, e5, N7, k5⟩ := N_drop N6
      rw [bd_t e5]
      exact ⟨g5, rfl, N7, fun y a b c d e f g i k => by rw [k5 y a b, k4 y a b, k3 y a b, k2 y d e f g, k1 y i k]⟩
  | succ k ih =>
    intro f h p hf hk op pz N1 N2
    obtain ⟨f, rfl⟩ : ∃ q, f = q + 1 := ⟨f - 1, by omega⟩
    have em : ((k + 1 : Nat) : Int) - 1 = (k : Int) := by omega
    have P : 2 ^ (10 - k) = 2 * 2 ^ (10 - (k + 1)) := by
      rw [← Nat.pow_succ']
      congr 1
      omega
    have Q : 0 < 2 ^ (10 - (k + 1)) := Nat.pow_pos (by decide)
    have s1 := mulR_ok hm op op
    have s2 := mulR_ok hm s1 hb
    have vb : v / 2 ^ k < 1000 := Nat.lt_of_le_of_lt (Nat.div_le_self _ _) hv
    rw [f_K_powerOf_76, em, if_neg (by rw [i0, iI_lt ⟨by omega, by omega⟩ ⟨by omega, by omega⟩]; omega), sh_tab k (by omega) v hv]
    unfold f_K_powerOf_103
    rw [b1_tab _ vb, im1, iI_add, show (k : Int) + -1 = (k : Int) - 1 by omega]
    obtain ⟨w, hw⟩ : ∃ w, v / 2 ^ k = w := ⟨_, rfl⟩
    rw [hw] at vb ⊢
    by_cases q1 : w = 0
    · have e0 : pwL m v b (k + 1) p = pwL m v b k p := if_pos (by rw [hw]; exact q1)
      rw [q1, if_pos (by rfl), if_neg (by decide), e0]
      exact ih f h p (by omega) (by omega) (okN_w op (by omega) (Nat.le_refl _)) pz N1 N2
    · rw [if_neg (by rw [i0, iI_eq ⟨by omega, by omega⟩ ⟨by omega, by omega⟩]; omega)]
      obtain ⟨g1, e1, N3, k1⟩ := K_mulInto (j := 33) (p := p) (u := p) (Or.inr rfl) hm hm2 hm2 op op N2 N2
      have N1' : isN g1 29 b.1 b.2.1 b.2.2 := isN_eq N1 (k1 29 (by omega) (by omega) (by omega) (by omega) (by omega) (by omega) (by omega) (by omega) (by omega)) (k1 30 (by omega) (by omega) (by omega) (by omega) (by omega) (by omega) (by omega) (by omega) (by omega))
      rw [bd_t e1]
      by_cases q2 : w % 2 = 0
      · have e0 : pwL m v b (k + 1) p = pwL m v b k (mulR m p p) := by
          show (if v / 2 ^ k = 0 then _ else if v / 2 ^ k % 2 = 0 then _ else _) = _
          rw [hw, if_neg q1, if_pos q2]
        rw [if_neg (by rw [i1, iI_eq ⟨by omega, by omega⟩ ⟨by omega, by omega⟩]; omega), e0]
        obtain ⟨g2, e2, N4, k2⟩ := ih f g1 (mulR m p p) (by omega) (by omega) (okN_w s1 (by omega) (Nat.le_refl _)) (by
          rcases pz with a | a
          · exact Or.inl (mulR_pos hm a a)
          · exact Or.inr a) N1' N3
        exact ⟨g2, e2, N4, kP_t k1 k2⟩
      · have e0 : pwL m v b (k + 1) p = pwL m v b k (mulR m (mulR m p p) b) := by
          show (if v / 2 ^ k = 0 then _ else if v / 2 ^ k % 2 = 0 then _ else _) = _
          rw [hw, if_neg q1, if_neg q2]
        rw [if_pos (by rw [i1, iI_eq ⟨by omega, by omega⟩ ⟨by omega, by omega⟩]; omega), e0]
        obtain ⟨g2, e2, N4, k2⟩ := K_mulInto (j := 29) (p := mulR m p p) (u := b) (Or.inl rfl) hm hm2 (by decide) s1 hb N3 N1'
        have N1'' : isN g2 29 b.1 b.2.1 b.2.2 := isN_eq N1' (k2 29 (by omega) (by omega) (by omega) (by omega) (by omega) (by omega) (by omega) (by omega) (by omega)) (k2 30 (by omega) (by omega) (by omega) (by omega) (by omega) (by omega) (by omega) (by omega) (by omega))
        rw [bd_t e2]
        obtain ⟨g3, e3, N5, k3⟩ := ih f g2 (mulR m (mulR m p p) b) (by omega) (by omega) (okN_w s2 (by omega) (Nat.le_refl _)) (by
          rcases Nat.eq_zero_or_pos b.2.1 with y | y
          · exact Or.inr y
          · rcases pz with a | a
            · exact Or.inl (mulR_pos hm (mulR_pos hm a a) y)
            · omega) N1'' N4
        exact ⟨g3, e3, N5, kP_t k1 (kP_t k2 k3)⟩
/-- what a power answers: 26 too big an exponent, 42 nothing to a negative one -/
def pwC (v : Int) (b : Int × Nat × Int) : Int := if v < -999 ∨ 999 < v then 26 else if v < 0 ∧ b.2.1 = 0 then 42 else 0
theorem K_pow {n : Nat} {v : Int} {b : Int × Nat × Int} {h : Hp} (hn : 0 < n) (hn2 : n ≤ 20) (hv : bI v) (hb : okN 1501 20 b) (N : isN h 29 b.1 b.2.1 b.2.2) : ∃ h', f_K_powerOf 29 (iI v) (iI (n : Int)) 33 h = some (iI (pwC v b), h') ∧ (pwC v b = 0 → isN h' 33 (pwT n v b).1 (pwT n v b).2.1 (pwT n v b).2.2) ∧ kP h h' := by
  unfold f_K_powerOf pwC
  have o1 := hb.1
  unfold isS at o1
  have o2 := hb.2.1
  by_cases q1 : v < -999
  · rw [if_pos (by rw [show (-999 : Int32) = iI (-999) by decide +kernel, iI_lt ⟨by omega, by omega⟩ ⟨by omega, by omega⟩]; exact q1), if_pos (Or.inl q1)]
    exact ⟨h, rfl, fun z => absurd z (by decide), fun _ _ _ _ _ _ _ _ _ _ => rfl⟩
  rw [if_neg (by rw [show (-999 : Int32) = iI (-999) by decide +kernel, iI_lt ⟨by omega, by omega⟩ ⟨by omega, by omega⟩]; exact q1)]
  by_cases q2 : 999 < v
  · rw [if_neg (by rw [show (999 : Int32) = iI 999 from rfl, iI_le ⟨by omega, by omega⟩ ⟨by omega, by omega⟩]; omega), if_pos (Or.inr q2)]
    exact ⟨h, rfl, fun z => absurd z (by decide), fun _ _ _ _ _ _ _ _ _ _ => rfl⟩
  rw [if_pos (by rw [show (999 : Int32) = iI 999 from rfl, iI_le ⟨by omega, by omega⟩ ⟨by omega, by omega⟩]; omega), if_neg (show ¬ (v < -999 ∨ 999 < v) by omega), N.2.2]
  have pm := pwM_b n v
  have t31 : (v < 0 → 0 < b.2.1) → ∃ h', f_K_powerOf_31 29 (iI v) (iI (n : Int)) 33 h = some (0, h') ∧ isN h' 33 (pwT n v b).1 (pwT n v b).2.1 (pwT n v b).2.2 ∧ kP h h' := by
    intro hz
    obtain ⟨g1, e1, N1, k1⟩ := N_unit (h := h) (i := 33) (s := 1) (by decide) ⟨by omega, by omega⟩
    have e1 : f_N_becomeUnit 33 1 h = _ := e1
    rw [if_neg (by decide)] at N1
    have kk : kP h g1 := fun y a b _ _ _ _ _ _ _ => k1 y a b
    have t76 : ∃ h', f_K_powerOf_76 fuel 29 (iI v) (iI (n : Int)) 33 (iI (v.natAbs : Int)) (iI (pwM n v : Int)) 9 g1 = some (0, h') ∧ isN h' 33 (pwT n v b).1 (pwT n v b).2.1 (pwT n v b).2.2 ∧ kP h h' := by
      obtain ⟨g2, e2, N2, k2⟩ := K_pow_loop (m := pwM n v) (n := n) (v := v.natAbs) (vv := v) (b := b) (by omega) (by omega) hn hn2 (by omega) ⟨by omega, by omega⟩ hb hz 10 fuel g1 (1, 1, 0) (by unfold fuel; omega) (by omega) (one_ok (by omega)) (Or.inl Nat.one_pos) (isN_eq N (k1 29 (by omega) (by omega)) (k1 30 (by omega) (by omega))) N1
      exact ⟨g2, e2, N2, kP_t kk k2⟩
    unfold f_K_powerOf_31
    rw [abs_iI ⟨by omega, by omega⟩]
    by_cases a1 : v.natAbs ≤ 99
    · rw [if_pos (by rw [show (99 : Int32) = iI 99 from rfl, iI_le ⟨by omega, by omega⟩ ⟨by omega, by omega⟩]; omega)]
      by_cases a2 : v.natAbs ≤ 9
      · rw [if_pos (by rw [show (9 : Int32) = iI 9 from rfl, iI_le ⟨by omega, by omega⟩ ⟨by omega, by omega⟩]; omega), bd_t e1, scN, scN, show n + 1 + 1 = pwM n v by unfold pwM; rw [if_pos a2]]
        exact t76
      · rw [if_neg (by rw [show (9 : Int32) = iI 9 from rfl, iI_le ⟨by omega, by omega⟩ ⟨by omega, by omega⟩]; omega), bd_t e1, scN, show (2 : Int32) = iI 2 from rfl, iI_add, show ((n + 1 : Nat) : Int) + 2 = (pwM n v : Int) by unfold pwM; rw [if_neg a2, if_pos a1]; omega]
        exact t76
    · rw [if_neg (by rw [show (99 : Int32) = iI 99 from rfl, iI_le ⟨by omega, by omega⟩ ⟨by omega, by omega⟩]; omega), bd_t e1, scN, show (3 : Int32) = iI 3 from rfl, iI_add, show ((n + 1 : Nat) : Int) + 3 = (pwM n v : Int) by unfold pwM; rw [if_neg (show ¬ v.natAbs ≤ 9 by omega), if_neg a1]; omega]
      exact t76
  by_cases q3 : 0 ≤ v
  · rw [if_pos (by rw [i0, iI_le ⟨by omega, by omega⟩ ⟨by omega, by omega⟩]; exact q3), if_neg (show ¬ (v < 0 ∧ b.2.1 = 0) by omega)]
    obtain ⟨g, e, N1, k⟩ := t31 (fun z => by omega)
    exact ⟨g, e, fun _ => N1, k⟩
  · rw [if_neg (by rw [i0, iI_le ⟨by omega, by omega⟩ ⟨by omega, by omega⟩]; exact q3)]
    by_cases q4 : b.2.1 = 0
    · rw [if_pos (by rw [o2.mpr q4]; rfl), if_pos (show v < 0 ∧ b.2.1 = 0 from ⟨by omega, q4⟩)]
      exact ⟨h, rfl, fun z => absurd z (by decide), fun _ _ _ _ _ _ _ _ _ _ => rfl⟩
    · have s0 : b.1 ≠ 0 := fun z => q4 (o2.mp z)
      rw [if_neg (by rw [i0, iI_eq ⟨by omega, by omega⟩ ⟨by omega, by omega⟩]; exact s0), if_neg (show ¬ (v < 0 ∧ b.2.1 = 0) from fun z => q4 z.2)]
      obtain ⟨g, e, N1, k⟩ := t31 (fun z => by omega)
      exact ⟨g, e, fun _ => N1, k⟩
