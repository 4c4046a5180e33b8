/-! PURE 11: what has been read stays within bounds; the reference's whole values -/
abbrev isS (s : Int) : Prop := s = 0 ∨ s = 1 ∨ s = -1
/-- a number as both sides keep it, with bounds -/
def okN (b n : Nat) (t : Int × Nat × Int) : Prop := isS t.1 ∧ (t.1 = 0 ↔ t.2.1 = 0) ∧ (t.2.1 = 0 → t.2.2 = 0) ∧ -(b : Int) ≤ t.2.2 ∧ t.2.2 ≤ b ∧ nd t.2.1 ≤ n
theorem rdD_c (b : Nat → Int) : ∀ m k c n pl pt, c < 10 ^ n → (rdD b m k c n pl pt).2.1 < 10 ^ (rdD b m k c n pl pt).2.2.1 ∧ (rdD b m k c n pl pt).2.2.1 ≤ n + m := by
  intro m
  induction m with
  | zero => intro k c n pl pt h; exact ⟨h, Nat.le_refl _⟩
  | succ m ih =>
    intro k c n pl pt h
    rw [rdD]
    by_cases q : isC (b k)
    · rw [if_pos q]
      have := ih (k + 1) (10 * c + (b k - 48).toNat) (n + 1) (pl + pt) pt (by rw [Nat.pow_succ]; omega)
      exact ⟨this.1, by omega⟩
    · rw [if_neg q]
      by_cases q2 : b k = 46 ∧ pt = 0
      · rw [if_pos q2]
        have := ih (k + 1) c n pl 1 h
        exact ⟨this.1, by omega⟩
      · rw [if_neg q2]
        exact ⟨h, by show n ≤ _; omega⟩
theorem rdX_ok {b : Nat → Int} {k c pl : Nat} {r : Nat × Nat × Int} (hr : rdX b k c pl = some r) : r.2.1 = c ∧ -1000 - (pl : Int) ≤ r.2.2 ∧ r.2.2 ≤ 1000 := by
  unfold rdX at hr
  by_cases q : b k = 69 ∨ b k = 101
  · rw [if_pos q] at hr
    by_cases z : (rdE b 3 (if b (k + 1) = 43 ∨ b (k + 1) = 45 then k + 1 + 1 else k + 1) 0).1 = (if b (k + 1) = 43 ∨ b (k + 1) = 45 then k + 1 + 1 else k + 1)
    · rw [if_pos z] at hr; cases hr
    · rw [if_neg z] at hr
      have := (Option.some.inj hr).symm
      subst this
      have h3 := (rdE_k b 3 (if b (k + 1) = 43 ∨ b (k + 1) = 45 then k + 1 + 1 else k + 1) 0).2.2
      refine ⟨rfl, ?_, ?_⟩
      · show _ ≤ (if b (k + 1) = 45 then _ else _) - (pl : Int)
        split <;> omega
      · show (if b (k + 1) = 45 then _ else _) - (pl : Int) ≤ _
        split <;> omega
  · rw [if_neg q] at hr
    have := (Option.some.inj hr).symm
    subst this
    exact ⟨rfl, by show _ ≤ -(pl : Int); omega, by show -(pl : Int) ≤ _; omega⟩
theorem rdN_ok {bs : List Nat} {t : Int × Nat × Int} (hl : bs.length ≤ 200) (ht : rdN bs = some t) : okN 1300 200 t := by
  unfold rdN at ht
  cases hx : rdT (fun k => bAt bs (k : Int)) (bs.length - rdK2 bs) (rdK2 bs) with
  | none => rw [hx] at ht; cases ht
  | some r =>
    rw [hx] at ht
    have ht2 : (if skp bs (bs.length - r.1) r.1 = bs.length then some (nrm (if bAt bs (rdK bs : Int) = 45 then -1 else 1) r.2.1 r.2.2) else none) = some t := ht
    by_cases z : skp bs (bs.length - r.1) r.1 = bs.length
    · rw [if_pos z] at ht2
      have := (Option.some.inj ht2).symm
      subst this
      unfold rdT at hx
      have hD := rdD_k (fun k => bAt bs (k : Int)) (bs.length - rdK2 bs) (rdK2 bs) 0 0 0 0
      have hC := rdD_c (fun k => bAt bs (k : Int)) (bs.length - rdK2 bs) (rdK2 bs) 0 0 0 0 (by decide)
      by_cases n0 : (rdD (fun k => bAt bs (k : Int)) (bs.length - rdK2 bs) (rdK2 bs) 0 0 0 0).2.2.1 = 0
      · rw [if_pos n0] at hx; cases hx
      · rw [if_neg n0] at hx
        have hX := rdX_ok hx
        have hp := hD.2.2.2.2 (by omega)
        unfold nrm
        by_cases c0 : r.2.1 = 0
        · rw [if_pos c0]
          exact ⟨Or.inl rfl, ⟨fun _ => rfl, fun _ => rfl⟩, fun _ => rfl, by show _ ≤ (0 : Int); omega, by show (0 : Int) ≤ _; omega, by show nd 0 ≤ _; rw [nd_0]; omega⟩
        · rw [if_neg c0]
          refine ⟨?_, ⟨fun a => ?_, fun a => absurd a c0⟩, fun a => absurd a c0, by show _ ≤ r.2.2; omega, by show r.2.2 ≤ _; omega, ?_⟩
          · show isS (if _ then _ else _)
            split
            · exact Or.inr (Or.inr rfl)
            · exact Or.inr (Or.inl rfl)
          · have a2 : (if bAt bs (rdK bs : Int) = 45 then (-1 : Int) else 1) = 0 := a
            exfalso
            split at a2 <;> omega
          · show nd r.2.1 ≤ 200
            rw [hX.1]
            have := nd_le_of hC.1
            omega
    · rw [if_neg z] at ht2; cases ht2
/-- rounded -/
def rN (n : Nat) (t : Int × Nat × Int) : Int × Nat × Int := (t.1, (rnd n t.2.1 t.2.2).1, (rnd n t.2.1 t.2.2).2)
theorem rnd_e {n c : Nat} {e : Int} : e ≤ (rnd n c e).2 ∧ (rnd n c e).2 ≤ e + nd c + 1 := by
  unfold rnd
  split
  · exact ⟨by show e ≤ e; omega, by show e ≤ _; omega⟩
  · split
    · exact ⟨by show e ≤ e + _ + 1; omega, by show e + _ + 1 ≤ _; omega⟩
    · exact ⟨by show e ≤ e + _; omega, by show e + _ ≤ _; omega⟩
theorem rnd_z {n c : Nat} {e : Int} (hn : 0 < n) : (rnd n c e).1 = 0 ↔ c = 0 := by
  rcases Nat.eq_zero_or_pos c with z | z
  · rw [z, rnd_0]
  · have := rnd_pos (n := n) (c := c) (e := e) hn z
    omega
theorem rN_ok {b m n : Nat} {t : Int × Nat × Int} (hn : 0 < n) (H : okN b m t) : okN (b + m + 1) n (rN n t) := by
  obtain ⟨h1, h2, h3, h4, h5, h6⟩ := H
  have h7 := rnd_e (n := n) (c := t.2.1) (e := t.2.2)
  have h8 := rnd_z (n := n) (c := t.2.1) (e := t.2.2) hn
  refine ⟨h1, h2.trans h8.symm, fun a => ?_, by show _ ≤ (rnd n t.2.1 t.2.2).2; omega, by show (rnd n t.2.1 t.2.2).2 ≤ _; omega, rnd_nd hn⟩
  have a2 := h8.mp a
  show (rnd n t.2.1 t.2.2).2 = 0
  rw [a2, rnd_0]
  exact h3 a2
/-- read and rounded -/
def ldN (n : Nat) (bs : List Nat) : Option (Int × Nat × Int) := (rdN bs).map (rN n)
theorem ldN_ok {n : Nat} {bs : List Nat} {t : Int × Nat × Int} (hn : 0 < n) (hl : bs.length ≤ 200) (ht : ldN n bs = some t) : okN 1501 n t := by
  unfold ldN at ht
  cases hx : rdN bs with
  | none => rw [hx] at ht; cases ht
  | some u =>
    rw [hx] at ht
    have := (Option.some.inj ht).symm
    subst this
    exact rN_ok hn (rdN_ok hl hx)
theorem C_load {i j n : Nat} {bs : List Nat} {h : Hp} (hi : i < 25) (hj : 28 < j) (hlen : bs.length ≤ 200) (hil : il (j + 1) = 200) (hn : 0 < n) (hn2 : n ≤ 20) (H : isL h i bs) : ∃ h', f_D_load i j (iI (n : Int)) h = some (iI (if ldN n bs = none then 0 else 1), h') ∧ kr h h' j ∧ ∀ t, ldN n bs = some t → isN h' j t.1 t.2.1 t.2.2 := by
  obtain ⟨h1, e1, K1, N1⟩ := C_read hi hj hlen hil H
  unfold f_D_load ldN
  rw [bd_t e1]
  cases hx : rdN bs with
  | none =>
    rw [if_pos (by simp; decide)]
    exact ⟨h1, rfl, K1, fun t ht => by cases ht⟩
  | some u =>
    rw [if_neg (by simp; decide)]
    obtain ⟨h2, e2, N2, K2⟩ := N_roundTo (N1 u hx) hn (by omega)
    rw [bd_t e2]
    refine ⟨h2, ?_, kr_t K1 (fun y _ b c => K2 y b c), fun t ht => ?_⟩
    · simp; rfl
    · have := (Option.some.inj ht).symm
      subst this
      exact N2
theorem C_loadBoth {i1 i2 n : Nat} {b1 b2 : List Nat} {h : Hp} (hi1 : i1 < 25) (hi2 : i2 < 25) (hl1 : b1.length ≤ 200) (hl2 : b2.length ≤ 200) (hn : 0 < n) (hn2 : n ≤ 20) (H1 : isL h i1 b1) (H2 : isL h i2 b2) : ∃ h', f_D_loadBoth i1 i2 (iI (n : Int)) h = some (iI (if ldN n b1 = none ∨ ldN n b2 = none then 0 else 1), h') ∧ (∀ y, y ≠ 26 → y ≠ 29 → y ≠ 30 → y ≠ 31 → y ≠ 32 → h' y = h y) ∧ ∀ t u, ldN n b1 = some t → ldN n b2 = some u → isN h' 29 t.1 t.2.1 t.2.2 ∧ isN h' 31 u.1 u.2.1 u.2.2 := by
  obtain ⟨g1, e1, K1, N1⟩ := C_load (j := 29) hi1 (by omega) hl1 rfl hn hn2 H1
  unfold f_D_loadBoth
  rw [bd_t e1]
  cases hx : ldN n b1 with
  | none =>
    rw [if_pos (by simp; decide)]
    exact ⟨g1, by simp; rfl, fun y a b c _ _ => K1 y a b c, fun t u ht => by cases ht⟩
  | some t1 =>
    rw [if_neg (by simp; decide)]
    have H2' : isL g1 i2 b2 := isL_eq H2 (K1 i2 (by omega) (by omega) (by omega)) (K1 (i2 + 1) (by omega) (by omega) (by omega))
    obtain ⟨g2, e2, K2, N2⟩ := C_load (j := 31) hi2 (by omega) hl2 rfl hn hn2 H2'
    rw [bd_t e2]
    have F : ∀ y, y ≠ 26 → y ≠ 29 → y ≠ 30 → y ≠ 31 → y ≠ 32 → g2 y = h y := fun y a b c d e => (K2 y a d e).trans (K1 y a b c)
    cases hy : ldN n b2 with
    | none =>
      rw [if_pos (by simp; decide)]
      exact ⟨g2, by simp; rfl, F, fun t u _ hu => by cases hu⟩
    | some t2 =>
      rw [if_neg (by simp; decide)]
      refine ⟨g2, by simp; rfl, F, fun t u ht hu => ?_⟩
      have ht := (Option.some.inj ht).symm
      have hu := (Option.some.inj hu).symm
      subst ht
      subst hu
      exact ⟨isN_eq (N1 t hx) (K2 29 (by omega) (by omega) (by omega)) (K2 30 (by omega) (by omega) (by omega)), N2 u hy⟩
-- ===== the reference's whole values =====
def flo (c : Nat) (e : Int) : Nat := if 0 ≤ e then c * 10 ^ e.toNat else c / 10 ^ (-e).toNat
theorem dp_flo (c : Nat) (e : Int) (p : Nat) : dp c e (p : Int) = flo c e / 10 ^ p % 10 := by
  unfold dp flo
  by_cases q : 0 ≤ e
  · obtain ⟨m, rfl⟩ : ∃ m : Nat, e = m := ⟨e.toNat, by omega⟩
    rw [if_pos q, Int.toNat_natCast]
    by_cases q2 : m ≤ p
    · obtain ⟨k, rfl⟩ : ∃ k, p = m + k := ⟨p - m, by omega⟩
      rw [if_pos (by omega), show ((m + k : Nat) : Int) - (m : Int) = ((k : Nat) : Int) by omega, Int.toNat_natCast, Nat.pow_add, ← Nat.div_div_eq_div_mul, Nat.mul_div_cancel _ (p10 m)]
    · obtain ⟨k, rfl⟩ : ∃ k, m = p + (k + 1) := ⟨m - p - 1, by omega⟩
      rw [if_neg (by omega), Nat.pow_add, ← Nat.mul_assoc, Nat.mul_right_comm, Nat.mul_div_cancel _ (p10 p), Nat.pow_succ, ← Nat.mul_assoc, Nat.mul_mod_left]
  · rw [if_pos (by omega), if_neg q, div_pp, show ((p : Int) - e).toNat = (-e).toNat + p by omega]
theorem M_vo_loop {z c : Nat} {s e : Int} {h : Hp} (hz : z < 5) (hs : isS s) (he : -1000000 ≤ e ∧ e ≤ 1000000) (H : isM h z s c e) : ∀ (m n : Nat), m < 1000 → m < n → f_M_valueOf_8 n (iI (z : Int)) (iI ((flo c e / 10 ^ m : Nat) : Int)) (iI ((m : Int) - 1)) h = some (iI (if s < 0 then -(flo c e : Int) else (flo c e : Int)), h) := by
  intro m
  induction m with
  | zero =>
    intro n hm hn
    obtain ⟨n, rfl⟩ : ∃ q, n = q + 1 := ⟨n - 1, by omega⟩
    rw [f_M_valueOf_8, if_pos (by rw [i0, iI_lt ⟨by omega, by omega⟩ ⟨by omega, by omega⟩]; omega), chk_t (inz hz)]
    simp only [clz hz, H.2.2.1]
    rw [Nat.pow_zero, Nat.div_one]
    by_cases q : s < 0
    · rw [if_neg (by rw [i0, iI_le ⟨by omega, by omega⟩ ⟨by unfold isS at hs; omega, by unfold isS at hs; omega⟩]; omega), if_pos q, iI_neg]
    · rw [if_pos (by rw [i0, iI_le ⟨by omega, by omega⟩ ⟨by unfold isS at hs; omega, by unfold isS at hs; omega⟩]; omega), if_neg q]
  | succ m ih =>
    intro n hm hn
    obtain ⟨n, rfl⟩ : ∃ q, n = q + 1 := ⟨n - 1, by omega⟩
    have ez : ((m + 1 : Nat) : Int) - 1 = (m : Int) := by omega
    rw [ez, f_M_valueOf_8, if_neg (by rw [i0, iI_lt ⟨by omega, by omega⟩ ⟨by omega, by omega⟩]; omega), bd_t (M_digit hz H (by omega) (by omega)), dp_flo]
    have e1 : (10 : Int32) * iI ((flo c e / 10 ^ (m + 1) : Nat) : Int) + iI ((flo c e / 10 ^ m % 10 : Nat) : Int) = iI ((flo c e / 10 ^ m : Nat) : Int) := by
      rw [show (10 : Int32) = iI 10 from rfl, iI_mul, iI_add]
      congr 1
      have := div_pp (flo c e) m 1
      rw [Nat.pow_one] at this
      rw [← this]
      omega
    rw [e1, im1, iI_add]
    exact ih n (by omega) (by omega)
theorem flo_lt {c : Nat} {e : Int} {m : Nat} (h : (mn c : Int) + e ≤ m) : flo c e < 10 ^ m := by
  unfold flo
  have h1 := mn_lt c
  split
  · have : c * 10 ^ e.toNat < 10 ^ mn c * 10 ^ e.toNat := Nat.mul_lt_mul_of_pos_right h1 (p10 _)
    rw [← Nat.pow_add] at this
    exact Nat.lt_of_lt_of_le this (Nat.pow_le_pow_right (by decide) (by omega))
  · rw [Nat.div_lt_iff_lt_mul (p10 _), ← Nat.pow_add]
    exact Nat.lt_of_lt_of_le h1 (Nat.pow_le_pow_right (by decide) (by omega))
theorem M_valueOf {z c : Nat} {s e : Int} {h : Hp} (hz : z < 5) (hs : isS s) (he : -1000000 ≤ e ∧ e ≤ 1000000) (hh : (mn c : Int) - 1 + e ≤ 9) (H : isM h z s c e) : f_M_valueOf (iI (z : Int)) h = some (iI (if s < 0 then -(flo c e : Int) else (flo c e : Int)), h) := by
  unfold f_M_valueOf
  rw [bd_t (M_high hz H)]
  by_cases q : 0 ≤ (mn c : Int) - 1 + e
  · obtain ⟨m, hm⟩ : ∃ m : Nat, (mn c : Int) + e = m := ⟨((mn c : Int) + e).toNat, by omega⟩
    have := M_vo_loop hz hs he H m fuel (by omega) (by unfold fuel; omega)
    rw [Nat.div_eq_of_lt (flo_lt (by omega))] at this
    rw [show (mn c : Int) - 1 + e = (m : Int) - 1 by omega]
    exact this
  · have f0 : flo c e = 0 := by
      have := flo_lt (c := c) (e := e) (m := 0) (by omega)
      rw [Nat.pow_zero] at this
      omega
    rw [show fuel = 999999 + 1 from rfl, f_M_valueOf_8, if_pos (by rw [i0, iI_lt ⟨by have := H.2.2.2.1; omega, by omega⟩ ⟨by omega, by omega⟩]; omega), chk_t (inz hz), f0]
    simp only [clz hz, H.2.2.1]
    by_cases q : s < 0
    · rw [if_neg (by rw [i0, iI_le ⟨by omega, by omega⟩ ⟨by unfold isS at hs; omega, by unfold isS at hs; omega⟩]; omega), if_pos q]; rfl
    · rw [if_pos (by rw [i0, iI_le ⟨by omega, by omega⟩ ⟨by unfold isS at hs; omega, by unfold isS at hs; omega⟩]; omega), if_neg q]; rfl
theorem M_iw_loop {z c E : Nat} {s : Int} {h : Hp} (hz : z < 5) (hE : E < 100000) (H : isM h z s c (-(E : Int))) : ∀ (m k n : Nat), k + m = E → m < n → (∀ j, j < k → dg c E j = 0) → f_M_isWhole_34 n (iI (z : Int)) (iI (-1 - (k : Int))) h = some (iI (if c % 10 ^ E = 0 then 1 else 0), h) := by
  intro m
  induction m with
  | zero =>
    intro k n hk hn h0
    obtain ⟨n, rfl⟩ : ∃ q, n = q + 1 := ⟨n - 1, by omega⟩
    rw [f_M_isWhole_34, chk_t (inz hz)]
    simp only [clz hz, H.2.1]
    have : c % 10 ^ E = 0 := by rw [← dg_dv]; exact dv_z (fun j hj => h0 j (by omega))
    rw [if_pos (by rw [iI_lt ⟨by omega, by omega⟩ ⟨by omega, by omega⟩]; omega), if_pos this]
    rfl
  | succ m ih =>
    intro k n hk hn h0
    obtain ⟨n, rfl⟩ : ∃ q, n = q + 1 := ⟨n - 1, by omega⟩
    rw [f_M_isWhole_34, chk_t (inz hz)]
    simp only [clz hz, H.2.1]
    have ed : dp c (-(E : Int)) (-1 - (k : Int)) = dg c E k := by
      unfold dp dg
      rw [if_pos (by omega), show (-1 - (k : Int) - -(E : Int)).toNat = E - 1 - k by omega]
    have hd := dg_lt c E k
    rw [if_neg (by rw [iI_lt ⟨by omega, by omega⟩ ⟨by omega, by omega⟩]; omega), bd_t (M_digit hz H (by omega) (by omega)), ed]
    by_cases q : dg c E k = 0
    · rw [if_pos (by rw [q]; rfl), im1, iI_add, show -1 - (k : Int) + -1 = -1 - ((k + 1 : Nat) : Int) by omega]
      refine ih (k + 1) n (by omega) (by omega) (fun j hj => ?_)
      by_cases y : j = k
      · rw [y]; exact q
      · exact h0 j (by omega)
    · have : ¬ c % 10 ^ E = 0 := fun y => by
        rw [← dg_dv] at y
        have := dv_dg (f := dg c E) (n := E) (k := k) (by omega) (fun j _ => dg_lt _ _ _)
        rw [y] at this
        unfold dg at this q
        simp at this
        omega
      rw [if_neg (by rw [i0, iI_eq ⟨by omega, by omega⟩ ⟨by omega, by omega⟩]; omega), if_neg this]
      rfl
theorem M_isWhole {z c n : Nat} {s e : Int} {h : Hp} (hz : z < 5) (hn : 0 < n) (hn2 : n ≤ 20) (h4 : h 46 4 = iI (n : Int)) (ok : okN 1300 200 (s, c, e)) (H : isM h z s c e) : ∃ h', f_M_isWhole (iI (z : Int)) h = some (iI (if wv s (rnd n c e).1 (rnd n c e).2 = none then 0 else 1), h') ∧ isM h' z s (rnd n c e).1 (rnd n c e).2 ∧ km h h' z ∧ ∀ v, wv s (rnd n c e).1 (rnd n c e).2 = some v → (mn (rnd n c e).1 : Int) - 1 + (rnd n c e).2 ≤ 9 ∧ v = (if s < 0 then -(flo (rnd n c e).1 (rnd n c e).2 : Int) else (flo (rnd n c e).1 (rnd n c e).2 : Int)) := by
  obtain ⟨h1, e1, M1, K1⟩ := M_round hz H hn (by omega)
  obtain ⟨o1, o2, o3, o4, o5, o6⟩ := rN_ok hn ok
  have p1 : isS s := o1
  have p2 : s = 0 ↔ (rnd n c e).1 = 0 := o2
  have p3 : (rnd n c e).1 = 0 → (rnd n c e).2 = 0 := o3
  have p4 : -(1501 : Int) ≤ (rnd n c e).2 := o4
  have p5 : (rnd n c e).2 ≤ 1501 := o5
  have p6 : nd (rnd n c e).1 ≤ n := o6
  revert p2 p3 p4 p5 p6 M1
  generalize (rnd n c e).1 = C
  generalize (rnd n c e).2 = F
  intro M1 p2 p3 p4 p5 p6
  unfold f_M_isWhole
  rw [h4, bd_t e1, chk_t (inz hz)]
  simp only [clz hz, M1.2.2.1]
  by_cases s0 : s = 0
  · have c0 := p2.mp s0
    have e0 := p3 c0
    subst c0
    subst e0
    have ew : wv s 0 0 = some 0 := by rw [s0]; decide
    rw [if_pos (by rw [s0]; rfl), ew]
    refine ⟨h1, rfl, M1, K1, fun v hv => ⟨by rw [mn_0]; omega, ?_⟩⟩
    rw [← Option.some.inj hv, s0]
    rfl
  · have hC : 0 < C := by
      rcases Nat.eq_zero_or_pos C with y | y
      · exact absurd (p2.mpr y) s0
      · exact y
    have em := mn_c hC
    rw [if_neg (by rw [i0, iI_eq ⟨by unfold isS at p1; omega, by unfold isS at p1; omega⟩ ⟨by omega, by omega⟩]; exact s0), bd_t (M_high hz M1), em]
    unfold wv
    by_cases q : (nd C : Int) - 1 + F ≤ 8
    · rw [if_pos (by rw [show (8 : Int32) = iI 8 from rfl, iI_le ⟨by omega, by omega⟩ ⟨by omega, by omega⟩]; exact q), if_neg (show ¬ (9 : Int) < (nd C : Int) + F by omega)]
      by_cases q2 : 0 ≤ F
      · rw [if_pos q2]
        refine ⟨h1, ?_, M1, K1, fun v hv => ⟨by omega, ?_⟩⟩
        · rw [show fuel = 999999 + 1 from rfl, f_M_isWhole_34, chk_t (inz hz)]
          simp only [clz hz, M1.2.1]
          rw [if_pos (by rw [im1, iI_lt ⟨by omega, by omega⟩ ⟨by omega, by omega⟩]; omega)]
          simp
          rfl
        · rw [← Option.some.inj hv]
          unfold flo
          rw [if_pos q2]
      · rw [if_neg q2]
        obtain ⟨E, rfl⟩ : ∃ E : Nat, F = -(E : Int) := ⟨(-F).toNat, by omega⟩
        have L := M_iw_loop hz (by omega) M1 E 0 fuel (by omega) (by unfold fuel; omega) (fun j hj => by omega)
        rw [show (-1 : Int) - ((0 : Nat) : Int) = -1 from rfl, ← im1] at L
        rw [L, show (- -(E : Int)).toNat = E by omega]
        by_cases y : C % 10 ^ E = 0
        · rw [if_pos y, if_pos y]
          refine ⟨h1, by simp, M1, K1, fun v hv => ⟨by omega, ?_⟩⟩
          rw [← Option.some.inj hv]
          unfold flo
          rw [if_neg q2, show (- -(E : Int)).toNat = E by omega]
        · rw [if_neg y, if_neg y]
          exact ⟨h1, by simp, M1, K1, fun v hv => by cases hv⟩
    · rw [if_neg (by rw [show (8 : Int32) = iI 8 from rfl, iI_le ⟨by omega, by omega⟩ ⟨by omega, by omega⟩]; exact q), if_pos (show (9 : Int) < (nd C : Int) + F by omega)]
      exact ⟨h1, by simp; rfl, M1, K1, fun v hv => by cases hv⟩
