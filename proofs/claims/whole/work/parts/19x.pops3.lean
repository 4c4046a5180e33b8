/-! PURE 32: work, most, compare -/
def sp_work (op a b c : Int) (s : St) : Int32 × St := if isReg a ∧ isReg b ∧ isReg c ∧ 0 ≤ op ∧ op ≤ 6 then (match ldN s.2.2.1 (s.2.1 a.toNat) with
  | none => (iI (-41), s)
  | some t => (match ldN s.2.2.1 (s.2.1 b.toNat) with
    | none => (iI (-41), s)
    | some u => if (wkR op s.2.2.1 t u).1 = 0 then sp_ans (wkR op s.2.2.1 t u).2 c.toNat s else (iI (-(wkR op s.2.2.1 t u).1), s))) else (iI (-1), s)
theorem wkR_c (op : Int) (n : Nat) (t u : Int × Nat × Int) : (wkR op n t u).1 = 0 ∨ (wkR op n t u).1 = 26 ∨ (wkR op n t u).1 = 42 := by
  unfold wkR
  split
  · exact Or.inl rfl
  split
  · exact Or.inl rfl
  split
  · exact Or.inl rfl
  split
  · split
    · exact Or.inr (Or.inl rfl)
    · rename_i v _
      show pwC v t = 0 ∨ pwC v t = 26 ∨ pwC v t = 42
      unfold pwC
      split
      · exact Or.inr (Or.inl rfl)
      · split
        · exact Or.inr (Or.inr rfl)
        · exact Or.inl rfl
  split
  · exact Or.inr (Or.inr rfl)
  split
  · exact Or.inl rfl
  split
  · exact Or.inr (Or.inl rfl)
  split
  · exact Or.inl rfl
  · exact Or.inl rfl
theorem fr_lb {h h' : Hp} (k : ∀ y, y ≠ 26 → y ≠ 29 → y ≠ 30 → y ≠ 31 → y ≠ 32 → h' y = h y) : fr h h' := fun j hj => k j (by omega) (by omega) (by omega) (by omega) (by omega)
theorem C_work {op a b c : Int} {s : St} {h : Hp} (ho : bI op) (ha : bI a) (hb : bI b) (hc : bI c) (H : SC h s) (ok : okS s) : ∃ h', f_D_work (iI op) (iI a) (iI b) (iI c) h = some ((sp_work op a b c s).1, h') ∧ SC h' (sp_work op a b c s).2 ∧ okS (sp_work op a b c s).2 ∧ lo h h' := by
  have bad : ¬ (isReg a ∧ isReg b ∧ isReg c ∧ 0 ≤ op ∧ op ≤ 6) → ∃ h', some ((-1 : Int32), h) = some ((sp_work op a b c s).1, h') ∧ SC h' (sp_work op a b c s).2 ∧ okS (sp_work op a b c s).2 ∧ lo h h' := fun q => by
    unfold sp_work
    rw [if_neg q]
    exact ⟨h, rfl, H, ok, lo_r _⟩
  unfold f_D_work
  rw [bd_t (C_find ha), bd_t (C_find hb), bd_t (C_find hc)]
  by_cases q1 : op < 0
  · rw [if_pos (by rw [i0, iI_lt ⟨by omega, by omega⟩ ⟨by omega, by omega⟩]; exact q1)]; exact bad (by omega)
  rw [if_neg (by rw [i0, iI_lt ⟨by omega, by omega⟩ ⟨by omega, by omega⟩]; exact q1)]
  by_cases q2 : 6 < op
  · rw [if_pos (by rw [show (6 : Int32) = iI 6 from rfl, iI_lt ⟨by omega, by omega⟩ ⟨by omega, by omega⟩]; exact q2)]; exact bad (by omega)
  rw [if_neg (by rw [show (6 : Int32) = iI 6 from rfl, iI_lt ⟨by omega, by omega⟩ ⟨by omega, by omega⟩]; exact q2)]
  by_cases q3 : ¬ isReg a
  · rw [oq_n q3]; exact bad (by omega)
  have q3 := Decidable.not_not.mp q3
  by_cases q4 : ¬ isReg b
  · rw [oq_y q3, oq_n q4]; exact bad (by omega)
  have q4 := Decidable.not_not.mp q4
  by_cases q5 : ¬ isReg c
  · rw [oq_y q3, oq_y q4, oq_n q5]; exact bad (by omega)
  have q5 := Decidable.not_not.mp q5
  rw [oq_y q3, oq_y q4, oq_y q5, H.2.2.1]
  unfold sp_work
  rw [if_pos (show isReg a ∧ isReg b ∧ isReg c ∧ 0 ≤ op ∧ op ≤ 6 by omega)]
  have hd := ok.2.2
  obtain ⟨h1, e1, k1, n1⟩ := C_loadBoth (i1 := 4 + 2 * a.toNat) (i2 := 4 + 2 * b.toNat) (n := s.2.2.1) (by omega) (by omega) (ok.2.1 a.toNat (by omega)).1 (ok.2.1 b.toNat (by omega)).1 (by omega) (by omega) (H.2.1 a.toNat (by omega)) (H.2.1 b.toNat (by omega))
  rw [bd_t e1]
  have f1 : fr h h1 := fr_lb k1
  cases hx : ldN s.2.2.1 (s.2.1 a.toNat) with
  | none =>
    rw [if_pos (by simp; decide)]
    exact ⟨h1, rfl, SC_fr H f1, ok, lo_fr f1⟩
  | some t =>
    cases hy : ldN s.2.2.1 (s.2.1 b.toNat) with
    | none =>
      rw [if_pos (by simp; decide)]
      exact ⟨h1, rfl, SC_fr H f1, ok, lo_fr f1⟩
    | some u =>
      rw [if_neg (by simp; decide), (SC_fr H f1).2.2.1]
      obtain ⟨Nt, Nu⟩ := n1 t u hx hy
      have ot := okN_w (ldN_ok (n := s.2.2.1) (by omega) (ok.2.1 a.toNat (by omega)).1 hx) (Nat.le_refl 1501) (show s.2.2.1 ≤ 20 by omega)
      have ou := okN_w (ldN_ok (n := s.2.2.1) (by omega) (ok.2.1 b.toNat (by omega)).1 hy) (Nat.le_refl 1501) (show s.2.2.1 ≤ 20 by omega)
      obtain ⟨h2, e2, N2, f2⟩ := C_reckon (op := op) (n := s.2.2.1) ⟨by omega, by omega⟩ (by omega) (by omega) ot ou Nt Nu
      rw [bd_t e2]
      have f12 := fr_t f1 f2
      have wc := wkR_c op s.2.2.1 t u
      show ∃ h', _ = some ((if (wkR op s.2.2.1 t u).1 = 0 then sp_ans (wkR op s.2.2.1 t u).2 c.toNat s else (iI (-(wkR op s.2.2.1 t u).1), s)).1, h') ∧ SC h' (if (wkR op s.2.2.1 t u).1 = 0 then sp_ans (wkR op s.2.2.1 t u).2 c.toNat s else (iI (-(wkR op s.2.2.1 t u).1), s)).2 ∧ okS (if (wkR op s.2.2.1 t u).1 = 0 then sp_ans (wkR op s.2.2.1 t u).2 c.toNat s else (iI (-(wkR op s.2.2.1 t u).1), s)).2 ∧ _
      by_cases w : (wkR op s.2.2.1 t u).1 = 0
      · rw [if_pos (by rw [w]; rfl), if_pos w]
        obtain ⟨h3, e3, S3, o3, l3⟩ := C_ans (i := 33) (r := c.toNat) (by omega) (by omega) (SC_fr H f12) ok (wkR_ok (by omega) (by omega) ot ou w) (N2 w)
        rw [bd_t e3]
        exact ⟨h3, rfl, S3, o3, lo_t (lo_fr f12) l3⟩
      · rw [if_neg (by rw [i0, iI_eq ⟨by omega, by omega⟩ ⟨by omega, by omega⟩]; exact w), if_neg w, iI_neg]
        exact ⟨h2, rfl, SC_fr H f12, ok, lo_fr f12⟩
theorem M_w91 {op v : Int} {c n : Nat} {t0 u0 t u : Int × Nat × Int} {s : St} {h g : Hp} (hn : s.2.2.1 = n) (ho : 0 ≤ op ∧ op ≤ 6) (hc : c < 10) (H : SR h s) (ok : okS s) (fg : fw h g) (et0 : rN n t0 = t) (eu0 : rN n u0 = u) (ot : okN 1501 20 t) (ou : okN 1501 20 u) (et : okE t) (eu : okE u) (hv : op = 6 → wv u.1 u.2.1 u.2.2 = some v ∧ -999 ≤ v ∧ v ≤ 999) (Mt : isM g 0 t0.1 t0.2.1 t0.2.2) (Mu : isM g 1 u0.1 u0.2.1 u0.2.2) (ok2 : okS (if (wkR op n t u).1 = 0 then sp_ans (wkR op n t u).2 c s else (iI (-(wkR op n t u).1), s)).2) : ∃ h', f_M_work_91 (iI op) (iI (c : Int)) (iI v) g = some ((if (wkR op n t u).1 = 0 then sp_ans (wkR op n t u).2 c s else (iI (-(wkR op n t u).1), s)).1, h') ∧ SR h' (if (wkR op n t u).1 = 0 then sp_ans (wkR op n t u).2 c s else (iI (-(wkR op n t u).1), s)).2 ∧ hi h h' := by
  have hd := ok.2.2
  rw [hn] at hd
  have h4 : ∀ g', fw h g' → g' 46 4 = iI (n : Int) := fun g' f => by rw [← hn]; exact (SR_fw H f).2.2.1
  unfold f_M_work_91
  obtain ⟨g1, e1, M1, k1⟩ := M_round (z := 0) (n := n) (by omega) Mt (by omega) (by omega)
  rw [h4 g fg, bd_t (show f_M_round 0 (iI (n : Int)) g = _ from e1)]
  have f1 := fw_t fg (fw_km k1)
  obtain ⟨g2, e2, M2, k2⟩ := M_round (z := 1) (n := n) (by omega) (isM_km (by omega) Mu k1) (by omega) (by omega)
  rw [h4 g1 f1, bd_t (show f_M_round 1 (iI (n : Int)) g1 = _ from e2)]
  have f2 := fw_t f1 (fw_km k2)
  have Mt2 : isM g2 0 t.1 t.2.1 t.2.2 := by
    have := isM_km (y := 0) (z := 1) (by omega) M1 k2
    rw [← et0]
    exact this
  have Mu2 : isM g2 1 u.1 u.2.1 u.2.2 := by
    rw [← eu0]
    exact M2
  have c5 : inR 1 5 := inz (z := 1) (by omega)
  have wc := wkR_c op n t u
  have t131 : (3 ≤ op → op ≤ 5 → 0 < u.2.1) → ∃ h', f_M_work_131 (iI op) (iI (c : Int)) (iI v) g2 = some ((if (wkR op n t u).1 = 0 then sp_ans (wkR op n t u).2 c s else (iI (-(wkR op n t u).1), s)).1, h') ∧ SR h' (if (wkR op n t u).1 = 0 then sp_ans (wkR op n t u).2 c s else (iI (-(wkR op n t u).1), s)).2 ∧ hi h h' := by
    intro hu
    unfold f_M_work_131
    obtain ⟨g3, e3, M3, f3⟩ := M_worked (op := op) (v := v) (n := n) ho (by omega) (by omega) ot ou et eu (h4 g2 f2) hu hv Mt2 Mu2
    have f23 := fw_t f2 f3
    rw [bd_t e3]
    by_cases w : (wkR op n t u).1 = 0
    · rw [if_pos w] at ok2 ⊢
      rw [if_pos (by rw [w]; decide)]
      obtain ⟨g4, e4, S4, l4⟩ := M_ans (z := 2) (r := c) (by omega) hc (SR_fw H f23) ok (wkR_ok (by omega) (by omega) ot ou w) (M3 w) ok2
      rw [bd_t (show f_M_answer 2 (iI (c : Int)) g3 = _ from e4)]
      exact ⟨g4, rfl, S4, hi_t (hi_fw f23) l4⟩
    · rw [if_neg w]
      rw [if_neg (by rw [i0, iI_le ⟨by omega, by omega⟩ ⟨by omega, by omega⟩]; omega), iI_neg]
      exact ⟨g3, rfl, SR_fw H f23, hi_fw f23⟩
  have u1 := ou.1
  unfold isS at u1
  by_cases a1 : op < 3
  · rw [if_pos (by rw [show (3 : Int32) = iI 3 from rfl, iI_lt ⟨by omega, by omega⟩ ⟨by omega, by omega⟩]; exact a1)]
    exact t131 (fun z => by omega)
  rw [if_neg (by rw [show (3 : Int32) = iI 3 from rfl, iI_lt ⟨by omega, by omega⟩ ⟨by omega, by omega⟩]; exact a1)]
  by_cases a2 : 5 < op
  · rw [if_pos (by rw [show (5 : Int32) = iI 5 from rfl, iI_lt ⟨by omega, by omega⟩ ⟨by omega, by omega⟩]; exact a2)]
    exact t131 (fun z y => by omega)
  rw [if_neg (by rw [show (5 : Int32) = iI 5 from rfl, iI_lt ⟨by omega, by omega⟩ ⟨by omega, by omega⟩]; exact a2), chk_t c5, show Int32.toNatClampNeg 1 = 1 from rfl, Mu2.2.2.1]
  by_cases a3 : u.2.1 = 0
  · have ew : wkR op n t u = (42, (0, 0, 0)) := by
      unfold wkR
      rw [if_neg (by omega), if_neg (by omega), if_neg (by omega), if_neg (by omega), if_pos a3]
    rw [if_pos (by rw [ou.2.1.mpr a3]; rfl), ew]
    exact ⟨g2, rfl, SR_fw H f2, hi_fw f2⟩
  · have s0 : u.1 ≠ 0 := fun z => a3 (ou.2.1.mp z)
    rw [if_neg (by rw [i0, iI_eq ⟨by omega, by omega⟩ ⟨by omega, by omega⟩]; exact s0)]
    exact t131 (fun _ _ => by omega)
theorem wkR_6n {n : Nat} {t u : Int × Nat × Int} (h : wv u.1 u.2.1 u.2.2 = none) : (wkR 6 n t u).1 = 26 := by
  unfold wkR
  rw [if_neg (by decide), if_neg (by decide), if_neg (by decide), if_pos rfl, h]
theorem wkR_6s {n : Nat} {v : Int} {t u : Int × Nat × Int} (h : wv u.1 u.2.1 u.2.2 = some v) : (wkR 6 n t u).1 = pwC v t := by
  unfold wkR
  rw [if_neg (by decide), if_neg (by decide), if_neg (by decide), if_pos rfl, h]
theorem M_work {op a b c : Int} {s : St} {h : Hp} (ho : bI op) (ha : bI a) (hb : bI b) (hc : bI c) (H : SR h s) (ok : okS s) (ok2 : okS (sp_work op a b c s).2) : ∃ h', f_M_work (iI op) (iI a) (iI b) (iI c) h = some ((sp_work op a b c s).1, h') ∧ SR h' (sp_work op a b c s).2 ∧ hi h h' := by
  have bad : ¬ (isReg a ∧ isReg b ∧ isReg c ∧ 0 ≤ op ∧ op ≤ 6) → ∃ h', some ((-1 : Int32), h) = some ((sp_work op a b c s).1, h') ∧ SR h' (sp_work op a b c s).2 ∧ hi h h' := fun q => by
    unfold sp_work
    rw [if_neg q]
    exact ⟨h, rfl, H, hi_r _⟩
  unfold f_M_work
  rw [bd_t (M_isReg ha)]
  by_cases q3 : ¬ isReg a
  · rw [if_neg q3, if_pos (by rfl)]; exact bad (by omega)
  have q3 := Decidable.not_not.mp q3
  rw [if_pos q3, if_neg (by decide), bd_t (M_isReg hb)]
  by_cases q4 : ¬ isReg b
  · rw [if_neg q4, if_pos (by rfl)]; exact bad (by omega)
  have q4 := Decidable.not_not.mp q4
  rw [if_pos q4, if_neg (by decide), bd_t (M_isReg hc)]
  by_cases q5 : ¬ isReg c
  · rw [if_neg q5, if_pos (by rfl)]; exact bad (by omega)
  have q5 := Decidable.not_not.mp q5
  rw [if_pos q5, if_neg (by decide)]
  by_cases q1 : op < 0
  · rw [if_pos (by rw [i0, iI_lt ⟨by omega, by omega⟩ ⟨by omega, by omega⟩]; exact q1)]; exact bad (by omega)
  rw [if_neg (by rw [i0, iI_lt ⟨by omega, by omega⟩ ⟨by omega, by omega⟩]; exact q1)]
  by_cases q2 : ¬ op ≤ 6
  · rw [if_neg (by rw [show (6 : Int32) = iI 6 from rfl, iI_le ⟨by omega, by omega⟩ ⟨by omega, by omega⟩]; exact q2)]; exact bad (by omega)
  have q2 := Decidable.not_not.mp q2
  rw [if_pos (by rw [show (6 : Int32) = iI 6 from rfl, iI_le ⟨by omega, by omega⟩ ⟨by omega, by omega⟩]; exact q2)]
  unfold sp_work at ok2 ⊢
  rw [if_pos (show isReg a ∧ isReg b ∧ isReg c ∧ 0 ≤ op ∧ op ≤ 6 by omega)] at ok2 ⊢
  have hd := ok.2.2
  obtain ⟨a, rfl⟩ : ∃ k : Nat, a = k := ⟨a.toNat, by omega⟩
  obtain ⟨b, rfl⟩ : ∃ k : Nat, b = k := ⟨b.toNat, by omega⟩
  obtain ⟨c, rfl⟩ : ∃ k : Nat, c = k := ⟨c.toNat, by omega⟩
  simp only [Int.toNat_natCast] at ok2 ⊢
  obtain ⟨h1, e1, k1, m1⟩ := M_read (z := 0) (r := a) (by omega) (by omega) (H.2.1 a (by omega)) (ok.2.1 a (by omega))
  rw [bd_t (show f_M_read (iI (a : Int)) 0 h = _ from e1)]
  cases hx : rdN (s.2.1 a) with
  | none =>
    have hx2 : ldN s.2.2.1 (s.2.1 a) = none := by
      unfold ldN
      rw [hx]
      rfl
    rw [if_pos (by simp; decide), hx2]
    exact ⟨h1, rfl, SR_fw H (fw_km k1), hi_fw (fw_km k1)⟩
  | some t0 =>
    have hx2 : ldN s.2.2.1 (s.2.1 a) = some (rN s.2.2.1 t0) := by
      unfold ldN
      rw [hx]
      rfl
    rw [if_neg (by simp; decide)]
    have f1 : fw h h1 := fw_km k1
    have H1 := SR_fw H f1
    obtain ⟨h2, e2, k2, m2⟩ := M_read (z := 1) (r := b) (by omega) (by omega) (H1.2.1 b (by omega)) (ok.2.1 b (by omega))
    rw [bd_t (show f_M_read (iI (b : Int)) 1 h1 = _ from e2)]
    have f2 := fw_t f1 (fw_km k2)
    rw [hx2] at ok2 ⊢
    cases hy : rdN (s.2.1 b) with
    | none =>
      have hy2 : ldN s.2.2.1 (s.2.1 b) = none := by
        unfold ldN
        rw [hy]
        rfl
      rw [if_pos (by simp; decide), hy2]
      exact ⟨h2, rfl, SR_fw H f2, hi_fw f2⟩
    | some u0 =>
      have hy2 : ldN s.2.2.1 (s.2.1 b) = some (rN s.2.2.1 u0) := by
        unfold ldN
        rw [hy]
        rfl
      rw [if_neg (by simp; decide)]
      rw [hy2] at ok2 ⊢
      have ot := okN_w (ldN_ok (n := s.2.2.1) (by omega) (ok.2.1 a (by omega)).1 hx2) (Nat.le_refl 1501) (show s.2.2.1 ≤ 20 by omega)
      have ou := okN_w (ldN_ok (n := s.2.2.1) (by omega) (ok.2.1 b (by omega)).1 hy2) (Nat.le_refl 1501) (show s.2.2.1 ≤ 20 by omega)
      have ou1 := ldN_ok (n := s.2.2.1) (by omega) (ok.2.1 b (by omega)).1 hy2
      have et := ldN_okE (n := s.2.2.1) (by omega) (ok.2.1 a (by omega)).1 hx2
      have eu := ldN_okE (n := s.2.2.1) (by omega) (ok.2.1 b (by omega)).1 hy2
      have Mt := isM_km (y := 0) (z := 1) (by omega) (m1 t0 hx) k2
      have Mu := m2 u0 hy
      by_cases o6 : op = 6
      · rw [if_pos (by rw [o6]; rfl)]
        obtain ⟨h3, e3, M3, k3, w3⟩ := M_isWhole (z := 1) (n := s.2.2.1) (s := u0.1) (c := u0.2.1) (e := u0.2.2) (by omega) (by omega) (by omega) (SR_fw H f2).2.2.1 (rdN_ok (ok.2.1 b (by omega)).1 hy) Mu
        rw [bd_t (show f_M_isWhole 1 h2 = _ from e3)]
        have f3 := fw_t f2 (fw_km k3)
        have Mt3 := isM_km (y := 0) (z := 1) (by omega) Mt k3
        have f26 : (wkR op s.2.2.1 (rN s.2.2.1 t0) (rN s.2.2.1 u0)).1 = 26 → ∃ h', some ((-26 : Int32), h3) = some ((if (wkR op s.2.2.1 (rN s.2.2.1 t0) (rN s.2.2.1 u0)).1 = 0 then sp_ans (wkR op s.2.2.1 (rN s.2.2.1 t0) (rN s.2.2.1 u0)).2 c s else (iI (-(wkR op s.2.2.1 (rN s.2.2.1 t0) (rN s.2.2.1 u0)).1), s)).1, h') ∧ SR h' (if (wkR op s.2.2.1 (rN s.2.2.1 t0) (rN s.2.2.1 u0)).1 = 0 then sp_ans (wkR op s.2.2.1 (rN s.2.2.1 t0) (rN s.2.2.1 u0)).2 c s else (iI (-(wkR op s.2.2.1 (rN s.2.2.1 t0) (rN s.2.2.1 u0)).1), s)).2 ∧ hi h h' := fun w => by
          rw [if_neg (by rw [w]; decide), w]
          exact ⟨h3, rfl, SR_fw H f3, hi_fw f3⟩
        cases hz : wv u0.1 (rnd s.2.2.1 u0.2.1 u0.2.2).1 (rnd s.2.2.1 u0.2.1 u0.2.2).2 with
        | none =>
          have hz2 : wv (rN s.2.2.1 u0).1 (rN s.2.2.1 u0).2.1 (rN s.2.2.1 u0).2.2 = none := hz
          rw [if_pos (by simp; decide)]
          exact f26 (by rw [o6]; exact wkR_6n hz2)
        | some v =>
          have hz2 : wv (rN s.2.2.1 u0).1 (rN s.2.2.1 u0).2.1 (rN s.2.2.1 u0).2.2 = some v := hz
          obtain ⟨b1, b2⟩ := w3 v hz
          have wh := whole_hi (s := (rN s.2.2.1 u0).1) (v := v) ou1.2.2.1 hz2
          have o4 : -(1501 : Int) ≤ (rnd s.2.2.1 u0.2.1 u0.2.2).2 := ou1.2.2.2.1
          have o5 : (rnd s.2.2.1 u0.2.1 u0.2.2).2 ≤ 1501 := ou1.2.2.2.2.1
          have eh := M_high (z := 1) (by omega) M3
          have mb : mn (rnd s.2.2.1 u0.2.1 u0.2.2).1 ≤ 20 := by
            have : nd (rnd s.2.2.1 u0.2.1 u0.2.2).1 ≤ s.2.2.1 := ou1.2.2.2.2.2
            unfold mn
            omega
          have wh : (mn (rnd s.2.2.1 u0.2.1 u0.2.2).1 : Int) - 1 + (rnd s.2.2.1 u0.2.1 u0.2.2).2 ≤ 2 ↔ -999 ≤ v ∧ v ≤ 999 := wh
          rw [if_neg (by simp; decide), bd_t (show f_M_high 1 h3 = _ from eh)]
          by_cases w : (mn (rnd s.2.2.1 u0.2.1 u0.2.2).1 : Int) - 1 + (rnd s.2.2.1 u0.2.1 u0.2.2).2 ≤ 2
          · have V := M_valueOf (z := 1) (by omega) ou1.1 ⟨by omega, by omega⟩ b1 M3
            have V : f_M_valueOf 1 h3 = some (iI v, h3) := by
              rw [b2]
              exact V
            rw [if_pos (by rw [show (2 : Int32) = iI 2 from rfl, iI_le ⟨by omega, by omega⟩ ⟨by omega, by omega⟩]; exact w), bd_t V]
            exact M_w91 (op := op) (v := v) (n := s.2.2.1) (t0 := t0) (u0 := rN s.2.2.1 u0) rfl ⟨by omega, by omega⟩ (by omega) H ok f3 rfl (rN_same ou1.2.2.2.2.2) ot ou et eu (fun _ => ⟨hz2, wh.mp w⟩) Mt3 M3 ok2
          · have c26 : pwC v (rN s.2.2.1 t0) = 26 := if_pos (by omega)
            rw [if_neg (by rw [show (2 : Int32) = iI 2 from rfl, iI_le ⟨by omega, by omega⟩ ⟨by omega, by omega⟩]; exact w)]
            exact f26 (by rw [o6, wkR_6s hz2, c26])
      · rw [if_neg (by rw [show (6 : Int32) = iI 6 from rfl, iI_eq ⟨by omega, by omega⟩ ⟨by omega, by omega⟩]; exact o6)]
        exact M_w91 (op := op) (v := 0) (n := s.2.2.1) (t0 := t0) (u0 := u0) rfl ⟨by omega, by omega⟩ (by omega) H ok f2 rfl rfl ot ou et eu (fun z => absurd z o6) Mt Mu ok2
