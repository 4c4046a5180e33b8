/-! PURE 33: most, compare -/
def pick (w : Nat) (t u : Int × Nat × Int) : Int × Nat × Int := if w = 0 then (if 0 ≤ (exS t (ngT 1 u)).1 then t else u) else (if (exS t (ngT 1 u)).1 ≤ 0 then t else u)
def sp_most (a b c : Int) (w : Nat) (s : St) : Int32 × St := if isReg a ∧ isReg b ∧ isReg c then (match ldN s.2.2.1 (s.2.1 a.toNat) with
  | none => (iI (-41), s)
  | some t => (match ldN s.2.2.1 (s.2.1 b.toNat) with
    | none => (iI (-41), s)
    | some u => sp_ans (pick w t u) c.toNat s)) else (iI (-1), s)
theorem C_most {a b c : Int} {w : Nat} {s : St} {h : Hp} (hw : w ≤ 1) (ha : bI a) (hb : bI b) (hc : bI c) (H : SC h s) (ok : okS s) : ∃ h', f_D_most (iI a) (iI b) (iI c) (iI (w : Int)) h = some ((sp_most a b c w s).1, h') ∧ SC h' (sp_most a b c w s).2 ∧ okS (sp_most a b c w s).2 ∧ lo h h' := by
  have bad : ¬ (isReg a ∧ isReg b ∧ isReg c) → ∃ h', some ((-1 : Int32), h) = some ((sp_most a b c w s).1, h') ∧ SC h' (sp_most a b c w s).2 ∧ okS (sp_most a b c w s).2 ∧ lo h h' := fun q => by
    unfold sp_most
    rw [if_neg q]
    exact ⟨h, rfl, H, ok, lo_r _⟩
  unfold f_D_most
  rw [bd_t (C_find ha), bd_t (C_find hb), bd_t (C_find hc)]
  by_cases q3 : ¬ isReg a
  · rw [oq_n q3]; exact bad (by omega)
  have q3 := Decidable.not_not.mp q3
  by_cases q4 : ¬ isReg b
  · rw [oq_y q3, oq_n q4]; exact bad (by omega)
  have q4 := Decidable.not_not.mp q4
  by_cases q5 : ¬ isReg c
  · rw [oq_y q3, oq_y q4, oq_n q5]; exact bad (by omega)
  have q5 := Decidable.not_not.mp q5
  rw [oq_y q3, oq_y q4, oq_y q5, H.2.2.1]
  unfold sp_most
  rw [if_pos (show isReg a ∧ isReg b ∧ isReg c by omega)]
  have hd := ok.2.2
  obtain ⟨h1, e1, k1, n1⟩ := C_loadBoth (i1 := 4 + 2 * a.toNat) (i2 := 4 + 2 * b.toNat) (n := s.2.2.1) (by omega) (by omega) (ok.2.1 a.toNat (by omega)).1 (ok.2.1 b.toNat (by omega)).1 (by omega) (by omega) (H.2.1 a.toNat (by omega)) (H.2.1 b.toNat (by omega))
  rw [bd_t e1]
  have f1 : fr h h1 := fr_lb k1
  cases hx : ldN s.2.2.1 (s.2.1 a.toNat) with
  | none =>
    rw [if_pos (by simp; decide)]
    exact ⟨h1, rfl, SC_fr H f1, ok, lo_fr f1⟩
  | some t =>
    cases hy : ldN s.2.2.1 (s.2.1 b.toNat) with
    | none =>
      rw [if_pos (by simp; decide)]
      exact ⟨h1, rfl, SC_fr H f1, ok, lo_fr f1⟩
    | some u =>
      rw [if_neg (by simp; decide)]
      obtain ⟨Nt, Nu⟩ := n1 t u hx hy
      have ot := okN_w (ldN_ok (n := s.2.2.1) (by omega) (ok.2.1 a.toNat (by omega)).1 hx) (Nat.le_refl 1501) (show s.2.2.1 ≤ 20 by omega)
      have ou := okN_w (ldN_ok (n := s.2.2.1) (by omega) (ok.2.1 b.toNat (by omega)).1 hy) (Nat.le_refl 1501) (show s.2.2.1 ≤ 20 by omega)
      obtain ⟨h2, z, e2, N2, s2, -, k2⟩ := C_sum (j := 31) (fl := 1) (Or.inl rfl) (by omega) (okN_w ot (by omega) (Nat.le_refl _)) (okN_w ou (show 1501 ≤ 10000 by omega) (show 20 ≤ 40 by omega)) Nt Nu
      rw [bd_t (show f_K_sum 29 31 1 33 h1 = _ from e2), N2.2.2, s2]
      have sg := (exS_ok ot (ngT_ok (fl := 1) ou)).1
      unfold isS at sg
      have f12 : fr h h2 := fr_t f1 (fun j hj => k2 j (by omega) (by omega) (by omega) (by omega) (by omega))
      have Nt2 : isN h2 29 t.1 t.2.1 t.2.2 := isN_eq Nt (k2 29 (by omega) (by omega) (by omega) (by omega) (by omega)) (k2 30 (by omega) (by omega) (by omega) (by omega) (by omega))
      have Nu2 : isN h2 31 u.1 u.2.1 u.2.2 := isN_eq Nu (k2 31 (by omega) (by omega) (by omega) (by omega) (by omega)) (k2 32 (by omega) (by omega) (by omega) (by omega) (by omega))
      have oT := okN_w ot (show 1501 ≤ 100000000 by omega) (Nat.le_refl 20)
      have oU := okN_w ou (show 1501 ≤ 100000000 by omega) (Nat.le_refl 20)
      have y0 : pick w t u = t → ∃ h', f_D_most_114 (4 + 2 * c.toNat) 0 h2 = some ((sp_ans (pick w t u) c.toNat s).1, h') ∧ SC h' (sp_ans (pick w t u) c.toNat s).2 ∧ okS (sp_ans (pick w t u) c.toNat s).2 ∧ lo h h' := fun ep => by
        rw [ep]
        unfold f_D_most_114
        obtain ⟨h3, e3, S3, o3, l3⟩ := C_ans (i := 29) (r := c.toNat) (by omega) (by omega) (SC_fr H f12) ok oT Nt2
        rw [if_pos rfl, bd_t e3]
        exact ⟨h3, rfl, S3, o3, lo_t (lo_fr f12) l3⟩
      have y1 : pick w t u = u → ∃ h', f_D_most_114 (4 + 2 * c.toNat) 1 h2 = some ((sp_ans (pick w t u) c.toNat s).1, h') ∧ SC h' (sp_ans (pick w t u) c.toNat s).2 ∧ okS (sp_ans (pick w t u) c.toNat s).2 ∧ lo h h' := fun ep => by
        rw [ep]
        unfold f_D_most_114
        obtain ⟨h3, e3, S3, o3, l3⟩ := C_ans (i := 31) (r := c.toNat) (by omega) (by omega) (SC_fr H f12) ok oU Nu2
        rw [if_neg (by decide), bd_t e3]
        exact ⟨h3, rfl, S3, o3, lo_t (lo_fr f12) l3⟩
      show ∃ h', _ = some ((sp_ans (pick w t u) c.toNat s).1, h') ∧ SC h' (sp_ans (pick w t u) c.toNat s).2 ∧ okS (sp_ans (pick w t u) c.toNat s).2 ∧ _
      by_cases w0 : w = 0
      · rw [if_pos (by rw [w0]; rfl)]
        by_cases g : 0 ≤ (exS t (ngT 1 u)).1
        · rw [if_pos (by rw [i0, iI_le ⟨by omega, by omega⟩ ⟨by omega, by omega⟩]; exact g)]
          exact y0 (by unfold pick; rw [if_pos w0, if_pos g])
        · rw [if_neg (by rw [i0, iI_le ⟨by omega, by omega⟩ ⟨by omega, by omega⟩]; exact g)]
          exact y1 (by unfold pick; rw [if_pos w0, if_neg g])
      · rw [if_neg (by rw [i0, iI_eq ⟨by omega, by omega⟩ ⟨by omega, by omega⟩]; omega)]
        by_cases g : (exS t (ngT 1 u)).1 ≤ 0
        · rw [if_pos (by rw [i0, iI_le ⟨by omega, by omega⟩ ⟨by omega, by omega⟩]; exact g)]
          exact y0 (by unfold pick; rw [if_neg w0, if_pos g])
        · rw [if_neg (by rw [i0, iI_le ⟨by omega, by omega⟩ ⟨by omega, by omega⟩]; exact g)]
          exact y1 (by unfold pick; rw [if_neg w0, if_neg g])
/-- both operands read, then both rounded -/
theorem M_two {a b n : Nat} {s : St} {h : Hp} (ha : a < 10) (hb : b < 10) (hn : 0 < n) (hn2 : n ≤ 20) (H : SR h s) (ok : okS s) : ∃ h1, f_M_read (iI (a : Int)) 0 h = some (iI (if ldN n (s.2.1 a) = none then 0 else 1), h1) ∧ fw h h1 ∧ (ldN n (s.2.1 a) ≠ none → ∃ h2, f_M_read (iI (b : Int)) 1 h1 = some (iI (if ldN n (s.2.1 b) = none then 0 else 1), h2) ∧ fw h h2 ∧ ∀ t u, ldN n (s.2.1 a) = some t → ldN n (s.2.1 b) = some u → ∃ h3, f_M_round 0 (iI (n : Int)) h2 = some ((), h3) ∧ fw h h3 ∧ ∃ h4, f_M_round 1 (iI (n : Int)) h3 = some ((), h4) ∧ fw h h4 ∧ ∃ h5, f_M_add 0 1 1 2 h4 = some ((), h5) ∧ fw h h5 ∧ isM h5 0 t.1 t.2.1 t.2.2 ∧ isM h5 1 u.1 u.2.1 u.2.2 ∧ h5 53 2 = iI (exS t (ngT 1 u)).1) := by
  obtain ⟨h1, e1, k1, m1⟩ := M_read (z := 0) (r := a) ha (by omega) (H.2.1 a ha) (ok.2.1 a ha)
  have f1 : fw h h1 := fw_km k1
  have nn : ∀ bs : List Nat, (ldN n bs = none) = (rdN bs = none) := fun bs => by
    unfold ldN
    cases rdN bs with
    | none => simp
    | some t => simp
  refine ⟨h1, ?_, f1, fun hne => ?_⟩
  · simp only [nn]
    exact e1
  have H1 := SR_fw H f1
  obtain ⟨h2, e2, k2, m2⟩ := M_read (z := 1) (r := b) hb (by omega) (H1.2.1 b hb) (ok.2.1 b hb)
  have f2 := fw_t f1 (fw_km k2)
  refine ⟨h2, ?_, f2, fun t u ht hu => ?_⟩
  · simp only [nn]
    exact e2
  have ot := okN_w (ldN_ok hn (ok.2.1 a ha).1 ht) (show 1501 ≤ 10000 by omega) (show n ≤ 100 by omega)
  have ou := okN_w (ldN_ok hn (ok.2.1 b hb).1 hu) (show 1501 ≤ 10000 by omega) (show n ≤ 100 by omega)
  have et := ldN_okE hn (ok.2.1 a ha).1 ht
  have eu := ldN_okE hn (ok.2.1 b hb).1 hu
  unfold ldN at ht hu
  cases hx : rdN (s.2.1 a) with
  | none => rw [hx] at ht; cases ht
  | some t0 =>
    cases hy : rdN (s.2.1 b) with
    | none => rw [hy] at hu; cases hu
    | some u0 =>
      rw [hx] at ht
      rw [hy] at hu
      have ht := (Option.some.inj ht).symm
      have hu := (Option.some.inj hu).symm
      obtain ⟨h3, e3, M3, k3⟩ := M_round (z := 0) (n := n) (by omega) (isM_km (y := 0) (z := 1) (by omega) (m1 t0 hx) k2) hn (by omega)
      have f3 := fw_t f2 (fw_km k3)
      obtain ⟨h4, e4, M4, k4⟩ := M_round (z := 1) (n := n) (by omega) (isM_km (y := 1) (z := 0) (by omega) (m2 u0 hy) k3) hn (by omega)
      have f4 := fw_t f3 (fw_km k4)
      have Mt : isM h4 0 t.1 t.2.1 t.2.2 := by
        rw [ht]
        exact isM_km (y := 0) (z := 1) (by omega) M3 k4
      have Mu : isM h4 1 u.1 u.2.1 u.2.2 := by
        rw [hu]
        exact M4
      obtain ⟨h5, e5, M5, k5⟩ := M_add (x := 0) (y := 1) (z := 2) (fl := 1) (by omega) (by omega) (by omega) (by omega) (by omega) (by omega) ot ou et eu Mt Mu
      exact ⟨h3, e3, f3, h4, e4, f4, h5, e5, fw_t f4 (fw_km k5), isM_km (by omega) Mt k5, isM_km (by omega) Mu k5, M5.2.2.1⟩
theorem M_most {a b c : Int} {w : Nat} {s : St} {h : Hp} (hw : w ≤ 1) (ha : bI a) (hb : bI b) (hc : bI c) (H : SR h s) (ok : okS s) (ok2 : okS (sp_most a b c w s).2) : ∃ h', f_M_most (iI a) (iI b) (iI c) (iI (w : Int)) h = some ((sp_most a b c w s).1, h') ∧ SR h' (sp_most a b c w s).2 ∧ hi h h' := by
  have bad : ¬ (isReg a ∧ isReg b ∧ isReg c) → ∃ h', some ((-1 : Int32), h) = some ((sp_most a b c w s).1, h') ∧ SR h' (sp_most a b c w s).2 ∧ hi h h' := fun q => by
    unfold sp_most
    rw [if_neg q]
    exact ⟨h, rfl, H, hi_r _⟩
  unfold f_M_most
  rw [bd_t (M_isReg ha)]
  by_cases q3 : ¬ isReg a
  · rw [if_neg q3, if_pos (by rfl)]; exact bad (by omega)
  have q3 := Decidable.not_not.mp q3
  rw [if_pos q3, if_neg (by decide), bd_t (M_isReg hb)]
  by_cases q4 : ¬ isReg b
  · rw [if_neg q4, if_pos (by rfl)]; exact bad (by omega)
  have q4 := Decidable.not_not.mp q4
  rw [if_pos q4, if_neg (by decide), bd_t (M_isReg hc)]
  by_cases q5 : ¬ isReg c
  · rw [if_neg q5, if_pos (by rfl)]; exact bad (by omega)
  have q5 := Decidable.not_not.mp q5
  rw [if_pos q5, if_neg (by decide)]
  unfold sp_most at ok2 ⊢
  rw [if_pos (show isReg a ∧ isReg b ∧ isReg c by omega)] at ok2 ⊢
  have hd := ok.2.2
  obtain ⟨a, rfl⟩ : ∃ k : Nat, a = k := ⟨a.toNat, by omega⟩
  obtain ⟨b, rfl⟩ : ∃ k : Nat, b = k := ⟨b.toNat, by omega⟩
  obtain ⟨c, rfl⟩ : ∃ k : Nat, c = k := ⟨c.toNat, by omega⟩
  simp only [Int.toNat_natCast] at ok2 ⊢
  obtain ⟨h1, e1, f1, r1⟩ := M_two (a := a) (b := b) (n := s.2.2.1) (by omega) (by omega) (by omega) (by omega) H ok
  rw [bd_t e1]
  cases hx : ldN s.2.2.1 (s.2.1 a) with
  | none =>
    rw [if_pos (by simp; decide)]
    exact ⟨h1, rfl, SR_fw H f1, hi_fw f1⟩
  | some t =>
    rw [if_neg (by simp; decide)]
    obtain ⟨h2, e2, f2, r2⟩ := r1 (by rw [hx]; simp)
    rw [bd_t e2]
    rw [hx] at ok2
    cases hy : ldN s.2.2.1 (s.2.1 b) with
    | none =>
      rw [if_pos (by simp; decide)]
      exact ⟨h2, rfl, SR_fw H f2, hi_fw f2⟩
    | some u =>
      rw [if_neg (by simp; decide)]
      rw [hy] at ok2
      obtain ⟨h3, e3, f3, h4, e4, f4, h5, e5, f5, Mt, Mu, sg5⟩ := r2 t u hx hy
      rw [(SR_fw H f2).2.2.1, bd_t e3, (SR_fw H f3).2.2.1, bd_t e4, bd_t e5, chk_t (show inR 2 5 from inz (z := 2) (by omega)), chk_t (show inR 2 5 from inz (z := 2) (by omega)), show Int32.toNatClampNeg 2 = 2 from rfl, sg5]
      have ot := okN_w (ldN_ok (n := s.2.2.1) (by omega) (ok.2.1 a (by omega)).1 hx) (Nat.le_refl 1501) (show s.2.2.1 ≤ 20 by omega)
      have ou := okN_w (ldN_ok (n := s.2.2.1) (by omega) (ok.2.1 b (by omega)).1 hy) (Nat.le_refl 1501) (show s.2.2.1 ≤ 20 by omega)
      have sg := (exS_ok ot (ngT_ok (fl := 1) ou)).1
      unfold isS at sg
      have oT := okN_w ot (show 1501 ≤ 100000000 by omega) (Nat.le_refl 20)
      have oU := okN_w ou (show 1501 ≤ 100000000 by omega) (Nat.le_refl 20)
      have ok2 : okS (sp_ans (pick w t u) c s).2 := ok2
      have y0 : pick w t u = t → ∃ h', f_M_most_103 (iI (c : Int)) 1 h5 = some ((sp_ans (pick w t u) c s).1, h') ∧ SR h' (sp_ans (pick w t u) c s).2 ∧ hi h h' := fun ep => by
        rw [ep] at ok2 ⊢
        unfold f_M_most_103
        obtain ⟨h6, e6, S6, l6⟩ := M_ans (z := 0) (r := c) (by omega) (by omega) (SR_fw H f5) ok oT Mt ok2
        rw [if_neg (by decide), bd_t (show f_M_answer 0 (iI (c : Int)) h5 = _ from e6)]
        exact ⟨h6, rfl, S6, hi_t (hi_fw f5) l6⟩
      have y1 : pick w t u = u → ∃ h', f_M_most_103 (iI (c : Int)) 0 h5 = some ((sp_ans (pick w t u) c s).1, h') ∧ SR h' (sp_ans (pick w t u) c s).2 ∧ hi h h' := fun ep => by
        rw [ep] at ok2 ⊢
        unfold f_M_most_103
        obtain ⟨h6, e6, S6, l6⟩ := M_ans (z := 1) (r := c) (by omega) (by omega) (SR_fw H f5) ok oU Mu ok2
        rw [if_pos rfl, bd_t (show f_M_answer 1 (iI (c : Int)) h5 = _ from e6)]
        exact ⟨h6, rfl, S6, hi_t (hi_fw f5) l6⟩
      show ∃ h', _ = some ((sp_ans (pick w t u) c s).1, h') ∧ SR h' (sp_ans (pick w t u) c s).2 ∧ _
      by_cases g : (exS t (ngT 1 u)).1 = 0
      · rw [if_pos (by rw [g]; rfl)]
        refine y0 ?_
        unfold pick
        rw [g]
        split <;> rfl
      rw [if_neg (by rw [i0, iI_eq ⟨by omega, by omega⟩ ⟨by omega, by omega⟩]; exact g)]
      by_cases g2 : 0 ≤ (exS t (ngT 1 u)).1
      · rw [if_pos (by rw [i0, iI_le ⟨by omega, by omega⟩ ⟨by omega, by omega⟩]; exact g2)]
        by_cases w0 : w = 0
        · rw [if_pos (by rw [w0]; rfl)]
          exact y0 (by unfold pick; rw [if_pos w0, if_pos g2])
        · rw [if_neg (by rw [i0, iI_eq ⟨by omega, by omega⟩ ⟨by omega, by omega⟩]; omega)]
          exact y1 (by unfold pick; rw [if_neg w0, if_neg (by omega)])
      · rw [if_neg (by rw [i0, iI_le ⟨by omega, by omega⟩ ⟨by omega, by omega⟩]; exact g2)]
        by_cases w0 : w = 0
        · rw [if_neg (by rw [i1, iI_eq ⟨by omega, by omega⟩ ⟨by omega, by omega⟩]; omega)]
          exact y1 (by unfold pick; rw [if_pos w0, if_neg g2])
        · rw [if_pos (by rw [show w = 1 by omega]; rfl)]
          exact y0 (by unfold pick; rw [if_neg w0, if_pos (by omega)])
-- ===== compare =====
def sp_cmp (a b v : Int) (s : St) : Int32 := if isReg a ∧ isReg b then (if v = 0 then (match ldN (s.2.2.1 - s.2.2.2.1) (s.2.1 a.toNat) with
  | none => iI (tld (oL (s.2.1 a.toNat) (s.2.1 b.toNat)))
  | some t => (match ldN (s.2.2.1 - s.2.2.2.1) (s.2.1 b.toNat) with
    | none => iI (tld (oL (s.2.1 a.toNat) (s.2.1 b.toNat)))
    | some u => iI (tld (exS t (ngT 1 u)).1))) else iI (tld (oS (s.2.1 a.toNat) (s.2.1 b.toNat)))) else iI (-1)
theorem oL_b {b1 b2 : List Nat} (h1 : okB b1 200) (h2 : okB b2 200) : bI (oL b1 b2) := by
  have := ord_b (fun k => bOr b1 (rdK b1 + k)) (fun k => bOr b2 (rdK b2 + k)) (fun k => bOr_rg h1.2 _) (fun k => bOr_rg h2.2 _) (max (b1.length - rdK b1) (b2.length - rdK b2)) 0
  unfold oL
  omega
theorem oS_b {b1 b2 : List Nat} (h1 : okB b1 200) (h2 : okB b2 200) : bI (oS b1 b2) := by
  have := ord_b (fun k => bAt b1 (k : Int)) (fun k => bAt b2 (k : Int)) (fun k => bAt_rg h1.2 _) (fun k => bAt_rg h2.2 _) (max b1.length b2.length) 0
  unfold oS
  omega
theorem C_compare {a b v : Int} {s : St} {h : Hp} (ha : bI a) (hb : bI b) (hv : bI v) (H : SC h s) (ok : okS s) : ∃ h', f_D_compare (iI a) (iI b) (iI v) h = some (sp_cmp a b v s, h') ∧ SC h' s ∧ lo h h' := by
  have bad : ¬ (isReg a ∧ isReg b) → ∃ h', some ((-1 : Int32), h) = some (sp_cmp a b v s, h') ∧ SC h' s ∧ lo h h' := fun q => by
    unfold sp_cmp
    rw [if_neg q]
    exact ⟨h, rfl, H, lo_r _⟩
  unfold f_D_compare
  rw [bd_t (C_find ha), bd_t (C_find hb)]
  by_cases q3 : ¬ isReg a
  · rw [oq_n q3]; exact bad (by omega)
  have q3 := Decidable.not_not.mp q3
  by_cases q4 : ¬ isReg b
  · rw [oq_y q3, oq_n q4]; exact bad (by omega)
  have q4 := Decidable.not_not.mp q4
  rw [oq_y q3, oq_y q4]
  unfold sp_cmp
  rw [if_pos (show isReg a ∧ isReg b by omega)]
  have hd := ok.2.2
  have oa := ok.2.1 a.toNat (by omega)
  have ob := ok.2.1 b.toNat (by omega)
  by_cases q1 : v = 0
  · rw [if_pos (by rw [q1]; rfl), if_pos q1, H.2.2.1, H.2.2.2.1, iI_sub, show ((s.2.2.1 : Int) - (s.2.2.2.1 : Int)) = ((s.2.2.1 - s.2.2.2.1 : Nat) : Int) by omega]
    obtain ⟨h1, e1, k1, n1⟩ := C_loadBoth (i1 := 4 + 2 * a.toNat) (i2 := 4 + 2 * b.toNat) (n := s.2.2.1 - s.2.2.2.1) (by omega) (by omega) oa.1 ob.1 (by omega) (by omega) (H.2.1 a.toNat (by omega)) (H.2.1 b.toNat (by omega))
    rw [bd_t e1]
    have f1 : fr h h1 := fr_lb k1
    have H1 := SC_fr H f1
    have loose : ∃ h', f_D_compare_81 (iI v) (4 + 2 * a.toNat) (4 + 2 * b.toNat) h1 = some (iI (tld (oL (s.2.1 a.toNat) (s.2.1 b.toNat))), h') ∧ SC h' s ∧ lo h h' := by
      unfold f_D_compare_81
      rw [if_pos (by rw [q1]; rfl), bd_t (C_loose (H1.2.1 a.toNat (by omega)) (H1.2.1 b.toNat (by omega))), bd_t (C_told (oL_b oa ob))]
      exact ⟨h1, rfl, H1, lo_fr f1⟩
    cases hx : ldN (s.2.2.1 - s.2.2.2.1) (s.2.1 a.toNat) with
    | none =>
      rw [if_pos (by simp; decide)]
      exact loose
    | some t =>
      cases hy : ldN (s.2.2.1 - s.2.2.2.1) (s.2.1 b.toNat) with
      | none =>
        rw [if_pos (by simp; decide)]
        exact loose
      | some u =>
        rw [if_neg (by simp; decide)]
        obtain ⟨Nt, Nu⟩ := n1 t u hx hy
        have ot := okN_w (ldN_ok (n := s.2.2.1 - s.2.2.2.1) (by omega) oa.1 hx) (Nat.le_refl 1501) (show s.2.2.1 - s.2.2.2.1 ≤ 20 by omega)
        have ou := okN_w (ldN_ok (n := s.2.2.1 - s.2.2.2.1) (by omega) ob.1 hy) (Nat.le_refl 1501) (show s.2.2.1 - s.2.2.2.1 ≤ 20 by omega)
        obtain ⟨h2, z, e2, N2, s2, -, k2⟩ := C_sum (j := 31) (fl := 1) (Or.inl rfl) (by omega) (okN_w ot (by omega) (Nat.le_refl _)) (okN_w ou (show 1501 ≤ 10000 by omega) (show 20 ≤ 40 by omega)) Nt Nu
        have sg := (exS_ok ot (ngT_ok (fl := 1) ou)).1
        unfold isS at sg
        have f12 : fr h h2 := fr_t f1 (fun j hj => k2 j (by omega) (by omega) (by omega) (by omega) (by omega))
        rw [bd_t (show f_K_sum 29 31 1 33 h1 = _ from e2), N2.2.2, s2, bd_t (C_told ⟨by omega, by omega⟩)]
        exact ⟨h2, rfl, SC_fr H f12, lo_fr f12⟩
  · rw [if_neg (by rw [i0, iI_eq ⟨by omega, by omega⟩ ⟨by omega, by omega⟩]; exact q1), if_neg q1]
    unfold f_D_compare_81
    rw [if_neg (by rw [i0, iI_eq ⟨by omega, by omega⟩ ⟨by omega, by omega⟩]; exact q1), bd_t (C_strict (H.2.1 a.toNat (by omega)) (H.2.1 b.toNat (by omega))), bd_t (C_told (oS_b oa ob))]
    exact ⟨h, rfl, H, lo_r _⟩
theorem M_compare {a b v : Int} {s : St} {h : Hp} (ha : bI a) (hb : bI b) (hv : bI v) (H : SR h s) (ok : okS s) : ∃ h', f_M_compare (iI a) (iI b) (iI v) h = some (sp_cmp a b v s, h') ∧ SR h' s ∧ hi h h' := by
  have bad : ¬ (isReg a ∧ isReg b) → ∃ h', some ((-1 : Int32), h) = some (sp_cmp a b v s, h') ∧ SR h' s ∧ hi h h' := fun q => by
    unfold sp_cmp
    rw [if_neg q]
    exact ⟨h, rfl, H, hi_r _⟩
  unfold f_M_compare
  rw [bd_t (M_isReg ha)]
  by_cases q3 : ¬ isReg a
  · rw [if_neg q3, if_pos (by rfl)]; exact bad (by omega)
  have q3 := Decidable.not_not.mp q3
  rw [if_pos q3, if_neg (by decide), bd_t (M_isReg hb)]
  by_cases q4 : ¬ isReg b
  · rw [if_neg q4, if_pos (by rfl)]; exact bad (by omega)
  have q4 := Decidable.not_not.mp q4
  rw [if_pos q4, if_neg (by decide)]
  unfold sp_cmp
  rw [if_pos (show isReg a ∧ isReg b by omega)]
  have hd := ok.2.2
  obtain ⟨a, rfl⟩ : ∃ k : Nat, a = k := ⟨a.toNat, by omega⟩
  obtain ⟨b, rfl⟩ : ∃ k : Nat, b = k := ⟨b.toNat, by omega⟩
  simp only [Int.toNat_natCast]
  have oa := ok.2.1 a (by omega)
  have ob := ok.2.1 b (by omega)
  by_cases q1 : v = 0
  · rw [if_pos (by rw [q1]; rfl), if_pos q1]
    obtain ⟨h1, e1, f1, r1⟩ := M_two (a := a) (b := b) (n := s.2.2.1 - s.2.2.2.1) (by omega) (by omega) (by omega) (by omega) H ok
    rw [bd_t e1]
    have loose : ∀ g : Hp, fw h g → ∃ h', bd (f_M_loosely (iI (a : Int)) (iI (b : Int)) g) (fun r51 h51 => bd (f_M_told r51 h51) (fun r54 h54 => some (r54, h54))) = some (iI (tld (oL (s.2.1 a) (s.2.1 b))), h') ∧ SR h' s ∧ hi h h' := by
      intro g fg
      have Hg := SR_fw H fg
      rw [bd_t (M_loose (by omega) (by omega) (Hg.2.1 a (by omega)) (Hg.2.1 b (by omega)) oa ob), bd_t (M_told (oL_b oa ob))]
      exact ⟨g, rfl, Hg, hi_fw fg⟩
    cases hx : ldN (s.2.2.1 - s.2.2.2.1) (s.2.1 a) with
    | none =>
      rw [if_pos (by simp; decide)]
      exact loose h1 f1
    | some t =>
      rw [if_neg (by simp; decide)]
      obtain ⟨h2, e2, f2, r2⟩ := r1 (by rw [hx]; simp)
      rw [bd_t e2]
      cases hy : ldN (s.2.2.1 - s.2.2.2.1) (s.2.1 b) with
      | none =>
        rw [if_pos (by simp; decide)]
        exact loose h2 f2
      | some u =>
        rw [if_neg (by simp; decide)]
        obtain ⟨h3, e3, f3, h4, e4, f4, h5, e5, f5, Mt, Mu, sg5⟩ := r2 t u hx hy
        have ot := okN_w (ldN_ok (n := s.2.2.1 - s.2.2.2.1) (by omega) oa.1 hx) (Nat.le_refl 1501) (show s.2.2.1 - s.2.2.2.1 ≤ 20 by omega)
        have ou := okN_w (ldN_ok (n := s.2.2.1 - s.2.2.2.1) (by omega) ob.1 hy) (Nat.le_refl 1501) (show s.2.2.1 - s.2.2.2.1 ≤ 20 by omega)
        have sg := (exS_ok ot (ngT_ok (fl := 1) ou)).1
        unfold isS at sg
        have ed : ∀ g : Hp, fw h g → (g 46 4) - (g 46 5) = iI ((s.2.2.1 - s.2.2.2.1 : Nat) : Int) := fun g fg => by
          have Hg := SR_fw H fg
          rw [Hg.2.2.1, Hg.2.2.2.1, iI_sub]
          congr 1
          omega
        rw [ed h2 f2, bd_t e3, ed h3 f3, bd_t e4, bd_t e5, chk_t (show inR 2 5 from inz (z := 2) (by omega)), show Int32.toNatClampNeg 2 = 2 from rfl, sg5, bd_t (M_told ⟨by omega, by omega⟩)]
        exact ⟨h5, rfl, SR_fw H f5, hi_fw f5⟩
  · rw [if_neg (by rw [i0, iI_eq ⟨by omega, by omega⟩ ⟨by omega, by omega⟩]; exact q1), if_neg q1]
    obtain ⟨x, e1, b1, b2, et⟩ := M_strict (by omega) (by omega) (H.2.1 a (by omega)) (H.2.1 b (by omega)) oa ob
    rw [bd_t e1, bd_t (M_told ⟨by omega, by omega⟩), et]
    exact ⟨h, rfl, H, hi_r _⟩
