/-! PURE 16: laying out, cut -/
theorem q64 {a : Int} (h : bI a) : (iI a).toInt64 = Int64.ofInt a := by
  apply Int64.toInt_inj.mp
  rw [Int32.toInt_toInt64, iI_toInt h, Int64.toInt_ofInt_of_le (by have := h.1; omega) (by have := h.2; omega)]
theorem o64 (a b : Int) : Int64.ofInt a + Int64.ofInt b = Int64.ofInt (a + b) := by
  apply Int64.toInt_inj.mp
  simp
theorem c64 {a : Int} (h1 : -10000000000 ≤ a) (h2 : a ≤ 10000000000) : lg_cmp (Int64.ofInt a) 200 ≤ 0 ↔ a ≤ 200 := by
  have hg : Int64.ofInt a > 200 ↔ 200 < a := by
    show (200 : Int64) < Int64.ofInt a ↔ _
    rw [Int64.lt_iff_toInt_lt, Int64.toInt_ofInt_of_le (by omega) (by omega), show (200 : Int64).toInt = 200 by decide]
  unfold lg_cmp
  by_cases q : 200 < a
  · rw [if_pos (hg.mpr q)]
    exact ⟨fun z => absurd z (by decide), fun z => by omega⟩
  · rw [if_neg (fun z => q (hg.mp z))]
    refine ⟨fun _ => by omega, fun _ => ?_⟩
    split <;> decide
def pA (t : Int × Nat × Int) : Nat := aA t.2.1 t.2.2 + (if t.1 < 0 then 1 else 0)
theorem C_ahead {i : Nat} {t : Int × Nat × Int} {h : Hp} (hs : isS t.1) (hc : nd t.2.1 ≤ 1000) (he : -100000000 ≤ t.2.2 ∧ t.2.2 ≤ 100000000) (N : isN h i t.1 t.2.1 t.2.2) : f_D_placesAhead i h = some (iI (pA t : Int), h) := by
  unfold f_D_placesAhead pA
  rw [bd_t (N_ahead N), N.2.2, aA_eq _ _ he hc]
  unfold isS at hs
  by_cases q : t.1 < 0
  · rw [if_neg (by rw [i0, iI_le ⟨by omega, by omega⟩ ⟨by omega, by omega⟩]; omega), if_pos q, scN]
  · rw [if_pos (by rw [i0, iI_le ⟨by omega, by omega⟩ ⟨by omega, by omega⟩]; omega), if_neg q, Int32.add_zero]
    rfl
def sp_lay (t : Int × Nat × Int) (A p r : Nat) (s : St) : Int32 × St := if A + (if p = 0 then 0 else p + 1) ≤ 200 then sp_keep (List.replicate (A - pA t) 32 ++ (sgT t.1 ++ plT t.2.1 t.2.2 (aA t.2.1 t.2.2) p)) r s else (iI (-5), s)
theorem lay_len (t : Int × Nat × Int) (p : Nat) : (sgT t.1 ++ plT t.2.1 t.2.2 (aA t.2.1 t.2.2) p).length = pA t + (if p = 0 then 0 else p + 1) := by
  rw [List.length_append, sgT_len, plT_len]
  unfold pA
  omega
theorem C_lay45 {r p : Nat} {t : Int × Nat × Int} {σ : St} (hr : r < 10) (hs : isS t.1) (hc : nd t.2.1 ≤ 1000) (he : -100000000 ≤ t.2.2 ∧ t.2.2 ≤ 100000000) (ok : okS σ) : ∀ (m n : Nat) (h : Hp) (bs : List Nat), m < n → SC h σ → isN h 29 t.1 t.2.1 t.2.2 → isL h 24 bs → bs.length + m + (sgT t.1 ++ plT t.2.1 t.2.2 (aA t.2.1 t.2.2) p).length ≤ 200 → ∃ h', f_D_layOut_45 n 29 (iI (p : Int)) (4 + 2 * r) (iI (m : Int)) h = some ((sp_keep (bs ++ (List.replicate m 32 ++ (sgT t.1 ++ plT t.2.1 t.2.2 (aA t.2.1 t.2.2) p))) r σ).1, h') ∧ SC h' (sp_keep (bs ++ (List.replicate m 32 ++ (sgT t.1 ++ plT t.2.1 t.2.2 (aA t.2.1 t.2.2) p))) r σ).2 ∧ okS (sp_keep (bs ++ (List.replicate m 32 ++ (sgT t.1 ++ plT t.2.1 t.2.2 (aA t.2.1 t.2.2) p))) r σ).2 ∧ lo h h' := by
  intro m
  induction m with
  | zero =>
    intro n h bs hn H N L hl
    obtain ⟨n, rfl⟩ : ∃ q, n = q + 1 := ⟨n - 1, by omega⟩
    rw [f_D_layOut_45, if_pos (by rw [i0, iI_le ⟨by omega, by omega⟩ ⟨by omega, by omega⟩]; omega)]
    obtain ⟨h1, e1, L1, k1⟩ := T_plain (i := 29) (pl := p) (by omega) hs hc he N L (by omega)
    rw [bd_t e1]
    have f1 := fr_kp (by omega) (by omega) (by omega) (by omega) k1
    obtain ⟨h2, e2, S2, l2⟩ := C_keep hr (SC_fr H f1) L1
    rw [bd_t e2]
    exact ⟨h2, rfl, S2, okS_keep ok (isL_ok L1), lo_t (lo_fr f1) l2⟩
  | succ m ih =>
    intro n h bs hn H N L hl
    obtain ⟨n, rfl⟩ : ∃ q, n = q + 1 := ⟨n - 1, by omega⟩
    rw [f_D_layOut_45, if_neg (by rw [i0, iI_le ⟨by omega, by omega⟩ ⟨by omega, by omega⟩]; omega)]
    obtain ⟨h1, e1, L1, k1⟩ := P_add (b := 32) L (by omega) (by omega)
    rw [bd_t (show f_L_add 24 32 h = _ from e1), pcN]
    have f1 := fr_kp (by omega) (by omega) (by omega) (by omega) k1
    obtain ⟨h2, e2, S2, o2, l2⟩ := ih n h1 (bs ++ [32]) (by omega) (SC_fr H f1) (isN_k24 (by omega) N k1) L1 (by rw [List.length_append (as := bs)]; simp only [List.length_cons, List.length_nil]; omega)
    have ew : (bs ++ [32]) ++ (List.replicate m 32 ++ (sgT t.1 ++ plT t.2.1 t.2.2 (aA t.2.1 t.2.2) p)) = bs ++ (List.replicate (m + 1) 32 ++ (sgT t.1 ++ plT t.2.1 t.2.2 (aA t.2.1 t.2.2) p)) := by
      rw [List.replicate_succ, List.append_assoc]
      rfl
    rw [ew] at e2 S2 o2
    exact ⟨h2, e2, S2, o2, lo_t (lo_fr f1) l2⟩
theorem C_lay {r A p : Nat} {t : Int × Nat × Int} {s : St} {h : Hp} (hr : r < 10) (H : SC h s) (ok : okS s) (hs : isS t.1) (hc : nd t.2.1 ≤ 1000) (he : -100000000 ≤ t.2.2 ∧ t.2.2 ≤ 100000000) (N : isN h 29 t.1 t.2.1 t.2.2) (hA : A < 2147483648) (hp : p < 2147483648) (hl : pA t ≤ A) : ∃ h', f_D_layOut 29 (iI (A : Int)) (iI (p : Int)) (4 + 2 * r) h = some ((sp_lay t A p r s).1, h') ∧ SC h' (sp_lay t A p r s).2 ∧ okS (sp_lay t A p r s).2 ∧ lo h h' := by
  have go : ∀ s0 s1 : Int64, (lg_cmp (s0 + s1) 200 ≤ 0 ↔ A + (if p = 0 then 0 else p + 1) ≤ 200) → ∃ h', f_D_layOut_14 29 (iI (A : Int)) (iI (p : Int)) (4 + 2 * r) s0 s1 h = some ((sp_lay t A p r s).1, h') ∧ SC h' (sp_lay t A p r s).2 ∧ okS (sp_lay t A p r s).2 ∧ lo h h' := by
    intro s0 s1 q
    unfold f_D_layOut_14 sp_lay
    by_cases q2 : A + (if p = 0 then 0 else p + 1) ≤ 200
    · rw [if_pos (q.mpr q2), if_pos q2]
      have f1 := fr_up h (i := 24) 1 0 (by omega) (by omega)
      have N1 : isN (up2 h 24 1 0) 29 t.1 t.2.1 t.2.2 := isN_eq N (up2_ne _ _ _ (by omega)) (up2_ne _ _ _ (by omega))
      rw [bd_t (C_ahead hs hc he N1), iI_sub, show ((A : Int) - (pA t : Int)) = ((A - pA t : Nat) : Int) by omega]
      obtain ⟨h2, e2, S2, o2, l2⟩ := C_lay45 (t := t) (p := p) hr hs hc he ok (A - pA t) fuel _ [] (by unfold fuel; omega) (SC_fr H f1) N1 isL_nil (by rw [lay_len, List.length_nil]; omega)
      exact ⟨h2, e2, S2, o2, lo_t (lo_fr f1) l2⟩
    · rw [if_neg (fun z => q2 (q.mp z)), if_neg q2]
      exact ⟨h, rfl, H, ok, lo_r _⟩
  unfold f_D_layOut
  by_cases q0 : p = 0
  · rw [if_pos (by rw [i0, iI_le ⟨by omega, by omega⟩ ⟨by omega, by omega⟩]; omega)]
    refine go _ _ ?_
    rw [q64 ⟨by omega, by omega⟩, show (0 : Int64) = Int64.ofInt 0 from rfl, o64, c64 (by omega) (by omega), if_pos q0]
    omega
  · rw [if_neg (by rw [i0, iI_le ⟨by omega, by omega⟩ ⟨by omega, by omega⟩]; omega)]
    refine go _ _ ?_
    rw [q64 (a := (A : Int)) ⟨by omega, by omega⟩, q64 (a := (p : Int)) ⟨by omega, by omega⟩, show (1 : Int64) = Int64.ofInt 1 from rfl, o64, o64, c64 (by omega) (by omega), if_neg q0]
    omega
-- ===== the reference's way to lay out =====
def sp_fit (T : List Nat) (r : Nat) (s : St) : Int32 × St := if T.length ≤ 200 then sp_keep T r s else (iI (-5), s)
theorem M_fit {r n a c : Nat} {sg e : Int} {s : St} {h : Hp} {bs : List Nat} (hr : r < 10) (H : SR h s) (ok : okS s) (M : isM h 0 sg c e) (he : -100000000 ≤ e ∧ e ≤ 100000000) (W : isW h bs) (hn : n ≤ 1500) (ha : a ≤ 5000) (hb : bs.length ≤ 5000) : ∃ h', bd (f_M_plain 0 (iI ((a : Int) - 1)) (-(iI (n : Int))) h) (fun _ h1 => if (h1 46 13) ≤ 200 then bd (f_M_keep (iI (r : Int)) h1) (fun r2 h2 => some (r2, h2)) else some ((-5), h1)) = some ((sp_fit (bs ++ plT c e a n) r s).1, h') ∧ SR h' (sp_fit (bs ++ plT c e a n) r s).2 ∧ hi h h' := by
  obtain ⟨h1, e1, T', W1, k1, l1, d1⟩ := M_pA (z := 0) (c := c) (pl := n) (by omega) he (by omega) a fuel h bs (by unfold fuel; omega) M W (by omega)
  unfold f_M_plain
  rw [iI_neg, bd_t (show f_M_plain_3 fuel 0 (iI (-(n : Int))) (iI ((a : Int) - 1)) h = _ from e1)]
  have hl := plT_len c e a n
  have hl2 : (if n = 0 then 0 else n + 1) ≤ 1501 := by split <;> omega
  unfold sp_fit
  rw [W1.1]
  by_cases q : (bs ++ plT c e a n).length ≤ 200
  · have eT : T' = plT c e a n := by
      rcases d1 with d | d
      · exact d
      · rw [List.length_append] at d q
        omega
    rw [eT] at W1 ⊢
    rw [if_pos q, if_pos (by rw [show (200 : Int32) = iI 200 from rfl, iI_le ⟨by omega, by omega⟩ ⟨by omega, by omega⟩]; omega)]
    obtain ⟨h2, e2, S2, l2⟩ := M_keep hr (SR_fw H (fw_kw k1)) ok W1 q
    rw [bd_t e2]
    exact ⟨h2, rfl, S2, hi_t (hi_fw (fw_kw k1)) l2⟩
  · have b1 : 200 < (bs ++ T').length := by
      rcases d1 with d | d
      · rw [d]; omega
      · omega
    have b2 : (bs ++ T').length ≤ 20000 := by rw [List.length_append]; omega
    rw [if_neg q, if_neg (by rw [show (200 : Int32) = iI 200 from rfl, iI_le ⟨by omega, by omega⟩ ⟨by omega, by omega⟩]; omega)]
    exact ⟨h1, rfl, SR_fw H (fw_kw k1), hi_fw (fw_kw k1)⟩
theorem aA_1 {c : Nat} {e : Int} (hz : c = 0 → e = 0) (h : (mn c : Int) - 1 + e ≤ 0) : aA c e = 1 := by
  unfold aA mn at *
  omega
theorem aA_2 {c : Nat} {e : Int} (hz : c = 0 → e = 0) (h : 0 < (mn c : Int) - 1 + e) : (mn c : Int) - 1 + e = (aA c e : Int) - 1 := by
  by_cases q : c = 0
  · rw [q, mn_0, hz q] at h
    omega
  · have := mn_c (c := c) (by omega)
    unfold aA
    omega
-- ===== cut =====
def ctT (n : Nat) (t : Int × Nat × Int) : Int × Nat × Int := if (nd t.2.1 : Int) + t.2.2 ≤ -(n : Int) then (0, 0, 0) else t
theorem okN_0 {b n : Nat} : okN b n (0, 0, 0) := ⟨Or.inl rfl, ⟨fun _ => rfl, fun _ => rfl⟩, fun _ => rfl, by show -(b : Int) ≤ 0; omega, by show (0 : Int) ≤ b; omega, Nat.zero_le _⟩
def sp_cut (a n b : Int) (s : St) : Int32 × St := if isReg a ∧ isReg b ∧ 0 ≤ n then (match ldN s.2.2.1 (s.2.1 a.toNat) with
  | none => (iI (-41), s)
  | some t => sp_lay (ctT n.toNat t) (pA (ctT n.toNat t)) n.toNat b.toNat s) else (iI (-1), s)
theorem C_cut {a n b : Int} {s : St} {h : Hp} (ha : bI a) (hn : bI n) (hb : bI b) (H : SC h s) (ok : okS s) : ∃ h', f_D_cut (iI a) (iI n) (iI b) h = some ((sp_cut a n b s).1, h') ∧ SC h' (sp_cut a n b s).2 ∧ okS (sp_cut a n b s).2 ∧ lo h h' := by
  have bad : ¬ (isReg a ∧ isReg b ∧ 0 ≤ n) → ∃ h', some ((-1 : Int32), h) = some ((sp_cut a n b s).1, h') ∧ SC h' (sp_cut a n b s).2 ∧ okS (sp_cut a n b s).2 ∧ lo h h' := fun q => by
    unfold sp_cut
    rw [if_neg q]
    exact ⟨h, rfl, H, ok, lo_r _⟩
  unfold f_D_cut
  rw [bd_t (C_find ha), bd_t (C_find hb)]
  by_cases q3 : ¬ isReg a
  · rw [oq_n q3]; exact bad (by omega)
  have q3 := Decidable.not_not.mp q3
  by_cases q4 : ¬ isReg b
  · rw [oq_y q3, oq_n q4]; exact bad (by omega)
  have q4 := Decidable.not_not.mp q4
  rw [oq_y q3, oq_y q4]
  by_cases q1 : n < 0
  · rw [if_neg (by rw [i0, iI_le ⟨by omega, by omega⟩ ⟨by omega, by omega⟩]; omega)]; exact bad (by omega)
  rw [if_pos (by rw [i0, iI_le ⟨by omega, by omega⟩ ⟨by omega, by omega⟩]; omega), H.2.2.1]
  unfold sp_cut
  rw [if_pos (show isReg a ∧ isReg b ∧ 0 ≤ n by omega)]
  have hd := ok.2.2
  obtain ⟨h1, e1, k1, n1⟩ := C_load (i := 4 + 2 * a.toNat) (j := 29) (n := s.2.2.1) (by omega) (by omega) (ok.2.1 a.toNat (by omega)).1 rfl (by omega) (by omega) (H.2.1 a.toNat (by omega))
  rw [bd_t e1]
  have f1 : fr h h1 := fr_kr (by omega) (by omega) k1
  cases hx : ldN s.2.2.1 (s.2.1 a.toNat) with
  | none =>
    rw [if_pos (by simp; decide)]
    exact ⟨h1, rfl, SC_fr H f1, ok, lo_fr f1⟩
  | some t =>
    rw [if_neg (by simp; decide)]
    have okt := ldN_ok (n := s.2.2.1) (by omega) (ok.2.1 a.toNat (by omega)).1 hx
    have N := n1 t hx
    have tail : ∀ (g : Hp) (u : Int × Nat × Int), fr h g → okN 1501 s.2.2.1 u → isN g 29 u.1 u.2.1 u.2.2 → ∃ h', f_D_cut_69 (iI n) (4 + 2 * b.toNat) g = some ((sp_lay u (pA u) n.toNat b.toNat s).1, h') ∧ SC h' (sp_lay u (pA u) n.toNat b.toNat s).2 ∧ okS (sp_lay u (pA u) n.toNat b.toNat s).2 ∧ lo h h' := by
      intro g u fg ou Nu
      obtain ⟨o1, o2, o3, o4, o5, o6⟩ := ou
      unfold f_D_cut_69
      rw [bd_t (C_ahead o1 (by omega) ⟨by omega, by omega⟩ Nu)]
      have pb : pA u ≤ 10000 := by
        unfold pA aA
        split <;> omega
      obtain ⟨h2, e2, S2, k2, l2⟩ := C_lay (t := u) (r := b.toNat) (A := pA u) (p := n.toNat) (by omega) (SC_fr H fg) ok o1 (by omega) ⟨by omega, by omega⟩ Nu (by omega) (by omega) (Nat.le_refl _)
      rw [show ((n.toNat : Nat) : Int) = n by omega] at e2
      rw [bd_t e2]
      exact ⟨h2, rfl, S2, k2, lo_t (lo_fr fg) l2⟩
    rw [bd_t (N_ahead N), iI_neg]
    obtain ⟨o1, o2, o3, o4, o5, o6⟩ := id okt
    by_cases q : (nd t.2.1 : Int) + t.2.2 ≤ -(n.toNat : Int)
    · have ec : ctT n.toNat t = (0, 0, 0) := if_pos q
      rw [if_neg (by rw [iI_lt ⟨by omega, by omega⟩ ⟨by omega, by omega⟩]; omega)]
      obtain ⟨h2, e2, N2, k2⟩ := N_clear h1 29
      rw [bd_t e2]
      show ∃ h', _ = some ((sp_lay (ctT n.toNat t) (pA (ctT n.toNat t)) n.toNat b.toNat s).1, h') ∧ SC h' (sp_lay (ctT n.toNat t) (pA (ctT n.toNat t)) n.toNat b.toNat s).2 ∧ okS (sp_lay (ctT n.toNat t) (pA (ctT n.toNat t)) n.toNat b.toNat s).2 ∧ _
      rw [ec]
      exact tail h2 (0, 0, 0) (fr_t f1 (fr_kp (by omega) (by omega) (by omega) (by omega) k2)) okN_0 N2
    · have ec : ctT n.toNat t = t := if_neg q
      rw [if_pos (by rw [iI_lt ⟨by omega, by omega⟩ ⟨by omega, by omega⟩]; omega)]
      show ∃ h', _ = some ((sp_lay (ctT n.toNat t) (pA (ctT n.toNat t)) n.toNat b.toNat s).1, h') ∧ SC h' (sp_lay (ctT n.toNat t) (pA (ctT n.toNat t)) n.toNat b.toNat s).2 ∧ okS (sp_lay (ctT n.toNat t) (pA (ctT n.toNat t)) n.toNat b.toNat s).2 ∧ _
      rw [ec]
      exact tail h1 t f1 okt N
theorem M_c51 {n : Nat} {e : Int} {v3 : Int32} {h : Hp} (he : -1000000 ≤ e ∧ e ≤ 1000000) (hn : n < 2147483648) (h52 : h 52 0 = iI e) : ∀ (m j : Nat), m < j → m < 1000000 → f_M_cut_51 j (iI (n : Int)) v3 0 (iI (e - 1 + (m : Int))) h = f_M_cut_97 (iI (n : Int)) v3 0 h := by
  have c5 : inR 0 5 := inz (z := 0) (by omega)
  have cl0 : Int32.toNatClampNeg 0 = 0 := rfl
  intro m
  induction m with
  | zero =>
    intro j hj _
    obtain ⟨j, rfl⟩ : ∃ q, j = q + 1 := ⟨j - 1, by omega⟩
    rw [f_M_cut_51, chk_t c5]
    simp only [cl0, h52]
    rw [if_pos (by rw [iI_lt ⟨by omega, by omega⟩ ⟨by omega, by omega⟩]; omega)]
  | succ m ih =>
    intro j hj hm
    obtain ⟨j, rfl⟩ : ∃ q, j = q + 1 := ⟨j - 1, by omega⟩
    rw [f_M_cut_51, chk_t c5]
    simp only [cl0, h52]
    rw [if_neg (by rw [iI_lt ⟨by omega, by omega⟩ ⟨by omega, by omega⟩]; omega), iI_neg]
    by_cases q : e - 1 + ((m + 1 : Nat) : Int) < -(n : Int)
    · rw [if_pos (by rw [iI_lt ⟨by omega, by omega⟩ ⟨by omega, by omega⟩]; exact q)]
    · rw [if_neg (by rw [iI_lt ⟨by omega, by omega⟩ ⟨by omega, by omega⟩]; exact q), if_pos trivial, im1, iI_add, show e - 1 + ((m + 1 : Nat) : Int) + -1 = e - 1 + (m : Int) by omega]
      exact ih j (by omega) (by omega)
theorem M_c97 {r n v c : Nat} {sg e : Int} {s : St} {h : Hp} (hr : r < 10) (hv : v ≤ 1) (hn : n < 2147483648) (H : SR h s) (ok : okS s) (M : isM h 0 sg c e) (okt : okN 1501 20 (sg, c, e)) : ∃ h', f_M_cut_97 (iI (n : Int)) (iI (r : Int)) (iI (v : Int)) h = some ((if n ≤ 1500 then sp_fit ((if sg < 0 ∧ v = 0 then [45] else []) ++ plT c e (aA c e) n) r s else (iI (-5), s)).1, h') ∧ SR h' (if n ≤ 1500 then sp_fit ((if sg < 0 ∧ v = 0 then [45] else []) ++ plT c e (aA c e) n) r s else (iI (-5), s)).2 ∧ hi h h' := by
  obtain ⟨o1, o2, o3, o4, o5, o6⟩ := okt
  have o3 : c = 0 → e = 0 := o3
  have o4 : -(1501 : Int) ≤ e := o4
  have o5 : e ≤ 1501 := o5
  have o6 : nd c ≤ 20 := o6
  have o1 : sg = 0 ∨ sg = 1 ∨ sg = -1 := o1
  have c5 : inR 0 5 := inz (z := 0) (by omega)
  have cl0 : Int32.toNatClampNeg 0 = 0 := rfl
  have hm : mn c ≤ 20 := by unfold mn; omega
  have ab : aA c e ≤ 5000 := by unfold aA; omega
  have t122 : ∀ (g : Hp) (bs : List Nat), kw h g → isW g bs → bs.length ≤ 1 → ∃ h', f_M_cut_122 (iI (n : Int)) (iI (r : Int)) g = some ((if n ≤ 1500 then sp_fit (bs ++ plT c e (aA c e) n) r s else (iI (-5), s)).1, h') ∧ SR h' (if n ≤ 1500 then sp_fit (bs ++ plT c e (aA c e) n) r s else (iI (-5), s)).2 ∧ hi h h' := by
    intro g bs kg W hb
    have Sg := SR_fw H (fw_kw kg)
    unfold f_M_cut_122
    by_cases q : n ≤ 1500
    · rw [if_pos (by rw [show (1500 : Int32) = iI 1500 from rfl, iI_le ⟨by omega, by omega⟩ ⟨by omega, by omega⟩]; omega), if_pos q]
      have Mg := isM_kw M kg
      have eh := M_high (z := 0) (by omega) Mg
      rw [bd_t (show f_M_high 0 g = _ from eh)]
      obtain ⟨h2, e2, S2, l2⟩ := M_fit (a := aA c e) (n := n) hr Sg ok Mg ⟨by omega, by omega⟩ W q ab (by omega)
      by_cases q2 : (mn c : Int) - 1 + e ≤ 0
      · rw [if_pos (by rw [i0, iI_le ⟨by omega, by omega⟩ ⟨by omega, by omega⟩]; omega)]
        unfold f_M_cut_151
        rw [aA_1 o3 q2] at e2 S2 ⊢
        exact ⟨h2, e2, S2, hi_t (hi_fw (fw_kw kg)) l2⟩
      · rw [if_neg (by rw [i0, iI_le ⟨by omega, by omega⟩ ⟨by omega, by omega⟩]; omega), bd_t (show f_M_high 0 g = _ from eh)]
        unfold f_M_cut_151
        rw [aA_2 o3 (by omega)]
        exact ⟨h2, e2, S2, hi_t (hi_fw (fw_kw kg)) l2⟩
    · rw [if_neg (by rw [show (1500 : Int32) = iI 1500 from rfl, iI_le ⟨by omega, by omega⟩ ⟨by omega, by omega⟩]; omega), if_neg q]
      exact ⟨g, rfl, Sg, hi_fw (fw_kw kg)⟩
  unfold f_M_cut_97
  rw [chk_t c5]
  simp only [cl0, up2_o h (i := 46) (j := 53) 13 0 0 (by omega), M.2.2.1]
  by_cases q : sg < 0
  · rw [if_neg (by rw [i0, iI_le ⟨by omega, by omega⟩ ⟨by omega, by omega⟩]; omega)]
    by_cases q2 : v = 0
    · rw [if_pos (by rw [q2]; rfl), if_pos (show sg < 0 ∧ v = 0 from ⟨q, q2⟩)]
      obtain ⟨h1, e1, W1, k1⟩ := M_letter (b := 45) (isW_0 h) (by simp)
      rw [bd_t (show f_M_letter 45 (up2 h 46 13 0) = _ from e1)]
      exact t122 h1 [45] (kw_t (kw_0 h 0) k1) W1 (by simp)
    · rw [if_neg (by rw [i0, iI_eq ⟨by omega, by omega⟩ ⟨by omega, by omega⟩]; omega), if_neg (show ¬ (sg < 0 ∧ v = 0) from fun z => q2 z.2)]
      exact t122 _ [] (kw_0 h 0) (isW_0 h) (by simp)
  · rw [if_pos (by rw [i0, iI_le ⟨by omega, by omega⟩ ⟨by omega, by omega⟩]; omega), if_neg (show ¬ (sg < 0 ∧ v = 0) from fun z => q z.1)]
    exact t122 _ [] (kw_0 h 0) (isW_0 h) (by simp)
theorem top_dig {c : Nat} (hc : 0 < c) : c / 10 ^ (nd c - 1) % 10 ≠ 0 := by
  have h1 := nd_le hc
  have h2 := nd_lt c
  have h3 := nd_pos hc
  have a : 0 < c / 10 ^ (nd c - 1) := Nat.div_pos h1 (p10 _)
  have b : c / 10 ^ (nd c - 1) < 10 := by
    apply Nat.div_lt_of_lt_mul
    rw [← Nat.pow_succ, show (nd c - 1).succ = nd c by omega]
    exact h2
  rw [Nat.mod_eq_of_lt b]
  omega
theorem dp_big {c : Nat} {e p : Int} (h : (nd c : Int) + e ≤ p) : dp c e p = 0 := by
  unfold dp
  rw [if_pos (by omega)]
  have : c < 10 ^ (p - e).toNat := Nat.lt_of_lt_of_le (nd_lt c) (Nat.pow_le_pow_right (by decide) (by omega))
  rw [Nat.div_eq_of_lt this]
theorem dA_big {c : Nat} {e : Int} (h : (nd c : Int) + e ≤ 0) : ∀ a, dA c e a = dA 0 0 a
  | 0 => rfl
  | a + 1 => by
    unfold dA
    rw [dp_big (by omega), dp_big (c := 0) (e := 0) (by rw [nd_0]; omega), dA_big h a]
theorem dB_big {c : Nat} {e : Int} {n : Nat} (h : (nd c : Int) + e ≤ -(n : Int)) : ∀ m k, k + m ≤ n + 1 → dB c e m k = dB 0 0 m k
  | 0, _, _ => rfl
  | m + 1, k, hk => by
    have z : dp 0 0 (-(k : Int)) = 0 := by
      unfold dp
      split
      · rw [Nat.zero_div]
      · rfl
    unfold dB
    rw [dp_big (by omega), z, dB_big h m (k + 1) (by omega)]
theorem plT_big {c n : Nat} {e : Int} (h : (nd c : Int) + e ≤ -(n : Int)) : plT c e 1 n = plT 0 0 1 n := by
  unfold plT
  rw [dA_big (by omega), dB_big h n 1 (by omega)]
theorem cut_eq {n r : Nat} {t : Int × Nat × Int} {s : St} : (if n ≤ 1500 then sp_fit (sgT t.1 ++ plT t.2.1 t.2.2 (aA t.2.1 t.2.2) n) r s else (iI (-5), s)) = sp_lay t (pA t) n r s := by
  unfold sp_lay sp_fit
  rw [lay_len, Nat.sub_self]
  by_cases q : n ≤ 1500
  · rw [if_pos q]
    rfl
  · rw [if_neg q, if_neg (by rw [if_neg (by omega)]; omega)]
theorem M_cut {a n b : Int} {s : St} {h : Hp} (ha : bI a) (hn : bI n) (hb : bI b) (H : SR h s) (ok : okS s) : ∃ h', f_M_cut (iI a) (iI n) (iI b) h = some ((sp_cut a n b s).1, h') ∧ SR h' (sp_cut a n b s).2 ∧ hi h h' := by
  have bad : ¬ (isReg a ∧ isReg b ∧ 0 ≤ n) → ∃ h', some ((-1 : Int32), h) = some ((sp_cut a n b s).1, h') ∧ SR h' (sp_cut a n b s).2 ∧ hi h h' := fun q => by
    unfold sp_cut
    rw [if_neg q]
    exact ⟨h, rfl, H, hi_r _⟩
  unfold f_M_cut
  rw [bd_t (M_isReg ha)]
  by_cases q3 : ¬ isReg a
  · rw [if_neg q3, if_pos (by rfl)]; exact bad (by omega)
  have q3 := Decidable.not_not.mp q3
  rw [if_pos q3, if_neg (by decide), bd_t (M_isReg hb)]
  by_cases q4 : ¬ isReg b
  · rw [if_neg q4, if_pos (by rfl)]; exact bad (by omega)
  have q4 := Decidable.not_not.mp q4
  rw [if_pos q4, if_neg (by decide)]
  by_cases q1 : n < 0
  · rw [if_neg (by rw [i0, iI_le ⟨by omega, by omega⟩ ⟨by omega, by omega⟩]; omega)]; exact bad (by omega)
  rw [if_pos (by rw [i0, iI_le ⟨by omega, by omega⟩ ⟨by omega, by omega⟩]; omega)]
  unfold sp_cut
  rw [if_pos (show isReg a ∧ isReg b ∧ 0 ≤ n by omega)]
  have hd := ok.2.2
  obtain ⟨a, rfl⟩ : ∃ k : Nat, a = k := ⟨a.toNat, by omega⟩
  obtain ⟨b, rfl⟩ : ∃ k : Nat, b = k := ⟨b.toNat, by omega⟩
  obtain ⟨n, rfl⟩ : ∃ k : Nat, n = k := ⟨n.toNat, by omega⟩
  simp only [Int.toNat_natCast]
  obtain ⟨h1, e1, k1, m1⟩ := M_load (n := s.2.2.1) (z := 0) (r := a) (by omega) (by omega) (by omega) (by omega) (H.2.1 a (by omega)) (ok.2.1 a (by omega))
  rw [bd_t (show f_M_read (iI (a : Int)) 0 h = _ from e1)]
  cases hx : ldN s.2.2.1 (s.2.1 a) with
  | none =>
    rw [if_pos (by simp; decide)]
    exact ⟨h1, rfl, SR_fw H (fw_km k1), hi_fw (fw_km k1)⟩
  | some t =>
    rw [if_neg (by simp; decide)]
    have okt := okN_w (ldN_ok (n := s.2.2.1) (by omega) (ok.2.1 a (by omega)).1 hx) (Nat.le_refl 1501) (show s.2.2.1 ≤ 20 by omega)
    obtain ⟨h2, e2, k2, M2⟩ := m1 t hx
    have f2 : fw h h2 := fw_t (fw_km k1) (fw_km k2)
    have e4 : h1 46 4 = iI (s.2.2.1 : Int) := (SR_fw H (fw_km k1)).2.2.1
    rw [e4, bd_t (show f_M_round 0 (iI (s.2.2.1 : Int)) h1 = _ from e2)]
    have eh := M_high (z := 0) (by omega) M2
    rw [bd_t (show f_M_high 0 h2 = _ from eh)]
    obtain ⟨o1, o2, o3, o4, o5, o6⟩ := id okt
    have c5 : inR 0 5 := inz (z := 0) (by omega)
    have cl0 : Int32.toNatClampNeg 0 = 0 := rfl
    have fin : ∀ v : Nat, v ≤ 1 → (sgT (ctT n t).1 = if t.1 < 0 ∧ v = 0 then [45] else []) → plT (ctT n t).2.1 (ctT n t).2.2 (aA (ctT n t).2.1 (ctT n t).2.2) n = plT t.2.1 t.2.2 (aA t.2.1 t.2.2) n → ∃ h', f_M_cut_97 (iI (n : Int)) (iI (b : Int)) (iI (v : Int)) h2 = some ((sp_lay (ctT n t) (pA (ctT n t)) n b s).1, h') ∧ SR h' (sp_lay (ctT n t) (pA (ctT n t)) n b s).2 ∧ hi h h' := by
      intro v hv g1 g2
      obtain ⟨h3, e3, S3, l3⟩ := M_c97 (r := b) (n := n) (v := v) (by omega) hv (by omega) (SR_fw H f2) ok M2 okt
      rw [← cut_eq, g1, g2]
      exact ⟨h3, e3, S3, hi_t (hi_fw f2) l3⟩
    show ∃ h', _ = some ((sp_lay (ctT n t) (pA (ctT n t)) n b s).1, h') ∧ SR h' (sp_lay (ctT n t) (pA (ctT n t)) n b s).2 ∧ _
    by_cases z : t.2.1 = 0
    · have ct : ctT n t = t ∨ ctT n t = (0, 0, 0) := by
        unfold ctT
        split
        · exact Or.inr rfl
        · exact Or.inl rfl
      have t0 : t = (0, 0, 0) := by
        obtain ⟨x, y, w⟩ := t
        have y0 : y = 0 := z
        have x0 : x = 0 := o2.mpr z
        have w0 : w = 0 := o3 z
        rw [y0, x0, w0]
      have ct0 : ctT n t = (0, 0, 0) := by
        rcases ct with c | c
        · rw [c, t0]
        · exact c
      have e0 : t.2.2 = 0 := o3 z
      have d0 := M_digit (z := 0) (p := 0) (by omega) M2 (by omega) (by omega)
      have dd : dp t.2.1 t.2.2 0 = 0 := by rw [z]; unfold dp; split <;> simp
      rw [z, mn_0, e0, show ((1 : Nat) : Int) - 1 + 0 = 0 by omega, show fuel = 999998 + 1 + 1 from rfl, f_M_cut_51, chk_t c5]
      simp only [cl0, M2.2.1, e0]
      rw [if_neg (by decide), iI_neg, if_neg (by rw [iI_lt ⟨by omega, by omega⟩ ⟨by omega, by omega⟩]; omega), if_neg (by decide), bd_t (show f_M_digit 0 (iI 0) h2 = _ from d0), dd, if_pos (by rfl), f_M_cut_51, chk_t c5]
      simp only [cl0, M2.2.1, e0]
      rw [if_pos (by decide)]
      refine fin 1 (by omega) ?_ ?_
      · rw [ct0, if_neg (by omega)]
        rfl
      · rw [ct0, t0]
    · have hm := mn_c (c := t.2.1) (by omega)
      by_cases q : (nd t.2.1 : Int) + t.2.2 ≤ -(n : Int)
      · have ct0 : ctT n t = (0, 0, 0) := if_pos q
        rw [hm, show fuel = 999999 + 1 from rfl, f_M_cut_51, chk_t c5]
        simp only [cl0, M2.2.1]
        have hp := nd_pos (c := t.2.1) (by omega)
        rw [if_neg (by rw [iI_lt ⟨by omega, by omega⟩ ⟨by omega, by omega⟩]; omega), iI_neg, if_pos (by rw [iI_lt ⟨by omega, by omega⟩ ⟨by omega, by omega⟩]; omega)]
        refine fin 1 (by omega) ?_ ?_
        · rw [ct0, if_neg (by omega)]
          rfl
        · rw [ct0, aA_1 o3 (by rw [hm]; omega), plT_big q]
          rfl
      · have ct0 : ctT n t = t := if_neg q
        have hp := nd_pos (c := t.2.1) (by omega)
        have d0 := M_digit (z := 0) (p := (nd t.2.1 : Int) - 1 + t.2.2) (by omega) M2 (by omega) (by omega)
        have dd : dp t.2.1 t.2.2 ((nd t.2.1 : Int) - 1 + t.2.2) ≠ 0 := by
          unfold dp
          rw [if_pos (by omega), show ((nd t.2.1 : Int) - 1 + t.2.2 - t.2.2).toNat = nd t.2.1 - 1 by omega]
          exact top_dig (by omega)
        have dl := dp_lt t.2.1 t.2.2 ((nd t.2.1 : Int) - 1 + t.2.2)
        rw [hm, show fuel = 999999 + 1 from rfl, f_M_cut_51, chk_t c5]
        simp only [cl0, M2.2.1]
        rw [if_neg (by rw [iI_lt ⟨by omega, by omega⟩ ⟨by omega, by omega⟩]; omega), iI_neg, if_neg (by rw [iI_lt ⟨by omega, by omega⟩ ⟨by omega, by omega⟩]; omega), if_neg (by decide), bd_t (show f_M_digit 0 (iI ((nd t.2.1 : Int) - 1 + t.2.2)) h2 = _ from d0), if_neg (by rw [i0, iI_eq ⟨by omega, by omega⟩ ⟨by omega, by omega⟩]; omega), im1, iI_add, show (nd t.2.1 : Int) - 1 + t.2.2 + -1 = t.2.2 - 1 + ((nd t.2.1 - 1 : Nat) : Int) by omega, M_c51 (by omega) (by omega) M2.2.1 _ _ (by omega) (by omega)]
        refine fin 0 (by omega) ?_ ?_
        · rw [ct0]
          unfold sgT
          by_cases y : t.1 < 0
          · rw [if_pos y, if_pos ⟨y, rfl⟩]
          · rw [if_neg y, if_neg (fun w => y w.1)]
        · rw [ct0]
